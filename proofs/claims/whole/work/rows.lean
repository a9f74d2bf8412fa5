section
-- ===== PART A: goes FIRST, ahead of the names: the tables' words, and 'selects' of the private methods out of them =====
/-- a private method of a class that the tables say can be made, by its rows of tables_1 -/
def lw_okq (q : MethodName × Nat) : Prop := (q.1.cls ≠ "java/lang/invoke/MethodHandle" ∧ q.1.cls ≠ "java/lang/invoke/VarHandle") ∧ Cond.instantiable q.1.cls q.2 ∈ tables_1 ∧ Cond.privateMethod q.1 ∈ tables_1 ∧ Cond.instanceMethod q.1 ∈ tables_1
theorem lw_p0 : lw_okq (⟨"DoubtTime", "layItems", "()V"⟩, 6) := ⟨⟨by decide +kernel, by decide +kernel⟩, List.mem_of_getElem? (i := 19) (by decide +kernel), List.mem_of_getElem? (i := 268) (by decide +kernel), List.mem_of_getElem? (i := 269) (by decide +kernel)⟩
theorem lw_p1 : lw_okq (⟨"DoubtTime$Item", "howManyNumbers", "()I"⟩, 3) := ⟨⟨by decide +kernel, by decide +kernel⟩, List.mem_of_getElem? (i := 42) (by decide +kernel), List.mem_of_getElem? (i := 302) (by decide +kernel), List.mem_of_getElem? (i := 303) (by decide +kernel)⟩
theorem lw_p2 : lw_okq (⟨"DoubtTime$Item", "takeNumber", "(LDoubtTime$Text;IC)Z"⟩, 3) := ⟨⟨by decide +kernel, by decide +kernel⟩, List.mem_of_getElem? (i := 42) (by decide +kernel), List.mem_of_getElem? (i := 306) (by decide +kernel), List.mem_of_getElem? (i := 307) (by decide +kernel)⟩
theorem lw_p3 : lw_okq (⟨"DoubtTime$Item", "areNumbersTold", "()Z"⟩, 3) := ⟨⟨by decide +kernel, by decide +kernel⟩, List.mem_of_getElem? (i := 42) (by decide +kernel), List.mem_of_getElem? (i := 312) (by decide +kernel), List.mem_of_getElem? (i := 313) (by decide +kernel)⟩
theorem lw_p4 : lw_okq (⟨"DoubtTime", "layItem", "()V"⟩, 6) := ⟨⟨by decide +kernel, by decide +kernel⟩, List.mem_of_getElem? (i := 19) (by decide +kernel), List.mem_of_getElem? (i := 333) (by decide +kernel), List.mem_of_getElem? (i := 334) (by decide +kernel)⟩
theorem lw_p5 : lw_okq (⟨"DoubtTime", "lookAround", "()V"⟩, 6) := ⟨⟨by decide +kernel, by decide +kernel⟩, List.mem_of_getElem? (i := 19) (by decide +kernel), List.mem_of_getElem? (i := 431) (by decide +kernel), List.mem_of_getElem? (i := 432) (by decide +kernel)⟩
theorem lw_p6 : lw_okq (⟨"DoubtTime$Masters", "widening", "(J)J"⟩, 6) := ⟨⟨by decide +kernel, by decide +kernel⟩, List.mem_of_getElem? (i := 68) (by decide +kernel), List.mem_of_getElem? (i := 447) (by decide +kernel), List.mem_of_getElem? (i := 448) (by decide +kernel)⟩
theorem lw_p7 : lw_okq (⟨"DoubtTime$Agreed", "findBegin", "()V"⟩, 5) := ⟨⟨by decide +kernel, by decide +kernel⟩, List.mem_of_getElem? (i := 164) (by decide +kernel), List.mem_of_getElem? (i := 456) (by decide +kernel), List.mem_of_getElem? (i := 457) (by decide +kernel)⟩
theorem lw_p8 : lw_okq (⟨"DoubtTime$Agreed", "leastEndOver", "(J)J"⟩, 5) := ⟨⟨by decide +kernel, by decide +kernel⟩, List.mem_of_getElem? (i := 164) (by decide +kernel), List.mem_of_getElem? (i := 468) (by decide +kernel), List.mem_of_getElem? (i := 469) (by decide +kernel)⟩
theorem lw_p9 : lw_okq (⟨"DoubtTime", "finishCommits", "()V"⟩, 6) := ⟨⟨by decide +kernel, by decide +kernel⟩, List.mem_of_getElem? (i := 19) (by decide +kernel), List.mem_of_getElem? (i := 493) (by decide +kernel), List.mem_of_getElem? (i := 494) (by decide +kernel)⟩
theorem lw_p10 : lw_okq (⟨"DoubtTime$Leap", "shift", "(J)J"⟩, 4) := ⟨⟨by decide +kernel, by decide +kernel⟩, List.mem_of_getElem? (i := 188) (by decide +kernel), List.mem_of_getElem? (i := 623) (by decide +kernel), List.mem_of_getElem? (i := 624) (by decide +kernel)⟩
theorem lw_p11 : lw_okq (⟨"DoubtTimeModel", "begin", "()V"⟩, 15) := ⟨⟨by decide +kernel, by decide +kernel⟩, List.mem_of_getElem? (i := 642) (by decide +kernel), List.mem_of_getElem? (i := 648) (by decide +kernel), List.mem_of_getElem? (i := 649) (by decide +kernel)⟩
theorem lw_p12 : lw_okq (⟨"DoubtTimeModel", "putLeap", "(JJJJ)V"⟩, 15) := ⟨⟨by decide +kernel, by decide +kernel⟩, List.mem_of_getElem? (i := 642) (by decide +kernel), List.mem_of_getElem? (i := 654) (by decide +kernel), List.mem_of_getElem? (i := 655) (by decide +kernel)⟩
theorem lw_p13 : lw_okq (⟨"DoubtTimeModel", "putMaster", "(IJJ)V"⟩, 15) := ⟨⟨by decide +kernel, by decide +kernel⟩, List.mem_of_getElem? (i := 642) (by decide +kernel), List.mem_of_getElem? (i := 660) (by decide +kernel), List.mem_of_getElem? (i := 661) (by decide +kernel)⟩
theorem lw_p14 : lw_okq (⟨"DoubtTimeModel", "take", "()V"⟩, 15) := ⟨⟨by decide +kernel, by decide +kernel⟩, List.mem_of_getElem? (i := 642) (by decide +kernel), List.mem_of_getElem? (i := 670) (by decide +kernel), List.mem_of_getElem? (i := 671) (by decide +kernel)⟩
theorem lw_p15 : lw_okq (⟨"DoubtTimeModel", "readText", "()I"⟩, 15) := ⟨⟨by decide +kernel, by decide +kernel⟩, List.mem_of_getElem? (i := 642) (by decide +kernel), List.mem_of_getElem? (i := 737) (by decide +kernel), List.mem_of_getElem? (i := 738) (by decide +kernel)⟩
def lw_privs_1 : List (MethodName × Nat) := [(⟨"DoubtTime", "layItems", "()V"⟩, 6), (⟨"DoubtTime$Item", "howManyNumbers", "()I"⟩, 3), (⟨"DoubtTime$Item", "takeNumber", "(LDoubtTime$Text;IC)Z"⟩, 3), (⟨"DoubtTime$Item", "areNumbersTold", "()Z"⟩, 3), (⟨"DoubtTime", "layItem", "()V"⟩, 6), (⟨"DoubtTime", "lookAround", "()V"⟩, 6), (⟨"DoubtTime$Masters", "widening", "(J)J"⟩, 6), (⟨"DoubtTime$Agreed", "findBegin", "()V"⟩, 5), (⟨"DoubtTime$Agreed", "leastEndOver", "(J)J"⟩, 5), (⟨"DoubtTime", "finishCommits", "()V"⟩, 6), (⟨"DoubtTime$Leap", "shift", "(J)J"⟩, 4), (⟨"DoubtTimeModel", "begin", "()V"⟩, 15), (⟨"DoubtTimeModel", "putLeap", "(JJJJ)V"⟩, 15), (⟨"DoubtTimeModel", "putMaster", "(IJJ)V"⟩, 15), (⟨"DoubtTimeModel", "take", "()V"⟩, 15), (⟨"DoubtTimeModel", "readText", "()I"⟩, 15)]
theorem lw_r1 : ∀ q ∈ lw_privs_1, lw_okq q := List.forall_mem_cons.mpr ⟨lw_p0, List.forall_mem_cons.mpr ⟨lw_p1, List.forall_mem_cons.mpr ⟨lw_p2, List.forall_mem_cons.mpr ⟨lw_p3, List.forall_mem_cons.mpr ⟨lw_p4, List.forall_mem_cons.mpr ⟨lw_p5, List.forall_mem_cons.mpr ⟨lw_p6, List.forall_mem_cons.mpr ⟨lw_p7, List.forall_mem_cons.mpr ⟨lw_p8, List.forall_mem_cons.mpr ⟨lw_p9, List.forall_mem_cons.mpr ⟨lw_p10, List.forall_mem_cons.mpr ⟨lw_p11, List.forall_mem_cons.mpr ⟨lw_p12, List.forall_mem_cons.mpr ⟨lw_p13, List.forall_mem_cons.mpr ⟨lw_p14, List.forall_mem_cons.mpr ⟨lw_p15, fun _ h => absurd h List.not_mem_nil⟩⟩⟩⟩⟩⟩⟩⟩⟩⟩⟩⟩⟩⟩⟩⟩
theorem lw_p16 : lw_okq (⟨"DoubtTimeModel", "readItem", "()Z"⟩, 15) := ⟨⟨by decide +kernel, by decide +kernel⟩, List.mem_of_getElem? (i := 642) (by decide +kernel), List.mem_of_getElem? (i := 741) (by decide +kernel), List.mem_of_getElem? (i := 742) (by decide +kernel)⟩
theorem lw_p17 : lw_okq (⟨"DoubtTimeModel", "takeNumber", "()J"⟩, 15) := ⟨⟨by decide +kernel, by decide +kernel⟩, List.mem_of_getElem? (i := 642) (by decide +kernel), List.mem_of_getElem? (i := 745) (by decide +kernel), List.mem_of_getElem? (i := 746) (by decide +kernel)⟩
theorem lw_p18 : lw_okq (⟨"DoubtTimeModel", "readMaster", "()Z"⟩, 15) := ⟨⟨by decide +kernel, by decide +kernel⟩, List.mem_of_getElem? (i := 642) (by decide +kernel), List.mem_of_getElem? (i := 755) (by decide +kernel), List.mem_of_getElem? (i := 756) (by decide +kernel)⟩
theorem lw_p19 : lw_okq (⟨"DoubtTimeModel", "takeSign", "(I)Z"⟩, 15) := ⟨⟨by decide +kernel, by decide +kernel⟩, List.mem_of_getElem? (i := 642) (by decide +kernel), List.mem_of_getElem? (i := 759) (by decide +kernel), List.mem_of_getElem? (i := 760) (by decide +kernel)⟩
theorem lw_p20 : lw_okq (⟨"DoubtTimeModel", "readLeap", "()Z"⟩, 15) := ⟨⟨by decide +kernel, by decide +kernel⟩, List.mem_of_getElem? (i := 642) (by decide +kernel), List.mem_of_getElem? (i := 765) (by decide +kernel), List.mem_of_getElem? (i := 766) (by decide +kernel)⟩
theorem lw_p21 : lw_okq (⟨"DoubtTimeModel", "heardMany", "()I"⟩, 15) := ⟨⟨by decide +kernel, by decide +kernel⟩, List.mem_of_getElem? (i := 642) (by decide +kernel), List.mem_of_getElem? (i := 774) (by decide +kernel), List.mem_of_getElem? (i := 775) (by decide +kernel)⟩
theorem lw_p22 : lw_okq (⟨"DoubtTimeModel", "isHeard", "(I)Z"⟩, 15) := ⟨⟨by decide +kernel, by decide +kernel⟩, List.mem_of_getElem? (i := 642) (by decide +kernel), List.mem_of_getElem? (i := 778) (by decide +kernel), List.mem_of_getElem? (i := 779) (by decide +kernel)⟩
theorem lw_p23 : lw_okq (⟨"DoubtTimeModel", "isStruck", "(I)Z"⟩, 15) := ⟨⟨by decide +kernel, by decide +kernel⟩, List.mem_of_getElem? (i := 642) (by decide +kernel), List.mem_of_getElem? (i := 782) (by decide +kernel), List.mem_of_getElem? (i := 783) (by decide +kernel)⟩
theorem lw_p24 : lw_okq (⟨"DoubtTimeModel", "note", "()V"⟩, 15) := ⟨⟨by decide +kernel, by decide +kernel⟩, List.mem_of_getElem? (i := 642) (by decide +kernel), List.mem_of_getElem? (i := 797) (by decide +kernel), List.mem_of_getElem? (i := 798) (by decide +kernel)⟩
theorem lw_p25 : lw_okq (⟨"DoubtTimeModel", "liarsNow", "()I"⟩, 15) := ⟨⟨by decide +kernel, by decide +kernel⟩, List.mem_of_getElem? (i := 642) (by decide +kernel), List.mem_of_getElem? (i := 809) (by decide +kernel), List.mem_of_getElem? (i := 810) (by decide +kernel)⟩
theorem lw_p26 : lw_okq (⟨"DoubtTimeModel", "find", "(J)V"⟩, 15) := ⟨⟨by decide +kernel, by decide +kernel⟩, List.mem_of_getElem? (i := 642) (by decide +kernel), List.mem_of_getElem? (i := 813) (by decide +kernel), List.mem_of_getElem? (i := 814) (by decide +kernel)⟩
theorem lw_p27 : lw_okq (⟨"DoubtTimeModel", "spanOf", "(IIJ)J"⟩, 15) := ⟨⟨by decide +kernel, by decide +kernel⟩, List.mem_of_getElem? (i := 642) (by decide +kernel), List.mem_of_getElem? (i := 817) (by decide +kernel), List.mem_of_getElem? (i := 818) (by decide +kernel)⟩
theorem lw_p28 : lw_okq (⟨"DoubtTimeModel", "manyAt", "(J)I"⟩, 15) := ⟨⟨by decide +kernel, by decide +kernel⟩, List.mem_of_getElem? (i := 642) (by decide +kernel), List.mem_of_getElem? (i := 822) (by decide +kernel), List.mem_of_getElem? (i := 823) (by decide +kernel)⟩
theorem lw_p29 : lw_okq (⟨"DoubtTimeModel", "sameTo", "(J)J"⟩, 15) := ⟨⟨by decide +kernel, by decide +kernel⟩, List.mem_of_getElem? (i := 642) (by decide +kernel), List.mem_of_getElem? (i := 826) (by decide +kernel), List.mem_of_getElem? (i := 827) (by decide +kernel)⟩
theorem lw_p30 : lw_okq (⟨"DoubtTimeModel", "closeOpen", "()I"⟩, 15) := ⟨⟨by decide +kernel, by decide +kernel⟩, List.mem_of_getElem? (i := 642) (by decide +kernel), List.mem_of_getElem? (i := 842) (by decide +kernel), List.mem_of_getElem? (i := 843) (by decide +kernel)⟩
theorem lw_p31 : lw_okq (⟨"DoubtTimeModel", "openMany", "()I"⟩, 15) := ⟨⟨by decide +kernel, by decide +kernel⟩, List.mem_of_getElem? (i := 642) (by decide +kernel), List.mem_of_getElem? (i := 846) (by decide +kernel), List.mem_of_getElem? (i := 847) (by decide +kernel)⟩
def lw_privs_2 : List (MethodName × Nat) := [(⟨"DoubtTimeModel", "readItem", "()Z"⟩, 15), (⟨"DoubtTimeModel", "takeNumber", "()J"⟩, 15), (⟨"DoubtTimeModel", "readMaster", "()Z"⟩, 15), (⟨"DoubtTimeModel", "takeSign", "(I)Z"⟩, 15), (⟨"DoubtTimeModel", "readLeap", "()Z"⟩, 15), (⟨"DoubtTimeModel", "heardMany", "()I"⟩, 15), (⟨"DoubtTimeModel", "isHeard", "(I)Z"⟩, 15), (⟨"DoubtTimeModel", "isStruck", "(I)Z"⟩, 15), (⟨"DoubtTimeModel", "note", "()V"⟩, 15), (⟨"DoubtTimeModel", "liarsNow", "()I"⟩, 15), (⟨"DoubtTimeModel", "find", "(J)V"⟩, 15), (⟨"DoubtTimeModel", "spanOf", "(IIJ)J"⟩, 15), (⟨"DoubtTimeModel", "manyAt", "(J)I"⟩, 15), (⟨"DoubtTimeModel", "sameTo", "(J)J"⟩, 15), (⟨"DoubtTimeModel", "closeOpen", "()I"⟩, 15), (⟨"DoubtTimeModel", "openMany", "()I"⟩, 15)]
theorem lw_r2 : ∀ q ∈ lw_privs_2, lw_okq q := List.forall_mem_cons.mpr ⟨lw_p16, List.forall_mem_cons.mpr ⟨lw_p17, List.forall_mem_cons.mpr ⟨lw_p18, List.forall_mem_cons.mpr ⟨lw_p19, List.forall_mem_cons.mpr ⟨lw_p20, List.forall_mem_cons.mpr ⟨lw_p21, List.forall_mem_cons.mpr ⟨lw_p22, List.forall_mem_cons.mpr ⟨lw_p23, List.forall_mem_cons.mpr ⟨lw_p24, List.forall_mem_cons.mpr ⟨lw_p25, List.forall_mem_cons.mpr ⟨lw_p26, List.forall_mem_cons.mpr ⟨lw_p27, List.forall_mem_cons.mpr ⟨lw_p28, List.forall_mem_cons.mpr ⟨lw_p29, List.forall_mem_cons.mpr ⟨lw_p30, List.forall_mem_cons.mpr ⟨lw_p31, fun _ h => absurd h List.not_mem_nil⟩⟩⟩⟩⟩⟩⟩⟩⟩⟩⟩⟩⟩⟩⟩⟩
theorem lw_p32 : lw_okq (⟨"DoubtTimeModel", "isGood", "()Z"⟩, 15) := ⟨⟨by decide +kernel, by decide +kernel⟩, List.mem_of_getElem? (i := 642) (by decide +kernel), List.mem_of_getElem? (i := 851) (by decide +kernel), List.mem_of_getElem? (i := 852) (by decide +kernel)⟩
theorem lw_p33 : lw_okq (⟨"DoubtTimeModel", "latest", "()J"⟩, 15) := ⟨⟨by decide +kernel, by decide +kernel⟩, List.mem_of_getElem? (i := 642) (by decide +kernel), List.mem_of_getElem? (i := 883) (by decide +kernel), List.mem_of_getElem? (i := 884) (by decide +kernel)⟩
theorem lw_p34 : lw_okq (⟨"DoubtTimeModel", "isCommit", "(I)Z"⟩, 15) := ⟨⟨by decide +kernel, by decide +kernel⟩, List.mem_of_getElem? (i := 642) (by decide +kernel), List.mem_of_getElem? (i := 891) (by decide +kernel), List.mem_of_getElem? (i := 892) (by decide +kernel)⟩
theorem lw_p35 : lw_okq (⟨"DoubtTimeModel", "safeNow", "()J"⟩, 15) := ⟨⟨by decide +kernel, by decide +kernel⟩, List.mem_of_getElem? (i := 642) (by decide +kernel), List.mem_of_getElem? (i := 904) (by decide +kernel), List.mem_of_getElem? (i := 905) (by decide +kernel)⟩
theorem lw_p36 : lw_okq (⟨"DoubtTimeModel", "smear", "(J)J"⟩, 15) := ⟨⟨by decide +kernel, by decide +kernel⟩, List.mem_of_getElem? (i := 642) (by decide +kernel), List.mem_of_getElem? (i := 926) (by decide +kernel), List.mem_of_getElem? (i := 927) (by decide +kernel)⟩
def lw_privs_3 : List (MethodName × Nat) := [(⟨"DoubtTimeModel", "isGood", "()Z"⟩, 15), (⟨"DoubtTimeModel", "latest", "()J"⟩, 15), (⟨"DoubtTimeModel", "isCommit", "(I)Z"⟩, 15), (⟨"DoubtTimeModel", "safeNow", "()J"⟩, 15), (⟨"DoubtTimeModel", "smear", "(J)J"⟩, 15)]
theorem lw_r3 : ∀ q ∈ lw_privs_3, lw_okq q := List.forall_mem_cons.mpr ⟨lw_p32, List.forall_mem_cons.mpr ⟨lw_p33, List.forall_mem_cons.mpr ⟨lw_p34, List.forall_mem_cons.mpr ⟨lw_p35, List.forall_mem_cons.mpr ⟨lw_p36, fun _ h => absurd h List.not_mem_nil⟩⟩⟩⟩⟩
def lw_privs : List (MethodName × Nat) := lw_privs_1 ++ (lw_privs_2 ++ (lw_privs_3))
def lw_tbl : List Cond := k2_sels lw_privs ++ tables_1
theorem lw_privs_ok : ∀ q ∈ lw_privs, lw_okq q := by
  show ∀ q ∈ lw_privs_1 ++ (lw_privs_2 ++ (lw_privs_3)), lw_okq q
  exact List.forall_mem_append.mpr ⟨lw_r1, List.forall_mem_append.mpr ⟨lw_r2, lw_r3⟩⟩

def RX0 : String := "DoubtTime$Agreed"
def TX0 : u_T := fun k => match k with
  | 0 => ("DoubtTime$Agreed", "begins", "[J", true)
  | 1 => ("DoubtTime$Agreed", "ends", "[J", true)
  | 2 => ("DoubtTime$Agreed", "heard", "I", false)
  | 3 => ("DoubtTime$Agreed", "most", "I", false)
  | _ => ("DoubtTime$Agreed", "begin", "J", false)
def tyX0 : Nat → FieldType := fun k => match k with
  | 0 => .array .long
  | 1 => .array .long
  | 2 => .int
  | 3 => .int
  | _ => .long
abbrev wsX00 : List Cond := u_ws RX0 TX0 5
theorem nmX0 : ∀ a, a < 5 → ∀ b, b < 5 → a ≠ b → (TX0 a).2.1 ≠ (TX0 b).2.1 := by decide +kernel
theorem tyX0_ok : ∀ k, k < 5 → parseFieldDescriptor (TX0 k).2.2.1 = some (tyX0 k) := by decide +kernel
abbrev cX0_init : ByteArray := prog_2_method_1_code
def yX0_init : MethodName := ⟨RX0, "<init>", "()V"⟩
abbrev cX0_look : ByteArray := prog_2_method_2_code
def yX0_look : MethodName := ⟨RX0, "look", "(LDoubtTime$Masters;I)V"⟩
abbrev cX0_findBegin : ByteArray := prog_2_method_3_code
def yX0_findBegin : MethodName := ⟨RX0, "findBegin", "()V"⟩
abbrev cX0_endOfRow : ByteArray := prog_2_method_4_code
def yX0_endOfRow : MethodName := ⟨RX0, "endOfRow", "()J"⟩
abbrev cX0_leastEndOver : ByteArray := prog_2_method_5_code
def yX0_leastEndOver : MethodName := ⟨RX0, "leastEndOver", "(J)J"⟩
abbrev cX0_howManyHold : ByteArray := prog_2_method_6_code
def yX0_howManyHold : MethodName := ⟨RX0, "howManyHold", "(J)I"⟩
abbrev cX0_isGood : ByteArray := prog_2_method_7_code
def yX0_isGood : MethodName := ⟨RX0, "isGood", "()Z"⟩
def RX1 : String := "DoubtTime$Commits"
def TX1 : u_T := fun k => match k with
  | 0 => ("DoubtTime$Commits", "key", "[I", true)
  | 1 => ("DoubtTime$Commits", "value", "[I", true)
  | 2 => ("DoubtTime$Commits", "stamp", "[J", true)
  | 3 => ("DoubtTime$Commits", "madeAt", "[I", true)
  | 4 => ("DoubtTime$Commits", "doneAt", "[I", true)
  | 5 => ("DoubtTime$Commits", "size", "I", false)
  | _ => ("DoubtTime$Commits", "done", "I", false)
def tyX1 : Nat → FieldType := fun k => match k with
  | 0 => .array .int
  | 1 => .array .int
  | 2 => .array .long
  | 3 => .array .int
  | 4 => .array .int
  | 5 => .int
  | _ => .int
abbrev wsX10 : List Cond := u_ws RX1 TX1 7
theorem nmX1 : ∀ a, a < 7 → ∀ b, b < 7 → a ≠ b → (TX1 a).2.1 ≠ (TX1 b).2.1 := by decide +kernel
theorem tyX1_ok : ∀ k, k < 7 → parseFieldDescriptor (TX1 k).2.2.1 = some (tyX1 k) := by decide +kernel
abbrev cX1_init : ByteArray := prog_3_method_1_code
def yX1_init : MethodName := ⟨RX1, "<init>", "()V"⟩
abbrev cX1_clear : ByteArray := prog_3_method_2_code
def yX1_clear : MethodName := ⟨RX1, "clear", "()V"⟩
abbrev cX1_copyFrom : ByteArray := prog_3_method_3_code
def yX1_copyFrom : MethodName := ⟨RX1, "copyFrom", "(LDoubtTime$Commits;)V"⟩
abbrev cX1_has : ByteArray := prog_3_method_4_code
def yX1_has : MethodName := ⟨RX1, "has", "(I)Z"⟩
abbrev cX1_isOpen : ByteArray := prog_3_method_5_code
def yX1_isOpen : MethodName := ⟨RX1, "isOpen", "(I)Z"⟩
abbrev cX1_howManyOpen : ByteArray := prog_3_method_6_code
def yX1_howManyOpen : MethodName := ⟨RX1, "howManyOpen", "()I"⟩
abbrev cX1_make : ByteArray := prog_3_method_7_code
def yX1_make : MethodName := ⟨RX1, "make", "(IIJI)V"⟩
abbrev cX1_finishBelow : ByteArray := prog_3_method_8_code
def yX1_finishBelow : MethodName := ⟨RX1, "finishBelow", "(JI)V"⟩
abbrev cX1_latestStamp : ByteArray := prog_3_method_9_code
def yX1_latestStamp : MethodName := ⟨RX1, "latestStamp", "()J"⟩
abbrev cX1_leastOpenStamp : ByteArray := prog_3_method_10_code
def yX1_leastOpenStamp : MethodName := ⟨RX1, "leastOpenStamp", "()J"⟩
abbrev cX1_valueAsOf : ByteArray := prog_3_method_11_code
def yX1_valueAsOf : MethodName := ⟨RX1, "valueAsOf", "(IJ)I"⟩
abbrev cX1_howManyStamped : ByteArray := prog_3_method_12_code
def yX1_howManyStamped : MethodName := ⟨RX1, "howManyStamped", "(IJJ)I"⟩
def RX2 : String := "DoubtTime$Item"
def TX2 : u_T := fun k => match k with
  | 0 => ("DoubtTime$Item", "numbers", "[J", true)
  | 1 => ("DoubtTime$Item", "kind", "C", false)
  | _ => ("DoubtTime$Item", "behind", "I", false)
def tyX2 : Nat → FieldType := fun k => match k with
  | 0 => .array .long
  | 1 => .char
  | _ => .int
abbrev wsX20 : List Cond := u_ws RX2 TX2 3
theorem nmX2 : ∀ a, a < 3 → ∀ b, b < 3 → a ≠ b → (TX2 a).2.1 ≠ (TX2 b).2.1 := by decide +kernel
theorem tyX2_ok : ∀ k, k < 3 → parseFieldDescriptor (TX2 k).2.2.1 = some (tyX2 k) := by decide +kernel
abbrev cX2_init : ByteArray := prog_4_method_1_code
def yX2_init : MethodName := ⟨RX2, "<init>", "()V"⟩
abbrev cX2_takeFrom : ByteArray := prog_4_method_2_code
def yX2_takeFrom : MethodName := ⟨RX2, "takeFrom", "(LDoubtTime$Text;I)Z"⟩
abbrev cX2_howManyNumbers : ByteArray := prog_4_method_3_code
def yX2_howManyNumbers : MethodName := ⟨RX2, "howManyNumbers", "()I"⟩
abbrev cX2_takeNumber : ByteArray := prog_4_method_4_code
def yX2_takeNumber : MethodName := ⟨RX2, "takeNumber", "(LDoubtTime$Text;IC)Z"⟩
abbrev cX2_areNumbersTold : ByteArray := prog_4_method_5_code
def yX2_areNumbersTold : MethodName := ⟨RX2, "areNumbersTold", "()Z"⟩
def RX3 : String := "DoubtTime$Leap"
def TX3 : u_T := fun k => match k with
  | 0 => ("DoubtTime$Leap", "at", "J", false)
  | 1 => ("DoubtTime$Leap", "ticks", "J", false)
  | 2 => ("DoubtTime$Leap", "window", "J", false)
  | _ => ("DoubtTime$Leap", "kind", "J", false)
def tyX3 : Nat → FieldType := fun k => match k with
  | 0 => .long
  | 1 => .long
  | 2 => .long
  | _ => .long
abbrev wsX30 : List Cond := u_ws RX3 TX3 4
theorem nmX3 : ∀ a, a < 4 → ∀ b, b < 4 → a ≠ b → (TX3 a).2.1 ≠ (TX3 b).2.1 := by decide +kernel
theorem tyX3_ok : ∀ k, k < 4 → parseFieldDescriptor (TX3 k).2.2.1 = some (tyX3 k) := by decide +kernel
abbrev cX3_init : ByteArray := prog_5_method_1_code
def yX3_init : MethodName := ⟨RX3, "<init>", "()V"⟩
abbrev cX3_clear : ByteArray := prog_5_method_2_code
def yX3_clear : MethodName := ⟨RX3, "clear", "()V"⟩
abbrev cX3_set : ByteArray := prog_5_method_3_code
def yX3_set : MethodName := ⟨RX3, "set", "(JJJJ)V"⟩
abbrev cX3_smear : ByteArray := prog_5_method_4_code
def yX3_smear : MethodName := ⟨RX3, "smear", "(J)J"⟩
abbrev cX3_shift : ByteArray := prog_5_method_5_code
def yX3_shift : MethodName := ⟨RX3, "shift", "(J)J"⟩
abbrev cX3_leastSmearedTo : ByteArray := prog_5_method_6_code
def yX3_leastSmearedTo : MethodName := ⟨RX3, "leastSmearedTo", "(J)J"⟩
def RX4 : String := "DoubtTime$Masters"
def TX4 : u_T := fun k => match k with
  | 0 => ("DoubtTime$Masters", "low", "[J", true)
  | 1 => ("DoubtTime$Masters", "high", "[J", true)
  | 2 => ("DoubtTime$Masters", "toldAt", "[I", true)
  | 3 => ("DoubtTime$Masters", "told", "I", false)
  | 4 => ("DoubtTime$Masters", "struck", "I", false)
  | _ => ("DoubtTime$Masters", "drift", "I", false)
def tyX4 : Nat → FieldType := fun k => match k with
  | 0 => .array .long
  | 1 => .array .long
  | 2 => .array .int
  | 3 => .int
  | 4 => .int
  | _ => .int
abbrev wsX40 : List Cond := u_ws RX4 TX4 6
theorem nmX4 : ∀ a, a < 6 → ∀ b, b < 6 → a ≠ b → (TX4 a).2.1 ≠ (TX4 b).2.1 := by decide +kernel
theorem tyX4_ok : ∀ k, k < 6 → parseFieldDescriptor (TX4 k).2.2.1 = some (tyX4 k) := by decide +kernel
abbrev cX4_init : ByteArray := prog_6_method_1_code
def yX4_init : MethodName := ⟨RX4, "<init>", "()V"⟩
abbrev cX4_clear : ByteArray := prog_6_method_2_code
def yX4_clear : MethodName := ⟨RX4, "clear", "()V"⟩
abbrev cX4_copyFrom : ByteArray := prog_6_method_3_code
def yX4_copyFrom : MethodName := ⟨RX4, "copyFrom", "(LDoubtTime$Masters;)V"⟩
abbrev cX4_hear : ByteArray := prog_6_method_4_code
def yX4_hear : MethodName := ⟨RX4, "hear", "(IJJI)V"⟩
abbrev cX4_hasTold : ByteArray := prog_6_method_5_code
def yX4_hasTold : MethodName := ⟨RX4, "hasTold", "(I)Z"⟩
abbrev cX4_isHeard : ByteArray := prog_6_method_6_code
def yX4_isHeard : MethodName := ⟨RX4, "isHeard", "(I)Z"⟩
abbrev cX4_howManyHeard : ByteArray := prog_6_method_7_code
def yX4_howManyHeard : MethodName := ⟨RX4, "howManyHeard", "()I"⟩
abbrev cX4_beginOf : ByteArray := prog_6_method_8_code
def yX4_beginOf : MethodName := ⟨RX4, "beginOf", "(II)J"⟩
abbrev cX4_endOf : ByteArray := prog_6_method_9_code
def yX4_endOf : MethodName := ⟨RX4, "endOf", "(II)J"⟩
abbrev cX4_widening : ByteArray := prog_6_method_10_code
def yX4_widening : MethodName := ⟨RX4, "widening", "(J)J"⟩
abbrev cX4_meets : ByteArray := prog_6_method_11_code
def yX4_meets : MethodName := ⟨RX4, "meets", "(IIJJ)Z"⟩
def RX5 : String := "DoubtTime$Past"
def TX5 : u_T := fun k => match k with
  | 0 => ("DoubtTime$Past", "states", "[LDoubtTime$State;", true)
  | 1 => ("DoubtTime$Past", "next", "I", false)
  | _ => ("DoubtTime$Past", "size", "I", false)
def tyX5 : Nat → FieldType := fun k => match k with
  | 0 => .array (.object "DoubtTime$State")
  | 1 => .int
  | _ => .int
abbrev wsX50 : List Cond := u_ws RX5 TX5 3
theorem nmX5 : ∀ a, a < 3 → ∀ b, b < 3 → a ≠ b → (TX5 a).2.1 ≠ (TX5 b).2.1 := by decide +kernel
theorem tyX5_ok : ∀ k, k < 3 → parseFieldDescriptor (TX5 k).2.2.1 = some (tyX5 k) := by decide +kernel
abbrev cX5_init : ByteArray := prog_7_method_1_code
def yX5_init : MethodName := ⟨RX5, "<init>", "()V"⟩
abbrev cX5_keep : ByteArray := prog_7_method_2_code
def yX5_keep : MethodName := ⟨RX5, "keep", "(LDoubtTime$State;)V"⟩
abbrev cX5_giveBack : ByteArray := prog_7_method_3_code
def yX5_giveBack : MethodName := ⟨RX5, "giveBack", "(LDoubtTime$State;)V"⟩
def RX6 : String := "DoubtTime$State"
def TX6 : u_T := fun k => match k with
  | 0 => ("DoubtTime$State", "masters", "LDoubtTime$Masters;", true)
  | 1 => ("DoubtTime$State", "commits", "LDoubtTime$Commits;", true)
  | _ => ("DoubtTime$State", "local", "I", false)
def tyX6 : Nat → FieldType := fun k => match k with
  | 0 => .object "DoubtTime$Masters"
  | 1 => .object "DoubtTime$Commits"
  | _ => .int
abbrev wsX60 : List Cond := u_ws RX6 TX6 3
theorem nmX6 : ∀ a, a < 3 → ∀ b, b < 3 → a ≠ b → (TX6 a).2.1 ≠ (TX6 b).2.1 := by decide +kernel
theorem tyX6_ok : ∀ k, k < 3 → parseFieldDescriptor (TX6 k).2.2.1 = some (tyX6 k) := by decide +kernel
abbrev cX6_init : ByteArray := prog_8_method_1_code
def yX6_init : MethodName := ⟨RX6, "<init>", "()V"⟩
abbrev cX6_clear : ByteArray := prog_8_method_2_code
def yX6_clear : MethodName := ⟨RX6, "clear", "()V"⟩
abbrev cX6_copyFrom : ByteArray := prog_8_method_3_code
def yX6_copyFrom : MethodName := ⟨RX6, "copyFrom", "(LDoubtTime$State;)V"⟩
def RX7 : String := "DoubtTime$Text"
def TX7 : u_T := fun k => match k with
  | 0 => ("DoubtTime$Text", "letters", "[C", true)
  | _ => ("DoubtTime$Text", "size", "I", false)
def tyX7 : Nat → FieldType := fun k => match k with
  | 0 => .array .char
  | _ => .int
abbrev wsX70 : List Cond := u_ws RX7 TX7 2
theorem nmX7 : ∀ a, a < 2 → ∀ b, b < 2 → a ≠ b → (TX7 a).2.1 ≠ (TX7 b).2.1 := by decide +kernel
theorem tyX7_ok : ∀ k, k < 2 → parseFieldDescriptor (TX7 k).2.2.1 = some (tyX7 k) := by decide +kernel
abbrev cX7_init : ByteArray := prog_9_method_1_code
def yX7_init : MethodName := ⟨RX7, "<init>", "()V"⟩
abbrev cX7_put : ByteArray := prog_9_method_2_code
def yX7_put : MethodName := ⟨RX7, "put", "(C)V"⟩
abbrev cX7_putAll : ByteArray := prog_9_method_3_code
def yX7_putAll : MethodName := ⟨RX7, "putAll", "(Ljava/lang/String;)V"⟩
abbrev cX7_letterAt : ByteArray := prog_9_method_4_code
def yX7_letterAt : MethodName := ⟨RX7, "letterAt", "(I)C"⟩
def RX8 : String := "DoubtTime"
def TX8 : u_T := fun k => match k with
  | 0 => ("DoubtTime", "text", "LDoubtTime$Text;", true)
  | 1 => ("DoubtTime", "item", "LDoubtTime$Item;", true)
  | 2 => ("DoubtTime", "now", "LDoubtTime$State;", true)
  | 3 => ("DoubtTime", "past", "LDoubtTime$Past;", true)
  | 4 => ("DoubtTime", "agreement", "LDoubtTime$Agreed;", true)
  | _ => ("DoubtTime", "theLeap", "LDoubtTime$Leap;", true)
def tyX8 : Nat → FieldType := fun k => match k with
  | 0 => .object "DoubtTime$Text"
  | 1 => .object "DoubtTime$Item"
  | 2 => .object "DoubtTime$State"
  | 3 => .object "DoubtTime$Past"
  | 4 => .object "DoubtTime$Agreed"
  | _ => .object "DoubtTime$Leap"
abbrev wsX80 : List Cond := u_ws RX8 TX8 6
theorem nmX8 : ∀ a, a < 6 → ∀ b, b < 6 → a ≠ b → (TX8 a).2.1 ≠ (TX8 b).2.1 := by decide +kernel
theorem tyX8_ok : ∀ k, k < 6 → parseFieldDescriptor (TX8 k).2.2.1 = some (tyX8 k) := by decide +kernel
abbrev cX8_init : ByteArray := prog_1_method_1_code
def yX8_init : MethodName := ⟨RX8, "<init>", "()V"⟩
abbrev cX8_write : ByteArray := prog_1_method_2_code
def yX8_write : MethodName := ⟨RX8, "write", "(I)I"⟩
abbrev cX8_wipe : ByteArray := prog_1_method_3_code
def yX8_wipe : MethodName := ⟨RX8, "wipe", "()I"⟩
abbrev cX8_fault : ByteArray := prog_1_method_4_code
def yX8_fault : MethodName := ⟨RX8, "fault", "()I"⟩
abbrev cX8_lay : ByteArray := prog_1_method_5_code
def yX8_lay : MethodName := ⟨RX8, "lay", "()I"⟩
abbrev cX8_layItems : ByteArray := prog_1_method_6_code
def yX8_layItems : MethodName := ⟨RX8, "layItems", "()V"⟩
abbrev cX8_layItem : ByteArray := prog_1_method_7_code
def yX8_layItem : MethodName := ⟨RX8, "layItem", "()V"⟩
abbrev cX8_tell : ByteArray := prog_1_method_8_code
def yX8_tell : MethodName := ⟨RX8, "tell", "(IJJ)I"⟩
abbrev cX8_strike : ByteArray := prog_1_method_9_code
def yX8_strike : MethodName := ⟨RX8, "strike", "(II)I"⟩
abbrev cX8_strikeLiars : ByteArray := prog_1_method_10_code
def yX8_strikeLiars : MethodName := ⟨RX8, "strikeLiars", "()I"⟩
abbrev cX8_drift : ByteArray := prog_1_method_11_code
def yX8_drift : MethodName := ⟨RX8, "drift", "(I)I"⟩
abbrev cX8_go : ByteArray := prog_1_method_12_code
def yX8_go : MethodName := ⟨RX8, "go", "(I)I"⟩
abbrev cX8_finishCommits : ByteArray := prog_1_method_13_code
def yX8_finishCommits : MethodName := ⟨RX8, "finishCommits", "()V"⟩
abbrev cX8_undo : ByteArray := prog_1_method_14_code
def yX8_undo : MethodName := ⟨RX8, "undo", "()I"⟩
abbrev cX8_span : ByteArray := prog_1_method_15_code
def yX8_span : MethodName := ⟨RX8, "span", "(II)J"⟩
abbrev cX8_agreed : ByteArray := prog_1_method_16_code
def yX8_agreed : MethodName := ⟨RX8, "agreed", "(I)J"⟩
abbrev cX8_good : ByteArray := prog_1_method_17_code
def yX8_good : MethodName := ⟨RX8, "good", "()I"⟩
abbrev cX8_in : ByteArray := prog_1_method_18_code
def yX8_in : MethodName := ⟨RX8, "in", "(J)I"⟩
abbrev cX8_liars : ByteArray := prog_1_method_19_code
def yX8_liars : MethodName := ⟨RX8, "liars", "()I"⟩
abbrev cX8_lookAround : ByteArray := prog_1_method_20_code
def yX8_lookAround : MethodName := ⟨RX8, "lookAround", "()V"⟩
abbrev cX8_commit : ByteArray := prog_1_method_21_code
def yX8_commit : MethodName := ⟨RX8, "commit", "(II)I"⟩
abbrev cX8_commitOf : ByteArray := prog_1_method_22_code
def yX8_commitOf : MethodName := ⟨RX8, "commitOf", "(II)J"⟩
abbrev cX8_waiting : ByteArray := prog_1_method_23_code
def yX8_waiting : MethodName := ⟨RX8, "waiting", "(I)I"⟩
abbrev cX8_safe : ByteArray := prog_1_method_24_code
def yX8_safe : MethodName := ⟨RX8, "safe", "()J"⟩
abbrev cX8_read : ByteArray := prog_1_method_25_code
def yX8_read : MethodName := ⟨RX8, "read", "(IJ)I"⟩
abbrev cX8_between : ByteArray := prog_1_method_26_code
def yX8_between : MethodName := ⟨RX8, "between", "(IJJ)I"⟩
abbrev cX8_leap : ByteArray := prog_1_method_27_code
def yX8_leap : MethodName := ⟨RX8, "leap", "(I)J"⟩
abbrev cX8_smeared : ByteArray := prog_1_method_28_code
def yX8_smeared : MethodName := ⟨RX8, "smeared", "(J)J"⟩
abbrev cX8_back : ByteArray := prog_1_method_29_code
def yX8_back : MethodName := ⟨RX8, "back", "(J)J"⟩
abbrev cX8_count : ByteArray := prog_1_method_30_code
def yX8_count : MethodName := ⟨RX8, "count", "(I)I"⟩
abbrev cX8_isMaster : ByteArray := prog_1_method_31_code
def yX8_isMaster : MethodName := ⟨RX8, "isMaster", "(J)Z"⟩
abbrev cX8_isKey : ByteArray := prog_1_method_32_code
def yX8_isKey : MethodName := ⟨RX8, "isKey", "(I)Z"⟩
abbrev cX8_isDrift : ByteArray := prog_1_method_33_code
def yX8_isDrift : MethodName := ⟨RX8, "isDrift", "(J)Z"⟩
abbrev cX8_isToldSpan : ByteArray := prog_1_method_34_code
def yX8_isToldSpan : MethodName := ⟨RX8, "isToldSpan", "(JJ)Z"⟩
abbrev cX8_isAsked : ByteArray := prog_1_method_35_code
def yX8_isAsked : MethodName := ⟨RX8, "isAsked", "(J)Z"⟩
abbrev cX8_isLeap : ByteArray := prog_1_method_36_code
def yX8_isLeap : MethodName := ⟨RX8, "isLeap", "(JJJJ)Z"⟩
def RX9 : String := "DoubtTimeModel"
def TX9 : u_T := fun k => match k with
  | 0 => ("DoubtTimeModel", "now", "[J", true)
  | 1 => ("DoubtTimeModel", "past", "[J", true)
  | 2 => ("DoubtTimeModel", "changes", "I", false)
  | 3 => ("DoubtTimeModel", "text", "[I", true)
  | 4 => ("DoubtTimeModel", "letters", "I", false)
  | 5 => ("DoubtTimeModel", "at", "I", false)
  | 6 => ("DoubtTimeModel", "made", "[J", true)
  | 7 => ("DoubtTimeModel", "leapRead", "[J", true)
  | 8 => ("DoubtTimeModel", "leapNow", "[J", true)
  | 9 => ("DoubtTimeModel", "low", "[J", true)
  | 10 => ("DoubtTimeModel", "high", "[J", true)
  | 11 => ("DoubtTimeModel", "spans", "I", false)
  | 12 => ("DoubtTimeModel", "most", "I", false)
  | 13 => ("DoubtTimeModel", "rowBegin", "J", false)
  | _ => ("DoubtTimeModel", "rowEnd", "J", false)
def tyX9 : Nat → FieldType := fun k => match k with
  | 0 => .array .long
  | 1 => .array .long
  | 2 => .int
  | 3 => .array .int
  | 4 => .int
  | 5 => .int
  | 6 => .array .long
  | 7 => .array .long
  | 8 => .array .long
  | 9 => .array .long
  | 10 => .array .long
  | 11 => .int
  | 12 => .int
  | 13 => .long
  | _ => .long
abbrev wsX90 : List Cond := u_ws RX9 TX9 15
theorem nmX9 : ∀ a, a < 15 → ∀ b, b < 15 → a ≠ b → (TX9 a).2.1 ≠ (TX9 b).2.1 := by decide +kernel
theorem tyX9_ok : ∀ k, k < 15 → parseFieldDescriptor (TX9 k).2.2.1 = some (tyX9 k) := by decide +kernel
abbrev cX9_init : ByteArray := prog_11_method_1_code
def yX9_init : MethodName := ⟨RX9, "<init>", "()V"⟩
abbrev cX9_within : ByteArray := prog_11_method_2_code
def yX9_within : MethodName := ⟨RX9, "within", "(JJJ)Z"⟩
abbrev cX9_begin : ByteArray := prog_11_method_3_code
def yX9_begin : MethodName := ⟨RX9, "begin", "()V"⟩
abbrev cX9_putMaster : ByteArray := prog_11_method_4_code
def yX9_putMaster : MethodName := ⟨RX9, "putMaster", "(IJJ)V"⟩
abbrev cX9_putLeap : ByteArray := prog_11_method_5_code
def yX9_putLeap : MethodName := ⟨RX9, "putLeap", "(JJJJ)V"⟩
abbrev cX9_take : ByteArray := prog_11_method_6_code
def yX9_take : MethodName := ⟨RX9, "take", "()V"⟩
abbrev cX9_takeNumber : ByteArray := prog_11_method_7_code
def yX9_takeNumber : MethodName := ⟨RX9, "takeNumber", "()J"⟩
abbrev cX9_takeSign : ByteArray := prog_11_method_8_code
def yX9_takeSign : MethodName := ⟨RX9, "takeSign", "(I)Z"⟩
abbrev cX9_readMaster : ByteArray := prog_11_method_9_code
def yX9_readMaster : MethodName := ⟨RX9, "readMaster", "()Z"⟩
abbrev cX9_readLeap : ByteArray := prog_11_method_10_code
def yX9_readLeap : MethodName := ⟨RX9, "readLeap", "()Z"⟩
abbrev cX9_readItem : ByteArray := prog_11_method_11_code
def yX9_readItem : MethodName := ⟨RX9, "readItem", "()Z"⟩
abbrev cX9_readText : ByteArray := prog_11_method_12_code
def yX9_readText : MethodName := ⟨RX9, "readText", "()I"⟩
abbrev cX9_write : ByteArray := prog_11_method_13_code
def yX9_write : MethodName := ⟨RX9, "write", "(I)I"⟩
abbrev cX9_wipe : ByteArray := prog_11_method_14_code
def yX9_wipe : MethodName := ⟨RX9, "wipe", "()I"⟩
abbrev cX9_fault : ByteArray := prog_11_method_15_code
def yX9_fault : MethodName := ⟨RX9, "fault", "()I"⟩
abbrev cX9_lay : ByteArray := prog_11_method_16_code
def yX9_lay : MethodName := ⟨RX9, "lay", "()I"⟩
abbrev cX9_note : ByteArray := prog_11_method_17_code
def yX9_note : MethodName := ⟨RX9, "note", "()V"⟩
abbrev cX9_undo : ByteArray := prog_11_method_18_code
def yX9_undo : MethodName := ⟨RX9, "undo", "()I"⟩
abbrev cX9_isMaster : ByteArray := prog_11_method_19_code
def yX9_isMaster : MethodName := ⟨RX9, "isMaster", "(I)Z"⟩
abbrev cX9_isStruck : ByteArray := prog_11_method_20_code
def yX9_isStruck : MethodName := ⟨RX9, "isStruck", "(I)Z"⟩
abbrev cX9_isHeard : ByteArray := prog_11_method_21_code
def yX9_isHeard : MethodName := ⟨RX9, "isHeard", "(I)Z"⟩
abbrev cX9_heardMany : ByteArray := prog_11_method_22_code
def yX9_heardMany : MethodName := ⟨RX9, "heardMany", "()I"⟩
abbrev cX9_tell : ByteArray := prog_11_method_23_code
def yX9_tell : MethodName := ⟨RX9, "tell", "(IJJ)I"⟩
abbrev cX9_strike : ByteArray := prog_11_method_24_code
def yX9_strike : MethodName := ⟨RX9, "strike", "(II)I"⟩
abbrev cX9_strikeLiars : ByteArray := prog_11_method_25_code
def yX9_strikeLiars : MethodName := ⟨RX9, "strikeLiars", "()I"⟩
abbrev cX9_drift : ByteArray := prog_11_method_26_code
def yX9_drift : MethodName := ⟨RX9, "drift", "(I)I"⟩
abbrev cX9_go : ByteArray := prog_11_method_27_code
def yX9_go : MethodName := ⟨RX9, "go", "(I)I"⟩
abbrev cX9_closeOpen : ByteArray := prog_11_method_28_code
def yX9_closeOpen : MethodName := ⟨RX9, "closeOpen", "()I"⟩
abbrev cX9_spanOf : ByteArray := prog_11_method_29_code
def yX9_spanOf : MethodName := ⟨RX9, "spanOf", "(IIJ)J"⟩
abbrev cX9_manyAt : ByteArray := prog_11_method_30_code
def yX9_manyAt : MethodName := ⟨RX9, "manyAt", "(J)I"⟩
abbrev cX9_sameTo : ByteArray := prog_11_method_31_code
def yX9_sameTo : MethodName := ⟨RX9, "sameTo", "(J)J"⟩
abbrev cX9_find : ByteArray := prog_11_method_32_code
def yX9_find : MethodName := ⟨RX9, "find", "(J)V"⟩
abbrev cX9_isGood : ByteArray := prog_11_method_33_code
def yX9_isGood : MethodName := ⟨RX9, "isGood", "()Z"⟩
abbrev cX9_span : ByteArray := prog_11_method_34_code
def yX9_span : MethodName := ⟨RX9, "span", "(II)J"⟩
abbrev cX9_agreed : ByteArray := prog_11_method_35_code
def yX9_agreed : MethodName := ⟨RX9, "agreed", "(I)J"⟩
abbrev cX9_good : ByteArray := prog_11_method_36_code
def yX9_good : MethodName := ⟨RX9, "good", "()I"⟩
abbrev cX9_in : ByteArray := prog_11_method_37_code
def yX9_in : MethodName := ⟨RX9, "in", "(J)I"⟩
abbrev cX9_liarsNow : ByteArray := prog_11_method_38_code
def yX9_liarsNow : MethodName := ⟨RX9, "liarsNow", "()I"⟩
abbrev cX9_liars : ByteArray := prog_11_method_39_code
def yX9_liars : MethodName := ⟨RX9, "liars", "()I"⟩
abbrev cX9_ones : ByteArray := prog_11_method_40_code
def yX9_ones : MethodName := ⟨RX9, "ones", "(I)I"⟩
abbrev cX9_openMany : ByteArray := prog_11_method_41_code
def yX9_openMany : MethodName := ⟨RX9, "openMany", "()I"⟩
abbrev cX9_latest : ByteArray := prog_11_method_42_code
def yX9_latest : MethodName := ⟨RX9, "latest", "()J"⟩
abbrev cX9_commit : ByteArray := prog_11_method_43_code
def yX9_commit : MethodName := ⟨RX9, "commit", "(II)I"⟩
abbrev cX9_isCommit : ByteArray := prog_11_method_44_code
def yX9_isCommit : MethodName := ⟨RX9, "isCommit", "(I)Z"⟩
abbrev cX9_commitOf : ByteArray := prog_11_method_45_code
def yX9_commitOf : MethodName := ⟨RX9, "commitOf", "(II)J"⟩
abbrev cX9_waiting : ByteArray := prog_11_method_46_code
def yX9_waiting : MethodName := ⟨RX9, "waiting", "(I)I"⟩
abbrev cX9_safeNow : ByteArray := prog_11_method_47_code
def yX9_safeNow : MethodName := ⟨RX9, "safeNow", "()J"⟩
abbrev cX9_safe : ByteArray := prog_11_method_48_code
def yX9_safe : MethodName := ⟨RX9, "safe", "()J"⟩
abbrev cX9_read : ByteArray := prog_11_method_49_code
def yX9_read : MethodName := ⟨RX9, "read", "(IJ)I"⟩
abbrev cX9_between : ByteArray := prog_11_method_50_code
def yX9_between : MethodName := ⟨RX9, "between", "(IJJ)I"⟩
abbrev cX9_leap : ByteArray := prog_11_method_51_code
def yX9_leap : MethodName := ⟨RX9, "leap", "(I)J"⟩
abbrev cX9_smear : ByteArray := prog_11_method_52_code
def yX9_smear : MethodName := ⟨RX9, "smear", "(J)J"⟩
abbrev cX9_smeared : ByteArray := prog_11_method_53_code
def yX9_smeared : MethodName := ⟨RX9, "smeared", "(J)J"⟩
abbrev cX9_back : ByteArray := prog_11_method_54_code
def yX9_back : MethodName := ⟨RX9, "back", "(J)J"⟩
abbrev cX9_count : ByteArray := prog_11_method_55_code
def yX9_count : MethodName := ⟨RX9, "count", "(I)I"⟩
def RJ6 : String := "java/lang/Integer"
def TJ6 : u_T := fun k => match k with
  | _ => ("", "", "", false)
def tyJ6 : Nat → FieldType := fun k => match k with
  | _ => .int
abbrev wsJ60 : List Cond := u_ws RJ6 TJ6 0
theorem nmJ6 : ∀ a, a < 0 → ∀ b, b < 0 → a ≠ b → (TJ6 a).2.1 ≠ (TJ6 b).2.1 := by decide +kernel
theorem tyJ6_ok : ∀ k, k < 0 → parseFieldDescriptor (TJ6 k).2.2.1 = some (tyJ6 k) := by decide +kernel
abbrev cJ6_bitCount_0f7a4 : ByteArray := prog_12_method_49_code
def yJ6_bitCount_0f7a4 : MethodName := ⟨RJ6, "bitCount", "(I)I"⟩
def RJ9 : String := "java/lang/Math"
def TJ9 : u_T := fun k => match k with
  | _ => ("", "", "", false)
def tyJ9 : Nat → FieldType := fun k => match k with
  | _ => .int
abbrev wsJ90 : List Cond := u_ws RJ9 TJ9 0
theorem nmJ9 : ∀ a, a < 0 → ∀ b, b < 0 → a ≠ b → (TJ9 a).2.1 ≠ (TJ9 b).2.1 := by decide +kernel
theorem tyJ9_ok : ∀ k, k < 0 → parseFieldDescriptor (TJ9 k).2.2.1 = some (tyJ9 k) := by decide +kernel
abbrev cJ9_max_f86c9 : ByteArray := prog_13_method_66_code
def yJ9_max_f86c9 : MethodName := ⟨RJ9, "max", "(JJ)J"⟩
abbrev cJ9_min_7cf53 : ByteArray := prog_13_method_69_code
def yJ9_min_7cf53 : MethodName := ⟨RJ9, "min", "(II)I"⟩
abbrev cJ9_min_f86c9 : ByteArray := prog_13_method_70_code
def yJ9_min_f86c9 : MethodName := ⟨RJ9, "min", "(JJ)J"⟩
def RJ0 : String := "java/lang/String"
def TJ0 : u_T := fun k => match k with
  | _ => ("", "", "", false)
def tyJ0 : Nat → FieldType := fun k => match k with
  | _ => .int
abbrev wsJ00 : List Cond := u_ws RJ0 TJ0 0
theorem nmJ0 : ∀ a, a < 0 → ∀ b, b < 0 → a ≠ b → (TJ0 a).2.1 ≠ (TJ0 b).2.1 := by decide +kernel
theorem tyJ0_ok : ∀ k, k < 0 → parseFieldDescriptor (TJ0 k).2.2.1 = some (tyJ0 k) := by decide +kernel
abbrev cJ0_length_8abf5 : ByteArray := prog_14_method_54_code
def yJ0_length_8abf5 : MethodName := ⟨RJ0, "length", "()I"⟩
abbrev cJ0_charAt_5068e : ByteArray := prog_14_method_56_code
def yJ0_charAt_5068e : MethodName := ⟨RJ0, "charAt", "(I)C"⟩
abbrev cJ0_coder_7d493 : ByteArray := prog_14_method_152_code
def yJ0_coder_7d493 : MethodName := ⟨RJ0, "coder", "()B"⟩
abbrev cJ0_isLatin1_aae02 : ByteArray := prog_14_method_154_code
def yJ0_isLatin1_aae02 : MethodName := ⟨RJ0, "isLatin1", "()Z"⟩
abbrev cJ0_checkIndex_df160 : ByteArray := prog_14_method_155_code
def yJ0_checkIndex_df160 : MethodName := ⟨RJ0, "checkIndex", "(II)V"⟩
def RJ1 : String := "java/lang/StringLatin1"
def TJ1 : u_T := fun k => match k with
  | _ => ("", "", "", false)
def tyJ1 : Nat → FieldType := fun k => match k with
  | _ => .int
abbrev wsJ10 : List Cond := u_ws RJ1 TJ1 0
theorem nmJ1 : ∀ a, a < 0 → ∀ b, b < 0 → a ≠ b → (TJ1 a).2.1 ≠ (TJ1 b).2.1 := by decide +kernel
theorem tyJ1_ok : ∀ k, k < 0 → parseFieldDescriptor (TJ1 k).2.2.1 = some (tyJ1 k) := by decide +kernel
abbrev cJ1_charAt_3b067 : ByteArray := prog_15_method_2_code
def yJ1_charAt_3b067 : MethodName := ⟨RJ1, "charAt", "([BI)C"⟩
def RJ2 : String := "java/lang/StringUTF16"
def TJ2 : u_T := fun k => match k with
  | _ => ("", "", "", false)
def tyJ2 : Nat → FieldType := fun k => match k with
  | _ => .int
abbrev wsJ20 : List Cond := u_ws RJ2 TJ2 0
theorem nmJ2 : ∀ a, a < 0 → ∀ b, b < 0 → a ≠ b → (TJ2 a).2.1 ≠ (TJ2 b).2.1 := by decide +kernel
theorem tyJ2_ok : ∀ k, k < 0 → parseFieldDescriptor (TJ2 k).2.2.1 = some (tyJ2 k) := by decide +kernel
abbrev cJ2_getChar_3b067 : ByteArray := prog_16_method_5_code
def yJ2_getChar_3b067 : MethodName := ⟨RJ2, "getChar", "([BI)C"⟩
abbrev cJ2_length_9d52b : ByteArray := prog_16_method_6_code
def yJ2_length_9d52b : MethodName := ⟨RJ2, "length", "([B)I"⟩
abbrev cJ2_charAt_3b067 : ByteArray := prog_16_method_83_code
def yJ2_charAt_3b067 : MethodName := ⟨RJ2, "charAt", "([BI)C"⟩
abbrev cJ2_checkIndex_2214a : ByteArray := prog_16_method_91_code
def yJ2_checkIndex_2214a : MethodName := ⟨RJ2, "checkIndex", "(I[B)V"⟩
def RJ10 : String := "java/lang/System"
def TJ10 : u_T := fun k => match k with
  | _ => ("", "", "", false)
def tyJ10 : Nat → FieldType := fun k => match k with
  | _ => .int
abbrev wsJ100 : List Cond := u_ws RJ10 TJ10 0
theorem nmJ10 : ∀ a, a < 0 → ∀ b, b < 0 → a ≠ b → (TJ10 a).2.1 ≠ (TJ10 b).2.1 := by decide +kernel
theorem tyJ10_ok : ∀ k, k < 0 → parseFieldDescriptor (TJ10 k).2.2.1 = some (tyJ10 k) := by decide +kernel
def RJ3 : String := "jdk/internal/util/Preconditions"
def TJ3 : u_T := fun k => match k with
  | _ => ("", "", "", false)
def tyJ3 : Nat → FieldType := fun k => match k with
  | _ => .int
abbrev wsJ30 : List Cond := u_ws RJ3 TJ3 0
theorem nmJ3 : ∀ a, a < 0 → ∀ b, b < 0 → a ≠ b → (TJ3 a).2.1 ≠ (TJ3 b).2.1 := by decide +kernel
theorem tyJ3_ok : ∀ k, k < 0 → parseFieldDescriptor (TJ3 k).2.2.1 = some (tyJ3 k) := by decide +kernel
abbrev cJ3_checkIndex_8e157 : ByteArray := prog_18_method_11_code
def yJ3_checkIndex_8e157 : MethodName := ⟨RJ3, "checkIndex", "(IILjava/util/function/BiFunction;)I"⟩
def RL : String := "DoubtTimeLaw"
abbrev cL_law : ByteArray := code
def yL_law : MethodName := ⟨RL, "law", "([I)Z"⟩
abbrev vwCl : List vw_C := [(RX0, TX0, 5), (RX1, TX1, 7), (RX2, TX2, 3), (RX3, TX3, 4), (RX4, TX4, 6), (RX5, TX5, 3), (RX6, TX6, 3), (RX7, TX7, 2), (RX8, TX8, 6), (RX9, TX9, 15)]
end
section
/-! the table of methods (printed by gen02.py out of the task): name, code, locals, answer, room -/
abbrev pm_MI : Type := MethodName × ByteArray × Nat × Option FieldType × Room
def pm_Id : pm_MI := (yL_law, cL_law, 4, (some .boolean), room_1)
def pm_Il : List pm_MI := [
  (yL_law, cL_law, 4, (some .boolean), room_1),
  (yX0_init, cX0_init, 1, none, { frames := 1, cells := 2, slots := 12, locals := 20 }),
  (yX0_look, cX0_look, 4, none, { frames := 2, cells := 0, slots := 0, locals := 46 }),
  (yX0_findBegin, cX0_findBegin, 3, none, { frames := 1, cells := 0, slots := 0, locals := 24 }),
  (yX0_endOfRow, cX0_endOfRow, 4, (some .long), { frames := 2, cells := 0, slots := 0, locals := 48 }),
  (yX0_leastEndOver, cX0_leastEndOver, 6, (some .long), { frames := 1, cells := 0, slots := 0, locals := 23 }),
  (yX0_howManyHold, cX0_howManyHold, 5, (some .int), { frames := 0, cells := 0, slots := 0, locals := 0 }),
  (yX0_isGood, cX0_isGood, 1, (some .boolean), { frames := 0, cells := 0, slots := 0, locals := 0 }),
  (yX1_init, cX1_init, 1, none, { frames := 1, cells := 5, slots := 80, locals := 20 }),
  (yX1_clear, cX1_clear, 1, none, { frames := 0, cells := 0, slots := 0, locals := 0 }),
  (yX1_copyFrom, cX1_copyFrom, 2, none, { frames := 1, cells := 0, slots := 0, locals := 26 }),
  (yX1_has, cX1_has, 2, (some .boolean), { frames := 0, cells := 0, slots := 0, locals := 0 }),
  (yX1_isOpen, cX1_isOpen, 2, (some .boolean), { frames := 0, cells := 0, slots := 0, locals := 0 }),
  (yX1_howManyOpen, cX1_howManyOpen, 1, (some .int), { frames := 0, cells := 0, slots := 0, locals := 0 }),
  (yX1_make, cX1_make, 6, none, { frames := 1, cells := 0, slots := 0, locals := 23 }),
  (yX1_finishBelow, cX1_finishBelow, 4, none, { frames := 0, cells := 0, slots := 0, locals := 0 }),
  (yX1_latestStamp, cX1_latestStamp, 1, (some .long), { frames := 0, cells := 0, slots := 0, locals := 0 }),
  (yX1_leastOpenStamp, cX1_leastOpenStamp, 1, (some .long), { frames := 0, cells := 0, slots := 0, locals := 0 }),
  (yX1_valueAsOf, cX1_valueAsOf, 6, (some .int), { frames := 0, cells := 0, slots := 0, locals := 0 }),
  (yX1_howManyStamped, cX1_howManyStamped, 9, (some .int), { frames := 0, cells := 0, slots := 0, locals := 0 }),
  (yX2_init, cX2_init, 1, none, { frames := 1, cells := 1, slots := 4, locals := 20 }),
  (yX2_takeFrom, cX2_takeFrom, 6, (some .boolean), { frames := 2, cells := 0, slots := 0, locals := 49 }),
  (yX2_howManyNumbers, cX2_howManyNumbers, 1, (some .int), { frames := 0, cells := 0, slots := 0, locals := 0 }),
  (yX2_takeNumber, cX2_takeNumber, 9, (some .boolean), { frames := 1, cells := 0, slots := 0, locals := 21 }),
  (yX2_areNumbersTold, cX2_areNumbersTold, 2, (some .boolean), { frames := 1, cells := 0, slots := 0, locals := 27 }),
  (yX3_init, cX3_init, 1, none, { frames := 1, cells := 0, slots := 0, locals := 20 }),
  (yX3_clear, cX3_clear, 1, none, { frames := 1, cells := 0, slots := 0, locals := 28 }),
  (yX3_set, cX3_set, 9, none, { frames := 0, cells := 0, slots := 0, locals := 0 }),
  (yX3_smear, cX3_smear, 3, (some .long), { frames := 1, cells := 0, slots := 0, locals := 22 }),
  (yX3_shift, cX3_shift, 3, (some .long), { frames := 0, cells := 0, slots := 0, locals := 0 }),
  (yX3_leastSmearedTo, cX3_leastSmearedTo, 10, (some .long), { frames := 2, cells := 0, slots := 0, locals := 44 }),
  (yX4_init, cX4_init, 1, none, { frames := 1, cells := 3, slots := 18, locals := 20 }),
  (yX4_clear, cX4_clear, 1, none, { frames := 0, cells := 0, slots := 0, locals := 0 }),
  (yX4_copyFrom, cX4_copyFrom, 2, none, { frames := 1, cells := 0, slots := 0, locals := 26 }),
  (yX4_hear, cX4_hear, 7, none, { frames := 0, cells := 0, slots := 0, locals := 0 }),
  (yX4_hasTold, cX4_hasTold, 2, (some .boolean), { frames := 0, cells := 0, slots := 0, locals := 0 }),
  (yX4_isHeard, cX4_isHeard, 2, (some .boolean), { frames := 0, cells := 0, slots := 0, locals := 0 }),
  (yX4_howManyHeard, cX4_howManyHeard, 1, (some .int), { frames := 1, cells := 0, slots := 0, locals := 20 }),
  (yX4_beginOf, cX4_beginOf, 5, (some .long), { frames := 1, cells := 0, slots := 0, locals := 22 }),
  (yX4_endOf, cX4_endOf, 5, (some .long), { frames := 1, cells := 0, slots := 0, locals := 22 }),
  (yX4_widening, cX4_widening, 3, (some .long), { frames := 0, cells := 0, slots := 0, locals := 0 }),
  (yX4_meets, cX4_meets, 7, (some .boolean), { frames := 2, cells := 0, slots := 0, locals := 46 }),
  (yX5_init, cX5_init, 2, none, { frames := 3, cells := 67, slots := 690, locals := 60 }),
  (yX5_keep, cX5_keep, 2, none, { frames := 3, cells := 0, slots := 0, locals := 68 }),
  (yX5_giveBack, cX5_giveBack, 2, none, { frames := 3, cells := 0, slots := 0, locals := 68 }),
  (yX6_init, cX6_init, 1, none, { frames := 2, cells := 10, slots := 111, locals := 40 }),
  (yX6_clear, cX6_clear, 1, none, { frames := 1, cells := 0, slots := 0, locals := 20 }),
  (yX6_copyFrom, cX6_copyFrom, 2, none, { frames := 2, cells := 0, slots := 0, locals := 47 }),
  (yX7_init, cX7_init, 1, none, { frames := 1, cells := 1, slots := 200, locals := 20 }),
  (yX7_put, cX7_put, 2, none, { frames := 0, cells := 0, slots := 0, locals := 0 }),
  (yX7_putAll, cX7_putAll, 3, none, { frames := 4, cells := 0, slots := 0, locals := 85 }),
  (yX7_letterAt, cX7_letterAt, 2, (some .char), { frames := 0, cells := 0, slots := 0, locals := 0 }),
  (yX8_init, cX8_init, 1, none, { frames := 5, cells := 87, slots := 1037, locals := 107 }),
  (yX8_write, cX8_write, 2, (some .int), { frames := 1, cells := 0, slots := 0, locals := 21 }),
  (yX8_wipe, cX8_wipe, 2, (some .int), { frames := 0, cells := 0, slots := 0, locals := 0 }),
  (yX8_fault, cX8_fault, 3, (some .int), { frames := 3, cells := 0, slots := 0, locals := 74 }),
  (yX8_lay, cX8_lay, 1, (some .int), { frames := 4, cells := 0, slots := 0, locals := 96 }),
  (yX8_layItems, cX8_layItems, 3, none, { frames := 3, cells := 0, slots := 0, locals := 74 }),
  (yX8_layItem, cX8_layItem, 2, none, { frames := 1, cells := 0, slots := 0, locals := 28 }),
  (yX8_tell, cX8_tell, 6, (some .int), { frames := 4, cells := 0, slots := 0, locals := 89 }),
  (yX8_strike, cX8_strike, 3, (some .int), { frames := 4, cells := 0, slots := 0, locals := 89 }),
  (yX8_strikeLiars, cX8_strikeLiars, 2, (some .int), { frames := 5, cells := 0, slots := 0, locals := 115 }),
  (yX8_drift, cX8_drift, 3, (some .int), { frames := 4, cells := 0, slots := 0, locals := 89 }),
  (yX8_go, cX8_go, 4, (some .int), { frames := 5, cells := 0, slots := 0, locals := 109 }),
  (yX8_finishCommits, cX8_finishCommits, 1, none, { frames := 4, cells := 0, slots := 0, locals := 89 }),
  (yX8_undo, cX8_undo, 1, (some .int), { frames := 4, cells := 0, slots := 0, locals := 89 }),
  (yX8_span, cX8_span, 3, (some .long), { frames := 2, cells := 0, slots := 0, locals := 46 }),
  (yX8_agreed, cX8_agreed, 2, (some .long), { frames := 4, cells := 0, slots := 0, locals := 89 }),
  (yX8_good, cX8_good, 1, (some .int), { frames := 4, cells := 0, slots := 0, locals := 89 }),
  (yX8_in, cX8_in, 3, (some .int), { frames := 4, cells := 0, slots := 0, locals := 89 }),
  (yX8_liars, cX8_liars, 7, (some .int), { frames := 4, cells := 0, slots := 0, locals := 89 }),
  (yX8_lookAround, cX8_lookAround, 1, none, { frames := 3, cells := 0, slots := 0, locals := 69 }),
  (yX8_commit, cX8_commit, 3, (some .int), { frames := 4, cells := 0, slots := 0, locals := 89 }),
  (yX8_commitOf, cX8_commitOf, 3, (some .long), { frames := 1, cells := 0, slots := 0, locals := 21 }),
  (yX8_waiting, cX8_waiting, 5, (some .int), { frames := 3, cells := 0, slots := 0, locals := 69 }),
  (yX8_safe, cX8_safe, 4, (some .long), { frames := 4, cells := 0, slots := 0, locals := 89 }),
  (yX8_read, cX8_read, 4, (some .int), { frames := 5, cells := 0, slots := 0, locals := 112 }),
  (yX8_between, cX8_between, 6, (some .int), { frames := 1, cells := 0, slots := 0, locals := 28 }),
  (yX8_leap, cX8_leap, 2, (some .long), { frames := 0, cells := 0, slots := 0, locals := 0 }),
  (yX8_smeared, cX8_smeared, 3, (some .long), { frames := 2, cells := 0, slots := 0, locals := 44 }),
  (yX8_back, cX8_back, 3, (some .long), { frames := 3, cells := 0, slots := 0, locals := 73 }),
  (yX8_count, cX8_count, 2, (some .int), { frames := 2, cells := 0, slots := 0, locals := 40 }),
  (yX8_isMaster, cX8_isMaster, 2, (some .boolean), { frames := 0, cells := 0, slots := 0, locals := 0 }),
  (yX8_isKey, cX8_isKey, 1, (some .boolean), { frames := 0, cells := 0, slots := 0, locals := 0 }),
  (yX8_isDrift, cX8_isDrift, 2, (some .boolean), { frames := 0, cells := 0, slots := 0, locals := 0 }),
  (yX8_isToldSpan, cX8_isToldSpan, 4, (some .boolean), { frames := 0, cells := 0, slots := 0, locals := 0 }),
  (yX8_isAsked, cX8_isAsked, 2, (some .boolean), { frames := 0, cells := 0, slots := 0, locals := 0 }),
  (yX8_isLeap, cX8_isLeap, 8, (some .boolean), { frames := 0, cells := 0, slots := 0, locals := 0 }),
  (yX9_init, cX9_init, 1, none, { frames := 2, cells := 8, slots := 1084, locals := 49 }),
  (yX9_within, cX9_within, 6, (some .boolean), { frames := 0, cells := 0, slots := 0, locals := 0 }),
  (yX9_begin, cX9_begin, 2, none, { frames := 1, cells := 0, slots := 0, locals := 28 }),
  (yX9_putMaster, cX9_putMaster, 6, none, { frames := 0, cells := 0, slots := 0, locals := 0 }),
  (yX9_putLeap, cX9_putLeap, 9, none, { frames := 0, cells := 0, slots := 0, locals := 0 }),
  (yX9_take, cX9_take, 2, none, { frames := 0, cells := 0, slots := 0, locals := 0 }),
  (yX9_takeNumber, cX9_takeNumber, 7, (some .long), { frames := 1, cells := 0, slots := 0, locals := 25 }),
  (yX9_takeSign, cX9_takeSign, 3, (some .boolean), { frames := 0, cells := 0, slots := 0, locals := 0 }),
  (yX9_readMaster, cX9_readMaster, 9, (some .boolean), { frames := 2, cells := 0, slots := 0, locals := 51 }),
  (yX9_readLeap, cX9_readLeap, 12, (some .boolean), { frames := 2, cells := 0, slots := 0, locals := 51 }),
  (yX9_readItem, cX9_readItem, 5, (some .boolean), { frames := 3, cells := 0, slots := 0, locals := 82 }),
  (yX9_readText, cX9_readText, 2, (some .int), { frames := 4, cells := 0, slots := 0, locals := 106 }),
  (yX9_write, cX9_write, 2, (some .int), { frames := 1, cells := 0, slots := 0, locals := 25 }),
  (yX9_wipe, cX9_wipe, 2, (some .int), { frames := 0, cells := 0, slots := 0, locals := 0 }),
  (yX9_fault, cX9_fault, 1, (some .int), { frames := 5, cells := 0, slots := 0, locals := 127 }),
  (yX9_lay, cX9_lay, 1, (some .int), { frames := 5, cells := 0, slots := 0, locals := 127 }),
  (yX9_note, cX9_note, 2, none, { frames := 0, cells := 0, slots := 0, locals := 0 }),
  (yX9_undo, cX9_undo, 2, (some .int), { frames := 0, cells := 0, slots := 0, locals := 0 }),
  (yX9_isMaster, cX9_isMaster, 1, (some .boolean), { frames := 1, cells := 0, slots := 0, locals := 25 }),
  (yX9_isStruck, cX9_isStruck, 2, (some .boolean), { frames := 0, cells := 0, slots := 0, locals := 0 }),
  (yX9_isHeard, cX9_isHeard, 2, (some .boolean), { frames := 1, cells := 0, slots := 0, locals := 21 }),
  (yX9_heardMany, cX9_heardMany, 3, (some .int), { frames := 2, cells := 0, slots := 0, locals := 42 }),
  (yX9_tell, cX9_tell, 6, (some .int), { frames := 3, cells := 0, slots := 0, locals := 64 }),
  (yX9_strike, cX9_strike, 3, (some .int), { frames := 3, cells := 0, slots := 0, locals := 64 }),
  (yX9_strikeLiars, cX9_strikeLiars, 2, (some .int), { frames := 4, cells := 0, slots := 0, locals := 97 }),
  (yX9_drift, cX9_drift, 3, (some .int), { frames := 1, cells := 0, slots := 0, locals := 25 }),
  (yX9_go, cX9_go, 4, (some .int), { frames := 4, cells := 0, slots := 0, locals := 98 }),
  (yX9_closeOpen, cX9_closeOpen, 5, (some .int), { frames := 3, cells := 0, slots := 0, locals := 74 }),
  (yX9_spanOf, cX9_spanOf, 10, (some .long), { frames := 0, cells := 0, slots := 0, locals := 0 }),
  (yX9_manyAt, cX9_manyAt, 5, (some .int), { frames := 1, cells := 0, slots := 0, locals := 25 }),
  (yX9_sameTo, cX9_sameTo, 8, (some .long), { frames := 0, cells := 0, slots := 0, locals := 0 }),
  (yX9_find, cX9_find, 6, none, { frames := 2, cells := 0, slots := 0, locals := 49 }),
  (yX9_isGood, cX9_isGood, 1, (some .boolean), { frames := 0, cells := 0, slots := 0, locals := 0 }),
  (yX9_span, cX9_span, 3, (some .long), { frames := 2, cells := 0, slots := 0, locals := 45 }),
  (yX9_agreed, cX9_agreed, 2, (some .long), { frames := 3, cells := 0, slots := 0, locals := 74 }),
  (yX9_good, cX9_good, 1, (some .int), { frames := 3, cells := 0, slots := 0, locals := 74 }),
  (yX9_in, cX9_in, 3, (some .int), { frames := 3, cells := 0, slots := 0, locals := 74 }),
  (yX9_liarsNow, cX9_liarsNow, 4, (some .int), { frames := 3, cells := 0, slots := 0, locals := 74 }),
  (yX9_liars, cX9_liars, 1, (some .int), { frames := 4, cells := 0, slots := 0, locals := 97 }),
  (yX9_ones, cX9_ones, 3, (some .int), { frames := 0, cells := 0, slots := 0, locals := 0 }),
  (yX9_openMany, cX9_openMany, 3, (some .int), { frames := 0, cells := 0, slots := 0, locals := 0 }),
  (yX9_latest, cX9_latest, 1, (some .long), { frames := 0, cells := 0, slots := 0, locals := 0 }),
  (yX9_commit, cX9_commit, 7, (some .int), { frames := 3, cells := 0, slots := 0, locals := 74 }),
  (yX9_isCommit, cX9_isCommit, 2, (some .boolean), { frames := 1, cells := 0, slots := 0, locals := 25 }),
  (yX9_commitOf, cX9_commitOf, 3, (some .long), { frames := 2, cells := 0, slots := 0, locals := 46 }),
  (yX9_waiting, cX9_waiting, 3, (some .int), { frames := 3, cells := 0, slots := 0, locals := 74 }),
  (yX9_safeNow, cX9_safeNow, 5, (some .long), { frames := 3, cells := 0, slots := 0, locals := 74 }),
  (yX9_safe, cX9_safe, 1, (some .long), { frames := 4, cells := 0, slots := 0, locals := 98 }),
  (yX9_read, cX9_read, 7, (some .int), { frames := 4, cells := 0, slots := 0, locals := 98 }),
  (yX9_between, cX9_between, 9, (some .int), { frames := 1, cells := 0, slots := 0, locals := 25 }),
  (yX9_leap, cX9_leap, 2, (some .long), { frames := 1, cells := 0, slots := 0, locals := 25 }),
  (yX9_smear, cX9_smear, 7, (some .long), { frames := 0, cells := 0, slots := 0, locals := 0 }),
  (yX9_smeared, cX9_smeared, 3, (some .long), { frames := 1, cells := 0, slots := 0, locals := 26 }),
  (yX9_back, cX9_back, 9, (some .long), { frames := 1, cells := 0, slots := 0, locals := 26 }),
  (yX9_count, cX9_count, 2, (some .int), { frames := 3, cells := 0, slots := 0, locals := 64 }),
  (yJ6_bitCount_0f7a4, cJ6_bitCount_0f7a4, 1, (some .int), { frames := 0, cells := 0, slots := 0, locals := 0 }),
  (yJ0_length_8abf5, cJ0_length_8abf5, 1, (some .int), { frames := 1, cells := 0, slots := 0, locals := 20 }),
  (yJ0_charAt_5068e, cJ0_charAt_5068e, 2, (some .char), { frames := 3, cells := 0, slots := 0, locals := 64 }),
  (yJ0_coder_7d493, cJ0_coder_7d493, 1, (some .byte), { frames := 0, cells := 0, slots := 0, locals := 0 }),
  (yJ0_isLatin1_aae02, cJ0_isLatin1_aae02, 1, (some .boolean), { frames := 0, cells := 0, slots := 0, locals := 0 }),
  (yJ0_checkIndex_df160, cJ0_checkIndex_df160, 2, none, { frames := 1, cells := 0, slots := 0, locals := 22 }),
  (yJ1_charAt_3b067, cJ1_charAt_3b067, 2, (some .char), { frames := 2, cells := 0, slots := 0, locals := 43 }),
  (yJ3_checkIndex_8e157, cJ3_checkIndex_8e157, 3, (some .int), { frames := 0, cells := 0, slots := 0, locals := 0 })]
def pm_I (y : Nat) : pm_MI := pm_Il.getD y pm_Id
abbrev pm_nm (y : Nat) : MethodName := (pm_I y).1
abbrev pm_cd (y : Nat) : ByteArray := (pm_I y).2.1
abbrev pm_mL (y : Nat) : Nat := (pm_I y).2.2.1
abbrev pm_rt (y : Nat) : Option FieldType := (pm_I y).2.2.2.1
abbrev pm_rm (y : Nat) : Room := (pm_I y).2.2.2.2
abbrev n_L_law : Nat := 0
abbrev n_X0_init : Nat := 1
abbrev n_X0_look : Nat := 2
abbrev n_X0_findBegin : Nat := 3
abbrev n_X0_endOfRow : Nat := 4
abbrev n_X0_leastEndOver : Nat := 5
abbrev n_X0_howManyHold : Nat := 6
abbrev n_X0_isGood : Nat := 7
abbrev n_X1_init : Nat := 8
abbrev n_X1_clear : Nat := 9
abbrev n_X1_copyFrom : Nat := 10
abbrev n_X1_has : Nat := 11
abbrev n_X1_isOpen : Nat := 12
abbrev n_X1_howManyOpen : Nat := 13
abbrev n_X1_make : Nat := 14
abbrev n_X1_finishBelow : Nat := 15
abbrev n_X1_latestStamp : Nat := 16
abbrev n_X1_leastOpenStamp : Nat := 17
abbrev n_X1_valueAsOf : Nat := 18
abbrev n_X1_howManyStamped : Nat := 19
abbrev n_X2_init : Nat := 20
abbrev n_X2_takeFrom : Nat := 21
abbrev n_X2_howManyNumbers : Nat := 22
abbrev n_X2_takeNumber : Nat := 23
abbrev n_X2_areNumbersTold : Nat := 24
abbrev n_X3_init : Nat := 25
abbrev n_X3_clear : Nat := 26
abbrev n_X3_set : Nat := 27
abbrev n_X3_smear : Nat := 28
abbrev n_X3_shift : Nat := 29
abbrev n_X3_leastSmearedTo : Nat := 30
abbrev n_X4_init : Nat := 31
abbrev n_X4_clear : Nat := 32
abbrev n_X4_copyFrom : Nat := 33
abbrev n_X4_hear : Nat := 34
abbrev n_X4_hasTold : Nat := 35
abbrev n_X4_isHeard : Nat := 36
abbrev n_X4_howManyHeard : Nat := 37
abbrev n_X4_beginOf : Nat := 38
abbrev n_X4_endOf : Nat := 39
abbrev n_X4_widening : Nat := 40
abbrev n_X4_meets : Nat := 41
abbrev n_X5_init : Nat := 42
abbrev n_X5_keep : Nat := 43
abbrev n_X5_giveBack : Nat := 44
abbrev n_X6_init : Nat := 45
abbrev n_X6_clear : Nat := 46
abbrev n_X6_copyFrom : Nat := 47
abbrev n_X7_init : Nat := 48
abbrev n_X7_put : Nat := 49
abbrev n_X7_putAll : Nat := 50
abbrev n_X7_letterAt : Nat := 51
abbrev n_X8_init : Nat := 52
abbrev n_X8_write : Nat := 53
abbrev n_X8_wipe : Nat := 54
abbrev n_X8_fault : Nat := 55
abbrev n_X8_lay : Nat := 56
abbrev n_X8_layItems : Nat := 57
abbrev n_X8_layItem : Nat := 58
abbrev n_X8_tell : Nat := 59
abbrev n_X8_strike : Nat := 60
abbrev n_X8_strikeLiars : Nat := 61
abbrev n_X8_drift : Nat := 62
abbrev n_X8_go : Nat := 63
abbrev n_X8_finishCommits : Nat := 64
abbrev n_X8_undo : Nat := 65
abbrev n_X8_span : Nat := 66
abbrev n_X8_agreed : Nat := 67
abbrev n_X8_good : Nat := 68
abbrev n_X8_in : Nat := 69
abbrev n_X8_liars : Nat := 70
abbrev n_X8_lookAround : Nat := 71
abbrev n_X8_commit : Nat := 72
abbrev n_X8_commitOf : Nat := 73
abbrev n_X8_waiting : Nat := 74
abbrev n_X8_safe : Nat := 75
abbrev n_X8_read : Nat := 76
abbrev n_X8_between : Nat := 77
abbrev n_X8_leap : Nat := 78
abbrev n_X8_smeared : Nat := 79
abbrev n_X8_back : Nat := 80
abbrev n_X8_count : Nat := 81
abbrev n_X8_isMaster : Nat := 82
abbrev n_X8_isKey : Nat := 83
abbrev n_X8_isDrift : Nat := 84
abbrev n_X8_isToldSpan : Nat := 85
abbrev n_X8_isAsked : Nat := 86
abbrev n_X8_isLeap : Nat := 87
abbrev n_X9_init : Nat := 88
abbrev n_X9_within : Nat := 89
abbrev n_X9_begin : Nat := 90
abbrev n_X9_putMaster : Nat := 91
abbrev n_X9_putLeap : Nat := 92
abbrev n_X9_take : Nat := 93
abbrev n_X9_takeNumber : Nat := 94
abbrev n_X9_takeSign : Nat := 95
abbrev n_X9_readMaster : Nat := 96
abbrev n_X9_readLeap : Nat := 97
abbrev n_X9_readItem : Nat := 98
abbrev n_X9_readText : Nat := 99
abbrev n_X9_write : Nat := 100
abbrev n_X9_wipe : Nat := 101
abbrev n_X9_fault : Nat := 102
abbrev n_X9_lay : Nat := 103
abbrev n_X9_note : Nat := 104
abbrev n_X9_undo : Nat := 105
abbrev n_X9_isMaster : Nat := 106
abbrev n_X9_isStruck : Nat := 107
abbrev n_X9_isHeard : Nat := 108
abbrev n_X9_heardMany : Nat := 109
abbrev n_X9_tell : Nat := 110
abbrev n_X9_strike : Nat := 111
abbrev n_X9_strikeLiars : Nat := 112
abbrev n_X9_drift : Nat := 113
abbrev n_X9_go : Nat := 114
abbrev n_X9_closeOpen : Nat := 115
abbrev n_X9_spanOf : Nat := 116
abbrev n_X9_manyAt : Nat := 117
abbrev n_X9_sameTo : Nat := 118
abbrev n_X9_find : Nat := 119
abbrev n_X9_isGood : Nat := 120
abbrev n_X9_span : Nat := 121
abbrev n_X9_agreed : Nat := 122
abbrev n_X9_good : Nat := 123
abbrev n_X9_in : Nat := 124
abbrev n_X9_liarsNow : Nat := 125
abbrev n_X9_liars : Nat := 126
abbrev n_X9_ones : Nat := 127
abbrev n_X9_openMany : Nat := 128
abbrev n_X9_latest : Nat := 129
abbrev n_X9_commit : Nat := 130
abbrev n_X9_isCommit : Nat := 131
abbrev n_X9_commitOf : Nat := 132
abbrev n_X9_waiting : Nat := 133
abbrev n_X9_safeNow : Nat := 134
abbrev n_X9_safe : Nat := 135
abbrev n_X9_read : Nat := 136
abbrev n_X9_between : Nat := 137
abbrev n_X9_leap : Nat := 138
abbrev n_X9_smear : Nat := 139
abbrev n_X9_smeared : Nat := 140
abbrev n_X9_back : Nat := 141
abbrev n_X9_count : Nat := 142
abbrev n_J6_bitCount : Nat := 143
abbrev n_J0_length : Nat := 144
abbrev n_J0_charAt : Nat := 145
abbrev n_J0_coder : Nat := 146
abbrev n_J0_isLatin1 : Nat := 147
abbrev n_J0_checkIndex : Nat := 148
abbrev n_J1_charAt : Nat := 149
abbrev n_J3_checkIndex : Nat := 150
end
section
/-! ===== THE PURE MACHINE: a method's run told over lists of cells; 'Sem' is its meaning over the kit's W; an instruction is a transformer with a soundness row ===== -/
def pm_ws : List Cond := lw_tbl.filter goodWord
def pm_nest : Cond → Bool
  | .fieldLinkNest _ _ _ _ _ _ => true
  | .methodLinkNest _ _ _ _ => true
  | _ => false
def pm_nw : List Cond := tables_1.filter pm_nest
/-- the surroundings: launch, classes, array classes, addresses (0 the script, 1 the String, 2 its bytes, 3 a formatter, k + 4 the cell k), the script, the formatter -/
abbrev pm_E : Type := Launch × va_G × (Nat → ClassId) × (Nat → Nat) × Nat × (Nat → Int32) × Value
abbrev pm_St : Type := List (Option Value) × List Value × List va_E × Nat × Nat
abbrev pm_Q : Type := Option Value → List va_E → Prop
abbrev pm_Op : Type := (pm_St → Prop) → (Nat → pm_St → Prop) → (Nat → List Value → List va_E → pm_Q → Prop) → (pm_St → Prop) → pm_Q → pm_St → Prop
abbrev pm_ad (E : pm_E) : Nat → Nat := E.2.2.2.1
abbrev pm_tc (E : pm_E) : Nat → ClassId := E.2.2.1
abbrev pm_L (E : pm_E) : Nat := E.2.2.2.2.1
abbrev pm_xs (E : pm_E) : Nat → Int32 := E.2.2.2.2.2.1
abbrev pm_fm (E : pm_E) : Value := E.2.2.2.2.2.2
def pm_v (E : pm_E) : Value → Value
  | .ref a => if a = 3 then pm_fm E else .ref (pm_ad E a)
  | v => v
def pm_c (E : pm_E) : va_E → va_E
  | .inl (t, n, .inr (.inr (.inr (.inr f)))) => .inl (pm_tc E t, n, .inr (.inr (.inr (.inr (fun j => (f j).map (pm_ad E))))))
  | .inl (t, a) => .inl (pm_tc E t, a)
  | .inr (ci, fs) => .inr (ci, fs.map (pm_v E))
def pm_w (E : pm_E) : Nat → List va_E → va_W
  | _, [] => []
  | k, e :: h => (pm_ad E (k + 4), pm_c E e) :: pm_w E (k + 1) h
theorem pm_w_get (E : pm_E) : ∀ (h : List va_E) (k i : Nat), (pm_w E k h)[i]? = (h[i]?).map (fun e => (pm_ad E (k + i + 4), pm_c E e))
  | [], k, i => by simp [pm_w]
  | e :: h, k, 0 => by simp [pm_w]
  | e :: h, k, i + 1 => by
    rw [pm_w, List.getElem?_cons_succ, List.getElem?_cons_succ, pm_w_get E h (k + 1) i, show k + 1 + i = k + (i + 1) by omega]
theorem pm_w_set (E : pm_E) : ∀ (h : List va_E) (k i : Nat) (x : va_E), pm_w E k (h.set i x) = (pm_w E k h).set i (pm_ad E (k + i + 4), pm_c E x)
  | [], k, i, x => by simp [pm_w]
  | e :: h, k, 0, x => by simp [pm_w]
  | e :: h, k, i + 1, x => by
    rw [List.set_cons_succ, pm_w, pm_w, List.set_cons_succ, pm_w_set E h (k + 1) i x, show k + 1 + i = k + (i + 1) by omega]
theorem pm_w_app (E : pm_E) : ∀ (h : List va_E) (k : Nat) (x : va_E), pm_w E k (h ++ [x]) = pm_w E k h ++ [(pm_ad E (k + h.length + 4), pm_c E x)]
  | [], k, x => by simp [pm_w]
  | e :: h, k, x => by
    rw [List.cons_append, pm_w, pm_w, pm_w_app E h (k + 1) x, List.cons_append, List.length_cons, show k + 1 + h.length = k + (h.length + 1) by omega]
theorem pm_v_cat (E : pm_E) (hf : (pm_fm E).category = 1) (v : Value) : (pm_v E v).category = v.category := by
  cases v <;> simp only [pm_v]
  split
  · rw [hf]; rfl
  · rfl
-- the locals
def pl_get : List (Option Value) → Nat → Option Value
  | [], _ => none
  | o :: _, 0 => o
  | _ :: l, n + 1 => pl_get l n
def pl_cut : Option Value → Option Value
  | some (.long _) => none
  | some (.double _) => none
  | o => o
def pl_set1 : List (Option Value) → Nat → Value → List (Option Value)
  | [], _, _ => []
  | _ :: l, 0, v => some v :: l
  | o :: l, 1, v => pl_cut o :: pl_set1 l 0 v
  | o :: l, n + 2, v => o :: pl_set1 l (n + 1) v
def pl_set2 : List (Option Value) → Nat → Value → List (Option Value)
  | [], _, _ => []
  | [_], 0, _ => [none]
  | _ :: _ :: l, 0, v => some v :: none :: l
  | o :: l, 1, v => pl_cut o :: pl_set2 l 0 v
  | o :: l, n + 2, v => o :: pl_set2 l (n + 1) v
def pl_f : List Value → List (Option Value)
  | [] => []
  | .long x :: vs => some (.long x) :: none :: pl_f vs
  | .double x :: vs => some (.double x) :: none :: pl_f vs
  | v :: vs => some v :: pl_f vs
def pl_pad : List (Option Value) → Nat → List (Option Value)
  | l, 0 => l
  | [], n + 1 => none :: pl_pad [] n
  | o :: l, n + 1 => o :: pl_pad l n
def pl_entry (n : Nat) (as : List Value) : List (Option Value) := pl_pad (pl_f as) n
def pl_has (E : pm_E) (la : Array Slot) (nL : Nat) (ls : List (Option Value)) : Prop := la.size = nL ∧ lv_wf la ∧ ∀ (i : Nat) (v : Value), pl_get ls i = some v → la[i]? = some (.val (pm_v E v))
theorem pl_get_lt : ∀ (ls : List (Option Value)) (i : Nat) (v : Value), pl_get ls i = some v → i < ls.length
  | [], i, v, h => by simp [pl_get] at h
  | o :: l, 0, v, _ => by simp
  | o :: l, i + 1, v, h => by
    have := pl_get_lt l i v (by simpa [pl_get] using h)
    simp; omega
theorem pl_cut_get {o : Option Value} {v : Value} (h : pl_cut o = some v) : o = some v ∧ ¬ v.category = 2 := by
  unfold pl_cut at h
  split at h
  · cases h
  · cases h
  · rename_i h1 h2
    subst h
    refine ⟨rfl, ?_⟩
    cases v <;> simp [Value.category] <;> first | exact h1 _ rfl | exact h2 _ rfl
theorem pl_set1_get : ∀ (ls : List (Option Value)) (i : Nat) (v : Value) (j : Nat) (w : Value), pl_get (pl_set1 ls i v) j = some w → (j = i ∧ w = v) ∨ (j ≠ i ∧ pl_get ls j = some w ∧ ¬ (j + 1 = i ∧ w.category = 2))
  | [], i, v, j, w, h => by simp [pl_set1, pl_get] at h
  | o :: l, 0, v, 0, w, h => by
    left; simp [pl_set1, pl_get] at h; exact ⟨rfl, h.symm⟩
  | o :: l, 0, v, j + 1, w, h => by
    right; simp [pl_set1, pl_get] at h ⊢; exact h
  | o :: l, 1, v, 0, w, h => by
    right
    simp only [pl_set1, pl_get] at h
    obtain ⟨h1, h2⟩ := pl_cut_get h
    exact ⟨by omega, by simpa [pl_get] using h1, fun q => h2 q.2⟩
  | o :: l, 1, v, j + 1, w, h => by
    simp only [pl_set1, pl_get] at h
    rcases pl_set1_get l 0 v j w h with ⟨h1, h2⟩ | ⟨h1, h2, h3⟩
    · left; exact ⟨by omega, h2⟩
    · right; exact ⟨by omega, by simpa [pl_get] using h2, fun q => by omega⟩
  | o :: l, n + 2, v, 0, w, h => by
    right
    simp only [pl_set1, pl_get] at h
    exact ⟨by omega, by simpa [pl_get] using h, fun q => by omega⟩
  | o :: l, n + 2, v, j + 1, w, h => by
    simp only [pl_set1, pl_get] at h
    rcases pl_set1_get l (n + 1) v j w h with ⟨h1, h2⟩ | ⟨h1, h2, h3⟩
    · left; exact ⟨by omega, h2⟩
    · right; exact ⟨by omega, by simpa [pl_get] using h2, fun q => h3 ⟨by omega, q.2⟩⟩
theorem pl_set2_get : ∀ (ls : List (Option Value)) (i : Nat) (v : Value) (j : Nat) (w : Value), pl_get (pl_set2 ls i v) j = some w → (j = i ∧ w = v) ∨ (j ≠ i ∧ j ≠ i + 1 ∧ pl_get ls j = some w ∧ ¬ (j + 1 = i ∧ w.category = 2))
  | [], i, v, j, w, h => by simp [pl_set2, pl_get] at h
  | [o], 0, v, 0, w, h => by simp [pl_set2, pl_get] at h
  | [o], 0, v, j + 1, w, h => by simp [pl_set2, pl_get] at h
  | o :: o2 :: l, 0, v, 0, w, h => by
    left; simp [pl_set2, pl_get] at h; exact ⟨rfl, h.symm⟩
  | o :: o2 :: l, 0, v, 1, w, h => by simp [pl_set2, pl_get] at h
  | o :: o2 :: l, 0, v, j + 2, w, h => by
    right; simp [pl_set2, pl_get] at h ⊢; exact h
  | o :: l, 1, v, 0, w, h => by
    right
    simp only [pl_set2, pl_get] at h
    obtain ⟨h1, h2⟩ := pl_cut_get h
    exact ⟨by omega, by omega, by simpa [pl_get] using h1, fun q => h2 q.2⟩
  | o :: l, 1, v, j + 1, w, h => by
    simp only [pl_set2, pl_get] at h
    rcases pl_set2_get l 0 v j w h with ⟨h1, h2⟩ | ⟨h1, h2, h3, h4⟩
    · left; exact ⟨by omega, h2⟩
    · right; exact ⟨by omega, by omega, by simpa [pl_get] using h3, fun q => by omega⟩
  | o :: l, n + 2, v, 0, w, h => by
    right
    simp only [pl_set2, pl_get] at h
    exact ⟨by omega, by omega, by simpa [pl_get] using h, fun q => by omega⟩
  | o :: l, n + 2, v, j + 1, w, h => by
    simp only [pl_set2, pl_get] at h
    rcases pl_set2_get l (n + 1) v j w h with ⟨h1, h2⟩ | ⟨h1, h2, h3, h4⟩
    · left; exact ⟨by omega, h2⟩
    · right; exact ⟨by omega, by omega, by simpa [pl_get] using h3, fun q => h4 ⟨by omega, q.2⟩⟩
/-- the listed values, as the kit's rows want them -/
def pl_list (E : pm_E) (ls : List (Option Value)) : List (Nat × Value) := (List.range ls.length).filterMap (fun i => (pl_get ls i).map (fun v => (i, pm_v E v)))
theorem pl_list_mem {E : pm_E} {ls : List (Option Value)} {q : Nat × Value} : q ∈ pl_list E ls ↔ ∃ v, pl_get ls q.1 = some v ∧ q.2 = pm_v E v := by
  unfold pl_list
  rw [List.mem_filterMap]
  constructor
  · rintro ⟨i, -, h⟩
    cases hg : pl_get ls i with
    | none => rw [hg] at h; cases h
    | some v => rw [hg] at h; cases h; exact ⟨v, hg, rfl⟩
  · rintro ⟨v, h1, h2⟩
    exact ⟨q.1, List.mem_range.mpr (pl_get_lt _ _ _ h1), by rw [h1]; show some (q.1, pm_v E v) = some q; rw [← h2]⟩
theorem pl_to {E : pm_E} {la : Array Slot} {nL : Nat} {ls : List (Option Value)} (h : pl_has E la nL ls) : lv_has la nL (pl_list E ls) := by
  refine ⟨h.1, h.2.1, fun q hq => ?_⟩
  obtain ⟨v, h1, h2⟩ := pl_list_mem.mp hq
  rw [h.2.2 _ _ h1, h2]
theorem pl_at {E : pm_E} {la : Array Slot} {nL : Nat} {ls : List (Option Value)} (h : pl_has E la nL ls) {i : Nat} {v : Value} (hv : pl_get ls i = some v) : la[i]? = some (.val (pm_v E v)) := h.2.2 _ _ hv
theorem pl_of1 {E : pm_E} (hf : (pm_fm E).category = 1) {la : Array Slot} {nL i : Nat} {ls : List (Option Value)} {v : Value} (h : lv_has la nL ((i, pm_v E v) :: (pl_list E ls).filter (fun q => !(q.1 == i) && !(q.1 + 1 == i && q.2.category == 2)))) : pl_has E la nL (pl_set1 ls i v) := by
  refine ⟨h.1, h.2.1, fun j w hw => ?_⟩
  rcases pl_set1_get _ _ _ _ _ hw with ⟨rfl, rfl⟩ | ⟨h1, h2, h3⟩
  · exact h.2.2 (j, pm_v E w) List.mem_cons_self
  · refine h.2.2 (j, pm_v E w) (List.mem_cons_of_mem _ (List.mem_filter.mpr ⟨pl_list_mem.mpr ⟨w, h2, rfl⟩, ?_⟩))
    simp only [pm_v_cat E hf]
    simp only [Bool.and_eq_true, Bool.not_eq_true', beq_eq_false_iff_ne, Bool.and_eq_false_iff]
    refine ⟨h1, ?_⟩
    by_cases hj : j + 1 = i
    · right
      intro q
      exact h3 ⟨hj, q⟩
    · exact Or.inl hj
theorem pl_of2 {E : pm_E} (hf : (pm_fm E).category = 1) {la : Array Slot} {nL i : Nat} {ls : List (Option Value)} {v : Value} (h : lv_has la nL ((i, pm_v E v) :: (pl_list E ls).filter (fun q => !(q.1 == i) && (!(q.1 == i + 1) && !(q.1 + 1 == i && q.2.category == 2))))) : pl_has E la nL (pl_set2 ls i v) := by
  refine ⟨h.1, h.2.1, fun j w hw => ?_⟩
  rcases pl_set2_get _ _ _ _ _ hw with ⟨rfl, rfl⟩ | ⟨h1, h1b, h2, h3⟩
  · exact h.2.2 (j, pm_v E w) List.mem_cons_self
  · refine h.2.2 (j, pm_v E w) (List.mem_cons_of_mem _ (List.mem_filter.mpr ⟨pl_list_mem.mpr ⟨w, h2, rfl⟩, ?_⟩))
    simp only [pm_v_cat E hf]
    simp only [Bool.and_eq_true, Bool.not_eq_true', beq_eq_false_iff_ne, Bool.and_eq_false_iff]
    refine ⟨h1, h1b, ?_⟩
    by_cases hj : j + 1 = i
    · right
      intro q
      exact h3 ⟨hj, q⟩
    · exact Or.inl hj
theorem pl_pad_get : ∀ (l : List (Option Value)) (n i : Nat) (v : Value), pl_get (pl_pad l n) i = some v → pl_get l i = some v
  | l, 0, i, v, h => by
    cases l <;> simpa [pl_pad] using h
  | [], n + 1, 0, v, h => by simp [pl_pad, pl_get] at h
  | [], n + 1, i + 1, v, h => by
    simp only [pl_pad, pl_get] at h
    have := pl_pad_get [] n i v h
    simp [pl_get] at this
  | o :: l, n + 1, 0, v, h => by simpa [pl_pad, pl_get] using h
  | o :: l, n + 1, i + 1, v, h => by
    simp only [pl_pad, pl_get] at h ⊢
    exact pl_pad_get l n i v h
theorem pl_f_args (E : pm_E) (hf : (pm_fm E).category = 1) : ∀ (as : List Value) (k i : Nat) (v : Value), pl_get (pl_f as) i = some v → (k + i, pm_v E v) ∈ lv_args k (as.map (pm_v E))
  | [], k, i, v, h => by simp [pl_f, pl_get] at h
  | a :: as, k, i, v, h => by
    have hc := pm_v_cat E hf a
    by_cases h2 : a.category = 2
    · have e1 : pl_f (a :: as) = some a :: none :: pl_f as := by
        cases a <;> simp [Value.category] at h2 <;> rfl
      rw [e1] at h
      rw [List.map_cons, lv_args, if_pos (by rw [hc]; exact h2)]
      match i, h with
      | 0, h =>
        simp only [pl_get, Option.some.injEq] at h
        subst h
        exact List.mem_cons_self
      | 1, h => simp [pl_get] at h
      | i + 2, h =>
        simp only [pl_get] at h
        have := pl_f_args E hf as (k + 2) i v h
        rw [show k + 2 + i = k + (i + 2) by omega] at this
        exact List.mem_cons_of_mem _ this
    · have e1 : pl_f (a :: as) = some a :: pl_f as := by
        cases a <;> simp [Value.category] at h2 <;> rfl
      rw [e1] at h
      rw [List.map_cons, lv_args, if_neg (by rw [hc]; exact h2)]
      match i, h with
      | 0, h =>
        simp only [pl_get, Option.some.injEq] at h
        subst h
        exact List.mem_cons_self
      | i + 1, h =>
        simp only [pl_get] at h
        have := pl_f_args E hf as (k + 1) i v h
        rw [show k + 1 + i = k + (i + 1) by omega] at this
        exact List.mem_cons_of_mem _ this
theorem pl_f_len (E : pm_E) (hf : (pm_fm E).category = 1) : ∀ (as : List Value), (lg_sl (as.map (pm_v E))).length = (pl_f as).length
  | [] => rfl
  | a :: as => by
    have ih := pl_f_len E hf as
    have hc := pm_v_cat E hf a
    unfold lg_sl at ih ⊢
    rw [List.map_cons, List.flatMap_cons, List.length_append, ih, hc]
    cases a <;> simp [Value.category, pl_f] <;> omega
end
section
-- which cells a run may change: all that came behind the law's entry
def pm_A (E : pm_E) : Nat → Prop := fun q => pm_ad E 4 ≤ q
abbrev pm_ty (E : pm_E) : List (ClassId × FieldType) := [(pm_tc E 0, .char), (pm_tc E 1, .int), (pm_tc E 2, .long), (pm_tc E 3, .object "DoubtTime$State")]
def pm_bytes : List Int32 := [100, 49, 48, 48, 48, 59, 109, 48, 44, 57, 57, 48, 44, 49, 48, 49, 48, 59, 109, 49, 44, 49, 48, 48, 48, 44, 49, 48, 51, 48, 59, 109, 50, 44, 57, 57, 53, 44, 49, 48, 48, 53, 59, 109, 51, 44, 50, 48, 48, 48, 44, 50, 48, 49, 48, 59, 115, 49, 53, 48, 48, 44, 49, 44, 49, 48, 48, 44, 48, 59]
def pm_text : String := "d1000;m0,990,1010;m1,1000,1030;m2,995,1005;m3,2000,2010;s1500,1,100,0;"
/-- what stands around: the script, the String constant, two statics, the class of arrays of states -/
def pm_G (E : pm_E) (U : State) (H : Heap) : Prop :=
  (∀ k, pm_ad E (k + 4) = pm_ad E 4 + k) ∧ (pm_fm E = .null ∨ ∃ t : Nat, pm_fm E = .ref t) ∧ (va_X (pm_ad E 0) (pm_L E) (pm_xs E) U H ∧ pm_ad E 0 < pm_ad E 4 ∧ pm_ad E 4 ≤ H.size) ∧ va_AO "DoubtTime$State" U ∧
  vk_R "DoubtTime" 51 pm_text (pm_ad E 1) U ∧ vk_S 1 [70] [pm_bytes] (fun _ => pm_ad E 1) (fun _ => pm_ad E 2) (pm_A E) U H ∧ va_Z "java/lang/String" "COMPACT_STRINGS" "Z" (.int 1) (pm_A E) U H ∧ va_Z "jdk/internal/util/Preconditions" "SIOOBE_FORMATTER" "Ljava/util/function/BiFunction;" (pm_fm E) (pm_A E) U H
theorem pm_fm_cat {E : pm_E} {U : State} {H : Heap} (h : pm_G E U H) : (pm_fm E).category = 1 := by
  rcases h.2.1 with q | ⟨t, q⟩ <;> rw [q] <;> rfl
theorem pm_G.warm {E : pm_E} {s U : State} {H H1 : Heap} (h : pm_G E s H) (hW : s.WarmedH U.vm) (hz : H.size ≤ H1.size) (hq : ∀ q : Nat, q < H.size → ¬ pm_A E q → H1[q]? = H[q]?) : pm_G E U H1 := by
  obtain ⟨h1, h2, ⟨h3, h4, h5⟩, h6, h7, h8, h9, h10⟩ := h
  have hlt : pm_ad E 0 < H.size := Nat.lt_of_lt_of_le h4 h5
  refine ⟨h1, h2, ⟨(h3.kept (hq _ hlt (Nat.not_le.mpr h4))).moved hW.alike, h4, Nat.le_trans h5 hz⟩, h6.moved hW.alike, h7.warm hW, (h8.kept hq).moved hW.alike, (h9.kept hq).moved hW.alike, (h10.kept hq).moved hW.alike⟩
theorem pm_G.blind {E : pm_E} {u U : State} (h : pm_G E u u.heap) (hv : u.vm = U.vm) (hh : U.heap = u.heap) : pm_G E U U.heap := by
  obtain ⟨h1, h2, ⟨h3, h4, h5⟩, h6, h7, h8, h9, h10⟩ := h
  have ha : u.vm.Alike U.vm := by rw [hv]; exact Vm.Alike.refl U.vm
  rw [hh]
  exact ⟨h1, h2, ⟨h3.moved ha, h4, h5⟩, h6.moved ha, h7.same hv.symm, h8.moved ha, h9.moved ha, h10.moved ha⟩
/-- a method's frame: what holds from its entry on -/
def pm_Fr (E : pm_E) (y n0 : Nat) (p : Program) (s : State) (m : MethodId) (args : Array Value) (meth : Method) (c : Code) : Prop :=
  p.tables.exec = Jvm.exec ∧ c.code = pm_cd y ∧ c.maxLocals = pm_mL y ∧ s.vm.findClass (pm_nm y).cls = some m.cls ∧ (∀ w ∈ pm_ws, w.before args s = true) ∧ (∀ w ∈ pm_nw, va_Nw w s) ∧ meth.sig.returnType = pm_rt y ∧ meth.locks = false ∧ meth.name = (pm_nm y).name ∧
  va_K E.2.1 vwCl (pm_ty E) s ∧ pm_G E s s.heap ∧ s.heap.size = pm_ad E 4 + n0
/-- the instruction that gives the answer back -/
def pm_rd (y pc : Nat) (r : Option Value) : Prop := match r with
  | none => decode (pm_cd y) pc = .ok (.return_, 1) ∧ pm_rt y = none
  | some (.int v) => decode (pm_cd y) pc = .ok (.ireturn, 1) ∧ ∃ ty, pm_rt y = some ty ∧ narrow ty (.int v) = .int v
  | some (.long _) => decode (pm_cd y) pc = .ok (.lreturn, 1) ∧ pm_rt y = some .long
  | _ => False
/-- THE MEANING: from this pure state at pc the method y comes to its end with an answer and cells of which Q says so -/
def Sm (E : pm_E) (y pc : Nat) (S : pm_St) (Q : pm_Q) : Prop :=
  ∀ (n0 : Nat) (p : Program) (e : Env) (s : State) (m : MethodId) (args : Array Value) (below : List Frame) (meth : Method) (c : Code) (H : Heap) (locs : List Loc) (la : Array Slot) (QQ : State → Prop),
    pm_Fr E y n0 p s m args meth c → va_P E.2.1 vwCl (pm_w E 0 S.2.2.1) H → va_S (pm_A E) s.heap H locs → pl_has E la (pm_mL y) S.1 → S.2.2.2.1 ≤ (pm_rm y).cells → S.2.2.2.2 ≤ (pm_rm y).slots → S.2.2.1.length = n0 + S.2.2.2.1 →
    (∀ (r : Option Value) (h : List va_E) (H' : Heap) (locs' : List Loc) (la' : Array Slot) (pc' : Nat), Q r h → pm_rd y pc' r → va_P E.2.1 vwCl (pm_w E 0 h) H' → va_S (pm_A E) s.heap H' locs' → (h.length = n0 + (pm_rm y).cells ∨ y = 0) →
      W p E.1 e (pm_rm y) s m args below meth c H' locs' (pm_rm y).cells (pm_rm y).slots QQ (F0 m pc' la' (r.toList.map (pm_v E)))) →
    W p E.1 e (pm_rm y) s m args below meth c H locs S.2.2.2.1 S.2.2.2.2 QQ (F0 m pc la (S.2.1.map (pm_v E)))
/-- a weaker end -/
theorem Sm.mono {E : pm_E} {y pc : Nat} {S : pm_St} {Q Q' : pm_Q} (h : Sm E y pc S Q) (hq : ∀ r t, Q r t → Q' r t) : Sm E y pc S Q' :=
  fun n0 p e s m args below meth c H locs la QQ F hP hS hl hk1 hk2 hn hend => h n0 p e s m args below meth c H locs la QQ F hP hS hl hk1 hk2 hn (fun r t H' locs' la' pc' q => hend r t H' locs' la' pc' (hq r t q))
/-- fewer locals are known -/
def pl_le : List (Option Value) → List (Option Value) → Prop
  | [], _ => True
  | none :: l, [] => pl_le l []
  | none :: l, _ :: l' => pl_le l l'
  | some _ :: _, [] => False
  | some v :: l, o :: l' => o = some v ∧ pl_le l l'
theorem pl_le_get : ∀ (l l' : List (Option Value)), pl_le l l' → ∀ (i : Nat) (v : Value), pl_get l i = some v → pl_get l' i = some v
  | [], _, _, i, v, h => by simp [pl_get] at h
  | none :: l, [], q, 0, v, h => by simp [pl_get] at h
  | none :: l, [], q, i + 1, v, h => by
    have := pl_le_get l [] (by simpa [pl_le] using q) i v (by simpa [pl_get] using h)
    simp [pl_get] at this
  | none :: l, _ :: l', q, 0, v, h => by simp [pl_get] at h
  | none :: l, _ :: l', q, i + 1, v, h => by
    simp only [pl_get]
    exact pl_le_get l l' (by simpa [pl_le] using q) i v (by simpa [pl_get] using h)
  | some _ :: _, [], q, i, v, h => by simp [pl_le] at q
  | some u :: l, o :: l', q, 0, v, h => by
    simp only [pl_le] at q
    simp only [pl_get] at h ⊢
    rw [q.1, h]
  | some u :: l, o :: l', q, i + 1, v, h => by
    simp only [pl_get]
    simp only [pl_le] at q
    exact pl_le_get l l' q.2 i v (by simpa [pl_get] using h)
theorem Sm.weak {E : pm_E} {y pc : Nat} {ls ls' : List (Option Value)} {x : List Value × List va_E × Nat × Nat} {Q : pm_Q} (h : Sm E y pc (ls, x) Q) (hl : pl_le ls ls') : Sm E y pc (ls', x) Q :=
  fun n0 p e s m args below meth c H locs la QQ F hP hS hla hk1 hk2 hn hend => h n0 p e s m args below meth c H locs la QQ F hP hS ⟨hla.1, hla.2.1, fun i v hv => hla.2.2 i v (pl_le_get _ _ hl i v hv)⟩ hk1 hk2 hn hend
/-- the addresses of the cells are apart -/
theorem pm_D {E : pm_E} (hE : ∀ k, pm_ad E (k + 4) = pm_ad E 4 + k) (h : List va_E) : va_D (pm_A E) (pm_w E 0 h) := by
  have key : ∀ (k : Nat) (q : Nat × va_E), (pm_w E 0 h)[k]? = some q → q.1 = pm_ad E 4 + k := by
    intro k q hq
    rw [pm_w_get] at hq
    cases hk : h[k]? with
    | none => rw [hk] at hq; cases hq
    | some x =>
      rw [hk] at hq
      cases hq
      show pm_ad E (0 + k + 4) = _
      rw [Nat.zero_add, hE]
  refine ⟨fun i j x z hi hj hxz => ?_, fun k q hk => ?_⟩
  · rw [key i x hi, key j z hj] at hxz
    omega
  · show pm_ad E 4 ≤ q.1
    rw [key k q hk]
    omega
/-- the heap's size is known -/
theorem pm_sz {E : pm_E} {y n0 : Nat} {p : Program} {l : Launch} {e : Env} {R : Room} {s : State} {m : MethodId} {args : Array Value} {below : List Frame} {meth : Method} {c : Code} {H : Heap} {locs : List Loc} {QQ : State → Prop} {g : JFrame} {h : List va_E} {kc ks : Nat}
    (F : pm_Fr E y n0 p s m args meth c) (hP : va_P E.2.1 vwCl (pm_w E 0 h) H) (hS : va_S (pm_A E) s.heap H locs) (hn : h.length = n0 + kc) (k : H.size = pm_ad E 4 + h.length → W p l e R s m args below meth c H locs kc ks QQ g) : W p l e R s m args below meth c H locs kc ks QQ g := by
  intro T hT X
  have h1 := X.heapSize
  rw [hT] at h1
  have h2 : s.heap.size = pm_ad E 4 + n0 := F.2.2.2.2.2.2.2.2.2.2.2
  have h3 : pm_ad E 4 + h.length ≤ H.size := by
    by_cases hk : kc = 0
    · have := hS.1
      omega
    · have hl : h.length - 1 < h.length := by omega
      have hq : (pm_w E 0 h)[h.length - 1]? = some (pm_ad E (0 + (h.length - 1) + 4), pm_c E h[h.length - 1]) := by
        rw [pm_w_get, List.getElem?_eq_getElem hl]
        rfl
      have hlt := (hP _ _ hq).lt
      simp only [Nat.zero_add] at hlt
      rw [F.2.2.2.2.2.2.2.2.2.2.1.1 (h.length - 1)] at hlt
      omega
  exact k (by omega) T hT X
theorem pm_nest_warm {w : Cond} (hw : pm_nest w = true) {s U : State} (hW : s.WarmedH U.vm) (h : va_Nw w s) : va_Nw w U := by
  cases w <;> simp [pm_nest] at hw
  · exact va_Nw.warmM hW h
  · exact va_Nw.warmF hW h
theorem pm_nest_same {w : Cond} (hw : pm_nest w = true) {u U : State} (hv : u.vm = U.vm) (h : va_Nw w u) : va_Nw w U := by
  cases w <;> simp [pm_nest] at hw
  · exact va_Nw.same rfl hv h
  · exact va_Nw.same rfl hv h
/-! a method's contract out of its meaning -/
def pm_Wd (y : Nat) : List Cond := Cond.code (pm_nm y) (pm_cd y) (pm_mL y) (pm_rt y) :: pm_ws
def pm_Pc (E : pm_E) (as : List Value) (h : List va_E) : Array Value → State → Prop := fun v U => v = (as.map (pm_v E)).toArray ∧ va_P E.2.1 vwCl (pm_w E 0 h) U.heap ∧ va_K E.2.1 vwCl (pm_ty E) U ∧ (∀ w ∈ pm_nw, va_Nw w U) ∧ pm_G E U U.heap ∧ U.heap.size = pm_ad E 4 + h.length
def pm_Qc (E : pm_E) (y : Nat) (h : List va_E) (K : pm_Q) : Array Value → State → Outcome → State → Prop := fun _ st oc t => (∃ (r : Option Value) (h' : List va_E), oc = .returned (r.map (pm_v E)) ∧ K r h' ∧ va_P E.2.1 vwCl (pm_w E 0 h') t.heap ∧ h'.length = h.length + (pm_rm y).cells) ∧ va_F (pm_A E) st t
theorem pm_blind (E : pm_E) (as : List Value) (h : List va_E) : FrameBlind (pm_Pc E as h) := by
  intro a U g mk hq
  obtain ⟨q0, qP, qK, qN, qG, qz⟩ := hq
  exact ⟨q0, qP, va_K.moved (u := U) (U := U.calling g mk a) (Vm.Alike.refl U.vm) qK, fun w hw => pm_nest_same (u := U) (U := U.calling g mk a) (List.mem_filter.mp hw).2 rfl (qN w hw), qG.blind (U := U.calling g mk a) rfl rfl, qz⟩
theorem pm_met {E : pm_E} {y : Nat} {as : List Value} {h : List va_E} {K : pm_Q} (hy0 : ¬ y = 0) (hy : plainName (pm_nm y).cls = true) (hlen : (pl_f as).length ≤ pm_mL y) (hS : Sm E y 0 (pl_entry (pm_mL y) as, [], h, 0, 0) K) :
    Met E.1 (pm_nm y) (pm_Wd y) (pm_rm y) (pm_Pc E as h) (pm_Qc E y h K) (pm_rm y).cells (pm_rm y).slots (pm_A E) := by
  refine Met.ofW (cc := pm_cd y) (maxL := pm_mL y) (ret := pm_rt y) hy rfl ?_
  intro p e s m args below meth c s₁ B hml hv
  obtain ⟨rfl, hP, hK, hN, hG, hsz⟩ := hv
  have hts := atoms_spec (ws := pm_Wd y) B.pre
  have hf := pm_fm_cat hG
  have hl := lv_entry (as.map (pm_v E)) (n := pm_mL y) (by rw [pl_f_len E hf]; exact hlen)
  rw [lg_entry_eq]
  generalize (lg_sl (as.map (pm_v E)) ++ List.replicate (pm_mL y - (lg_sl (as.map (pm_v E))).length) Slot.unset).toArray = la at hl ⊢
  refine hS h.length p e s m _ below meth c s.heap [] la _ ⟨B.exec, B.bytes, hml, findClass_of_methodNamed B.named, fun w hw => hts w (List.mem_cons_of_mem _ hw), hN, B.returns, B.notSynchronized, (name_of_methodNamed B.named B.method).1, hK, hG, hsz⟩ hP va_S.rf ⟨hl.1, hl.2.1, fun i v hi => ?_⟩ (Nat.zero_le _) (Nat.zero_le _) rfl ?_
  · have h1 := pl_f_args E hf as 0 i v (pl_pad_get _ _ _ _ hi)
    rw [Nat.zero_add] at h1
    exact hl.2.2 _ h1
  · intro r h' H' locs' la' pc' hq hrd hP' hS' hn'
    have hn' : h'.length = h.length + (pm_rm y).cells := hn'.resolve_right hy0
    have hlocks := B.notSynchronized
    have hr := B.returns
    have hpost : ∀ (t : State) (v : Option Value), v = r.map (pm_v E) → t.heap = H' → s.WarmedH t.vm → pm_Qc E y h K (as.map (pm_v E)).toArray s (.returned v) t := by
      intro t v hv ht hW
      exact ⟨⟨r, h', by rw [hv], hq, by rw [ht]; exact hP', hn'⟩, hS'.F ht⟩
    match r, hrd, hpost with
    | none, hrd, hpost => exact W.vret B.exec B.bytes (hr.trans hrd.2) (fun t ht hW => hpost t none rfl ht hW) hS'.2.2 hrd.1
    | some (.int v), hrd, hpost =>
      obtain ⟨hd, ty, hty, hnr⟩ := hrd
      exact W.zret B.exec B.bytes (hr.trans hty) hnr (fun t ht hW => hpost t (some (.int v)) rfl ht hW) hS'.2.2 hd
    | some (.long v), hrd, hpost => exact W.lret B.exec B.bytes (hr.trans hrd.2) (fun t ht hW => hpost t (some (.long v)) rfl ht hW) hS'.2.2 hrd.1
end
section
/-! ===== instructions: transformers po_, their soundness rows ps_ (printed by gen05.py) ===== -/
def pm_Snd (E : pm_E) (y pc nx : Nat) (op : pm_Op) : Prop :=
  ∀ (N : pm_St → Prop) (J : Nat → pm_St → Prop) (C : Nat → List Value → List va_E → pm_Q → Prop) (M : pm_St → Prop) (Q : pm_Q) (S : pm_St), (∀ S', N S' → Sm E y nx S' Q) → (∀ t S', J t S' → Sm E y t S' Q) → (∀ y' as h K, C y' as h K → Sm E y' 0 (pl_entry (pm_mL y') as, [], h, 0, 0) K) → (∀ S', M S' → Sm E y pc S' Q) → op N J C M Q S → Sm E y pc S Q
theorem pm_Snd.at {E : pm_E} {y pc nx nx' : Nat} {op : pm_Op} (h : pm_Snd E y pc nx op) (hn : nx = nx') : pm_Snd E y pc nx' op := hn ▸ h
def pk_i (st : List Value) (k : Int32 → List Value → Prop) : Prop := match st with
  | .int a :: r => k a r
  | _ => False
theorem pk_i_of {st : List Value} {k : Int32 → List Value → Prop} (h : pk_i st k) : ∃ (a : Int32) (r : List Value), st = .int a :: r ∧ k a r := by
  unfold pk_i at h
  split at h
  · exact ⟨_, _, rfl, h⟩
  · exact h.elim
def pk_l (st : List Value) (k : Int64 → List Value → Prop) : Prop := match st with
  | .long a :: r => k a r
  | _ => False
theorem pk_l_of {st : List Value} {k : Int64 → List Value → Prop} (h : pk_l st k) : ∃ (a : Int64) (r : List Value), st = .long a :: r ∧ k a r := by
  unfold pk_l at h
  split at h
  · exact ⟨_, _, rfl, h⟩
  · exact h.elim
def pk_ii (st : List Value) (k : Int32 → Int32 → List Value → Prop) : Prop := match st with
  | .int b :: .int a :: r => k a b r
  | _ => False
theorem pk_ii_of {st : List Value} {k : Int32 → Int32 → List Value → Prop} (h : pk_ii st k) : ∃ (a : Int32) (b : Int32) (r : List Value), st = .int b :: .int a :: r ∧ k a b r := by
  unfold pk_ii at h
  split at h
  · exact ⟨_, _, _, rfl, h⟩
  · exact h.elim
def pk_ll (st : List Value) (k : Int64 → Int64 → List Value → Prop) : Prop := match st with
  | .long b :: .long a :: r => k a b r
  | _ => False
theorem pk_ll_of {st : List Value} {k : Int64 → Int64 → List Value → Prop} (h : pk_ll st k) : ∃ (a : Int64) (b : Int64) (r : List Value), st = .long b :: .long a :: r ∧ k a b r := by
  unfold pk_ll at h
  split at h
  · exact ⟨_, _, _, rfl, h⟩
  · exact h.elim
def pk_li (st : List Value) (k : Int64 → Int32 → List Value → Prop) : Prop := match st with
  | .int b :: .long a :: r => k a b r
  | _ => False
theorem pk_li_of {st : List Value} {k : Int64 → Int32 → List Value → Prop} (h : pk_li st k) : ∃ (a : Int64) (b : Int32) (r : List Value), st = .int b :: .long a :: r ∧ k a b r := by
  unfold pk_li at h
  split at h
  · exact ⟨_, _, _, rfl, h⟩
  · exact h.elim
def pk_r (st : List Value) (k : Nat → List Value → Prop) : Prop := match st with
  | .ref a :: r => k a r
  | _ => False
theorem pk_r_of {st : List Value} {k : Nat → List Value → Prop} (h : pk_r st k) : ∃ (a : Nat) (r : List Value), st = .ref a :: r ∧ k a r := by
  unfold pk_r at h
  split at h
  · exact ⟨_, _, rfl, h⟩
  · exact h.elim
def pk_ri (st : List Value) (k : Nat → Int32 → List Value → Prop) : Prop := match st with
  | .int i :: .ref a :: r => k a i r
  | _ => False
theorem pk_ri_of {st : List Value} {k : Nat → Int32 → List Value → Prop} (h : pk_ri st k) : ∃ (a : Nat) (i : Int32) (r : List Value), st = .int i :: .ref a :: r ∧ k a i r := by
  unfold pk_ri at h
  split at h
  · exact ⟨_, _, _, rfl, h⟩
  · exact h.elim
def pk_rii (st : List Value) (k : Nat → Int32 → Int32 → List Value → Prop) : Prop := match st with
  | .int x :: .int i :: .ref a :: r => k a i x r
  | _ => False
theorem pk_rii_of {st : List Value} {k : Nat → Int32 → Int32 → List Value → Prop} (h : pk_rii st k) : ∃ (a : Nat) (i : Int32) (x : Int32) (r : List Value), st = .int x :: .int i :: .ref a :: r ∧ k a i x r := by
  unfold pk_rii at h
  split at h
  · exact ⟨_, _, _, _, rfl, h⟩
  · exact h.elim
def pk_ril (st : List Value) (k : Nat → Int32 → Int64 → List Value → Prop) : Prop := match st with
  | .long x :: .int i :: .ref a :: r => k a i x r
  | _ => False
theorem pk_ril_of {st : List Value} {k : Nat → Int32 → Int64 → List Value → Prop} (h : pk_ril st k) : ∃ (a : Nat) (i : Int32) (x : Int64) (r : List Value), st = .long x :: .int i :: .ref a :: r ∧ k a i x r := by
  unfold pk_ril at h
  split at h
  · exact ⟨_, _, _, _, rfl, h⟩
  · exact h.elim
def pk_rir (st : List Value) (k : Nat → Int32 → Nat → List Value → Prop) : Prop := match st with
  | .ref x :: .int i :: .ref a :: r => k a i x r
  | _ => False
theorem pk_rir_of {st : List Value} {k : Nat → Int32 → Nat → List Value → Prop} (h : pk_rir st k) : ∃ (a : Nat) (i : Int32) (x : Nat) (r : List Value), st = .ref x :: .int i :: .ref a :: r ∧ k a i x r := by
  unfold pk_rir at h
  split at h
  · exact ⟨_, _, _, _, rfl, h⟩
  · exact h.elim
def pk_vr (st : List Value) (k : Nat → Value → List Value → Prop) : Prop := match st with
  | v :: .ref a :: r => k a v r
  | _ => False
theorem pk_vr_of {st : List Value} {k : Nat → Value → List Value → Prop} (h : pk_vr st k) : ∃ (a : Nat) (v : Value) (r : List Value), st = v :: .ref a :: r ∧ k a v r := by
  unfold pk_vr at h
  split at h
  · exact ⟨_, _, _, rfl, h⟩
  · exact h.elim
def pk_v (st : List Value) (k : Value → List Value → Prop) : Prop := match st with
  | v :: r => k v r
  | _ => False
theorem pk_v_of {st : List Value} {k : Value → List Value → Prop} (h : pk_v st k) : ∃ (v : Value) (r : List Value), st = v :: r ∧ k v r := by
  unfold pk_v at h
  split at h
  · exact ⟨_, _, rfl, h⟩
  · exact h.elim
def po_iadd : pm_Op := fun N _ _ _ _ s => match s with
  | (ls, st, x) => pk_ii st fun a b r => N (ls, .int (a + b) :: r, x)
theorem ps_iadd {E : pm_E} {y pc : Nat} (hd : decode (pm_cd y) pc = .ok (.iadd, 1)) : pm_Snd E y pc (pc + 1) po_iadd := by
  intro N J C M Q S hN hJ hC hM h
  obtain ⟨ls, st, x⟩ := S
  obtain ⟨a, b, r, rfl, h⟩ := pk_ii_of h
  intro n0 p e s m args below meth c H locs la QQ F hP hS hl hk1 hk2 hn hend
  exact lv_iadd F.1 F.2.1 hd  (hN _ h n0 p e s m args below meth c H locs la QQ F hP hS hl hk1 hk2 hn hend)
def po_isub : pm_Op := fun N _ _ _ _ s => match s with
  | (ls, st, x) => pk_ii st fun a b r => N (ls, .int (a - b) :: r, x)
theorem ps_isub {E : pm_E} {y pc : Nat} (hd : decode (pm_cd y) pc = .ok (.isub, 1)) : pm_Snd E y pc (pc + 1) po_isub := by
  intro N J C M Q S hN hJ hC hM h
  obtain ⟨ls, st, x⟩ := S
  obtain ⟨a, b, r, rfl, h⟩ := pk_ii_of h
  intro n0 p e s m args below meth c H locs la QQ F hP hS hl hk1 hk2 hn hend
  exact lv_isub F.1 F.2.1 hd  (hN _ h n0 p e s m args below meth c H locs la QQ F hP hS hl hk1 hk2 hn hend)
def po_imul : pm_Op := fun N _ _ _ _ s => match s with
  | (ls, st, x) => pk_ii st fun a b r => N (ls, .int (a * b) :: r, x)
theorem ps_imul {E : pm_E} {y pc : Nat} (hd : decode (pm_cd y) pc = .ok (.imul, 1)) : pm_Snd E y pc (pc + 1) po_imul := by
  intro N J C M Q S hN hJ hC hM h
  obtain ⟨ls, st, x⟩ := S
  obtain ⟨a, b, r, rfl, h⟩ := pk_ii_of h
  intro n0 p e s m args below meth c H locs la QQ F hP hS hl hk1 hk2 hn hend
  exact lv_imul F.1 F.2.1 hd  (hN _ h n0 p e s m args below meth c H locs la QQ F hP hS hl hk1 hk2 hn hend)
def po_iand : pm_Op := fun N _ _ _ _ s => match s with
  | (ls, st, x) => pk_ii st fun a b r => N (ls, .int (a &&& b) :: r, x)
theorem ps_iand {E : pm_E} {y pc : Nat} (hd : decode (pm_cd y) pc = .ok (.iand, 1)) : pm_Snd E y pc (pc + 1) po_iand := by
  intro N J C M Q S hN hJ hC hM h
  obtain ⟨ls, st, x⟩ := S
  obtain ⟨a, b, r, rfl, h⟩ := pk_ii_of h
  intro n0 p e s m args below meth c H locs la QQ F hP hS hl hk1 hk2 hn hend
  exact lv_iand F.1 F.2.1 hd  (hN _ h n0 p e s m args below meth c H locs la QQ F hP hS hl hk1 hk2 hn hend)
def po_ior : pm_Op := fun N _ _ _ _ s => match s with
  | (ls, st, x) => pk_ii st fun a b r => N (ls, .int (a ||| b) :: r, x)
theorem ps_ior {E : pm_E} {y pc : Nat} (hd : decode (pm_cd y) pc = .ok (.ior, 1)) : pm_Snd E y pc (pc + 1) po_ior := by
  intro N J C M Q S hN hJ hC hM h
  obtain ⟨ls, st, x⟩ := S
  obtain ⟨a, b, r, rfl, h⟩ := pk_ii_of h
  intro n0 p e s m args below meth c H locs la QQ F hP hS hl hk1 hk2 hn hend
  exact lv_ior F.1 F.2.1 hd  (hN _ h n0 p e s m args below meth c H locs la QQ F hP hS hl hk1 hk2 hn hend)
def po_ixor : pm_Op := fun N _ _ _ _ s => match s with
  | (ls, st, x) => pk_ii st fun a b r => N (ls, .int (a ^^^ b) :: r, x)
theorem ps_ixor {E : pm_E} {y pc : Nat} (hd : decode (pm_cd y) pc = .ok (.ixor, 1)) : pm_Snd E y pc (pc + 1) po_ixor := by
  intro N J C M Q S hN hJ hC hM h
  obtain ⟨ls, st, x⟩ := S
  obtain ⟨a, b, r, rfl, h⟩ := pk_ii_of h
  intro n0 p e s m args below meth c H locs la QQ F hP hS hl hk1 hk2 hn hend
  exact lv_ixor F.1 F.2.1 hd  (hN _ h n0 p e s m args below meth c H locs la QQ F hP hS hl hk1 hk2 hn hend)
def po_ladd : pm_Op := fun N _ _ _ _ s => match s with
  | (ls, st, x) => pk_ll st fun a b r => N (ls, .long (a + b) :: r, x)
theorem ps_ladd {E : pm_E} {y pc : Nat} (hd : decode (pm_cd y) pc = .ok (.ladd, 1)) : pm_Snd E y pc (pc + 1) po_ladd := by
  intro N J C M Q S hN hJ hC hM h
  obtain ⟨ls, st, x⟩ := S
  obtain ⟨a, b, r, rfl, h⟩ := pk_ll_of h
  intro n0 p e s m args below meth c H locs la QQ F hP hS hl hk1 hk2 hn hend
  exact lv_ladd F.1 F.2.1 hd  (hN _ h n0 p e s m args below meth c H locs la QQ F hP hS hl hk1 hk2 hn hend)
def po_lsub : pm_Op := fun N _ _ _ _ s => match s with
  | (ls, st, x) => pk_ll st fun a b r => N (ls, .long (a - b) :: r, x)
theorem ps_lsub {E : pm_E} {y pc : Nat} (hd : decode (pm_cd y) pc = .ok (.lsub, 1)) : pm_Snd E y pc (pc + 1) po_lsub := by
  intro N J C M Q S hN hJ hC hM h
  obtain ⟨ls, st, x⟩ := S
  obtain ⟨a, b, r, rfl, h⟩ := pk_ll_of h
  intro n0 p e s m args below meth c H locs la QQ F hP hS hl hk1 hk2 hn hend
  exact lv_lsub F.1 F.2.1 hd  (hN _ h n0 p e s m args below meth c H locs la QQ F hP hS hl hk1 hk2 hn hend)
def po_lmul : pm_Op := fun N _ _ _ _ s => match s with
  | (ls, st, x) => pk_ll st fun a b r => N (ls, .long (a * b) :: r, x)
theorem ps_lmul {E : pm_E} {y pc : Nat} (hd : decode (pm_cd y) pc = .ok (.lmul, 1)) : pm_Snd E y pc (pc + 1) po_lmul := by
  intro N J C M Q S hN hJ hC hM h
  obtain ⟨ls, st, x⟩ := S
  obtain ⟨a, b, r, rfl, h⟩ := pk_ll_of h
  intro n0 p e s m args below meth c H locs la QQ F hP hS hl hk1 hk2 hn hend
  exact lv_lmul F.1 F.2.1 hd  (hN _ h n0 p e s m args below meth c H locs la QQ F hP hS hl hk1 hk2 hn hend)
def po_land : pm_Op := fun N _ _ _ _ s => match s with
  | (ls, st, x) => pk_ll st fun a b r => N (ls, .long (a &&& b) :: r, x)
theorem ps_land {E : pm_E} {y pc : Nat} (hd : decode (pm_cd y) pc = .ok (.land, 1)) : pm_Snd E y pc (pc + 1) po_land := by
  intro N J C M Q S hN hJ hC hM h
  obtain ⟨ls, st, x⟩ := S
  obtain ⟨a, b, r, rfl, h⟩ := pk_ll_of h
  intro n0 p e s m args below meth c H locs la QQ F hP hS hl hk1 hk2 hn hend
  exact lv_land F.1 F.2.1 hd  (hN _ h n0 p e s m args below meth c H locs la QQ F hP hS hl hk1 hk2 hn hend)
def po_lor : pm_Op := fun N _ _ _ _ s => match s with
  | (ls, st, x) => pk_ll st fun a b r => N (ls, .long (a ||| b) :: r, x)
theorem ps_lor {E : pm_E} {y pc : Nat} (hd : decode (pm_cd y) pc = .ok (.lor, 1)) : pm_Snd E y pc (pc + 1) po_lor := by
  intro N J C M Q S hN hJ hC hM h
  obtain ⟨ls, st, x⟩ := S
  obtain ⟨a, b, r, rfl, h⟩ := pk_ll_of h
  intro n0 p e s m args below meth c H locs la QQ F hP hS hl hk1 hk2 hn hend
  exact lv_lor F.1 F.2.1 hd  (hN _ h n0 p e s m args below meth c H locs la QQ F hP hS hl hk1 hk2 hn hend)
def po_lxor : pm_Op := fun N _ _ _ _ s => match s with
  | (ls, st, x) => pk_ll st fun a b r => N (ls, .long (a ^^^ b) :: r, x)
theorem ps_lxor {E : pm_E} {y pc : Nat} (hd : decode (pm_cd y) pc = .ok (.lxor, 1)) : pm_Snd E y pc (pc + 1) po_lxor := by
  intro N J C M Q S hN hJ hC hM h
  obtain ⟨ls, st, x⟩ := S
  obtain ⟨a, b, r, rfl, h⟩ := pk_ll_of h
  intro n0 p e s m args below meth c H locs la QQ F hP hS hl hk1 hk2 hn hend
  exact lv_lxor F.1 F.2.1 hd  (hN _ h n0 p e s m args below meth c H locs la QQ F hP hS hl hk1 hk2 hn hend)
def po_ldiv : pm_Op := fun N _ _ _ _ s => match s with
  | (ls, st, x) => pk_ll st fun a b r => (¬ b = 0) ∧ N (ls, .long (a / b) :: r, x)
theorem ps_ldiv {E : pm_E} {y pc : Nat} (hd : decode (pm_cd y) pc = .ok (.ldiv, 1)) : pm_Snd E y pc (pc + 1) po_ldiv := by
  intro N J C M Q S hN hJ hC hM h
  obtain ⟨ls, st, x⟩ := S
  obtain ⟨a, b, r, rfl, h⟩ := pk_ll_of h
  obtain ⟨hne, h⟩ := h
  intro n0 p e s m args below meth c H locs la QQ F hP hS hl hk1 hk2 hn hend
  exact lv_ldiv F.1 F.2.1 hd hne (hN _ h n0 p e s m args below meth c H locs la QQ F hP hS hl hk1 hk2 hn hend)
def po_irem : pm_Op := fun N _ _ _ _ s => match s with
  | (ls, st, x) => pk_ii st fun a b r => (¬ b = 0) ∧ N (ls, .int (a - a / b * b) :: r, x)
theorem ps_irem {E : pm_E} {y pc : Nat} (hd : decode (pm_cd y) pc = .ok (.irem, 1)) : pm_Snd E y pc (pc + 1) po_irem := by
  intro N J C M Q S hN hJ hC hM h
  obtain ⟨ls, st, x⟩ := S
  obtain ⟨a, b, r, rfl, h⟩ := pk_ii_of h
  obtain ⟨hne, h⟩ := h
  intro n0 p e s m args below meth c H locs la QQ F hP hS hl hk1 hk2 hn hend
  exact lv_irem F.1 F.2.1 hd hne (hN _ h n0 p e s m args below meth c H locs la QQ F hP hS hl hk1 hk2 hn hend)
def po_ishl : pm_Op := fun N _ _ _ _ s => match s with
  | (ls, st, x) => pk_ii st fun a b r => N (ls, .int (a <<< (b &&& 31)) :: r, x)
theorem ps_ishl {E : pm_E} {y pc : Nat} (hd : decode (pm_cd y) pc = .ok (.ishl, 1)) : pm_Snd E y pc (pc + 1) po_ishl := by
  intro N J C M Q S hN hJ hC hM h
  obtain ⟨ls, st, x⟩ := S
  obtain ⟨a, b, r, rfl, h⟩ := pk_ii_of h
  intro n0 p e s m args below meth c H locs la QQ F hP hS hl hk1 hk2 hn hend
  exact lv_ishl F.1 F.2.1 hd  (hN _ h n0 p e s m args below meth c H locs la QQ F hP hS hl hk1 hk2 hn hend)
def po_ishr : pm_Op := fun N _ _ _ _ s => match s with
  | (ls, st, x) => pk_ii st fun a b r => N (ls, .int (a >>> (b &&& 31)) :: r, x)
theorem ps_ishr {E : pm_E} {y pc : Nat} (hd : decode (pm_cd y) pc = .ok (.ishr, 1)) : pm_Snd E y pc (pc + 1) po_ishr := by
  intro N J C M Q S hN hJ hC hM h
  obtain ⟨ls, st, x⟩ := S
  obtain ⟨a, b, r, rfl, h⟩ := pk_ii_of h
  intro n0 p e s m args below meth c H locs la QQ F hP hS hl hk1 hk2 hn hend
  exact lv_ishr F.1 F.2.1 hd  (hN _ h n0 p e s m args below meth c H locs la QQ F hP hS hl hk1 hk2 hn hend)
def po_iushr : pm_Op := fun N _ _ _ _ s => match s with
  | (ls, st, x) => pk_ii st fun a b r => N (ls, .int ((a.toUInt32 >>> (b.toUInt32 &&& Int32.toUInt32 31)).toInt32) :: r, x)
theorem ps_iushr {E : pm_E} {y pc : Nat} (hd : decode (pm_cd y) pc = .ok (.iushr, 1)) : pm_Snd E y pc (pc + 1) po_iushr := by
  intro N J C M Q S hN hJ hC hM h
  obtain ⟨ls, st, x⟩ := S
  obtain ⟨a, b, r, rfl, h⟩ := pk_ii_of h
  intro n0 p e s m args below meth c H locs la QQ F hP hS hl hk1 hk2 hn hend
  exact lv_iushr F.1 F.2.1 hd rfl (hN _ h n0 p e s m args below meth c H locs la QQ F hP hS hl hk1 hk2 hn hend)
def po_lshl : pm_Op := fun N _ _ _ _ s => match s with
  | (ls, st, x) => pk_li st fun a b r => N (ls, .long (a <<< (b.toInt64 &&& 63)) :: r, x)
theorem ps_lshl {E : pm_E} {y pc : Nat} (hd : decode (pm_cd y) pc = .ok (.lshl, 1)) : pm_Snd E y pc (pc + 1) po_lshl := by
  intro N J C M Q S hN hJ hC hM h
  obtain ⟨ls, st, x⟩ := S
  obtain ⟨a, b, r, rfl, h⟩ := pk_li_of h
  intro n0 p e s m args below meth c H locs la QQ F hP hS hl hk1 hk2 hn hend
  exact lv_lshl F.1 F.2.1 hd rfl (hN _ h n0 p e s m args below meth c H locs la QQ F hP hS hl hk1 hk2 hn hend)
def po_lshr : pm_Op := fun N _ _ _ _ s => match s with
  | (ls, st, x) => pk_li st fun a b r => N (ls, .long (a >>> (b.toInt64 &&& 63)) :: r, x)
theorem ps_lshr {E : pm_E} {y pc : Nat} (hd : decode (pm_cd y) pc = .ok (.lshr, 1)) : pm_Snd E y pc (pc + 1) po_lshr := by
  intro N J C M Q S hN hJ hC hM h
  obtain ⟨ls, st, x⟩ := S
  obtain ⟨a, b, r, rfl, h⟩ := pk_li_of h
  intro n0 p e s m args below meth c H locs la QQ F hP hS hl hk1 hk2 hn hend
  exact lv_lshr F.1 F.2.1 hd rfl (hN _ h n0 p e s m args below meth c H locs la QQ F hP hS hl hk1 hk2 hn hend)
def po_i2l : pm_Op := fun N _ _ _ _ s => match s with
  | (ls, st, x) => pk_i st fun a r => N (ls, .long a.toInt64 :: r, x)
theorem ps_i2l {E : pm_E} {y pc : Nat} (hd : decode (pm_cd y) pc = .ok (.i2l, 1)) : pm_Snd E y pc (pc + 1) po_i2l := by
  intro N J C M Q S hN hJ hC hM h
  obtain ⟨ls, st, x⟩ := S
  obtain ⟨a, r, rfl, h⟩ := pk_i_of h
  intro n0 p e s m args below meth c H locs la QQ F hP hS hl hk1 hk2 hn hend
  exact lv_i2l F.1 F.2.1 hd rfl (hN _ h n0 p e s m args below meth c H locs la QQ F hP hS hl hk1 hk2 hn hend)
def po_l2i : pm_Op := fun N _ _ _ _ s => match s with
  | (ls, st, x) => pk_l st fun a r => N (ls, .int a.toInt32 :: r, x)
theorem ps_l2i {E : pm_E} {y pc : Nat} (hd : decode (pm_cd y) pc = .ok (.l2i, 1)) : pm_Snd E y pc (pc + 1) po_l2i := by
  intro N J C M Q S hN hJ hC hM h
  obtain ⟨ls, st, x⟩ := S
  obtain ⟨a, r, rfl, h⟩ := pk_l_of h
  intro n0 p e s m args below meth c H locs la QQ F hP hS hl hk1 hk2 hn hend
  exact lv_l2i F.1 F.2.1 hd rfl (hN _ h n0 p e s m args below meth c H locs la QQ F hP hS hl hk1 hk2 hn hend)
def po_i2c : pm_Op := fun N _ _ _ _ s => match s with
  | (ls, st, x) => pk_i st fun a r => N (ls, .int (a.toUInt32 % 65536).toInt32 :: r, x)
theorem ps_i2c {E : pm_E} {y pc : Nat} (hd : decode (pm_cd y) pc = .ok (.i2c, 1)) : pm_Snd E y pc (pc + 1) po_i2c := by
  intro N J C M Q S hN hJ hC hM h
  obtain ⟨ls, st, x⟩ := S
  obtain ⟨a, r, rfl, h⟩ := pk_i_of h
  intro n0 p e s m args below meth c H locs la QQ F hP hS hl hk1 hk2 hn hend
  exact lv_i2c F.1 F.2.1 hd rfl (hN _ h n0 p e s m args below meth c H locs la QQ F hP hS hl hk1 hk2 hn hend)
def po_ic (v : Int32) : pm_Op := fun N _ _ _ _ s => match s with
  | (ls, st, x) => N (ls, .int v :: st, x)
def po_lc (v : Int64) : pm_Op := fun N _ _ _ _ s => match s with
  | (ls, st, x) => N (ls, .long v :: st, x)
theorem ps_iconst {E : pm_E} {y pc : Nat} {n : Int} {v : Int32} (hd : decode (pm_cd y) pc = .ok (.iconst n, 1)) (hv : Int32.ofInt n = v) : pm_Snd E y pc (pc + 1) (po_ic v) := by
  intro N J C M Q S hN hJ hC hM h
  obtain ⟨ls, st, x⟩ := S
  intro n0 p e s m args below meth c H locs la QQ F hP hS hl hk1 hk2 hn hend
  exact lv_iconst F.1 F.2.1 hd hv (hN _ h n0 p e s m args below meth c H locs la QQ F hP hS hl hk1 hk2 hn hend)
theorem ps_bipush {E : pm_E} {y pc : Nat} {n : Int} {v : Int32} (hd : decode (pm_cd y) pc = .ok (.bipush n, 2)) (hv : (Int8.ofInt n).toInt32 = v) : pm_Snd E y pc (pc + 2) (po_ic v) := by
  intro N J C M Q S hN hJ hC hM h
  obtain ⟨ls, st, x⟩ := S
  intro n0 p e s m args below meth c H locs la QQ F hP hS hl hk1 hk2 hn hend
  exact lv_bipush F.1 F.2.1 hd hv (hN _ h n0 p e s m args below meth c H locs la QQ F hP hS hl hk1 hk2 hn hend)
theorem ps_sipush {E : pm_E} {y pc : Nat} {n : Int} {v : Int32} (hd : decode (pm_cd y) pc = .ok (.sipush n, 3)) (hv : (Int16.ofInt n).toInt32 = v) : pm_Snd E y pc (pc + 3) (po_ic v) := by
  intro N J C M Q S hN hJ hC hM h
  obtain ⟨ls, st, x⟩ := S
  intro n0 p e s m args below meth c H locs la QQ F hP hS hl hk1 hk2 hn hend
  exact lv_sipush F.1 F.2.1 hd hv (hN _ h n0 p e s m args below meth c H locs la QQ F hP hS hl hk1 hk2 hn hend)
theorem ps_lconst {E : pm_E} {y pc : Nat} {n : Fin 2} {v : Int64} (hd : decode (pm_cd y) pc = .ok (.lconst n, 1)) (hv : Int64.ofNat (n : Nat) = v) : pm_Snd E y pc (pc + 1) (po_lc v) := by
  intro N J C M Q S hN hJ hC hM h
  obtain ⟨ls, st, x⟩ := S
  intro n0 p e s m args below meth c H locs la QQ F hP hS hl hk1 hk2 hn hend
  exact lv_lconst F.1 F.2.1 hd hv (hN _ h n0 p e s m args below meth c H locs la QQ F hP hS hl hk1 hk2 hn hend)
theorem ps_ldc {E : pm_E} {y pc : Nat} {n : Nat} {v : Int32} (hd : decode (pm_cd y) pc = .ok (.ldc n, 2)) (hw : Cond.constant (pm_nm y).cls n v ∈ pm_ws) : pm_Snd E y pc (pc + 2) (po_ic v) := by
  intro N J C M Q S hN hJ hC hM h
  obtain ⟨ls, st, x⟩ := S
  intro n0 p e s m args below meth c H locs la QQ F hP hS hl hk1 hk2 hn hend
  exact lv_ldc F.1 F.2.1 F.2.2.2.1 (F.2.2.2.2.1 _ hw) hd (hN _ h n0 p e s m args below meth c H locs la QQ F hP hS hl hk1 hk2 hn hend)
theorem ps_ldcw {E : pm_E} {y pc : Nat} {n : Nat} {v : Int32} (hd : decode (pm_cd y) pc = .ok (.ldc_w n, 3)) (hw : Cond.constant (pm_nm y).cls n v ∈ pm_ws) : pm_Snd E y pc (pc + 3) (po_ic v) := by
  intro N J C M Q S hN hJ hC hM h
  obtain ⟨ls, st, x⟩ := S
  intro n0 p e s m args below meth c H locs la QQ F hP hS hl hk1 hk2 hn hend
  exact lv_ldcw F.1 F.2.1 F.2.2.2.1 (F.2.2.2.2.1 _ hw) hd (hN _ h n0 p e s m args below meth c H locs la QQ F hP hS hl hk1 hk2 hn hend)
theorem ps_ldc2 {E : pm_E} {y pc : Nat} {n : Nat} {v : Int64} (hd : decode (pm_cd y) pc = .ok (.ldc2_w n, 3)) (hw : Cond.constantLong (pm_nm y).cls n v ∈ pm_ws) : pm_Snd E y pc (pc + 3) (po_lc v) := by
  intro N J C M Q S hN hJ hC hM h
  obtain ⟨ls, st, x⟩ := S
  intro n0 p e s m args below meth c H locs la QQ F hP hS hl hk1 hk2 hn hend
  exact lv_ldc2 F.1 F.2.1 F.2.2.2.1 (F.2.2.2.2.1 _ hw) hd (hN _ h n0 p e s m args below meth c H locs la QQ F hP hS hl hk1 hk2 hn hend)
def pk_gi (o : Option Value) (k : Int32 → Prop) : Prop := match o with
  | some (.int v) => k v
  | _ => False
theorem pk_gi_of {o : Option Value} {k : Int32 → Prop} (h : pk_gi o k) : ∃ v : Int32, o = some (.int v) ∧ k v := by
  unfold pk_gi at h
  split at h
  · exact ⟨_, rfl, h⟩
  · exact h.elim
def pk_gl (o : Option Value) (k : Int64 → Prop) : Prop := match o with
  | some (.long v) => k v
  | _ => False
theorem pk_gl_of {o : Option Value} {k : Int64 → Prop} (h : pk_gl o k) : ∃ v : Int64, o = some (.long v) ∧ k v := by
  unfold pk_gl at h
  split at h
  · exact ⟨_, rfl, h⟩
  · exact h.elim
def pk_ga (o : Option Value) (k : Nat → Prop) : Prop := match o with
  | some (.ref v) => k v
  | _ => False
theorem pk_ga_of {o : Option Value} {k : Nat → Prop} (h : pk_ga o k) : ∃ v : Nat, o = some (.ref v) ∧ k v := by
  unfold pk_ga at h
  split at h
  · exact ⟨_, rfl, h⟩
  · exact h.elim
def pk_n3 (a : Nat) (P : Prop) : Prop := match Nat.beq a 3 with
  | true => False
  | false => P
theorem pk_n3_of {a : Nat} {P : Prop} (h : pk_n3 a P) : ¬ a = 3 ∧ P := by
  unfold pk_n3 at h
  split at h
  · exact h.elim
  · rename_i q
    exact ⟨fun e => by rw [e] at q; exact absurd q (by decide), h⟩
theorem pm_v_ref {E : pm_E} {a : Nat} (h : ¬ a = 3) : pm_v E (.ref a) = .ref (pm_ad E a) := by
  show (if a = 3 then _ else _) = _
  rw [if_neg h]
theorem pm_v_ref4 (E : pm_E) (k : Nat) : pm_v E (.ref (k + 4)) = .ref (pm_ad E (k + 4)) := pm_v_ref (by omega)
def po_il (k : Nat) : pm_Op := fun N _ _ _ _ s => match s with
  | (ls, st, x) => pk_gi (pl_get ls k) fun v => N (ls, .int v :: st, x)
theorem ps_il {E : pm_E} {y pc : Nat} {k : Nat} (hd : decode (pm_cd y) pc = .ok (.iload k, 2)) : pm_Snd E y pc (pc + 2) (po_il k) := by
  intro N J C M Q S hN hJ hC hM h
  obtain ⟨ls, st, x⟩ := S
  obtain ⟨v, hv, h⟩ := pk_gi_of h
  intro n0 p e s m args below meth c H locs la QQ F hP hS hl hk1 hk2 hn hend
  have hg := pl_at hl hv
  have hk := hN _ h n0 p e s m args below meth c H locs la QQ F hP hS hl hk1 hk2 hn hend
  exact lv_iload F.1 F.2.1 hd hg hk
theorem ps_iln {E : pm_E} {y pc : Nat} {kf : Fin 4} {k : Nat} (hd : decode (pm_cd y) pc = .ok (.iload_n kf, 1)) (hf : (kf : Nat) = k) : pm_Snd E y pc (pc + 1) (po_il k) := by
  intro N J C M Q S hN hJ hC hM h
  obtain ⟨ls, st, x⟩ := S
  obtain ⟨v, hv, h⟩ := pk_gi_of h
  intro n0 p e s m args below meth c H locs la QQ F hP hS hl hk1 hk2 hn hend
  have hg := pl_at hl hv
  have hk := hN _ h n0 p e s m args below meth c H locs la QQ F hP hS hl hk1 hk2 hn hend
  exact lv_iload_n F.1 F.2.1 hd hf hg hk
def po_ll (k : Nat) : pm_Op := fun N _ _ _ _ s => match s with
  | (ls, st, x) => pk_gl (pl_get ls k) fun v => N (ls, .long v :: st, x)
theorem ps_ll {E : pm_E} {y pc : Nat} {k : Nat} (hd : decode (pm_cd y) pc = .ok (.lload k, 2)) : pm_Snd E y pc (pc + 2) (po_ll k) := by
  intro N J C M Q S hN hJ hC hM h
  obtain ⟨ls, st, x⟩ := S
  obtain ⟨v, hv, h⟩ := pk_gl_of h
  intro n0 p e s m args below meth c H locs la QQ F hP hS hl hk1 hk2 hn hend
  have hg := pl_at hl hv
  have hk := hN _ h n0 p e s m args below meth c H locs la QQ F hP hS hl hk1 hk2 hn hend
  exact lv_lload F.1 F.2.1 hd hg hk
theorem ps_lln {E : pm_E} {y pc : Nat} {kf : Fin 4} {k : Nat} (hd : decode (pm_cd y) pc = .ok (.lload_n kf, 1)) (hf : (kf : Nat) = k) : pm_Snd E y pc (pc + 1) (po_ll k) := by
  intro N J C M Q S hN hJ hC hM h
  obtain ⟨ls, st, x⟩ := S
  obtain ⟨v, hv, h⟩ := pk_gl_of h
  intro n0 p e s m args below meth c H locs la QQ F hP hS hl hk1 hk2 hn hend
  have hg := pl_at hl hv
  have hk := hN _ h n0 p e s m args below meth c H locs la QQ F hP hS hl hk1 hk2 hn hend
  exact lv_lload_n F.1 F.2.1 hd hf hg hk
def po_al (k : Nat) : pm_Op := fun N _ _ _ _ s => match s with
  | (ls, st, x) => pk_ga (pl_get ls k) fun v => pk_n3 v (N (ls, .ref v :: st, x))
theorem ps_al {E : pm_E} {y pc : Nat} {k : Nat} (hd : decode (pm_cd y) pc = .ok (.aload k, 2)) : pm_Snd E y pc (pc + 2) (po_al k) := by
  intro N J C M Q S hN hJ hC hM h
  obtain ⟨ls, st, x⟩ := S
  obtain ⟨v, hv, h⟩ := pk_ga_of h
  obtain ⟨h3, h⟩ := pk_n3_of h
  intro n0 p e s m args below meth c H locs la QQ F hP hS hl hk1 hk2 hn hend
  have hg := pl_at hl hv
  rw [pm_v_ref h3] at hg
  have hk := hN _ h n0 p e s m args below meth c H locs la QQ F hP hS hl hk1 hk2 hn hend
  rw [List.map_cons, pm_v_ref h3] at hk
  exact lv_aload F.1 F.2.1 hd hg hk
theorem ps_aln {E : pm_E} {y pc : Nat} {kf : Fin 4} {k : Nat} (hd : decode (pm_cd y) pc = .ok (.aload_n kf, 1)) (hf : (kf : Nat) = k) : pm_Snd E y pc (pc + 1) (po_al k) := by
  intro N J C M Q S hN hJ hC hM h
  obtain ⟨ls, st, x⟩ := S
  obtain ⟨v, hv, h⟩ := pk_ga_of h
  obtain ⟨h3, h⟩ := pk_n3_of h
  intro n0 p e s m args below meth c H locs la QQ F hP hS hl hk1 hk2 hn hend
  have hg := pl_at hl hv
  rw [pm_v_ref h3] at hg
  have hk := hN _ h n0 p e s m args below meth c H locs la QQ F hP hS hl hk1 hk2 hn hend
  rw [List.map_cons, pm_v_ref h3] at hk
  exact lv_aload_n F.1 F.2.1 hd hf hg hk
def po_is (k : Nat) : pm_Op := fun N _ _ _ _ s => match s with
  | (ls, st, x) => pk_i st fun a r => N (pl_set1 ls k (.int a), r, x)
theorem ps_is {E : pm_E} {y pc : Nat} {k : Nat} (hd : decode (pm_cd y) pc = .ok (.istore k, 2)) (hb : k < pm_mL y) : pm_Snd E y pc (pc + 2) (po_is k) := by
  intro N J C M Q S hN hJ hC hM h
  obtain ⟨ls, st, x⟩ := S
  obtain ⟨a, r, rfl, h⟩ := pk_i_of h
  intro n0 p e s m args below meth c H locs la QQ F hP hS hl hk1 hk2 hn hend
  have hfc := pm_fm_cat F.2.2.2.2.2.2.2.2.2.2.1
  exact lv_istore F.1 F.2.1 hd (pl_to hl) hb rfl (fun la2 hl2 => hN _ h n0 p e s m args below meth c H locs la2 QQ F hP hS (pl_of1 (v := .int a) hfc (hl2)) hk1 hk2 hn hend)
theorem ps_isn {E : pm_E} {y pc : Nat} {kf : Fin 4} {k : Nat} (hd : decode (pm_cd y) pc = .ok (.istore_n kf, 1)) (hf : (kf : Nat) = k) (hb : k < pm_mL y) : pm_Snd E y pc (pc + 1) (po_is k) := by
  intro N J C M Q S hN hJ hC hM h
  obtain ⟨ls, st, x⟩ := S
  obtain ⟨a, r, rfl, h⟩ := pk_i_of h
  intro n0 p e s m args below meth c H locs la QQ F hP hS hl hk1 hk2 hn hend
  have hfc := pm_fm_cat F.2.2.2.2.2.2.2.2.2.2.1
  exact lv_istore_n F.1 F.2.1 hd hf (pl_to hl) hb rfl (fun la2 hl2 => hN _ h n0 p e s m args below meth c H locs la2 QQ F hP hS (pl_of1 (v := .int a) hfc (hl2)) hk1 hk2 hn hend)
def po_ls (k : Nat) : pm_Op := fun N _ _ _ _ s => match s with
  | (ls, st, x) => pk_l st fun a r => N (pl_set2 ls k (.long a), r, x)
theorem ps_ls {E : pm_E} {y pc : Nat} {k : Nat} (hd : decode (pm_cd y) pc = .ok (.lstore k, 2)) (hb : k + 1 < pm_mL y) : pm_Snd E y pc (pc + 2) (po_ls k) := by
  intro N J C M Q S hN hJ hC hM h
  obtain ⟨ls, st, x⟩ := S
  obtain ⟨a, r, rfl, h⟩ := pk_l_of h
  intro n0 p e s m args below meth c H locs la QQ F hP hS hl hk1 hk2 hn hend
  have hfc := pm_fm_cat F.2.2.2.2.2.2.2.2.2.2.1
  exact lv_lstore F.1 F.2.1 hd (pl_to hl) hb rfl (fun la2 hl2 => hN _ h n0 p e s m args below meth c H locs la2 QQ F hP hS (pl_of2 (v := .long a) hfc (hl2)) hk1 hk2 hn hend)
theorem ps_lsn {E : pm_E} {y pc : Nat} {kf : Fin 4} {k : Nat} (hd : decode (pm_cd y) pc = .ok (.lstore_n kf, 1)) (hf : (kf : Nat) = k) (hb : k + 1 < pm_mL y) : pm_Snd E y pc (pc + 1) (po_ls k) := by
  intro N J C M Q S hN hJ hC hM h
  obtain ⟨ls, st, x⟩ := S
  obtain ⟨a, r, rfl, h⟩ := pk_l_of h
  intro n0 p e s m args below meth c H locs la QQ F hP hS hl hk1 hk2 hn hend
  have hfc := pm_fm_cat F.2.2.2.2.2.2.2.2.2.2.1
  exact lv_lstore_n F.1 F.2.1 hd hf (pl_to hl) hb rfl (fun la2 hl2 => hN _ h n0 p e s m args below meth c H locs la2 QQ F hP hS (pl_of2 (v := .long a) hfc (hl2)) hk1 hk2 hn hend)
def po_as (k : Nat) : pm_Op := fun N _ _ _ _ s => match s with
  | (ls, st, x) => pk_r st fun a r => pk_n3 a (N (pl_set1 ls k (.ref a), r, x))
theorem ps_as {E : pm_E} {y pc : Nat} {k : Nat} (hd : decode (pm_cd y) pc = .ok (.astore k, 2)) (hb : k < pm_mL y) : pm_Snd E y pc (pc + 2) (po_as k) := by
  intro N J C M Q S hN hJ hC hM h
  obtain ⟨ls, st, x⟩ := S
  obtain ⟨a, r, rfl, h⟩ := pk_r_of h
  obtain ⟨h3, h⟩ := pk_n3_of h
  intro n0 p e s m args below meth c H locs la QQ F hP hS hl hk1 hk2 hn hend
  have hfc := pm_fm_cat F.2.2.2.2.2.2.2.2.2.2.1
  show W p E.1 e (pm_rm y) s m args below meth c H locs _ _ QQ (F0 m pc la (List.map (pm_v E) (.ref a :: r)))
  rw [List.map_cons, pm_v_ref h3]
  exact lv_astore F.1 F.2.1 hd (pl_to hl) hb rfl (fun la2 hl2 => hN _ h n0 p e s m args below meth c H locs la2 QQ F hP hS (pl_of1 (v := .ref a) hfc (by rw [pm_v_ref h3]; exact hl2)) hk1 hk2 hn hend)
theorem ps_asn {E : pm_E} {y pc : Nat} {kf : Fin 4} {k : Nat} (hd : decode (pm_cd y) pc = .ok (.astore_n kf, 1)) (hf : (kf : Nat) = k) (hb : k < pm_mL y) : pm_Snd E y pc (pc + 1) (po_as k) := by
  intro N J C M Q S hN hJ hC hM h
  obtain ⟨ls, st, x⟩ := S
  obtain ⟨a, r, rfl, h⟩ := pk_r_of h
  obtain ⟨h3, h⟩ := pk_n3_of h
  intro n0 p e s m args below meth c H locs la QQ F hP hS hl hk1 hk2 hn hend
  have hfc := pm_fm_cat F.2.2.2.2.2.2.2.2.2.2.1
  show W p E.1 e (pm_rm y) s m args below meth c H locs _ _ QQ (F0 m pc la (List.map (pm_v E) (.ref a :: r)))
  rw [List.map_cons, pm_v_ref h3]
  exact lv_astore_n F.1 F.2.1 hd hf (pl_to hl) hb rfl (fun la2 hl2 => hN _ h n0 p e s m args below meth c H locs la2 QQ F hP hS (pl_of1 (v := .ref a) hfc (by rw [pm_v_ref h3]; exact hl2)) hk1 hk2 hn hend)
def po_iinc (k : Nat) (z : Int32) : pm_Op := fun N _ _ _ _ s => match s with
  | (ls, st, x) => pk_gi (pl_get ls k) fun v => N (pl_set1 ls k (.int (v + z)), st, x)
theorem ps_iinc {E : pm_E} {y pc k : Nat} {n : Int} {z : Int32} (hd : decode (pm_cd y) pc = .ok (.iinc k n, 3)) (hz : Int32.ofInt n = z) (hb : k < pm_mL y) : pm_Snd E y pc (pc + 3) (po_iinc k z) := by
  intro N J C M Q S hN hJ hC hM h
  obtain ⟨ls, st, x⟩ := S
  obtain ⟨v, hv, h⟩ := pk_gi_of h
  intro n0 p e s m args below meth c H locs la QQ F hP hS hl hk1 hk2 hn hend
  have hfc := pm_fm_cat F.2.2.2.2.2.2.2.2.2.2.1
  have hmem : ((k, Value.int v) : Nat × Value) ∈ pl_list E ls := pl_list_mem.mpr ⟨.int v, hv, rfl⟩
  obtain ⟨i, hi⟩ := List.getElem?_of_mem hmem
  exact lv_iinc F.1 F.2.1 hd (pl_to hl) hi (by rw [hz]) hb rfl (fun la2 hl2 => hN _ h n0 p e s m args below meth c H locs la2 QQ F hP hS (pl_of1 (v := .int (v + z)) hfc hl2) hk1 hk2 hn hend)
def pk_c1 (v : Value) (P : Prop) : Prop := match v with
  | .long _ => False
  | .double _ => False
  | _ => P
theorem pk_c1_of {v : Value} {P : Prop} (h : pk_c1 v P) : v.category = 1 ∧ P := by
  cases v <;> first | exact h.elim | exact ⟨rfl, h⟩
def po_dup : pm_Op := fun N _ _ _ _ s => match s with
  | (ls, st, x) => pk_v st fun v r => pk_c1 v (N (ls, v :: v :: r, x))
theorem ps_dup {E : pm_E} {y pc : Nat} (hd : decode (pm_cd y) pc = .ok (.dup, 1)) : pm_Snd E y pc (pc + 1) po_dup := by
  intro N J C M Q S hN hJ hC hM h
  obtain ⟨ls, st, x⟩ := S
  obtain ⟨v, r, rfl, h⟩ := pk_v_of h
  obtain ⟨h1, h⟩ := pk_c1_of h
  intro n0 p e s m args below meth c H locs la QQ F hP hS hl hk1 hk2 hn hend
  have hfc := pm_fm_cat F.2.2.2.2.2.2.2.2.2.2.1
  exact lv_dup F.1 F.2.1 hd (by rw [pm_v_cat E hfc]; exact h1) (hN _ h n0 p e s m args below meth c H locs la QQ F hP hS hl hk1 hk2 hn hend)
def po_pop : pm_Op := fun N _ _ _ _ s => match s with
  | (ls, st, x) => pk_v st fun v r => pk_c1 v (N (ls, r, x))
theorem ps_pop {E : pm_E} {y pc : Nat} (hd : decode (pm_cd y) pc = .ok (.pop, 1)) : pm_Snd E y pc (pc + 1) po_pop := by
  intro N J C M Q S hN hJ hC hM h
  obtain ⟨ls, st, x⟩ := S
  obtain ⟨v, r, rfl, h⟩ := pk_v_of h
  obtain ⟨h1, h⟩ := pk_c1_of h
  intro n0 p e s m args below meth c H locs la QQ F hP hS hl hk1 hk2 hn hend
  have hfc := pm_fm_cat F.2.2.2.2.2.2.2.2.2.2.1
  exact lv_pop F.1 F.2.1 hd (by rw [pm_v_cat E hfc]; exact h1) (hN _ h n0 p e s m args below meth c H locs la QQ F hP hS hl hk1 hk2 hn hend)
def pk_vv (st : List Value) (k : Value → Value → List Value → Prop) : Prop := match st with
  | v :: u :: r => k v u r
  | _ => False
theorem pk_vv_of {st : List Value} {k : Value → Value → List Value → Prop} (h : pk_vv st k) : ∃ (v u : Value) (r : List Value), st = v :: u :: r ∧ k v u r := by
  unfold pk_vv at h
  split at h
  · exact ⟨_, _, _, rfl, h⟩
  · exact h.elim
def po_dup2 : pm_Op := fun N _ _ _ _ s => match s with
  | (ls, st, x) => pk_vv st fun v u r => pk_c1 v (pk_c1 u (N (ls, v :: u :: v :: u :: r, x)))
theorem ps_dup2 {E : pm_E} {y pc : Nat} (hd : decode (pm_cd y) pc = .ok (.dup2, 1)) : pm_Snd E y pc (pc + 1) po_dup2 := by
  intro N J C M Q S hN hJ hC hM h
  obtain ⟨ls, st, x⟩ := S
  obtain ⟨v, u, r, rfl, h⟩ := pk_vv_of h
  obtain ⟨h1, h⟩ := pk_c1_of h
  obtain ⟨h2, h⟩ := pk_c1_of h
  intro n0 p e s m args below meth c H locs la QQ F hP hS hl hk1 hk2 hn hend
  have hfc := pm_fm_cat F.2.2.2.2.2.2.2.2.2.2.1
  exact lv_dup2_11 F.1 F.2.1 hd (by rw [pm_v_cat E hfc]; exact h1) (by rw [pm_v_cat E hfc]; exact h2) (hN _ h n0 p e s m args below meth c H locs la QQ F hP hS hl hk1 hk2 hn hend)
def po_iceq (t : Nat) : pm_Op := fun N J _ _ _ s => match s with
  | (ls, st, x) => pk_ii st fun a b r => (a = b → J t (ls, r, x)) ∧ (¬ a = b → N (ls, r, x))
theorem ps_iceq {E : pm_E} {y pc t : Nat} {off : Int} (hd : decode (pm_cd y) pc = .ok (.if_icmp .eq off, 3)) (ht : (pc : Int) + off = (t : Int)) : pm_Snd E y pc (pc + 3) (po_iceq t) := by
  intro N J C M Q S hN hJ hC hM h
  obtain ⟨ls, st, x⟩ := S
  obtain ⟨a, b, r, rfl, h⟩ := pk_ii_of h
  intro n0 p e s m args below meth c H locs la QQ F hP hS hl hk1 hk2 hn hend
  exact lv_icmp_eq F.1 F.2.1 hd ht (fun q => hJ _ _ (h.1 q) n0 p e s m args below meth c H locs la QQ F hP hS hl hk1 hk2 hn hend) (fun q => hN _ (h.2 q) n0 p e s m args below meth c H locs la QQ F hP hS hl hk1 hk2 hn hend)
def po_ifeq (t : Nat) : pm_Op := fun N J _ _ _ s => match s with
  | (ls, st, x) => pk_i st fun a r => (a = 0 → J t (ls, r, x)) ∧ (¬ a = 0 → N (ls, r, x))
theorem ps_ifeq {E : pm_E} {y pc t : Nat} {off : Int} (hd : decode (pm_cd y) pc = .ok (.ifCond .eq off, 3)) (ht : (pc : Int) + off = (t : Int)) : pm_Snd E y pc (pc + 3) (po_ifeq t) := by
  intro N J C M Q S hN hJ hC hM h
  obtain ⟨ls, st, x⟩ := S
  obtain ⟨a, r, rfl, h⟩ := pk_i_of h
  intro n0 p e s m args below meth c H locs la QQ F hP hS hl hk1 hk2 hn hend
  exact lv_if_eq F.1 F.2.1 hd ht (fun q => hJ _ _ (h.1 q) n0 p e s m args below meth c H locs la QQ F hP hS hl hk1 hk2 hn hend) (fun q => hN _ (h.2 q) n0 p e s m args below meth c H locs la QQ F hP hS hl hk1 hk2 hn hend)
def po_icne (t : Nat) : pm_Op := fun N J _ _ _ s => match s with
  | (ls, st, x) => pk_ii st fun a b r => (¬ a = b → J t (ls, r, x)) ∧ (a = b → N (ls, r, x))
theorem ps_icne {E : pm_E} {y pc t : Nat} {off : Int} (hd : decode (pm_cd y) pc = .ok (.if_icmp .ne off, 3)) (ht : (pc : Int) + off = (t : Int)) : pm_Snd E y pc (pc + 3) (po_icne t) := by
  intro N J C M Q S hN hJ hC hM h
  obtain ⟨ls, st, x⟩ := S
  obtain ⟨a, b, r, rfl, h⟩ := pk_ii_of h
  intro n0 p e s m args below meth c H locs la QQ F hP hS hl hk1 hk2 hn hend
  exact lv_icmp_ne F.1 F.2.1 hd ht (fun q => hJ _ _ (h.1 q) n0 p e s m args below meth c H locs la QQ F hP hS hl hk1 hk2 hn hend) (fun q => hN _ (h.2 q) n0 p e s m args below meth c H locs la QQ F hP hS hl hk1 hk2 hn hend)
def po_ifne (t : Nat) : pm_Op := fun N J _ _ _ s => match s with
  | (ls, st, x) => pk_i st fun a r => (¬ a = 0 → J t (ls, r, x)) ∧ (a = 0 → N (ls, r, x))
theorem ps_ifne {E : pm_E} {y pc t : Nat} {off : Int} (hd : decode (pm_cd y) pc = .ok (.ifCond .ne off, 3)) (ht : (pc : Int) + off = (t : Int)) : pm_Snd E y pc (pc + 3) (po_ifne t) := by
  intro N J C M Q S hN hJ hC hM h
  obtain ⟨ls, st, x⟩ := S
  obtain ⟨a, r, rfl, h⟩ := pk_i_of h
  intro n0 p e s m args below meth c H locs la QQ F hP hS hl hk1 hk2 hn hend
  exact lv_if_ne F.1 F.2.1 hd ht (fun q => hJ _ _ (h.1 q) n0 p e s m args below meth c H locs la QQ F hP hS hl hk1 hk2 hn hend) (fun q => hN _ (h.2 q) n0 p e s m args below meth c H locs la QQ F hP hS hl hk1 hk2 hn hend)
def po_iclt (t : Nat) : pm_Op := fun N J _ _ _ s => match s with
  | (ls, st, x) => pk_ii st fun a b r => (a < b → J t (ls, r, x)) ∧ (¬ a < b → N (ls, r, x))
theorem ps_iclt {E : pm_E} {y pc t : Nat} {off : Int} (hd : decode (pm_cd y) pc = .ok (.if_icmp .lt off, 3)) (ht : (pc : Int) + off = (t : Int)) : pm_Snd E y pc (pc + 3) (po_iclt t) := by
  intro N J C M Q S hN hJ hC hM h
  obtain ⟨ls, st, x⟩ := S
  obtain ⟨a, b, r, rfl, h⟩ := pk_ii_of h
  intro n0 p e s m args below meth c H locs la QQ F hP hS hl hk1 hk2 hn hend
  exact lv_icmp_lt F.1 F.2.1 hd ht (fun q => hJ _ _ (h.1 q) n0 p e s m args below meth c H locs la QQ F hP hS hl hk1 hk2 hn hend) (fun q => hN _ (h.2 q) n0 p e s m args below meth c H locs la QQ F hP hS hl hk1 hk2 hn hend)
def po_iflt (t : Nat) : pm_Op := fun N J _ _ _ s => match s with
  | (ls, st, x) => pk_i st fun a r => (a < 0 → J t (ls, r, x)) ∧ (¬ a < 0 → N (ls, r, x))
theorem ps_iflt {E : pm_E} {y pc t : Nat} {off : Int} (hd : decode (pm_cd y) pc = .ok (.ifCond .lt off, 3)) (ht : (pc : Int) + off = (t : Int)) : pm_Snd E y pc (pc + 3) (po_iflt t) := by
  intro N J C M Q S hN hJ hC hM h
  obtain ⟨ls, st, x⟩ := S
  obtain ⟨a, r, rfl, h⟩ := pk_i_of h
  intro n0 p e s m args below meth c H locs la QQ F hP hS hl hk1 hk2 hn hend
  exact lv_if_lt F.1 F.2.1 hd ht (fun q => hJ _ _ (h.1 q) n0 p e s m args below meth c H locs la QQ F hP hS hl hk1 hk2 hn hend) (fun q => hN _ (h.2 q) n0 p e s m args below meth c H locs la QQ F hP hS hl hk1 hk2 hn hend)
def po_icge (t : Nat) : pm_Op := fun N J _ _ _ s => match s with
  | (ls, st, x) => pk_ii st fun a b r => (b ≤ a → J t (ls, r, x)) ∧ (¬ b ≤ a → N (ls, r, x))
theorem ps_icge {E : pm_E} {y pc t : Nat} {off : Int} (hd : decode (pm_cd y) pc = .ok (.if_icmp .ge off, 3)) (ht : (pc : Int) + off = (t : Int)) : pm_Snd E y pc (pc + 3) (po_icge t) := by
  intro N J C M Q S hN hJ hC hM h
  obtain ⟨ls, st, x⟩ := S
  obtain ⟨a, b, r, rfl, h⟩ := pk_ii_of h
  intro n0 p e s m args below meth c H locs la QQ F hP hS hl hk1 hk2 hn hend
  exact lv_icmp_ge F.1 F.2.1 hd ht (fun q => hJ _ _ (h.1 q) n0 p e s m args below meth c H locs la QQ F hP hS hl hk1 hk2 hn hend) (fun q => hN _ (h.2 q) n0 p e s m args below meth c H locs la QQ F hP hS hl hk1 hk2 hn hend)
def po_ifge (t : Nat) : pm_Op := fun N J _ _ _ s => match s with
  | (ls, st, x) => pk_i st fun a r => (0 ≤ a → J t (ls, r, x)) ∧ (¬ 0 ≤ a → N (ls, r, x))
theorem ps_ifge {E : pm_E} {y pc t : Nat} {off : Int} (hd : decode (pm_cd y) pc = .ok (.ifCond .ge off, 3)) (ht : (pc : Int) + off = (t : Int)) : pm_Snd E y pc (pc + 3) (po_ifge t) := by
  intro N J C M Q S hN hJ hC hM h
  obtain ⟨ls, st, x⟩ := S
  obtain ⟨a, r, rfl, h⟩ := pk_i_of h
  intro n0 p e s m args below meth c H locs la QQ F hP hS hl hk1 hk2 hn hend
  exact lv_if_ge F.1 F.2.1 hd ht (fun q => hJ _ _ (h.1 q) n0 p e s m args below meth c H locs la QQ F hP hS hl hk1 hk2 hn hend) (fun q => hN _ (h.2 q) n0 p e s m args below meth c H locs la QQ F hP hS hl hk1 hk2 hn hend)
def po_icgt (t : Nat) : pm_Op := fun N J _ _ _ s => match s with
  | (ls, st, x) => pk_ii st fun a b r => (b < a → J t (ls, r, x)) ∧ (¬ b < a → N (ls, r, x))
theorem ps_icgt {E : pm_E} {y pc t : Nat} {off : Int} (hd : decode (pm_cd y) pc = .ok (.if_icmp .gt off, 3)) (ht : (pc : Int) + off = (t : Int)) : pm_Snd E y pc (pc + 3) (po_icgt t) := by
  intro N J C M Q S hN hJ hC hM h
  obtain ⟨ls, st, x⟩ := S
  obtain ⟨a, b, r, rfl, h⟩ := pk_ii_of h
  intro n0 p e s m args below meth c H locs la QQ F hP hS hl hk1 hk2 hn hend
  exact lv_icmp_gt F.1 F.2.1 hd ht (fun q => hJ _ _ (h.1 q) n0 p e s m args below meth c H locs la QQ F hP hS hl hk1 hk2 hn hend) (fun q => hN _ (h.2 q) n0 p e s m args below meth c H locs la QQ F hP hS hl hk1 hk2 hn hend)
def po_ifgt (t : Nat) : pm_Op := fun N J _ _ _ s => match s with
  | (ls, st, x) => pk_i st fun a r => (0 < a → J t (ls, r, x)) ∧ (¬ 0 < a → N (ls, r, x))
theorem ps_ifgt {E : pm_E} {y pc t : Nat} {off : Int} (hd : decode (pm_cd y) pc = .ok (.ifCond .gt off, 3)) (ht : (pc : Int) + off = (t : Int)) : pm_Snd E y pc (pc + 3) (po_ifgt t) := by
  intro N J C M Q S hN hJ hC hM h
  obtain ⟨ls, st, x⟩ := S
  obtain ⟨a, r, rfl, h⟩ := pk_i_of h
  intro n0 p e s m args below meth c H locs la QQ F hP hS hl hk1 hk2 hn hend
  exact lv_if_gt F.1 F.2.1 hd ht (fun q => hJ _ _ (h.1 q) n0 p e s m args below meth c H locs la QQ F hP hS hl hk1 hk2 hn hend) (fun q => hN _ (h.2 q) n0 p e s m args below meth c H locs la QQ F hP hS hl hk1 hk2 hn hend)
def po_icle (t : Nat) : pm_Op := fun N J _ _ _ s => match s with
  | (ls, st, x) => pk_ii st fun a b r => (a ≤ b → J t (ls, r, x)) ∧ (¬ a ≤ b → N (ls, r, x))
theorem ps_icle {E : pm_E} {y pc t : Nat} {off : Int} (hd : decode (pm_cd y) pc = .ok (.if_icmp .le off, 3)) (ht : (pc : Int) + off = (t : Int)) : pm_Snd E y pc (pc + 3) (po_icle t) := by
  intro N J C M Q S hN hJ hC hM h
  obtain ⟨ls, st, x⟩ := S
  obtain ⟨a, b, r, rfl, h⟩ := pk_ii_of h
  intro n0 p e s m args below meth c H locs la QQ F hP hS hl hk1 hk2 hn hend
  exact lv_icmp_le F.1 F.2.1 hd ht (fun q => hJ _ _ (h.1 q) n0 p e s m args below meth c H locs la QQ F hP hS hl hk1 hk2 hn hend) (fun q => hN _ (h.2 q) n0 p e s m args below meth c H locs la QQ F hP hS hl hk1 hk2 hn hend)
def po_ifle (t : Nat) : pm_Op := fun N J _ _ _ s => match s with
  | (ls, st, x) => pk_i st fun a r => (a ≤ 0 → J t (ls, r, x)) ∧ (¬ a ≤ 0 → N (ls, r, x))
theorem ps_ifle {E : pm_E} {y pc t : Nat} {off : Int} (hd : decode (pm_cd y) pc = .ok (.ifCond .le off, 3)) (ht : (pc : Int) + off = (t : Int)) : pm_Snd E y pc (pc + 3) (po_ifle t) := by
  intro N J C M Q S hN hJ hC hM h
  obtain ⟨ls, st, x⟩ := S
  obtain ⟨a, r, rfl, h⟩ := pk_i_of h
  intro n0 p e s m args below meth c H locs la QQ F hP hS hl hk1 hk2 hn hend
  exact lv_if_le F.1 F.2.1 hd ht (fun q => hJ _ _ (h.1 q) n0 p e s m args below meth c H locs la QQ F hP hS hl hk1 hk2 hn hend) (fun q => hN _ (h.2 q) n0 p e s m args below meth c H locs la QQ F hP hS hl hk1 hk2 hn hend)
def po_lceq (t : Nat) : pm_Op := fun N J _ _ _ s => match s with
  | (ls, st, x) => pk_ll st fun a b r => (a = b → J t (ls, r, x)) ∧ (¬ a = b → N (ls, r, x))
theorem ps_lceq {E : pm_E} {y pc t : Nat} {off : Int} (hd0 : decode (pm_cd y) pc = .ok (.lcmp, 1)) (hd : decode (pm_cd y) (pc + 1) = .ok (.ifCond .eq off, 3)) (ht : ((pc + 1 : Nat) : Int) + off = (t : Int)) : pm_Snd E y pc (pc + 4) (po_lceq t) := by
  intro N J C M Q S hN hJ hC hM h
  obtain ⟨ls, st, x⟩ := S
  obtain ⟨a, b, r, rfl, h⟩ := pk_ll_of h
  intro n0 p e s m args below meth c H locs la QQ F hP hS hl hk1 hk2 hn hend
  exact W.lcmp F.1 F.2.1 hd0 (lv_if_eq F.1 F.2.1 hd ht (fun q => hJ _ _ (h.1 ((lg_cmp_eq _ _).mp q)) n0 p e s m args below meth c H locs la QQ F hP hS hl hk1 hk2 hn hend) (fun q => hN _ (h.2 (fun z => q ((lg_cmp_eq _ _).mpr z))) n0 p e s m args below meth c H locs la QQ F hP hS hl hk1 hk2 hn hend))
def po_lcne (t : Nat) : pm_Op := fun N J _ _ _ s => match s with
  | (ls, st, x) => pk_ll st fun a b r => (¬ a = b → J t (ls, r, x)) ∧ (a = b → N (ls, r, x))
theorem ps_lcne {E : pm_E} {y pc t : Nat} {off : Int} (hd0 : decode (pm_cd y) pc = .ok (.lcmp, 1)) (hd : decode (pm_cd y) (pc + 1) = .ok (.ifCond .ne off, 3)) (ht : ((pc + 1 : Nat) : Int) + off = (t : Int)) : pm_Snd E y pc (pc + 4) (po_lcne t) := by
  intro N J C M Q S hN hJ hC hM h
  obtain ⟨ls, st, x⟩ := S
  obtain ⟨a, b, r, rfl, h⟩ := pk_ll_of h
  intro n0 p e s m args below meth c H locs la QQ F hP hS hl hk1 hk2 hn hend
  exact W.lcmp F.1 F.2.1 hd0 (lv_if_ne F.1 F.2.1 hd ht (fun q => hJ _ _ (h.1 (fun z => q ((lg_cmp_eq _ _).mpr z))) n0 p e s m args below meth c H locs la QQ F hP hS hl hk1 hk2 hn hend) (fun q => hN _ (h.2 ((lg_cmp_eq _ _).mp q)) n0 p e s m args below meth c H locs la QQ F hP hS hl hk1 hk2 hn hend))
def po_lclt (t : Nat) : pm_Op := fun N J _ _ _ s => match s with
  | (ls, st, x) => pk_ll st fun a b r => (a < b → J t (ls, r, x)) ∧ (¬ a < b → N (ls, r, x))
theorem ps_lclt {E : pm_E} {y pc t : Nat} {off : Int} (hd0 : decode (pm_cd y) pc = .ok (.lcmp, 1)) (hd : decode (pm_cd y) (pc + 1) = .ok (.ifCond .lt off, 3)) (ht : ((pc + 1 : Nat) : Int) + off = (t : Int)) : pm_Snd E y pc (pc + 4) (po_lclt t) := by
  intro N J C M Q S hN hJ hC hM h
  obtain ⟨ls, st, x⟩ := S
  obtain ⟨a, b, r, rfl, h⟩ := pk_ll_of h
  intro n0 p e s m args below meth c H locs la QQ F hP hS hl hk1 hk2 hn hend
  exact W.lcmp F.1 F.2.1 hd0 (lv_if_lt F.1 F.2.1 hd ht (fun q => hJ _ _ (h.1 ((lg_cmp_lt _ _).mp q)) n0 p e s m args below meth c H locs la QQ F hP hS hl hk1 hk2 hn hend) (fun q => hN _ (h.2 (fun z => q ((lg_cmp_lt _ _).mpr z))) n0 p e s m args below meth c H locs la QQ F hP hS hl hk1 hk2 hn hend))
def po_lcge (t : Nat) : pm_Op := fun N J _ _ _ s => match s with
  | (ls, st, x) => pk_ll st fun a b r => (b ≤ a → J t (ls, r, x)) ∧ (¬ b ≤ a → N (ls, r, x))
theorem ps_lcge {E : pm_E} {y pc t : Nat} {off : Int} (hd0 : decode (pm_cd y) pc = .ok (.lcmp, 1)) (hd : decode (pm_cd y) (pc + 1) = .ok (.ifCond .ge off, 3)) (ht : ((pc + 1 : Nat) : Int) + off = (t : Int)) : pm_Snd E y pc (pc + 4) (po_lcge t) := by
  intro N J C M Q S hN hJ hC hM h
  obtain ⟨ls, st, x⟩ := S
  obtain ⟨a, b, r, rfl, h⟩ := pk_ll_of h
  intro n0 p e s m args below meth c H locs la QQ F hP hS hl hk1 hk2 hn hend
  exact W.lcmp F.1 F.2.1 hd0 (lv_if_ge F.1 F.2.1 hd ht (fun q => hJ _ _ (h.1 ((lg_cmp_ge _ _).mp q)) n0 p e s m args below meth c H locs la QQ F hP hS hl hk1 hk2 hn hend) (fun q => hN _ (h.2 (fun z => q ((lg_cmp_ge _ _).mpr z))) n0 p e s m args below meth c H locs la QQ F hP hS hl hk1 hk2 hn hend))
def po_lcgt (t : Nat) : pm_Op := fun N J _ _ _ s => match s with
  | (ls, st, x) => pk_ll st fun a b r => (b < a → J t (ls, r, x)) ∧ (¬ b < a → N (ls, r, x))
theorem ps_lcgt {E : pm_E} {y pc t : Nat} {off : Int} (hd0 : decode (pm_cd y) pc = .ok (.lcmp, 1)) (hd : decode (pm_cd y) (pc + 1) = .ok (.ifCond .gt off, 3)) (ht : ((pc + 1 : Nat) : Int) + off = (t : Int)) : pm_Snd E y pc (pc + 4) (po_lcgt t) := by
  intro N J C M Q S hN hJ hC hM h
  obtain ⟨ls, st, x⟩ := S
  obtain ⟨a, b, r, rfl, h⟩ := pk_ll_of h
  intro n0 p e s m args below meth c H locs la QQ F hP hS hl hk1 hk2 hn hend
  exact W.lcmp F.1 F.2.1 hd0 (lv_if_gt F.1 F.2.1 hd ht (fun q => hJ _ _ (h.1 ((lg_cmp_gt _ _).mp q)) n0 p e s m args below meth c H locs la QQ F hP hS hl hk1 hk2 hn hend) (fun q => hN _ (h.2 (fun z => q ((lg_cmp_gt _ _).mpr z))) n0 p e s m args below meth c H locs la QQ F hP hS hl hk1 hk2 hn hend))
def po_lcle (t : Nat) : pm_Op := fun N J _ _ _ s => match s with
  | (ls, st, x) => pk_ll st fun a b r => (a ≤ b → J t (ls, r, x)) ∧ (¬ a ≤ b → N (ls, r, x))
theorem ps_lcle {E : pm_E} {y pc t : Nat} {off : Int} (hd0 : decode (pm_cd y) pc = .ok (.lcmp, 1)) (hd : decode (pm_cd y) (pc + 1) = .ok (.ifCond .le off, 3)) (ht : ((pc + 1 : Nat) : Int) + off = (t : Int)) : pm_Snd E y pc (pc + 4) (po_lcle t) := by
  intro N J C M Q S hN hJ hC hM h
  obtain ⟨ls, st, x⟩ := S
  obtain ⟨a, b, r, rfl, h⟩ := pk_ll_of h
  intro n0 p e s m args below meth c H locs la QQ F hP hS hl hk1 hk2 hn hend
  exact W.lcmp F.1 F.2.1 hd0 (lv_if_le F.1 F.2.1 hd ht (fun q => hJ _ _ (h.1 ((lg_cmp_le _ _).mp q)) n0 p e s m args below meth c H locs la QQ F hP hS hl hk1 hk2 hn hend) (fun q => hN _ (h.2 (fun z => q ((lg_cmp_le _ _).mpr z))) n0 p e s m args below meth c H locs la QQ F hP hS hl hk1 hk2 hn hend))
def po_goto (t : Nat) : pm_Op := fun _ J _ _ _ s => J t s
theorem ps_goto {E : pm_E} {y pc nx t : Nat} {off : Int} (hd : decode (pm_cd y) pc = .ok (.goto off, 3)) (ht : (pc : Int) + off = (t : Int)) : pm_Snd E y pc nx (po_goto t) := by
  intro N J C M Q S hN hJ hC hM h
  intro n0 p e s m args below meth c H locs la QQ F hP hS hl hk1 hk2 hn hend
  exact lv_goto F.1 F.2.1 hd ht (hJ _ _ h n0 p e s m args below meth c H locs la QQ F hP hS hl hk1 hk2 hn hend)
def po_mark : pm_Op := fun _ _ _ M _ s => M s
theorem ps_mark {E : pm_E} {y pc nx : Nat} : pm_Snd E y pc nx po_mark := fun N J C M Q S hN hJ hC hM h => hM S h
def po_no : pm_Op := fun _ _ _ _ _ _ => False
theorem ps_no {E : pm_E} {y pc nx : Nat} : pm_Snd E y pc nx po_no := fun N J C M Q S hN hJ hC hM h => h.elim
/-- a tableswitch from 0 on: the targets, the default -/
def po_tsw (ts : List Nat) (d : Nat) : pm_Op := fun _ J _ _ _ s => match s with
  | (ls, st, x) => pk_i st fun a r => (∀ k t, ts[k]? = some t → a = nI k → J t (ls, r, x)) ∧ ((a < 0 ∨ nI ts.length ≤ a) → J d (ls, r, x))
theorem ps_tsw {E : pm_E} {y pc nx d len : Nat} {ts : List Nat} {dflt hi : Int} {offs : Array Int} (hd : decode (pm_cd y) pc = .ok (.tableswitch dflt 0 hi offs, len)) (ht : offs.toList.map (fun o => (pc : Int) + o) = ts.map (fun (t : Nat) => (t : Int))) (hh : hi + 1 = (ts.length : Int)) (hsm : ts.length < 2 ^ 31) (hdt : (pc : Int) + dflt = (d : Int)) : pm_Snd E y pc nx (po_tsw ts d) := by
  intro N J C M Q S hN hJ hC hM h
  obtain ⟨ls, st, x⟩ := S
  obtain ⟨a, r, rfl, h⟩ := pk_i_of h
  intro n0 p e s m args below meth c H locs la QQ F hP hS hl hk1 hk2 hn hend
  by_cases q : a < 0 ∨ nI ts.length ≤ a
  · refine lv_tableOut F.1 F.2.1 hd ?_ hdt (hJ _ _ (h.2 q) n0 p e s m args below meth c H locs la QQ F hP hS hl hk1 hk2 hn hend)
    rcases q with q | q
    · left
      have := Int32.lt_iff_toInt_lt.mp q
      simpa using this
    · right
      have := Int32.le_iff_toInt_le.mp q
      rw [nI_toInt hsm] at this
      omega
  · have q0 : ¬ a < 0 := fun z => q (Or.inl z)
    have q1 : ¬ nI ts.length ≤ a := fun z => q (Or.inr z)
    obtain ⟨j, hj, rfl⟩ := nI_of q0
    have hjl : j < ts.length := by
      rcases Nat.lt_or_ge j ts.length with z | z
      · exact z
      · exact absurd (nI_le z hj) q1
    have hl2 : offs.toList.length = ts.length := by
      have := congrArg List.length ht
      simpa using this
    have ho : offs[j]? = some (offs.toList[j]'(by omega)) := by
      rw [← Array.getElem?_toList, List.getElem?_eq_getElem]
    have hto : (pc : Int) + (offs.toList[j]'(by omega)) = (ts[j] : Int) := by
      have := congrArg (fun l : List Int => l[j]?) ht
      simp only [List.getElem?_map] at this
      rw [List.getElem?_eq_getElem (by omega), List.getElem?_eq_getElem hjl] at this
      simpa using this
    have hti : (nI j).toInt = (j : Int) := nI_toInt hj
    refine lv_tableIn F.1 F.2.1 hd (by rw [hti]; omega) (by rw [hti]; omega) (off := offs.toList[j]'(by omega)) (by rw [hti]; simpa using ho) hto (hJ _ _ (h.1 j _ (List.getElem?_eq_getElem hjl) rfl) n0 p e s m args below meth c H locs la QQ F hP hS hl hk1 hk2 hn hend)

def pk_ri1 (st : List Value) (k : Int32 → Prop) : Prop := match st with
  | [.int a] => k a
  | _ => False
theorem pk_ri1_of {st : List Value} {k : Int32 → Prop} (h : pk_ri1 st k) : ∃ a : Int32, st = [.int a] ∧ k a := by
  unfold pk_ri1 at h
  split at h
  · exact ⟨_, rfl, h⟩
  · exact h.elim
def pk_rl1 (st : List Value) (k : Int64 → Prop) : Prop := match st with
  | [.long a] => k a
  | _ => False
theorem pk_rl1_of {st : List Value} {k : Int64 → Prop} (h : pk_rl1 st k) : ∃ a : Int64, st = [.long a] ∧ k a := by
  unfold pk_rl1 at h
  split at h
  · exact ⟨_, rfl, h⟩
  · exact h.elim
/-- an int's end; 'po_zret': of a smaller type -/
def po_iret : pm_Op := fun _ _ _ _ Q s => match s with
  | (_, st, h, _) => pk_ri1 st fun a => True ∧ Q (some (.int a)) h
def po_zret (ty : FieldType) : pm_Op := fun _ _ _ _ Q s => match s with
  | (_, st, h, _) => pk_ri1 st fun a => narrow ty (.int a) = .int a ∧ Q (some (.int a)) h
def po_lret : pm_Op := fun _ _ _ _ Q s => match s with
  | (_, st, h, _) => pk_rl1 st fun a => True ∧ Q (some (.long a)) h
def po_vret : pm_Op := fun _ _ _ _ Q s => match s with
  | (_, st, h, _) => match st with
    | [] => True ∧ Q none h
    | _ => False
/-- a constructor's end: all that it makes is made -/
def po_vretC (mc ms : Nat) : pm_Op := fun _ _ _ _ Q s => match s with
  | (_, st, h, kc, ks) => match st with
    | [] => (kc = mc ∧ ks = ms) ∧ Q none h
    | _ => False
theorem ps_iret {E : pm_E} {y pc nx : Nat} (hd : decode (pm_cd y) pc = .ok (.ireturn, 1)) (hr : pm_rt y = some .int) (hc0 : (pm_rm y).cells = 0) (hs0 : (pm_rm y).slots = 0) : pm_Snd E y pc nx po_iret := by
  intro N J C M Q S hN hJ hC hM h
  obtain ⟨ls, st, hp, x⟩ := S
  obtain ⟨a, rfl, h⟩ := pk_ri1_of h
  intro n0 p e s m args below meth c H locs la QQ F hP hS hl hk1 hk2 hn hend
  have z1 : x.1 = 0 := Nat.le_zero.mp (by rw [← hc0]; exact hk1)
  have z2 : x.2 = 0 := Nat.le_zero.mp (by rw [← hs0]; exact hk2)
  have hk := hend (some (.int a)) hp H locs la pc h.2 ⟨hd, _, hr, rfl⟩ hP hS (Or.inl (by rw [hn, hc0]; show n0 + x.1 = _; rw [z1]))
  refine W.widen (k := (pm_rm y).cells) (n := (pm_rm y).slots) hk1 hk2 ?_
  exact hk
theorem ps_zret {E : pm_E} {y pc nx : Nat} {ty : FieldType} (hd : decode (pm_cd y) pc = .ok (.ireturn, 1)) (hr : pm_rt y = some ty) (hc0 : (pm_rm y).cells = 0) (hs0 : (pm_rm y).slots = 0) : pm_Snd E y pc nx (po_zret ty) := by
  intro N J C M Q S hN hJ hC hM h
  obtain ⟨ls, st, hp, x⟩ := S
  obtain ⟨a, rfl, h⟩ := pk_ri1_of h
  intro n0 p e s m args below meth c H locs la QQ F hP hS hl hk1 hk2 hn hend
  have z1 : x.1 = 0 := Nat.le_zero.mp (by rw [← hc0]; exact hk1)
  have z2 : x.2 = 0 := Nat.le_zero.mp (by rw [← hs0]; exact hk2)
  have hk := hend (some (.int a)) hp H locs la pc h.2 ⟨hd, _, hr, h.1⟩ hP hS (Or.inl (by rw [hn, hc0]; show n0 + x.1 = _; rw [z1]))
  refine W.widen (k := (pm_rm y).cells) (n := (pm_rm y).slots) hk1 hk2 ?_
  exact hk
theorem ps_lret {E : pm_E} {y pc nx : Nat} (hd : decode (pm_cd y) pc = .ok (.lreturn, 1)) (hr : pm_rt y = some .long) (hc0 : (pm_rm y).cells = 0) (hs0 : (pm_rm y).slots = 0) : pm_Snd E y pc nx po_lret := by
  intro N J C M Q S hN hJ hC hM h
  obtain ⟨ls, st, hp, x⟩ := S
  obtain ⟨a, rfl, h⟩ := pk_rl1_of h
  intro n0 p e s m args below meth c H locs la QQ F hP hS hl hk1 hk2 hn hend
  have z1 : x.1 = 0 := Nat.le_zero.mp (by rw [← hc0]; exact hk1)
  have z2 : x.2 = 0 := Nat.le_zero.mp (by rw [← hs0]; exact hk2)
  have hk := hend (some (.long a)) hp H locs la pc h.2 ⟨hd, hr⟩ hP hS (Or.inl (by rw [hn, hc0]; show n0 + x.1 = _; rw [z1]))
  refine W.widen (k := (pm_rm y).cells) (n := (pm_rm y).slots) hk1 hk2 ?_
  exact hk
theorem ps_vret {E : pm_E} {y pc nx : Nat} (hd : decode (pm_cd y) pc = .ok (.return_, 1)) (hr : pm_rt y = none) (hc0 : (pm_rm y).cells = 0) (hs0 : (pm_rm y).slots = 0) : pm_Snd E y pc nx po_vret := by
  intro N J C M Q S hN hJ hC hM h
  obtain ⟨ls, st, hp, x⟩ := S
  have h1 : st = [] ∧ (True ∧ Q none hp) := by
    cases st with
    | nil => exact ⟨rfl, h⟩
    | cons a r => exact h.elim
  obtain ⟨rfl, h⟩ := h1
  intro n0 p e s m args below meth c H locs la QQ F hP hS hl hk1 hk2 hn hend
  have z1 : x.1 = 0 := Nat.le_zero.mp (by rw [← hc0]; exact hk1)
  have z2 : x.2 = 0 := Nat.le_zero.mp (by rw [← hs0]; exact hk2)
  have hk := hend none hp H locs la pc h.2 ⟨hd, hr⟩ hP hS (Or.inl (by rw [hn, hc0]; show n0 + x.1 = _; rw [z1]))
  refine W.widen (k := (pm_rm y).cells) (n := (pm_rm y).slots) hk1 hk2 ?_
  exact hk
theorem ps_vretC {E : pm_E} {y pc nx mc ms : Nat} (hd : decode (pm_cd y) pc = .ok (.return_, 1)) (hr : pm_rt y = none) (hc0 : (pm_rm y).cells = mc) (hs0 : (pm_rm y).slots = ms) : pm_Snd E y pc nx (po_vretC mc ms) := by
  intro N J C M Q S hN hJ hC hM h
  obtain ⟨ls, st, hp, kc, ks⟩ := S
  have h1 : st = [] ∧ ((kc = mc ∧ ks = ms) ∧ Q none hp) := by
    cases st with
    | nil => exact ⟨rfl, h⟩
    | cons a r => exact h.elim
  obtain ⟨rfl, ⟨e1, e2⟩, h⟩ := h1
  intro n0 p e s m args below meth c H locs la QQ F hP hS hl hk1 hk2 hn hend
  have hk := hend none hp H locs la pc h ⟨hd, hr⟩ hP hS (Or.inl (by rw [hn, hc0, ← e1]))
  refine W.widen (k := (pm_rm y).cells) (n := (pm_rm y).slots) hk1 hk2 ?_
  exact hk
/-- the law's end -/
theorem ps_zretL {E : pm_E} {pc nx : Nat} (hd : decode (pm_cd 0) pc = .ok (.ireturn, 1)) : pm_Snd E 0 pc nx (po_zret .boolean) := by
  intro N J C M Q S hN hJ hC hM h
  obtain ⟨ls, st, hp, x⟩ := S
  obtain ⟨a, rfl, h⟩ := pk_ri1_of h
  intro n0 p e s m args below meth c H locs la QQ F hP hS hl hk1 hk2 hn hend
  refine W.widen (k := (pm_rm 0).cells) (n := (pm_rm 0).slots) hk1 hk2 ?_
  exact hend (some (.int a)) hp H locs la pc h.2 ⟨hd, _, rfl, h.1⟩ hP hS (Or.inr rfl)
end
section
/-! ===== cells: fields, arrays, new ones ===== -/
def pg : List va_E → Nat → Option va_E
  | [], _ => none
  | e :: _, 0 => some e
  | _ :: l, n + 1 => pg l n
theorem pg_eq : ∀ (l : List va_E) (n : Nat), pg l n = l[n]?
  | [], n => by simp [pg]
  | e :: l, 0 => by simp [pg]
  | e :: l, n + 1 => by simp [pg, pg_eq l n]
def pf : List Value → Nat → Option Value
  | [], _ => none
  | e :: _, 0 => some e
  | _ :: l, n + 1 => pf l n
theorem pf_eq : ∀ (l : List Value) (n : Nat), pf l n = l[n]?
  | [], n => by simp [pf]
  | e :: l, 0 => by simp [pf]
  | e :: l, n + 1 => by simp [pf, pf_eq l n]
/-- the cell that a reference names: its place, what it holds -/
def pk_at (h : List va_E) (a : Nat) (k : Nat → va_E → Prop) : Prop := match a with
  | i + 4 => match pg h i with
    | some x => k i x
    | none => False
  | _ => False
theorem pk_at_of {h : List va_E} {a : Nat} {k : Nat → va_E → Prop} (q : pk_at h a k) : ∃ (i : Nat) (x : va_E), a = i + 4 ∧ h[i]? = some x ∧ k i x := by
  unfold pk_at at q
  split at q
  · rename_i i
    rw [pg_eq] at q
    split at q
    · rename_i x hx
      exact ⟨i, x, rfl, hx, q⟩
    · exact q.elim
  · exact q.elim
def pk_is (b : Bool) (P : Prop) : Prop := match b with
  | true => P
  | false => False
theorem pk_is_of {b : Bool} {P : Prop} (h : pk_is b P) : b = true ∧ P := by
  cases b
  · exact h.elim
  · exact ⟨rfl, h⟩
/-- an object of the class ci -/
def pk_ob (ci : Nat) (x : va_E) (k : List Value → Prop) : Prop := match x with
  | .inr (c, fs) => pk_is (Nat.beq c ci) (k fs)
  | _ => False
theorem pk_ob_of {ci : Nat} {x : va_E} {k : List Value → Prop} (h : pk_ob ci x k) : ∃ fs : List Value, x = .inr (ci, fs) ∧ k fs := by
  unfold pk_ob at h
  split at h
  · obtain ⟨h1, h2⟩ := pk_is_of h
    rw [Nat.eq_of_beq_eq_true h1]
    exact ⟨_, rfl, h2⟩
  · exact h.elim
def pk_ai (t : Nat) (x : va_E) (k : Nat → (Nat → Int32) → Prop) : Prop := match x with
  | .inl (c, n, .inl f) => pk_is (Nat.beq c t) (k n f)
  | _ => False
theorem pk_ai_of {t : Nat} {x : va_E} {k : Nat → (Nat → Int32) → Prop} (h : pk_ai t x k) : ∃ (n : Nat) (f : Nat → Int32), x = .inl (t, n, .inl f) ∧ k n f := by
  unfold pk_ai at h
  split at h
  · obtain ⟨h1, h2⟩ := pk_is_of h
    rw [Nat.eq_of_beq_eq_true h1]
    exact ⟨_, _, rfl, h2⟩
  · exact h.elim
def pk_al (x : va_E) (k : Nat → (Nat → Int64) → Prop) : Prop := match x with
  | .inl (c, n, .inr (.inl f)) => pk_is (Nat.beq c 2) (k n f)
  | _ => False
theorem pk_al_of {x : va_E} {k : Nat → (Nat → Int64) → Prop} (h : pk_al x k) : ∃ (n : Nat) (f : Nat → Int64), x = .inl (2, n, .inr (.inl f)) ∧ k n f := by
  unfold pk_al at h
  split at h
  · obtain ⟨h1, h2⟩ := pk_is_of h
    rw [Nat.eq_of_beq_eq_true h1]
    exact ⟨_, _, rfl, h2⟩
  · exact h.elim
def pk_aq (x : va_E) (k : Nat → (Nat → Option Nat) → Prop) : Prop := match x with
  | .inl (c, n, .inr (.inr (.inr (.inr f)))) => pk_is (Nat.beq c 3) (k n f)
  | _ => False
theorem pk_aq_of {x : va_E} {k : Nat → (Nat → Option Nat) → Prop} (h : pk_aq x k) : ∃ (n : Nat) (f : Nat → Option Nat), x = .inl (3, n, .inr (.inr (.inr (.inr f)))) ∧ k n f := by
  unfold pk_aq at h
  split at h
  · obtain ⟨h1, h2⟩ := pk_is_of h
    rw [Nat.eq_of_beq_eq_true h1]
    exact ⟨_, _, rfl, h2⟩
  · exact h.elim
theorem pm_w_at {E : pm_E} {h : List va_E} {i : Nat} {x : va_E} (hx : h[i]? = some x) : (pm_w E 0 h)[i]? = some (pm_ad E (i + 4), pm_c E x) := by
  rw [pm_w_get, hx, Nat.zero_add]
  rfl
theorem pm_w_put {E : pm_E} {h : List va_E} {i : Nat} (x : va_E) : (pm_w E 0 h).set i (pm_ad E (i + 4), pm_c E x) = pm_w E 0 (h.set i x) := by
  rw [pm_w_set, Nat.zero_add]
/-- a class of the worlds, with what the tables say of its fields -/
def pm_Cl (ci : Nat) (C : String) (T : u_T) (N : Nat) (ty : Nat → FieldType) : Prop := vwCl[ci]? = some (C, T, N) ∧ (∀ w ∈ u_ws C T N, w ∈ pm_ws) ∧ (∀ k, k < N → parseFieldDescriptor (T k).2.2.1 = some (ty k)) ∧ (∀ a, a < N → ∀ b, b < N → a ≠ b → (T a).2.1 ≠ (T b).2.1)
def po_get (ci k : Nat) : pm_Op := fun N _ _ _ _ s => match s with
  | (ls, st, h, x) => pk_r st fun a r => pk_at h a fun _ o => pk_ob ci o fun fs => match pf fs k with
    | some v => N (ls, v :: r, h, x)
    | none => False
theorem pm_get_of {ci k : Nat} {st : List Value} {h : List va_E} {K : Value → List Value → Prop} (q : pk_r st fun a r => pk_at h a fun _ o => pk_ob ci o fun fs => match pf fs k with
    | some v => K v r
    | none => False) : ∃ (i : Nat) (fs : List Value) (v : Value) (r : List Value), st = .ref (i + 4) :: r ∧ h[i]? = some (.inr (ci, fs)) ∧ fs[k]? = some v ∧ K v r := by
  obtain ⟨a, r, rfl, q1⟩ := pk_r_of q
  obtain ⟨i, o, rfl, ho, q2⟩ := pk_at_of q1
  obtain ⟨fs, rfl, q3⟩ := pk_ob_of q2
  rw [pf_eq] at q3
  split at q3
  · rename_i v hv
    exact ⟨i, fs, v, r, rfl, ho, hv, q3⟩
  · exact q3.elim
theorem ps_get {E : pm_E} {y pc ci k idx N0 : Nat} {Cn : String} {T : u_T} {ty : Nat → FieldType} (hcl : pm_Cl ci Cn T N0 ty) (hk : k < N0) (hw : Cond.fieldLink (pm_nm y).cls idx (T k).1 (T k).2.1 (T k).2.2.1 ∈ pm_ws) (hd : decode (pm_cd y) pc = .ok (.getfield idx, 3)) : pm_Snd E y pc (pc + 3) (po_get ci k) := by
  intro N J C M Q S hN hJ hC hM h
  obtain ⟨ls, st, hp, x⟩ := S
  obtain ⟨i, fs, v, r, rfl, ho, hv, h⟩ := pm_get_of h
  intro n0 p e s m args below meth c H locs la QQ F hP hS hl hk1 hk2 hn hend
  show W p E.1 e (pm_rm y) s m args below meth c H locs _ _ QQ (F0 m pc la (List.map (pm_v E) (.ref (i + 4) :: r)))
  rw [List.map_cons, pm_v_ref4]
  exact va_get (ci := ci) (C := Cn) F.1 F.2.1 F.2.2.2.2.1 hcl.2.1 F.2.2.2.1 F.2.2.2.2.2.2.2.2.2.1 hP i (pm_w_at ho) hcl.1 k hk (F.2.2.2.2.1 _ hw) (fun _ h9 => h9) (v := pm_v E v) (by rw [List.getElem?_map, hv]; rfl) hd (hN _ h n0 p e s m args below meth c H locs la QQ F hP hS hl hk1 hk2 hn hend)
theorem ps_getN {E : pm_E} {y pc ci k idx N0 : Nat} {Cn host : String} {T : u_T} {ty : Nat → FieldType} (hcl : pm_Cl ci Cn T N0 ty) (hk : k < N0) (hw : Cond.fieldLinkNest (pm_nm y).cls idx (T k).1 (T k).2.1 (T k).2.2.1 host ∈ pm_nw) (hd : decode (pm_cd y) pc = .ok (.getfield idx, 3)) : pm_Snd E y pc (pc + 3) (po_get ci k) := by
  intro N J C M Q S hN hJ hC hM h
  obtain ⟨ls, st, hp, x⟩ := S
  obtain ⟨i, fs, v, r, rfl, ho, hv, h⟩ := pm_get_of h
  intro n0 p e s m args below meth c H locs la QQ F hP hS hl hk1 hk2 hn hend
  show W p E.1 e (pm_rm y) s m args below meth c H locs _ _ QQ (F0 m pc la (List.map (pm_v E) (.ref (i + 4) :: r)))
  rw [List.map_cons, pm_v_ref4]
  exact va_getN (ci := ci) (C := Cn) F.1 F.2.1 F.2.2.2.2.1 hcl.2.1 F.2.2.2.1 F.2.2.2.2.2.2.2.2.2.1 hP i (pm_w_at ho) hcl.1 k hk (va_Nw.use rfl (F.2.2.2.2.2.1 _ hw)) (fun _ h9 => h9) (v := pm_v E v) (by rw [List.getElem?_map, hv]; rfl) hd (hN _ h n0 p e s m args below meth c H locs la QQ F hP hS hl hk1 hk2 hn hend)
/-- does a value fit its field as it is -/
def pk_fit (ty : FieldType) (v : Value) (P : Prop) : Prop := match ty, v with
  | .int, .int _ => P
  | .long, .long _ => P
  | .object _, .ref _ => P
  | .array _, .ref _ => P
  | .char, .int z => (narrow .char (.int z) = .int z ∧ fits .char (.int z) = true) ∧ P
  | _, _ => False
theorem pk_fit_of {E : pm_E} {ty : FieldType} {v : Value} {P : Prop} (hv3 : ¬ v = .ref 3) (h : pk_fit ty v P) : (narrow ty (pm_v E v) = pm_v E v ∧ fits ty (pm_v E v) = true) ∧ P := by
  unfold pk_fit at h
  split at h
  · exact ⟨⟨rfl, rfl⟩, h⟩
  · exact ⟨⟨rfl, rfl⟩, h⟩
  · rename_i a
    have : ¬ a = 3 := fun e => hv3 (by rw [e])
    rw [pm_v_ref this]
    exact ⟨⟨rfl, rfl⟩, h⟩
  · rename_i a
    have : ¬ a = 3 := fun e => hv3 (by rw [e])
    rw [pm_v_ref this]
    exact ⟨⟨rfl, rfl⟩, h⟩
  · exact h
  · exact h.elim
def pk_v3 (v : Value) (P : Prop) : Prop := match v with
  | .ref a => pk_n3 a P
  | _ => P
theorem pk_v3_of {v : Value} {P : Prop} (h : pk_v3 v P) : ¬ v = .ref 3 ∧ P := by
  unfold pk_v3 at h
  split at h
  · obtain ⟨h1, h2⟩ := pk_n3_of h
    exact ⟨fun e => h1 (by cases e; rfl), h2⟩
  · rename_i h1
    exact ⟨fun e => h1 3 e, h⟩
def po_put (ci k : Nat) (ty : FieldType) : pm_Op := fun N _ _ _ _ s => match s with
  | (ls, st, h, x) => pk_vr st fun a v r => pk_at h a fun i o => pk_ob ci o fun fs => pk_v3 v (pk_fit ty v (pk_is (Nat.blt k fs.length) (N (ls, r, h.set i (.inr (ci, fs.set k v)), x))))
theorem pm_put_of {E : pm_E} {ci k : Nat} {ty : FieldType} {st : List Value} {h : List va_E} {K : List va_E → List Value → Prop} (q : pk_vr st fun a v r => pk_at h a fun i o => pk_ob ci o fun fs => pk_v3 v (pk_fit ty v (pk_is (Nat.blt k fs.length) (K (h.set i (.inr (ci, fs.set k v))) r)))) : ∃ (i : Nat) (fs : List Value) (v : Value) (r : List Value), st = v :: .ref (i + 4) :: r ∧ h[i]? = some (.inr (ci, fs)) ∧ k < fs.length ∧ (narrow ty (pm_v E v) = pm_v E v ∧ fits ty (pm_v E v) = true) ∧ K (h.set i (.inr (ci, fs.set k v))) r := by
  obtain ⟨a, v, r, rfl, q1⟩ := pk_vr_of q
  obtain ⟨i, o, rfl, ho, q2⟩ := pk_at_of q1
  obtain ⟨fs, rfl, q3⟩ := pk_ob_of q2
  obtain ⟨h3, q4⟩ := pk_v3_of q3
  obtain ⟨hf, q5⟩ := pk_fit_of (E := E) h3 q4
  obtain ⟨hk, q6⟩ := pk_is_of q5
  exact ⟨i, fs, v, r, rfl, ho, Nat.le_of_ble_eq_true hk, hf, q6⟩
theorem pm_set_map (E : pm_E) (ci k : Nat) (fs : List Value) (v : Value) : (.inr (ci, (fs.map (pm_v E)).set k (pm_v E v)) : va_E) = pm_c E (.inr (ci, fs.set k v)) := by
  show _ = (.inr (ci, (fs.set k v).map (pm_v E)) : va_E)
  rw [List.map_set]
theorem ps_put {E : pm_E} {y pc ci k idx N0 : Nat} {Cn : String} {T : u_T} {ty : Nat → FieldType} {t : FieldType} (hcl : pm_Cl ci Cn T N0 ty) (hk : k < N0) (hw : Cond.fieldLink (pm_nm y).cls idx (T k).1 (T k).2.1 (T k).2.2.1 ∈ pm_ws) (ht : ty k = t) (hfin : (T k).2.2.2 = false) (hd : decode (pm_cd y) pc = .ok (.putfield idx, 3)) : pm_Snd E y pc (pc + 3) (po_put ci k t) := by
  intro N J C M Q S hN hJ hC hM h
  obtain ⟨ls, st, hp, x⟩ := S
  obtain ⟨i, fs, v, r, rfl, ho, hkl, hf, h⟩ := pm_put_of (E := E) (K := fun hp r => N (ls, r, hp, x)) h
  intro n0 p e s m args below meth c H locs la QQ F hP hS hl hk1 hk2 hn hend
  show W p E.1 e (pm_rm y) s m args below meth c H locs _ _ QQ (F0 m pc la (List.map (pm_v E) (v :: .ref (i + 4) :: r)))
  rw [List.map_cons, List.map_cons, pm_v_ref4]
  refine va_put (ci := ci) (C := Cn) F.1 F.2.1 F.2.2.2.2.1 hcl.2.1 ty hcl.2.2.1 hcl.2.2.2 F.2.2.2.1 F.2.2.2.2.2.2.2.2.2.1 hP (pm_D F.2.2.2.2.2.2.2.2.2.2.1.1 hp) hS i (pm_w_at ho) hcl.1 k hk (F.2.2.2.2.1 _ hw) (fun _ h9 => h9) hfin (by rw [hcl.2.2.1 k hk, ht]) hf.1 hf.2 (by rw [List.length_map]; exact hkl) hd (fun H1 locs1 hP1 _ hS1 => ?_)
  rw [pm_set_map, pm_w_put] at hP1
  exact hN _ h n0 p e s m args below meth c H1 locs1 la QQ F hP1 hS1 hl hk1 hk2 (by rw [show (ls, r, hp.set i (.inr (ci, fs.set k v)), x).2.2.1 = hp.set i (.inr (ci, fs.set k v)) from rfl, List.length_set]; exact hn) hend
theorem ps_putN {E : pm_E} {y pc ci k idx N0 : Nat} {Cn host : String} {T : u_T} {ty : Nat → FieldType} {t : FieldType} (hcl : pm_Cl ci Cn T N0 ty) (hk : k < N0) (hw : Cond.fieldLinkNest (pm_nm y).cls idx (T k).1 (T k).2.1 (T k).2.2.1 host ∈ pm_nw) (ht : ty k = t) (hfin : (T k).2.2.2 = false) (hd : decode (pm_cd y) pc = .ok (.putfield idx, 3)) : pm_Snd E y pc (pc + 3) (po_put ci k t) := by
  intro N J C M Q S hN hJ hC hM h
  obtain ⟨ls, st, hp, x⟩ := S
  obtain ⟨i, fs, v, r, rfl, ho, hkl, hf, h⟩ := pm_put_of (E := E) (K := fun hp r => N (ls, r, hp, x)) h
  intro n0 p e s m args below meth c H locs la QQ F hP hS hl hk1 hk2 hn hend
  show W p E.1 e (pm_rm y) s m args below meth c H locs _ _ QQ (F0 m pc la (List.map (pm_v E) (v :: .ref (i + 4) :: r)))
  rw [List.map_cons, List.map_cons, pm_v_ref4]
  refine va_putN (ci := ci) (C := Cn) F.1 F.2.1 F.2.2.2.2.1 hcl.2.1 ty hcl.2.2.1 hcl.2.2.2 F.2.2.2.1 F.2.2.2.2.2.2.2.2.2.1 hP (pm_D F.2.2.2.2.2.2.2.2.2.2.1.1 hp) hS i (pm_w_at ho) hcl.1 k hk (va_Nw.use rfl (F.2.2.2.2.2.1 _ hw)) (fun _ h9 => h9) hfin (by rw [hcl.2.2.1 k hk, ht]) hf.1 hf.2 (by rw [List.length_map]; exact hkl) hd (fun H1 locs1 hP1 _ hS1 => ?_)
  rw [pm_set_map, pm_w_put] at hP1
  exact hN _ h n0 p e s m args below meth c H1 locs1 la QQ F hP1 hS1 hl hk1 hk2 (by rw [show (ls, r, hp.set i (.inr (ci, fs.set k v)), x).2.2.1 = hp.set i (.inr (ci, fs.set k v)) from rfl, List.length_set]; exact hn) hend
theorem ps_putF {E : pm_E} {y pc ci k idx N0 : Nat} {Cn : String} {T : u_T} {ty : Nat → FieldType} {t : FieldType} (hcl : pm_Cl ci Cn T N0 ty) (hk : k < N0) (hw : Cond.fieldLink (pm_nm y).cls idx (T k).1 (T k).2.1 (T k).2.2.1 ∈ pm_ws) (ht : ty k = t) (hfin : (T k).2.2.2 = true) (hin : (pm_nm y).name = "<init>") (hdc : (T k).1 = (pm_nm y).cls) (hd : decode (pm_cd y) pc = .ok (.putfield idx, 3)) : pm_Snd E y pc (pc + 3) (po_put ci k t) := by
  intro N J C M Q S hN hJ hC hM h
  obtain ⟨ls, st, hp, x⟩ := S
  obtain ⟨i, fs, v, r, rfl, ho, hkl, hf, h⟩ := pm_put_of (E := E) (K := fun hp r => N (ls, r, hp, x)) h
  intro n0 p e s m args below meth c H locs la QQ F hP hS hl hk1 hk2 hn hend
  show W p E.1 e (pm_rm y) s m args below meth c H locs _ _ QQ (F0 m pc la (List.map (pm_v E) (v :: .ref (i + 4) :: r)))
  rw [List.map_cons, List.map_cons, pm_v_ref4]
  refine va_putF (ci := ci) (C := Cn) F.1 F.2.1 F.2.2.2.2.1 hcl.2.1 ty hcl.2.2.1 hcl.2.2.2 F.2.2.2.1 F.2.2.2.2.2.2.2.2.2.1 hP (pm_D F.2.2.2.2.2.2.2.2.2.2.1.1 hp) hS i (pm_w_at ho) hcl.1 k hk (F.2.2.2.2.1 _ hw) (fun _ h9 => h9) hfin (by rw [F.2.2.2.2.2.2.2.2.1]; exact hin) hdc (by rw [hcl.2.2.1 k hk, ht]) hf.1 hf.2 (by rw [List.length_map]; exact hkl) hd (fun H1 locs1 hP1 _ hS1 => ?_)
  rw [pm_set_map, pm_w_put] at hP1
  exact hN _ h n0 p e s m args below meth c H1 locs1 la QQ F hP1 hS1 hl hk1 hk2 (by rw [show (ls, r, hp.set i (.inr (ci, fs.set k v)), x).2.2.1 = hp.set i (.inr (ci, fs.set k v)) from rfl, List.length_set]; exact hn) hend
end
section
/-! ===== arrays ===== -/
def po_iald : pm_Op := fun N _ _ _ _ s => match s with
  | (ls, st, h, x) => pk_ri st fun a i r => pk_at h a fun _ o => pk_ai 1 o fun n f => vp_in i n ∧ N (ls, .int (f i.toNatClampNeg) :: r, h, x)
theorem ps_iald {E : pm_E} {y pc : Nat} (hd : decode (pm_cd y) pc = .ok (.iaload, 1)) : pm_Snd E y pc (pc + 1) po_iald := by
  intro N J C M Q S hN hJ hC hM h
  obtain ⟨ls, st, hp, x⟩ := S
  obtain ⟨a, i, r, rfl, h1⟩ := pk_ri_of h
  obtain ⟨k, o, rfl, ho, h2⟩ := pk_at_of h1
  obtain ⟨n, f, rfl, h3, h4⟩ := pk_ai_of h2
  intro n0 p e s m args below meth c H locs la QQ F hP hS hl hk1 hk2 hn hend
  show W p E.1 e (pm_rm y) s m args below meth c H locs _ _ QQ (F0 m pc la (List.map (pm_v E) (.int i :: .ref (k + 4) :: r)))
  rw [List.map_cons, List.map_cons, pm_v_ref4]
  exact va_iald F.1 F.2.1 F.2.2.2.2.2.2.2.2.2.1 hP k 1 (pm_w_at ho) rfl h3 hd (hN _ h4 n0 p e s m args below meth c H locs la QQ F hP hS hl hk1 hk2 hn hend)
def po_cald : pm_Op := fun N _ _ _ _ s => match s with
  | (ls, st, h, x) => pk_ri st fun a i r => pk_at h a fun _ o => pk_ai 0 o fun n f => vp_in i n ∧ N (ls, .int (f i.toNatClampNeg) :: r, h, x)
theorem ps_cald {E : pm_E} {y pc : Nat} (hd : decode (pm_cd y) pc = .ok (.caload, 1)) : pm_Snd E y pc (pc + 1) po_cald := by
  intro N J C M Q S hN hJ hC hM h
  obtain ⟨ls, st, hp, x⟩ := S
  obtain ⟨a, i, r, rfl, h1⟩ := pk_ri_of h
  obtain ⟨k, o, rfl, ho, h2⟩ := pk_at_of h1
  obtain ⟨n, f, rfl, h3, h4⟩ := pk_ai_of h2
  intro n0 p e s m args below meth c H locs la QQ F hP hS hl hk1 hk2 hn hend
  show W p E.1 e (pm_rm y) s m args below meth c H locs _ _ QQ (F0 m pc la (List.map (pm_v E) (.int i :: .ref (k + 4) :: r)))
  rw [List.map_cons, List.map_cons, pm_v_ref4]
  exact va_cald F.1 F.2.1 F.2.2.2.2.2.2.2.2.2.1 hP k 0 (pm_w_at ho) rfl h3 hd (hN _ h4 n0 p e s m args below meth c H locs la QQ F hP hS hl hk1 hk2 hn hend)
def po_lald : pm_Op := fun N _ _ _ _ s => match s with
  | (ls, st, h, x) => pk_ri st fun a i r => pk_at h a fun _ o => pk_al o fun n f => vp_in i n ∧ N (ls, .long (f i.toNatClampNeg) :: r, h, x)
theorem ps_lald {E : pm_E} {y pc : Nat} (hd : decode (pm_cd y) pc = .ok (.laload, 1)) : pm_Snd E y pc (pc + 1) po_lald := by
  intro N J C M Q S hN hJ hC hM h
  obtain ⟨ls, st, hp, x⟩ := S
  obtain ⟨a, i, r, rfl, h1⟩ := pk_ri_of h
  obtain ⟨k, o, rfl, ho, h2⟩ := pk_at_of h1
  obtain ⟨n, f, rfl, h3, h4⟩ := pk_al_of h2
  intro n0 p e s m args below meth c H locs la QQ F hP hS hl hk1 hk2 hn hend
  show W p E.1 e (pm_rm y) s m args below meth c H locs _ _ QQ (F0 m pc la (List.map (pm_v E) (.int i :: .ref (k + 4) :: r)))
  rw [List.map_cons, List.map_cons, pm_v_ref4]
  exact va_lald F.1 F.2.1 F.2.2.2.2.2.2.2.2.2.1 hP k 2 (pm_w_at ho) rfl h3 hd (hN _ h4 n0 p e s m args below meth c H locs la QQ F hP hS hl hk1 hk2 hn hend)
/-- an element of the array of states: a reference is there -/
def po_aald : pm_Op := fun N _ _ _ _ s => match s with
  | (ls, st, h, x) => pk_ri st fun a i r => pk_at h a fun _ o => pk_aq o fun n f => vp_in i n ∧ ∃ b : Nat, (f i.toNatClampNeg = some (b + 4)) ∧ N (ls, .ref (b + 4) :: r, h, x)
theorem ps_aald {E : pm_E} {y pc : Nat} (hd : decode (pm_cd y) pc = .ok (.aaload, 1)) : pm_Snd E y pc (pc + 1) po_aald := by
  intro N J C M Q S hN hJ hC hM h
  obtain ⟨ls, st, hp, x⟩ := S
  obtain ⟨a, i, r, rfl, h1⟩ := pk_ri_of h
  obtain ⟨k, o, rfl, ho, h2⟩ := pk_at_of h1
  obtain ⟨n, f, rfl, h3, b, hb, h4⟩ := pk_aq_of h2
  intro n0 p e s m args below meth c H locs la QQ F hP hS hl hk1 hk2 hn hend
  show W p E.1 e (pm_rm y) s m args below meth c H locs _ _ QQ (F0 m pc la (List.map (pm_v E) (.int i :: .ref (k + 4) :: r)))
  rw [List.map_cons, List.map_cons, pm_v_ref4]
  refine va_aldq F.1 F.2.1 F.2.2.2.2.2.2.2.2.2.1 hP k 3 (pm_w_at ho) rfl h3 hd ?_
  have hk := hN _ h4 n0 p e s m args below meth c H locs la QQ F hP hS hl hk1 hk2 hn hend
  rw [show (ls, Value.ref (b + 4) :: r, hp, x).2.1 = Value.ref (b + 4) :: r from rfl, List.map_cons, pm_v_ref4] at hk
  show W p E.1 e (pm_rm y) s m args below meth c H locs _ _ QQ (F0 m (pc + 1) la (va_rf ((f i.toNatClampNeg).map (pm_ad E)) :: _))
  rw [hb]
  exact hk
theorem pm_len_set {ls : List (Option Value)} {r : List Value} {hp : List va_E} {k n0 : Nat} {e : va_E} {x : Nat × Nat} {st : List Value} (hn : (ls, st, hp, x).2.2.1.length = n0 + (ls, st, hp, x).2.2.2.1) : (ls, r, hp.set k e, x).2.2.1.length = n0 + (ls, r, hp.set k e, x).2.2.2.1 := by
  show (hp.set k e).length = n0 + x.1
  rw [List.length_set]
  exact hn
def po_iast : pm_Op := fun N _ _ _ _ s => match s with
  | (ls, st, h, x) => pk_rii st fun a i v r => pk_at h a fun k o => pk_ai 1 o fun n f => vp_in i n ∧ N (ls, r, h.set k (.inl (1, n, .inl (upd f i.toNatClampNeg v))), x)
theorem ps_iast {E : pm_E} {y pc : Nat} (hd : decode (pm_cd y) pc = .ok (.iastore, 1)) : pm_Snd E y pc (pc + 1) po_iast := by
  intro N J C M Q S hN hJ hC hM h
  obtain ⟨ls, st, hp, x⟩ := S
  obtain ⟨a, i, v, r, rfl, h1⟩ := pk_rii_of h
  obtain ⟨k, o, rfl, ho, h2⟩ := pk_at_of h1
  obtain ⟨n, f, rfl, h3, h4⟩ := pk_ai_of h2
  intro n0 p e s m args below meth c H locs la QQ F hP hS hl hk1 hk2 hn hend
  show W p E.1 e (pm_rm y) s m args below meth c H locs _ _ QQ (F0 m pc la (List.map (pm_v E) (.int v :: .int i :: .ref (k + 4) :: r)))
  rw [List.map_cons, List.map_cons, List.map_cons, pm_v_ref4]
  refine va_iast F.1 F.2.1 F.2.2.2.2.2.2.2.2.2.1 hP (pm_D F.2.2.2.2.2.2.2.2.2.2.1.1 hp) hS k 1 (pm_w_at ho) rfl h3 hd (fun H1 locs1 hP1 _ hS1 => ?_)
  have hP2 : va_P E.2.1 vwCl (pm_w E 0 (hp.set k (.inl (1, n, .inl (upd f i.toNatClampNeg v))))) H1 := by rw [← pm_w_put]; exact hP1
  exact hN _ h4 n0 p e s m args below meth c H1 locs1 la QQ F hP2 hS1 hl hk1 hk2 (pm_len_set hn) hend
def po_cast : pm_Op := fun N _ _ _ _ s => match s with
  | (ls, st, h, x) => pk_rii st fun a i v r => pk_at h a fun k o => pk_ai 0 o fun n f => vp_in i n ∧ N (ls, r, h.set k (.inl (0, n, .inl (upd f i.toNatClampNeg (vp_nar .char v)))), x)
theorem ps_cast {E : pm_E} {y pc : Nat} (hd : decode (pm_cd y) pc = .ok (.castore, 1)) : pm_Snd E y pc (pc + 1) po_cast := by
  intro N J C M Q S hN hJ hC hM h
  obtain ⟨ls, st, hp, x⟩ := S
  obtain ⟨a, i, v, r, rfl, h1⟩ := pk_rii_of h
  obtain ⟨k, o, rfl, ho, h2⟩ := pk_at_of h1
  obtain ⟨n, f, rfl, h3, h4⟩ := pk_ai_of h2
  intro n0 p e s m args below meth c H locs la QQ F hP hS hl hk1 hk2 hn hend
  show W p E.1 e (pm_rm y) s m args below meth c H locs _ _ QQ (F0 m pc la (List.map (pm_v E) (.int v :: .int i :: .ref (k + 4) :: r)))
  rw [List.map_cons, List.map_cons, List.map_cons, pm_v_ref4]
  refine va_cast F.1 F.2.1 F.2.2.2.2.2.2.2.2.2.1 hP (pm_D F.2.2.2.2.2.2.2.2.2.2.1.1 hp) hS k 0 (pm_w_at ho) rfl h3 hd (fun H1 locs1 hP1 _ hS1 => ?_)
  have hP2 : va_P E.2.1 vwCl (pm_w E 0 (hp.set k (.inl (0, n, .inl (upd f i.toNatClampNeg (vp_nar .char v)))))) H1 := by rw [← pm_w_put]; exact hP1
  exact hN _ h4 n0 p e s m args below meth c H1 locs1 la QQ F hP2 hS1 hl hk1 hk2 (pm_len_set hn) hend
def po_last : pm_Op := fun N _ _ _ _ s => match s with
  | (ls, st, h, x) => pk_ril st fun a i v r => pk_at h a fun k o => pk_al o fun n f => vp_in i n ∧ N (ls, r, h.set k (.inl (2, n, .inr (.inl (vp_updL f i.toNatClampNeg v)))), x)
theorem ps_last {E : pm_E} {y pc : Nat} (hd : decode (pm_cd y) pc = .ok (.lastore, 1)) : pm_Snd E y pc (pc + 1) po_last := by
  intro N J C M Q S hN hJ hC hM h
  obtain ⟨ls, st, hp, x⟩ := S
  obtain ⟨a, i, v, r, rfl, h1⟩ := pk_ril_of h
  obtain ⟨k, o, rfl, ho, h2⟩ := pk_at_of h1
  obtain ⟨n, f, rfl, h3, h4⟩ := pk_al_of h2
  intro n0 p e s m args below meth c H locs la QQ F hP hS hl hk1 hk2 hn hend
  show W p E.1 e (pm_rm y) s m args below meth c H locs _ _ QQ (F0 m pc la (List.map (pm_v E) (.long v :: .int i :: .ref (k + 4) :: r)))
  rw [List.map_cons, List.map_cons, List.map_cons, pm_v_ref4]
  refine va_last F.1 F.2.1 F.2.2.2.2.2.2.2.2.2.1 hP (pm_D F.2.2.2.2.2.2.2.2.2.2.1.1 hp) hS k 2 (pm_w_at ho) rfl h3 hd (fun H1 locs1 hP1 _ hS1 => ?_)
  have hP2 : va_P E.2.1 vwCl (pm_w E 0 (hp.set k (.inl (2, n, .inr (.inl (vp_updL f i.toNatClampNeg v)))))) H1 := by rw [← pm_w_put]; exact hP1
  exact hN _ h4 n0 p e s m args below meth c H1 locs1 la QQ F hP2 hS1 hl hk1 hk2 (pm_len_set hn) hend
/-- a state (class 6) into the array of states -/
def po_aast : pm_Op := fun N _ _ _ _ s => match s with
  | (ls, st, h, x) => pk_rir st fun a i b r => pk_at h a fun k o => pk_aq o fun n f => pk_at h b fun _ w => pk_ob 6 w fun _ => vp_in i n ∧ N (ls, r, h.set k (.inl (3, n, .inr (.inr (.inr (.inr (va_up f i.toNatClampNeg (some b))))))), x)
theorem ps_aast {E : pm_E} {y pc : Nat} (hd : decode (pm_cd y) pc = .ok (.aastore, 1)) : pm_Snd E y pc (pc + 1) po_aast := by
  intro N J C M Q S hN hJ hC hM h
  obtain ⟨ls, st, hp, x⟩ := S
  obtain ⟨a, i, b, r, rfl, h1⟩ := pk_rir_of h
  obtain ⟨k, o, rfl, ho, h2⟩ := pk_at_of h1
  obtain ⟨n, f, rfl, h3⟩ := pk_aq_of h2
  obtain ⟨kb, w, rfl, hw, h4⟩ := pk_at_of h3
  obtain ⟨fs, rfl, h5, h6⟩ := pk_ob_of h4
  intro n0 p e s m args below meth c H locs la QQ F hP hS hl hk1 hk2 hn hend
  show W p E.1 e (pm_rm y) s m args below meth c H locs _ _ QQ (F0 m pc la (List.map (pm_v E) (.ref (kb + 4) :: .int i :: .ref (k + 4) :: r)))
  rw [List.map_cons, List.map_cons, List.map_cons, pm_v_ref4, pm_v_ref4]
  refine va_astq (r := (RX6, TX6, 3)) F.1 F.2.1 F.2.2.2.2.2.2.2.2.2.1 hP (pm_D F.2.2.2.2.2.2.2.2.2.2.1.1 hp) hS k 3 kb 6 (pm_w_at ho) rfl (pm_w_at hw) rfl h5 hd (fun H1 locs1 hP1 _ hS1 => ?_)
  have hP2 : va_P E.2.1 vwCl (pm_w E 0 (hp.set k (.inl (3, n, .inr (.inr (.inr (.inr (va_up f i.toNatClampNeg (some (kb + 4)))))))))) H1 := by
    rw [← pm_w_put]
    have e1 : pm_c E (.inl (3, n, .inr (.inr (.inr (.inr (va_up f i.toNatClampNeg (some (kb + 4)))))))) = .inl (pm_tc E 3, n, .inr (.inr (.inr (.inr (va_up (fun j => (f j).map (pm_ad E)) i.toNatClampNeg (some (pm_ad E (kb + 4)))))))) := by
      show (.inl (pm_tc E 3, n, .inr (.inr (.inr (.inr (fun j => (va_up f i.toNatClampNeg (some (kb + 4)) j).map (pm_ad E)))))) : va_E) = _
      congr 7
      funext j
      unfold va_up
      split <;> rfl
    rw [e1]
    exact hP1
  exact hN _ h6 n0 p e s m args below meth c H1 locs1 la QQ F hP2 hS1 hl hk1 hk2 (pm_len_set hn) hend
/-! the script, the String, statics -/
def po_sld (L : Nat) (xs : Nat → Int32) : pm_Op := fun N _ _ _ _ s => match s with
  | (ls, st, x) => match st with
    | .int i :: .ref 0 :: r => vp_in i L ∧ N (ls, .int (xs i.toNatClampNeg) :: r, x)
    | _ => False
theorem ps_sld {E : pm_E} {y pc : Nat} (hd : decode (pm_cd y) pc = .ok (.iaload, 1)) : pm_Snd E y pc (pc + 1) (po_sld (pm_L E) (pm_xs E)) := by
  intro N J C M Q S hN hJ hC hM h
  obtain ⟨ls, st, x⟩ := S
  match st, h with
  | .int i :: .ref 0 :: r, h =>
    intro n0 p e s m args below meth c H locs la QQ F hP hS hl hk1 hk2 hn hend
    have hG := F.2.2.2.2.2.2.2.2.2.2.1
    exact va_sld F.1 F.2.1 hG.2.2.1.1 (Nat.lt_of_lt_of_le hG.2.2.1.2.1 hG.2.2.1.2.2) (Nat.not_le.mpr hG.2.2.1.2.1) hS h.1 hd (hN _ h.2 n0 p e s m args below meth c H locs la QQ F hP hS hl hk1 hk2 hn hend)
def po_slen (L : Nat) : pm_Op := fun N _ _ _ _ s => match s with
  | (ls, st, x) => match st with
    | .ref 0 :: r => N (ls, .int (nI L) :: r, x)
    | _ => False
theorem ps_slen {E : pm_E} {y pc : Nat} (hd : decode (pm_cd y) pc = .ok (.arraylength, 1)) : pm_Snd E y pc (pc + 1) (po_slen (pm_L E)) := by
  intro N J C M Q S hN hJ hC hM h
  obtain ⟨ls, st, x⟩ := S
  match st, h with
  | .ref 0 :: r, h =>
    intro n0 p e s m args below meth c H locs la QQ F hP hS hl hk1 hk2 hn hend
    have hG := F.2.2.2.2.2.2.2.2.2.2.1
    exact va_slen F.1 F.2.1 hG.2.2.1.1 (Nat.lt_of_lt_of_le hG.2.2.1.2.1 hG.2.2.1.2.2) (Nat.not_le.mpr hG.2.2.1.2.1) hS hd (hN _ h n0 p e s m args below meth c H locs la QQ F hP hS hl hk1 hk2 hn hend)
def po_str : pm_Op := fun N _ _ _ _ s => match s with
  | (ls, st, x) => N (ls, .ref 1 :: st, x)
theorem ps_str {E : pm_E} {y pc : Nat} (hy : (pm_nm y).cls = "DoubtTime") (hd : decode (pm_cd y) pc = .ok (.ldc 51, 2)) : pm_Snd E y pc (pc + 2) po_str := by
  intro N J C M Q S hN hJ hC hM h
  obtain ⟨ls, st, x⟩ := S
  intro n0 p e s m args below meth c H locs la QQ F hP hS hl hk1 hk2 hn hend
  have hG := F.2.2.2.2.2.2.2.2.2.2.1
  have ho := F.2.2.2.1
  rw [hy] at ho
  exact va_ldcS F.1 F.2.1 ho hG.2.2.2.2.1 hd (hN _ h n0 p e s m args below meth c H locs la QQ F hP hS hl hk1 hk2 hn hend)
/-- the String's fields: its bytes, its coder -/
def po_sval : pm_Op := fun N _ _ _ _ s => match s with
  | (ls, st, x) => match st with
    | .ref 1 :: r => N (ls, .ref 2 :: r, x)
    | _ => False
theorem ps_sval {E : pm_E} {y pc idx : Nat} (hw : Cond.fieldLink (pm_nm y).cls idx "java/lang/String" "value" "[B" ∈ pm_ws) (hd : decode (pm_cd y) pc = .ok (.getfield idx, 3)) : pm_Snd E y pc (pc + 3) po_sval := by
  intro N J C M Q S hN hJ hC hM h
  obtain ⟨ls, st, x⟩ := S
  match st, h with
  | .ref 1 :: r, h =>
    intro n0 p e s m args below meth c H locs la QQ F hP hS hl hk1 hk2 hn hend
    have hG := F.2.2.2.2.2.2.2.2.2.2.1
    exact vk_getf F.1 F.2.1 (hG.2.2.2.2.2.1.1 0 (by decide)).2.2.1 hS F.2.2.2.1 (F.2.2.2.2.1 _ hw) (fun _ h9 => h9) hd (hN _ h n0 p e s m args below meth c H locs la QQ F hP hS hl hk1 hk2 hn hend)
def po_scod : pm_Op := fun N _ _ _ _ s => match s with
  | (ls, st, x) => match st with
    | .ref 1 :: r => N (ls, .int 0 :: r, x)
    | _ => False
theorem ps_scod {E : pm_E} {y pc idx : Nat} (hw : Cond.fieldLink (pm_nm y).cls idx "java/lang/String" "coder" "B" ∈ pm_ws) (hd : decode (pm_cd y) pc = .ok (.getfield idx, 3)) : pm_Snd E y pc (pc + 3) po_scod := by
  intro N J C M Q S hN hJ hC hM h
  obtain ⟨ls, st, x⟩ := S
  match st, h with
  | .ref 1 :: r, h =>
    intro n0 p e s m args below meth c H locs la QQ F hP hS hl hk1 hk2 hn hend
    have hG := F.2.2.2.2.2.2.2.2.2.2.1
    exact vk_getf F.1 F.2.1 (hG.2.2.2.2.2.1.1 0 (by decide)).2.1 hS F.2.2.2.1 (F.2.2.2.2.1 _ hw) (fun _ h9 => h9) hd (hN _ h n0 p e s m args below meth c H locs la QQ F hP hS hl hk1 hk2 hn hend)
def po_sblen : pm_Op := fun N _ _ _ _ s => match s with
  | (ls, st, x) => match st with
    | .ref 2 :: r => N (ls, .int 70 :: r, x)
    | _ => False
theorem ps_sblen {E : pm_E} {y pc : Nat} (hd : decode (pm_cd y) pc = .ok (.arraylength, 1)) : pm_Snd E y pc (pc + 1) po_sblen := by
  intro N J C M Q S hN hJ hC hM h
  obtain ⟨ls, st, x⟩ := S
  match st, h with
  | .ref 2 :: r, h =>
    intro n0 p e s m args below meth c H locs la QQ F hP hS hl hk1 hk2 hn hend
    have hG := F.2.2.2.2.2.2.2.2.2.2.1
    exact va_tlen F.1 F.2.1 (hG.2.2.2.2.2.1.1 0 (by decide)).2.2.2 hS (v := 70) (by decide) hd (hN _ h n0 p e s m args below meth c H locs la QQ F hP hS hl hk1 hk2 hn hend)
def po_sbld : pm_Op := fun N _ _ _ _ s => match s with
  | (ls, st, x) => match st with
    | .int i :: .ref 2 :: r => vp_in i 70 ∧ N (ls, .int (pm_bytes.getD i.toNatClampNeg 0) :: r, x)
    | _ => False
theorem ps_sbld {E : pm_E} {y pc : Nat} (hd : decode (pm_cd y) pc = .ok (.baload, 1)) : pm_Snd E y pc (pc + 1) po_sbld := by
  intro N J C M Q S hN hJ hC hM h
  obtain ⟨ls, st, x⟩ := S
  match st, h with
  | .int i :: .ref 2 :: r, h =>
    intro n0 p e s m args below meth c H locs la QQ F hP hS hl hk1 hk2 hn hend
    have hG := F.2.2.2.2.2.2.2.2.2.2.1
    exact va_tb F.1 F.2.1 (hG.2.2.2.2.2.1.1 0 (by decide)).2.2.2 hS h.1 rfl hd (hN _ h.2 n0 p e s m args below meth c H locs la QQ F hP hS hl hk1 hk2 hn hend)
theorem ps_cmps {E : pm_E} {y pc idx : Nat} (hw : Cond.fieldLink (pm_nm y).cls idx "java/lang/String" "COMPACT_STRINGS" "Z" ∈ pm_ws) (hd : decode (pm_cd y) pc = .ok (.getstatic idx, 3)) : pm_Snd E y pc (pc + 3) (po_ic 1) := by
  intro N J C M Q S hN hJ hC hM h
  obtain ⟨ls, st, x⟩ := S
  intro n0 p e s m args below meth c H locs la QQ F hP hS hl hk1 hk2 hn hend
  have hG := F.2.2.2.2.2.2.2.2.2.2.1
  exact va_gets F.1 F.2.1 hG.2.2.2.2.2.2.1 hS F.2.2.2.1 (F.2.2.2.2.1 _ hw) (fun _ h9 => h9) hd (hN _ h n0 p e s m args below meth c H locs la QQ F hP hS hl hk1 hk2 hn hend)
def po_fmt : pm_Op := fun N _ _ _ _ s => match s with
  | (ls, st, x) => N (ls, .ref 3 :: st, x)
theorem ps_fmt {E : pm_E} {y pc idx : Nat} (hw : Cond.fieldLink (pm_nm y).cls idx "jdk/internal/util/Preconditions" "SIOOBE_FORMATTER" "Ljava/util/function/BiFunction;" ∈ pm_ws) (hd : decode (pm_cd y) pc = .ok (.getstatic idx, 3)) : pm_Snd E y pc (pc + 3) po_fmt := by
  intro N J C M Q S hN hJ hC hM h
  obtain ⟨ls, st, x⟩ := S
  intro n0 p e s m args below meth c H locs la QQ F hP hS hl hk1 hk2 hn hend
  have hG := F.2.2.2.2.2.2.2.2.2.2.1
  exact va_gets F.1 F.2.1 hG.2.2.2.2.2.2.2 hS F.2.2.2.1 (F.2.2.2.2.1 _ hw) (fun _ h9 => h9) hd (hN _ h n0 p e s m args below meth c H locs la QQ F hP hS hl hk1 hk2 hn hend)
end
section
/-! ===== new cells, copies ===== -/
def po_new (ci N0 mc ms : Nat) (fs : List Value) : pm_Op := fun N _ _ _ _ s => match s with
  | (ls, st, h, kc, ks) => pk_is (Nat.ble (kc + 1) mc) (pk_is (Nat.ble (ks + N0) ms) (N (ls, .ref (h.length + 4) :: st, h ++ [.inr (ci, fs)], kc + 1, ks + N0)))
theorem pm_len_app {ls : List (Option Value)} {r st : List Value} {hp : List va_E} {n0 kc ks z : Nat} {e : va_E} (hn : (ls, st, hp, kc, ks).2.2.1.length = n0 + (ls, st, hp, kc, ks).2.2.2.1) : (ls, r, hp ++ [e], kc + 1, z).2.2.1.length = n0 + (ls, r, hp ++ [e], kc + 1, z).2.2.2.1 := by
  show (hp ++ [e]).length = n0 + (kc + 1)
  rw [List.length_append]
  have : hp.length = n0 + kc := hn
  simp
  omega
theorem ps_new {E : pm_E} {y pc ci idx N0 mc ms : Nat} {Cn : String} {T : u_T} {ty : Nat → FieldType} {fs : List Value} (hcl : pm_Cl ci Cn T N0 ty) (hw : Cond.classLink (pm_nm y).cls idx Cn ∈ pm_ws) (hw2 : Cond.instantiable Cn N0 ∈ pm_ws) (hw3 : Cond.initialized Cn ∈ pm_ws) (hfs : ∀ j, j < N0 → defaultValue (ty j) = vp_V fs j) (hfr : ∀ E : pm_E, fs.map (pm_v E) = fs) (hmc : mc ≤ (pm_rm y).cells) (hms : ms ≤ (pm_rm y).slots) (hd : decode (pm_cd y) pc = .ok (.new idx, 3)) : pm_Snd E y pc (pc + 3) (po_new ci N0 mc ms fs) := by
  intro N J C M Q S hN hJ hC hM h
  obtain ⟨ls, st, hp, kc, ks⟩ := S
  obtain ⟨h1, h'⟩ := pk_is_of h
  obtain ⟨h2, h3⟩ := pk_is_of h'
  have b1 : kc + 1 ≤ mc := Nat.le_of_ble_eq_true h1
  have b2 : ks + N0 ≤ ms := Nat.le_of_ble_eq_true h2
  intro n0 p e s m args below meth c H locs la QQ F hP hS hl hk1 hk2 hn hend
  refine pm_sz F hP hS hn (fun hz => ?_)
  have hKn := F.2.2.2.2.2.2.2.2.2.1.1 ci _ hcl.1
  have hE := F.2.2.2.2.2.2.2.2.2.2.1.1
  refine W.newcK F.1 F.2.1 F.2.2.2.1 (F.2.2.2.2.1 _ hw) (F.2.2.2.2.1 _ hw2) (F.2.2.2.2.1 _ hw3) rfl hd (by show kc + 1 ≤ _; omega) (by show ks + N0 ≤ _; omega) hKn.2.1 rfl fun H1 kC hkC e1 z1 o1 => ?_
  have hk : ∀ (k : Nat) (x : Nat × va_E), (pm_w E 0 hp)[k]? = some x → H1[x.1]? = H[x.1]? := fun k x hx => o1 x.1 ((hP k x hx).lt)
  have hz' : H.size = pm_ad E (hp.length + 4) := by rw [hE]; exact hz
  have hP1 : va_P E.2.1 vwCl (pm_w E 0 (hp ++ [.inr (ci, fs)])) H1 := by
    rw [pm_w_app, Nat.zero_add]
    refine (hP.kept hk).app (fun k x hx => ?_)
    have hzz : k < 1 := (List.getElem?_eq_some_iff.mp hx).1
    rw [show k = 0 by omega] at hx
    cases hx
    show va_at E.2.1 vwCl (pm_ad E (hp.length + 4), .inr (ci, fs.map (pm_v E))) H1
    rw [hfr E, ← hz']
    exact ⟨_, hcl.1, (u_born ty F.2.2.2.2.1 hcl.2.1 hKn hkC e1 hcl.2.2.1).to hfs⟩
  have hS1 : va_S (pm_A E) s.heap H1 locs := ⟨Nat.le_trans hS.1 (by omega), fun x g1 g2 => (o1 x (Nat.lt_of_lt_of_le g1 hS.1)).trans (hS.2.1 x g1 g2), hS.2.2⟩
  have hk := hN _ h3 n0 p e s m args below meth c H1 locs la QQ F hP1 hS1 hl (by show kc + 1 ≤ _; omega) (by show ks + N0 ≤ _; omega) (pm_len_app hn) hend
  rw [show (ls, Value.ref (hp.length + 4) :: st, hp ++ [.inr (ci, fs)], kc + 1, ks + N0).2.1 = Value.ref (hp.length + 4) :: st from rfl, List.map_cons, pm_v_ref4, ← hz'] at hk
  exact hk
/-- an array of n numbers: its type's place, what it holds at first -/
def po_newa (t n mc ms : Nat) (a0 : vp_A) : pm_Op := fun N _ _ _ _ s => match s with
  | (ls, st, h, kc, ks) => pk_i st fun a r => pk_is (Nat.ble (kc + 1) mc) (pk_is (Nat.ble (ks + n) ms) ((a = nI n) ∧ N (ls, .ref (h.length + 4) :: r, h ++ [.inl (t, a0)], kc + 1, ks + n)))
theorem ps_newa {E : pm_E} {y pc t n mc ms : Nat} {a0 : vp_A} {atype : ArrayType} {ty : FieldType} (hw : Cond.arrayClass (newarray.typeOf atype) ∈ pm_ws) (hty : newarray.typeOf atype = ty) (ht : (pm_ty E)[t]? = some (pm_tc E t, ty)) (hra : ∀ U : State, va_RA U (pm_tc E t) ty → U.vm.findClass ("[" ++ ty.toString) = some (pm_tc E t)) (ha : ∀ cA : ClassId, vp_cell cA a0 = arrV cA n (fun _ => defaultValue ty)) (hpc : pm_c E (.inl (t, a0)) = .inl (pm_tc E t, a0)) (hn31 : n < 2 ^ 31) (hby : n * componentBytes ty ≤ 536870912) (hmc : mc ≤ (pm_rm y).cells) (hms : ms ≤ (pm_rm y).slots) (hd : decode (pm_cd y) pc = .ok (.newarray atype, 2)) : pm_Snd E y pc (pc + 2) (po_newa t n mc ms a0) := by
  intro N J C M Q S hN hJ hC hM h
  obtain ⟨ls, st, hp, kc, ks⟩ := S
  obtain ⟨a, r, rfl, h0⟩ := pk_i_of h
  obtain ⟨h1, h'⟩ := pk_is_of h0
  obtain ⟨h2, rfl, h3⟩ := pk_is_of h'
  have b1 : kc + 1 ≤ mc := Nat.le_of_ble_eq_true h1
  have b2 : ks + n ≤ ms := Nat.le_of_ble_eq_true h2
  intro n0 p e s m args below meth c H locs la QQ F hP hS hl hk1 hk2 hn hend
  refine pm_sz F hP hS hn (fun hz => ?_)
  have hE := F.2.2.2.2.2.2.2.2.2.2.1.1
  refine va_newaK F.1 F.2.1 (F.2.2.2.2.1 _ hw) rfl hd (n := nI n) (N := n) rfl (nI_pos hn31) (nI_clamp hn31) (by rw [hty]; exact hby) (by show kc + 1 ≤ _; omega) (by show ks + n ≤ _; omega) rfl fun H1 cA e1 z1 o1 hAr hNm => ?_
  have hcA : cA = pm_tc E t := by
    have q := hra s (F.2.2.2.2.2.2.2.2.2.1.2 t _ ht).2
    rw [hty] at hNm
    exact Option.some.inj (hNm.symm.trans q)
  have hk : ∀ (k : Nat) (x : Nat × va_E), (pm_w E 0 hp)[k]? = some x → H1[x.1]? = H[x.1]? := fun k x hx => o1 x.1 ((hP k x hx).lt)
  have hz' : H.size = pm_ad E (hp.length + 4) := by rw [hE]; exact hz
  have hP1 : va_P E.2.1 vwCl (pm_w E 0 (hp ++ [.inl (t, a0)])) H1 := by
    rw [pm_w_app, Nat.zero_add]
    refine (hP.kept hk).app (fun k x hx => ?_)
    have hzz : k < 1 := (List.getElem?_eq_some_iff.mp hx).1
    rw [show k = 0 by omega] at hx
    cases hx
    rw [hpc, ← hz', ← hcA]
    show H1[H.size]? = some (vp_cell cA a0)
    rw [ha, ← hty]
    exact e1
  have hS1 : va_S (pm_A E) s.heap H1 locs := ⟨Nat.le_trans hS.1 (by omega), fun x g1 g2 => (o1 x (Nat.lt_of_lt_of_le g1 hS.1)).trans (hS.2.1 x g1 g2), hS.2.2⟩
  have hk := hN _ h3 n0 p e s m args below meth c H1 locs la QQ F hP1 hS1 hl (by show kc + 1 ≤ _; omega) (by show ks + n ≤ _; omega) (pm_len_app hn) hend
  rw [show (ls, Value.ref (hp.length + 4) :: r, hp ++ [.inl (t, a0)], kc + 1, ks + n).2.1 = Value.ref (hp.length + 4) :: r from rfl, List.map_cons, pm_v_ref4, ← hz'] at hk
  exact hk
def po_newq (n mc ms : Nat) : pm_Op := fun N _ _ _ _ s => match s with
  | (ls, st, h, kc, ks) => pk_i st fun a r => pk_is (Nat.ble (kc + 1) mc) (pk_is (Nat.ble (ks + n) ms) ((a = nI n) ∧ N (ls, .ref (h.length + 4) :: r, h ++ [.inl (3, n, .inr (.inr (.inr (.inr (fun _ => none)))))], kc + 1, ks + n)))
theorem ps_newq {E : pm_E} {y pc n mc ms idx : Nat} (hw : Cond.classLink (pm_nm y).cls idx "DoubtTime$State" ∈ pm_ws) (hn31 : n < 2 ^ 31) (hby : n * 4 ≤ 536870912) (hmc : mc ≤ (pm_rm y).cells) (hms : ms ≤ (pm_rm y).slots) (hd : decode (pm_cd y) pc = .ok (.anewarray idx, 3)) : pm_Snd E y pc (pc + 3) (po_newq n mc ms) := by
  intro N J C M Q S hN hJ hC hM h
  obtain ⟨ls, st, hp, kc, ks⟩ := S
  obtain ⟨a, r, rfl, h0⟩ := pk_i_of h
  obtain ⟨h1, h'⟩ := pk_is_of h0
  obtain ⟨h2, rfl, h3⟩ := pk_is_of h'
  have b1 : kc + 1 ≤ mc := Nat.le_of_ble_eq_true h1
  have b2 : ks + n ≤ ms := Nat.le_of_ble_eq_true h2
  intro n0 p e s m args below meth c H locs la QQ F hP hS hl hk1 hk2 hn hend
  refine pm_sz F hP hS hn (fun hz => ?_)
  have hE := F.2.2.2.2.2.2.2.2.2.2.1.1
  have hG := F.2.2.2.2.2.2.2.2.2.2.1
  have hcl : (nI n).toNatClampNeg = n := nI_clamp hn31
  refine W.anew F.1 F.2.1 F.2.2.2.1 (F.2.2.2.2.1 _ hw) (va_AO.use hG.2.2.2.1) rfl hd (n := nI n) rfl (nI_pos hn31) (by rw [hcl]; exact hby) (by show kc + 1 ≤ _; omega) (by rw [hcl]; show ks + n ≤ _; omega) fun cA kA comp f1 f2 f3 f4 => ?_
  rw [hcl]
  have hcA : cA = pm_tc E 3 := by
    obtain ⟨-, -, -, -, -, q⟩ := (F.2.2.2.2.2.2.2.2.2.1.2 3 _ rfl).2
    exact Option.some.inj (f1.symm.trans q)
  generalize hH1 : H.push ({ cls := cA, slots := Array.replicate n .null, vm := .none } : Cell) = H1
  have z1 : H1.size = H.size + 1 := by rw [← hH1, Array.size_push]
  have e1 : H1[H.size]? = some (arrV cA n (fun _ => .null)) := by rw [← hH1, Array.getElem?_push_size, ← arrV_new]
  have o1 : ∀ q : Nat, q < H.size → H1[q]? = H[q]? := fun q hq => by rw [← hH1, Array.getElem?_push, if_neg (Nat.ne_of_lt hq)]
  have hk : ∀ (k : Nat) (x : Nat × va_E), (pm_w E 0 hp)[k]? = some x → H1[x.1]? = H[x.1]? := fun k x hx => o1 x.1 ((hP k x hx).lt)
  have hz' : H.size = pm_ad E (hp.length + 4) := by rw [hE]; exact hz
  have hP1 : va_P E.2.1 vwCl (pm_w E 0 (hp ++ [.inl (3, n, .inr (.inr (.inr (.inr (fun _ => none)))))])) H1 := by
    rw [pm_w_app, Nat.zero_add]
    refine (hP.kept hk).app (fun k x hx => ?_)
    have hzz : k < 1 := (List.getElem?_eq_some_iff.mp hx).1
    rw [show k = 0 by omega] at hx
    cases hx
    show H1[pm_ad E (hp.length + 4)]? = some (vp_cell (pm_tc E 3) (n, .inr (.inr (.inr (.inr (fun j => none))))))
    rw [vp_cell_q, ← hz', ← hcA]
    exact e1
  have hS1 : va_S (pm_A E) s.heap H1 locs := ⟨Nat.le_trans hS.1 (by omega), fun x g1 g2 => (o1 x (Nat.lt_of_lt_of_le g1 hS.1)).trans (hS.2.1 x g1 g2), hS.2.2⟩
  have hk := hN _ h3 n0 p e s m args below meth c H1 locs la QQ F hP1 hS1 hl (by show kc + 1 ≤ _; omega) (by show ks + n ≤ _; omega) (pm_len_app hn) hend
  rw [show (ls, Value.ref (hp.length + 4) :: r, hp ++ [.inl (3, n, .inr (.inr (.inr (.inr (fun _ => none)))))], kc + 1, ks + n).2.1 = Value.ref (hp.length + 4) :: r from rfl, List.map_cons, pm_v_ref4, ← hz'] at hk
  exact hk
/-! whole arrays copied: from a to b, both of n -/
def pk_cp (st : List Value) (k : Nat → Nat → Int32 → List Value → Prop) : Prop := match st with
  | .int n :: .int dp :: .ref b :: .int sp :: .ref a :: r => (dp = 0 ∧ sp = 0) ∧ k a b n r
  | _ => False
theorem pk_cp_of {st : List Value} {k : Nat → Nat → Int32 → List Value → Prop} (h : pk_cp st k) : ∃ (a b : Nat) (n : Int32) (r : List Value), st = .int n :: .int 0 :: .ref b :: .int 0 :: .ref a :: r ∧ k a b n r := by
  unfold pk_cp at h
  split at h
  · obtain ⟨⟨rfl, rfl⟩, h⟩ := h
    exact ⟨_, _, _, _, rfl, h⟩
  · exact h.elim
def pk_cat : List Value → Nat
  | [] => 0
  | v :: r => v.category + pk_cat r
theorem pk_cat_eq {E : pm_E} (hf : (pm_fm E).category = 1) : ∀ (r : List Value), ((r.map (pm_v E)).map fun v => v.category).sum = pk_cat r
  | [] => rfl
  | v :: r => by
    rw [List.map_cons, List.map_cons, List.sum_cons, pk_cat_eq hf r, pm_v_cat E hf]
    rfl
theorem pm_same_i {D : va_G} {cl : List vw_C} {ws : va_W} {H : Heap} {k a n : Nat} {c : ClassId} {f g : Nat → Int32} (h : va_P D cl (ws.set k (a, .inl (c, n, .inl f))) H) (hfg : ∀ j, j < n → f j = g j) : va_P D cl (ws.set k (a, .inl (c, n, .inl g))) H := by
  have e : vp_cell c (n, .inl f) = vp_cell c (n, .inl g) := by
    rw [vp_cell_i, vp_cell_i]
    unfold arrV
    congr 1
    apply Array.ext
    · simp
    · intro i h1 h2
      simp only [Array.getElem_ofFn]
      rw [hfg i (by simpa using h1)]
  intro i q hq
  by_cases hi : i = k
  · subst hi
    by_cases hl : i < ws.length
    · rw [List.getElem?_set_self hl] at hq
      cases hq
      have := h i (a, .inl (c, n, .inl f)) (List.getElem?_set_self hl)
      show H[a]? = some (vp_cell c (n, .inl g))
      rw [← e]
      exact this
    · rw [List.getElem?_eq_none (by rw [List.length_set]; omega)] at hq
      cases hq
  · exact h i q (by rw [List.getElem?_set_ne (fun e => hi e.symm)] at hq ⊢; exact hq)
theorem pm_same_l {D : va_G} {cl : List vw_C} {ws : va_W} {H : Heap} {k a n : Nat} {c : ClassId} {f g : Nat → Int64} (h : va_P D cl (ws.set k (a, .inl (c, n, .inr (.inl f)))) H) (hfg : ∀ j, j < n → f j = g j) : va_P D cl (ws.set k (a, .inl (c, n, .inr (.inl g)))) H := by
  have e : vp_cell c (n, .inr (.inl f)) = vp_cell c (n, .inr (.inl g)) := by
    rw [vp_cell_l, vp_cell_l]
    unfold arrV
    congr 1
    apply Array.ext
    · simp
    · intro i h1 h2
      simp only [Array.getElem_ofFn]
      rw [hfg i (by simpa using h1)]
  intro i q hq
  by_cases hi : i = k
  · subst hi
    by_cases hl : i < ws.length
    · rw [List.getElem?_set_self hl] at hq
      cases hq
      have := h i (a, .inl (c, n, .inr (.inl f))) (List.getElem?_set_self hl)
      show H[a]? = some (vp_cell c (n, .inr (.inl g)))
      rw [← e]
      exact this
    · rw [List.getElem?_eq_none (by rw [List.length_set]; omega)] at hq
      cases hq
  · exact h i q (by rw [List.getElem?_set_ne (fun e => hi e.symm)] at hq ⊢; exact hq)
def po_cpi : pm_Op := fun N _ _ _ _ s => match s with
  | (ls, st, h, x) => pk_cp st fun a b n r => pk_at h a fun _ o => pk_ai 1 o fun na f => pk_at h b fun kb w => pk_ai 1 w fun nb _ => pk_is (Nat.ble (pk_cat r) 8) ((n = nI na ∧ na = nb ∧ na < 2 ^ 31) ∧ N (ls, r, h.set kb (.inl (1, nb, .inl f)), x))
theorem ps_cpi {E : pm_E} {y pc idx : Nat} (hw : Cond.methodLink (pm_nm y).cls idx arraycopyName ∈ pm_ws) (hw2 : Cond.native arraycopyName ∈ pm_ws) (hw3 : Cond.static arraycopyName ∈ pm_ws) (hw4 : Cond.initialized "java/lang/System" ∈ pm_ws) (hfr : 1 ≤ (pm_rm y).frames) (hlo : 26 ≤ (pm_rm y).locals) (hd : decode (pm_cd y) pc = .ok (.invokestatic idx, 3)) : pm_Snd E y pc (pc + 3) po_cpi := by
  intro N J C M Q S hN hJ hC hM h
  obtain ⟨ls, st, hp, x⟩ := S
  obtain ⟨a, b, n, r, rfl, h0⟩ := pk_cp_of h
  obtain ⟨ka, o, rfl, ho, h1⟩ := pk_at_of h0
  obtain ⟨na, f, rfl, h2⟩ := pk_ai_of h1
  obtain ⟨kb, w, rfl, hwb, h3⟩ := pk_at_of h2
  obtain ⟨nb, g, rfl, h4⟩ := pk_ai_of h3
  obtain ⟨h5, ⟨rfl, rfl, h31⟩, h6⟩ := pk_is_of h4
  intro n0 p e s m args below meth c H locs la QQ F hP hS hl hk1 hk2 hn hend
  have hG := F.2.2.2.2.2.2.2.2.2.2.1
  show W p E.1 e (pm_rm y) s m args below meth c H locs _ _ QQ (F0 m pc la (List.map (pm_v E) (.int (nI na) :: .int 0 :: .ref (kb + 4) :: .int 0 :: .ref (ka + 4) :: r)))
  rw [List.map_cons, List.map_cons, List.map_cons, List.map_cons, List.map_cons, pm_v_ref4, pm_v_ref4]
  have hcl : (nI na).toNatClampNeg = na := nI_clamp h31
  refine va_copyi F.1 F.2.1 (F.2.2.1.trans hl.1.symm) F.2.2.2.1 (F.2.2.2.2.1 _ hw) (F.2.2.2.2.1 _ hw2) (F.2.2.2.2.1 _ hw3) (F.2.2.2.2.1 _ hw4) F.2.2.2.2.2.2.2.2.2.1 hP (pm_D hG.1 hp) hS ka kb 1 1 (pm_w_at ho) (pm_w_at hwb) rfl rfl rfl (sp := 0) (dp := 0) (n := nI na) (by decide) (by decide) (nI_pos h31) (by rw [hcl]; simp) (by rw [hcl]; simp) (fun i hi => rfl) hfr (by rw [pk_cat_eq (pm_fm_cat hG)]; have := Nat.le_of_ble_eq_true h5; show _ + (7 + 11) ≤ _; omega) hd (fun H1 locs1 hP1 _ hS1 => ?_)
  have hP2 : va_P E.2.1 vwCl (pm_w E 0 (hp.set kb (.inl (1, na, .inl f)))) H1 := by
    rw [← pm_w_put]
    refine pm_same_i hP1 (fun j hj => ?_)
    rw [hcl]
    exact (pk_cpy_in (Nat.zero_le _) (by simpa using hj)).trans (by simp)
  exact hN _ h6 n0 p e s m args below meth c H1 locs1 la QQ F hP2 hS1 hl hk1 hk2 (pm_len_set hn) hend
def po_cpl : pm_Op := fun N _ _ _ _ s => match s with
  | (ls, st, h, x) => pk_cp st fun a b n r => pk_at h a fun _ o => pk_al o fun na f => pk_at h b fun kb w => pk_al w fun nb _ => pk_is (Nat.ble (pk_cat r) 8) ((n = nI na ∧ na = nb ∧ na < 2 ^ 31) ∧ N (ls, r, h.set kb (.inl (2, nb, .inr (.inl f))), x))
theorem ps_cpl {E : pm_E} {y pc idx : Nat} (hw : Cond.methodLink (pm_nm y).cls idx arraycopyName ∈ pm_ws) (hw2 : Cond.native arraycopyName ∈ pm_ws) (hw3 : Cond.static arraycopyName ∈ pm_ws) (hw4 : Cond.initialized "java/lang/System" ∈ pm_ws) (hfr : 1 ≤ (pm_rm y).frames) (hlo : 26 ≤ (pm_rm y).locals) (hd : decode (pm_cd y) pc = .ok (.invokestatic idx, 3)) : pm_Snd E y pc (pc + 3) po_cpl := by
  intro N J C M Q S hN hJ hC hM h
  obtain ⟨ls, st, hp, x⟩ := S
  obtain ⟨a, b, n, r, rfl, h0⟩ := pk_cp_of h
  obtain ⟨ka, o, rfl, ho, h1⟩ := pk_at_of h0
  obtain ⟨na, f, rfl, h2⟩ := pk_al_of h1
  obtain ⟨kb, w, rfl, hwb, h3⟩ := pk_at_of h2
  obtain ⟨nb, g, rfl, h4⟩ := pk_al_of h3
  obtain ⟨h5, ⟨rfl, rfl, h31⟩, h6⟩ := pk_is_of h4
  intro n0 p e s m args below meth c H locs la QQ F hP hS hl hk1 hk2 hn hend
  have hG := F.2.2.2.2.2.2.2.2.2.2.1
  show W p E.1 e (pm_rm y) s m args below meth c H locs _ _ QQ (F0 m pc la (List.map (pm_v E) (.int (nI na) :: .int 0 :: .ref (kb + 4) :: .int 0 :: .ref (ka + 4) :: r)))
  rw [List.map_cons, List.map_cons, List.map_cons, List.map_cons, List.map_cons, pm_v_ref4, pm_v_ref4]
  have hcl : (nI na).toNatClampNeg = na := nI_clamp h31
  refine va_copyl F.1 F.2.1 (F.2.2.1.trans hl.1.symm) F.2.2.2.1 (F.2.2.2.2.1 _ hw) (F.2.2.2.2.1 _ hw2) (F.2.2.2.2.1 _ hw3) (F.2.2.2.2.1 _ hw4) F.2.2.2.2.2.2.2.2.2.1 hP (pm_D hG.1 hp) hS ka kb 2 2 (pm_w_at ho) (pm_w_at hwb) rfl rfl rfl (sp := 0) (dp := 0) (n := nI na) (by decide) (by decide) (nI_pos h31) (by rw [hcl]; simp) (by rw [hcl]; simp) (fun i hi => rfl) hfr (by rw [pk_cat_eq (pm_fm_cat hG)]; have := Nat.le_of_ble_eq_true h5; show _ + (7 + 11) ≤ _; omega) hd (fun H1 locs1 hP1 _ hS1 => ?_)
  have hP2 : va_P E.2.1 vwCl (pm_w E 0 (hp.set kb (.inl (2, na, .inr (.inl f))))) H1 := by
    rw [← pm_w_put]
    refine pm_same_l hP1 (fun j hj => ?_)
    rw [hcl]
    exact (pk_cpy_in (Nat.zero_le _) (by simpa using hj)).trans (by simp)
  exact hN _ h6 n0 p e s m args below meth c H1 locs1 la QQ F hP2 hS1 hl hk1 hk2 (pm_len_set hn) hend
end
section
/-! ===== calls, and runs over a method's table ===== -/
def pk_args : Nat → List Value → List Value → (List Value → List Value → Prop) → Prop
  | 0, st, acc, k => k acc st
  | _ + 1, [], _, _ => False
  | n + 1, v :: st, acc, k => pk_args n st (v :: acc) k
theorem pk_args_of : ∀ (n : Nat) (st acc : List Value) (k : List Value → List Value → Prop), pk_args n st acc k → ∃ vs r : List Value, st = vs ++ r ∧ vs.length = n ∧ k (vs.reverse ++ acc) r
  | 0, st, acc, k, h => ⟨[], st, rfl, rfl, h⟩
  | n + 1, [], acc, k, h => h.elim
  | n + 1, v :: st, acc, k, h => by
    obtain ⟨vs, r, h1, h2, h3⟩ := pk_args_of n st (v :: acc) k h
    refine ⟨v :: vs, r, by rw [h1]; rfl, by rw [List.length_cons, h2], ?_⟩
    rw [List.reverse_cons, List.append_assoc]
    exact h3
def pk_push (v : Option Value) (r : List Value) : List Value := match v with
  | none => r
  | some v => v :: r
theorem pk_push_map (E : pm_E) (v : Option Value) (r : List Value) : (v.map (pm_v E)).toList ++ r.map (pm_v E) = (pk_push v r).map (pm_v E) := by
  cases v <;> rfl
theorem pm_good (l : List Cond) (h : ∀ w ∈ l, w ∈ pm_ws) : GoodIn pm_ws l := fun w hw => ⟨h w hw, good_of_word (List.mem_filter.mp (h w hw)).2⟩
/-- what a callee's words want -/
def pm_Ce (y n : Nat) : Prop := Cond.code (pm_nm y) (pm_cd y) (pm_mL y) (pm_rt y) ∈ pm_ws ∧ Cond.initialized (pm_nm y).cls ∈ pm_ws ∧ ((pm_nm y).cls ≠ "java/lang/invoke/MethodHandle" ∧ (pm_nm y).cls ≠ "java/lang/invoke/VarHandle" ∧ (parseMethodDescriptor (pm_nm y).desc).map (fun d => d.parameters.length) = some n) ∧ plainName (pm_nm y).cls = true ∧ ¬ y = 0
theorem pm_Ce.good {y n : Nat} (h : pm_Ce y n) : GoodIn pm_ws (pm_Wd y) := pm_good _ (fun w hw => by
  rcases List.mem_cons.mp hw with rfl | q
  · exact h.1
  · exact q)
section PMC
variable {E : pm_E} {y y' n0 pc : Nat} {p : Program} {e : Env} {s : State} {m : MethodId} {args : Array Value} {below : List Frame} {meth : Method} {c : Code} {H : Heap} {locs : List Loc} {la : Array Slot} {QQ : State → Prop} {h : List va_E} {K : pm_Q} {kc ks mc ms : Nat}
theorem pm_goes {rest st0 : List Value} {a : Array Value} (hr : va_Run p E.1 e (pm_rm y) s m args below meth c H locs kc ks mc ms (F0 m pc la st0) rest (pm_Qc E y' h K a) (pm_A E)) (hS : va_S (pm_A E) s.heap H locs)
    (kk : ∀ (r : Option Value) (h' : List va_E) (H1 : Heap) (locs1 : List Loc), K r h' → va_P E.2.1 vwCl (pm_w E 0 h') H1 → va_S (pm_A E) s.heap H1 locs1 → h'.length = h.length + (pm_rm y').cells → W p E.1 e (pm_rm y) s m args below meth c H1 locs1 (kc + mc) (ks + ms) QQ (F0 m (pc + 3) la ((r.map (pm_v E)).toList ++ rest))) : W p E.1 e (pm_rm y) s m args below meth c H locs kc ks QQ (F0 m pc la st0) := by
  intro T hT X
  obtain ⟨v, st₀, t, T', L, h0, X', hL, e1, e2, ⟨⟨r, h', hv, hK, hP', hl'⟩, hz, hk⟩, st⟩ := hr T hT X
  cases hv
  rw [h0] at hz hk
  obtain ⟨t2, a1, b1⟩ := kk r h' T'.heap (locs ++ L) hK (by rw [e1]; exact hP')
    ⟨Nat.le_trans hS.1 (by rw [e1]; exact hz), fun q h1 h2 => by rw [e1, hk q (Nat.lt_of_lt_of_le h1 hS.1) h2]; exact hS.2.1 q h1 h2, fun q hq => by
      rcases List.mem_append.mp hq with h | h
      · exact hS.2.2 q h
      · exact hL q h⟩ hl' T' rfl X'
  exact ⟨t2, st t2 a1, b1⟩
theorem pm_pre (F : pm_Fr E y n0 p s m args meth c) (hP : va_P E.2.1 vwCl (pm_w E 0 h) H) (hS : va_S (pm_A E) s.heap H locs) (hz : H.size = pm_ad E 4 + h.length) (as : List Value) : ∀ U : State, U.heap = H → s.WarmedH U.vm → pm_Pc E as h (as.map (pm_v E)).toArray U := by
  intro U hU hW
  refine ⟨rfl, by rw [hU]; exact hP, va_K.moved hW.alike F.2.2.2.2.2.2.2.2.2.1, fun w hw => pm_nest_warm (List.mem_filter.mp hw).2 hW (F.2.2.2.2.2.1 w hw), ?_, by rw [hU]; exact hz⟩
  rw [hU]
  exact F.2.2.2.2.2.2.2.2.2.2.1.warm hW hS.1 hS.2.1
end PMC
/-- a static method -/
def po_callS (y' n nL : Nat) : pm_Op := fun N _ C _ _ s => match s with
  | (ls, st, h, kc, ks) => pk_args n st [] fun as r => pk_is (Nat.ble (pk_cat r) 8) (pk_is (Nat.ble (pl_f as).length nL) (C y' as h (fun v h' => N (ls, pk_push v r, h', kc, ks))))
theorem pm_call_end {E : pm_E} {y y' n0 pc kc ks : Nat} {p : Program} {e : Env} {s : State} {m : MethodId} {args : Array Value} {below : List Frame} {meth : Method} {c : Code} {H : Heap} {locs : List Loc} {la : Array Slot} {QQ : State → Prop} {hp : List va_E} {N : pm_St → Prop} {Q : pm_Q} {ls : List (Option Value)} {r st st0 : List Value} {a : Array Value}
    (hN : ∀ S', N S' → Sm E y (pc + 3) S' Q) (F : pm_Fr E y n0 p s m args meth c) (hl : pl_has E la (pm_mL y) ls) (hk1 : kc ≤ (pm_rm y).cells) (hk2 : ks ≤ (pm_rm y).slots) (hn : hp.length = n0 + kc) (hc0 : (pm_rm y').cells = 0) (hs0 : (pm_rm y').slots = 0)
    (hend : ∀ (r : Option Value) (h : List va_E) (H' : Heap) (locs' : List Loc) (la' : Array Slot) (pc' : Nat), Q r h → pm_rd y pc' r → va_P E.2.1 vwCl (pm_w E 0 h) H' → va_S (pm_A E) s.heap H' locs' → (h.length = n0 + (pm_rm y).cells ∨ y = 0) → W p E.1 e (pm_rm y) s m args below meth c H' locs' (pm_rm y).cells (pm_rm y).slots QQ (F0 m pc' la' (r.toList.map (pm_v E))))
    (hS : va_S (pm_A E) s.heap H locs)
    (hr : va_Run p E.1 e (pm_rm y) s m args below meth c H locs kc ks (pm_rm y').cells (pm_rm y').slots (F0 m pc la st0) (r.map (pm_v E)) (pm_Qc E y' hp (fun v h' => N (ls, pk_push v r, h', kc, ks)) a) (pm_A E)) :
    W p E.1 e (pm_rm y) s m args below meth c H locs kc ks QQ (F0 m pc la st0) := by
  refine pm_goes hr hS (fun v h' H1 locs1 hK hP1 hS1 hl1 => ?_)
  rw [pk_push_map, hc0, hs0]
  exact hN _ hK n0 p e s m args below meth c H1 locs1 la QQ F hP1 hS1 hl hk1 hk2 (by show h'.length = n0 + kc; rw [hl1, hc0]; exact hn) hend
theorem ps_callS {E : pm_E} {y pc y' n nL idx : Nat} (hce : pm_Ce y' n) (hst : Cond.static (pm_nm y') ∈ pm_ws) (hw : Cond.methodLink (pm_nm y).cls idx (pm_nm y') ∈ pm_ws) (hR : (pm_rm y').frames + 1 ≤ (pm_rm y).frames ∧ 8 + (pm_mL y' + 11) + (pm_rm y').locals ≤ (pm_rm y).locals) (hnL : pm_mL y' = nL) (hc0 : (pm_rm y').cells = 0) (hs0 : (pm_rm y').slots = 0) (hd : decode (pm_cd y) pc = .ok (.invokestatic idx, 3)) : pm_Snd E y pc (pc + 3) (po_callS y' n nL) := by
  intro N J C M Q S hN hJ hC hM h
  obtain ⟨ls, st, hp, kc, ks⟩ := S
  obtain ⟨vs, r, rfl, hlen, h1⟩ := pk_args_of _ _ _ _ h
  rw [List.append_nil] at h1
  obtain ⟨h2, h1'⟩ := pk_is_of h1
  obtain ⟨h3, h4⟩ := pk_is_of h1'
  intro n0 p e s m args below meth c H locs la QQ F hP hS hl hk1 hk2 hn hend
  have hts := F.2.2.2.2.1
  have hM' := pm_met hce.2.2.2.2 hce.2.2.2.1 (by rw [hnL]; exact Nat.le_of_ble_eq_true h3) (hC _ _ _ _ h4)
  refine pm_sz F hP hS hn (fun hz => ?_)
  refine pm_call_end (y' := y') (N := N) (ls := ls) (r := r) (hp := hp) (st := vs ++ r) hN F hl hk1 hk2 hn hc0 hs0 hend hS (va_runS (As := vs.reverse.map (pm_v E)) (Ts := pm_ws) ⟨F.1, F.2.1, F.2.2.1, F.2.2.2.1, hts⟩ hM' ⟨callB_of n hts hce.good rfl rfl rfl (hts _ hce.2.1) (hts _ hw) hce.2.2.1 hR, hts _ hst⟩ ⟨pm_blind E _ _, pm_pre F hP hS hz _⟩ rfl (by rw [List.length_map, List.length_reverse]; exact hlen) hl.1 ?_ (lv_room (by rw [pk_cat_eq (pm_fm_cat F.2.2.2.2.2.2.2.2.2.2.1)]; exact Nat.le_of_ble_eq_true h2)) hd ⟨by rw [hc0]; exact hk1, by rw [hs0]; exact hk2⟩)
  show (vs ++ r).map (pm_v E) = _
  rw [List.map_append, List.map_reverse, List.reverse_reverse]
theorem ps_callSN {E : pm_E} {y pc y' n nL idx : Nat} {host : String} (hce : pm_Ce y' n) (hst : Cond.static (pm_nm y') ∈ pm_ws) (hw : Cond.methodLinkNest (pm_nm y).cls idx (pm_nm y') host ∈ pm_nw) (hR : (pm_rm y').frames + 1 ≤ (pm_rm y).frames ∧ 8 + (pm_mL y' + 11) + (pm_rm y').locals ≤ (pm_rm y).locals) (hnL : pm_mL y' = nL) (hc0 : (pm_rm y').cells = 0) (hs0 : (pm_rm y').slots = 0) (hd : decode (pm_cd y) pc = .ok (.invokestatic idx, 3)) : pm_Snd E y pc (pc + 3) (po_callS y' n nL) := by
  intro N J C M Q S hN hJ hC hM h
  obtain ⟨ls, st, hp, kc, ks⟩ := S
  obtain ⟨vs, r, rfl, hlen, h1⟩ := pk_args_of _ _ _ _ h
  rw [List.append_nil] at h1
  obtain ⟨h2, h1'⟩ := pk_is_of h1
  obtain ⟨h3, h4⟩ := pk_is_of h1'
  intro n0 p e s m args below meth c H locs la QQ F hP hS hl hk1 hk2 hn hend
  have hts := F.2.2.2.2.1
  have hM' := pm_met hce.2.2.2.2 hce.2.2.2.1 (by rw [hnL]; exact Nat.le_of_ble_eq_true h3) (hC _ _ _ _ h4)
  refine pm_sz F hP hS hn (fun hz => ?_)
  refine pm_call_end (y' := y') (N := N) (ls := ls) (r := r) (hp := hp) (st := vs ++ r) hN F hl hk1 hk2 hn hc0 hs0 hend hS (va_runSN (As := vs.reverse.map (pm_v E)) (Ts := pm_ws) ⟨F.1, F.2.1, F.2.2.1, F.2.2.2.1, hts⟩ hM' ⟨va_cnB n hts hce.good rfl rfl rfl (F.2.2.2.2.2.1 _ hw) (hts _ hce.2.1) hce.2.2.1 hR, hts _ hst, trivial⟩ ⟨pm_blind E _ _, pm_pre F hP hS hz _⟩ rfl (by rw [List.length_map, List.length_reverse]; exact hlen) hl.1 ?_ (lv_room (by rw [pk_cat_eq (pm_fm_cat F.2.2.2.2.2.2.2.2.2.2.1)]; exact Nat.le_of_ble_eq_true h2)) hd ⟨by rw [hc0]; exact hk1, by rw [hs0]; exact hk2⟩)
  show (vs ++ r).map (pm_v E) = _
  rw [List.map_append, List.map_reverse, List.reverse_reverse]
/-- a method of an object of the class ci -/
def pk_rc (ci : Nat) (as : List Value) (h : List va_E) (P : Prop) : Prop := match as with
  | .ref a :: _ => pk_at h a fun _ o => pk_ob ci o fun _ => P
  | _ => False
theorem pk_rc_of {ci : Nat} {as : List Value} {h : List va_E} {P : Prop} (q : pk_rc ci as h P) : ∃ (i : Nat) (bs : List Value) (fs : List Value), as = .ref (i + 4) :: bs ∧ h[i]? = some (.inr (ci, fs)) ∧ P := by
  unfold pk_rc at q
  split at q
  · obtain ⟨i, x, rfl, hx, q1⟩ := pk_at_of q
    obtain ⟨fs, rfl, q2⟩ := pk_ob_of q1
    exact ⟨i, _, fs, rfl, hx, q2⟩
  · exact q.elim
def po_callV (ci y' n nL : Nat) : pm_Op := fun N _ C _ _ s => match s with
  | (ls, st, h, kc, ks) => pk_args (n + 1) st [] fun as r => pk_rc ci as h (pk_is (Nat.ble (pk_cat r) 8) (pk_is (Nat.ble (pl_f as).length nL) (C y' as h (fun v h' => N (ls, pk_push v r, h', kc, ks)))))
theorem ps_callV {E : pm_E} {y pc ci y' n nL idx N0 : Nat} {Cn : String} {T : u_T} {ty : Nat → FieldType} (hcl : pm_Cl ci Cn T N0 ty) (hcy : (pm_nm y').cls = Cn) (hce : pm_Ce y' n) (hst : Cond.instanceMethod (pm_nm y') ∈ pm_ws) (hse : Cond.selects Cn (pm_nm y') (pm_nm y') ∈ pm_ws) (hw : Cond.methodLink (pm_nm y).cls idx (pm_nm y') ∈ pm_ws) (hR : (pm_rm y').frames + 1 ≤ (pm_rm y).frames ∧ 8 + (pm_mL y' + 11) + (pm_rm y').locals ≤ (pm_rm y).locals) (hnL : pm_mL y' = nL) (hc0 : (pm_rm y').cells = 0) (hs0 : (pm_rm y').slots = 0) (hd : decode (pm_cd y) pc = .ok (.invokevirtual idx, 3)) : pm_Snd E y pc (pc + 3) (po_callV ci y' n nL) := by
  intro N J C M Q S hN hJ hC hM h
  obtain ⟨ls, st, hp, kc, ks⟩ := S
  obtain ⟨vs, r, rfl, hlen, h1⟩ := pk_args_of _ _ _ _ h
  rw [List.append_nil] at h1
  obtain ⟨i, bs, fs, hrev, hob, h1⟩ := pk_rc_of h1
  obtain ⟨h2, h1'⟩ := pk_is_of h1
  obtain ⟨h3, h4⟩ := pk_is_of h1'
  intro n0 p e s m args below meth c H locs la QQ F hP hS hl hk1 hk2 hn hend
  have hts := F.2.2.2.2.1
  rw [hrev] at h3 h4
  have hM' := pm_met hce.2.2.2.2 hce.2.2.2.1 (by rw [hnL]; exact Nat.le_of_ble_eq_true h3) (hC _ _ _ _ h4)
  have hvs : vs = bs.reverse ++ [.ref (i + 4)] := by
    have := congrArg List.reverse hrev
    rw [List.reverse_reverse, List.reverse_cons] at this
    exact this
  have hln : bs.length = n := by
    have := congrArg List.length hvs
    rw [hlen, List.length_append, List.length_reverse] at this
    simp at this
    omega
  refine pm_sz F hP hS hn (fun hz => ?_)
  have hpre := pm_pre F hP hS hz (.ref (i + 4) :: bs)
  rw [List.map_cons, pm_v_ref4] at hpre
  refine pm_call_end (y' := y') (N := N) (ls := ls) (r := r) (hp := hp) (st := vs ++ r) hN F hl hk1 hk2 hn hc0 hs0 hend hS (va_runV (C := Cn) (b := pm_ad E (i + 4)) (As := bs.map (pm_v E)) (Ts := pm_ws) ⟨F.1, F.2.1, F.2.2.1, F.2.2.2.1, hts⟩ hM' ⟨callB_of n hts hce.good rfl rfl rfl (hts _ hce.2.1) (hts _ hw) hce.2.2.1 hR, hts _ hst, hts _ hse⟩ ⟨pm_blind E _ _, va_recv F.2.2.2.2.2.2.2.2.2.1 hP hcl.1 (pm_w_at hob), hpre⟩ rfl (by rw [List.length_map]; exact hln) hl.1 ?_ (lv_room (by rw [pk_cat_eq (pm_fm_cat F.2.2.2.2.2.2.2.2.2.2.1)]; exact Nat.le_of_ble_eq_true h2)) hd ⟨by rw [hc0]; exact hk1, by rw [hs0]; exact hk2⟩)
  show (vs ++ r).map (pm_v E) = _
  rw [hvs, List.append_assoc, List.map_append, List.map_reverse, List.singleton_append, List.map_cons, pm_v_ref4]
/-- a method of the String -/
def po_callT (y' n nL : Nat) : pm_Op := fun N _ C _ _ s => match s with
  | (ls, st, h, kc, ks) => pk_args (n + 1) st [] fun as r => match as with
    | .ref 1 :: bs => pk_is (Nat.ble (pk_cat r) 8) (pk_is (Nat.ble (pl_f (.ref 1 :: bs)).length nL) (C y' (.ref 1 :: bs) h (fun v h' => N (ls, pk_push v r, h', kc, ks))))
    | _ => False
theorem ps_callT {E : pm_E} {y pc y' n nL idx : Nat} (hcy : (pm_nm y').cls = "java/lang/String") (hce : pm_Ce y' n) (hst : Cond.instanceMethod (pm_nm y') ∈ pm_ws) (hse : Cond.selects "java/lang/String" (pm_nm y') (pm_nm y') ∈ pm_ws) (hw : Cond.methodLink (pm_nm y).cls idx (pm_nm y') ∈ pm_ws) (hR : (pm_rm y').frames + 1 ≤ (pm_rm y).frames ∧ 8 + (pm_mL y' + 11) + (pm_rm y').locals ≤ (pm_rm y).locals) (hnL : pm_mL y' = nL) (hc0 : (pm_rm y').cells = 0) (hs0 : (pm_rm y').slots = 0) (hd : decode (pm_cd y) pc = .ok (.invokevirtual idx, 3)) : pm_Snd E y pc (pc + 3) (po_callT y' n nL) := by
  intro N J C M Q S hN hJ hC hM h
  obtain ⟨ls, st, hp, kc, ks⟩ := S
  obtain ⟨vs, r, rfl, hlen, h1⟩ := pk_args_of _ _ _ _ h
  rw [List.append_nil] at h1
  generalize hrv : vs.reverse = as at h1
  match as, h1, hrv with
  | .ref 1 :: bs, h1, hrev =>
    obtain ⟨h2, h1'⟩ := pk_is_of h1
    obtain ⟨h3, h4⟩ := pk_is_of h1'
    intro n0 p e s m args below meth c H locs la QQ F hP hS hl hk1 hk2 hn hend
    have hts := F.2.2.2.2.1
    have hM' := pm_met hce.2.2.2.2 hce.2.2.2.1 (by rw [hnL]; exact Nat.le_of_ble_eq_true h3) (hC _ _ _ _ h4)
    have hvs : vs = bs.reverse ++ [.ref 1] := by
      have := congrArg List.reverse hrev
      rw [List.reverse_reverse, List.reverse_cons] at this
      exact this
    have hln : bs.length = n := by
      have := congrArg List.length hvs
      rw [hlen, List.length_append, List.length_reverse] at this
      simp at this
      omega
    refine pm_sz F hP hS hn (fun hz => ?_)
    have hpre := pm_pre F hP hS hz (.ref 1 :: bs)
    rw [List.map_cons, pm_v_ref (E := E) (a := 1) (by decide)] at hpre
    refine pm_call_end (y' := y') (N := N) (ls := ls) (r := r) (hp := hp) (st := vs ++ r) hN F hl hk1 hk2 hn hc0 hs0 hend hS (va_runV (C := "java/lang/String") (b := pm_ad E 1) (As := bs.map (pm_v E)) (Ts := pm_ws) ⟨F.1, F.2.1, F.2.2.1, F.2.2.2.1, hts⟩ hM' ⟨callB_of n hts hce.good rfl rfl rfl (hts _ hce.2.1) (hts _ hw) hce.2.2.1 hR, hts _ hst, hts _ hse⟩ ⟨pm_blind E _ _, vk_recv F.2.2.2.2.2.2.2.2.2.2.1.2.2.2.2.2.1 (i := 0) (by decide) hS, hpre⟩ rfl (by rw [List.length_map]; exact hln) hl.1 ?_ (lv_room (by rw [pk_cat_eq (pm_fm_cat F.2.2.2.2.2.2.2.2.2.2.1)]; exact Nat.le_of_ble_eq_true h2)) hd ⟨by rw [hc0]; exact hk1, by rw [hs0]; exact hk2⟩)
    show (vs ++ r).map (pm_v E) = _
    rw [hvs, List.append_assoc, List.map_append, List.map_reverse, List.singleton_append, List.map_cons, pm_v_ref (E := E) (a := 1) (by decide)]
/-- a constructor: it makes mc' cells of ms' slots -/
def po_callI (y' n nL mc' ms' mc ms : Nat) : pm_Op := fun N _ C _ _ s => match s with
  | (ls, st, h, kc, ks) => pk_args (n + 1) st [] fun as r => match as with
    | .ref (a + 4) :: bs => pk_is (Nat.ble (pk_cat r) 8) (pk_is (Nat.ble (pl_f (.ref (a + 4) :: bs)).length nL) (pk_is (Nat.ble (kc + mc') mc) (pk_is (Nat.ble (ks + ms') ms) (C y' (.ref (a + 4) :: bs) h (fun v h' => N (ls, pk_push v r, h', kc + mc', ks + ms'))))))
    | _ => False
theorem ps_callI0 {E : pm_E} {y pc y' n nL idx mc' ms' mc ms : Nat} (hce : pm_Ce y' n) (hnm : (pm_nm y').name = "<init>") (hrt : pm_rt y' = none) (hst : Cond.instanceMethod (pm_nm y') ∈ pm_ws) (hnL : pm_mL y' = nL) (hc0 : (pm_rm y').cells = mc') (hs0 : (pm_rm y').slots = ms') (hmc : mc ≤ (pm_rm y).cells) (hms : ms ≤ (pm_rm y).slots)
    (hrun : ∀ (n0 : Nat) (p : Program) (e : Env) (s : State) (m : MethodId) (args : Array Value) (below : List Frame) (meth : Method) (c : Code) (H : Heap) (locs : List Loc) (la : Array Slot) (kc ks : Nat) (hp : List va_E) (b : Addr) (As rest : List Value) (Pc : Array Value → State → Prop) (Qc : Array Value → State → Outcome → State → Prop), pm_Fr E y n0 p s m args meth c → Met E.1 (pm_nm y') (pm_Wd y') (pm_rm y') Pc Qc (pm_rm y').cells (pm_rm y').slots (pm_A E) → PreS s H Pc (.ref b :: As) → As.length = n → la.size = pm_mL y → (rest.map fun v => v.category).sum ≤ 8 → kc + (pm_rm y').cells ≤ (pm_rm y).cells → ks + (pm_rm y').slots ≤ (pm_rm y).slots → va_Run p E.1 e (pm_rm y) s m args below meth c H locs kc ks (pm_rm y').cells (pm_rm y').slots (F0 m pc la (As.reverse ++ .ref b :: rest)) rest (Qc (Value.ref b :: As).toArray) (pm_A E)) : pm_Snd E y pc (pc + 3) (po_callI y' n nL mc' ms' mc ms) := by
  intro N J C M Q S hN hJ hC hM h
  obtain ⟨ls, st, hp, kc, ks⟩ := S
  obtain ⟨vs, r, rfl, hlen, h1⟩ := pk_args_of _ _ _ _ h
  rw [List.append_nil] at h1
  generalize hrv : vs.reverse = as at h1
  match as, h1, hrv with
  | .ref (i + 4) :: bs, h1, hrev =>
    obtain ⟨h2, h1'⟩ := pk_is_of h1
    obtain ⟨h3, h1''⟩ := pk_is_of h1'
    obtain ⟨b1, h1'''⟩ := pk_is_of h1''
    obtain ⟨b2, h4⟩ := pk_is_of h1'''
    have b1 := Nat.le_of_ble_eq_true b1
    have b2 := Nat.le_of_ble_eq_true b2
    intro n0 p e s m args below meth c H locs la QQ F hP hS hl hk1 hk2 hn hend
    have hts := F.2.2.2.2.1
    have hM' := pm_met hce.2.2.2.2 hce.2.2.2.1 (by rw [hnL]; exact Nat.le_of_ble_eq_true h3) (hC _ _ _ _ h4)
    have hvs : vs = bs.reverse ++ [.ref (i + 4)] := by
      have := congrArg List.reverse hrev
      rw [List.reverse_reverse, List.reverse_cons] at this
      exact this
    have hln : bs.length = n := by
      have := congrArg List.length hvs
      rw [hlen, List.length_append, List.length_reverse] at this
      simp at this
      omega
    refine pm_sz F hP hS hn (fun hz => ?_)
    have hpre := pm_pre F hP hS hz (.ref (i + 4) :: bs)
    rw [List.map_cons, pm_v_ref4] at hpre
    have hr := hrun n0 p e s m args below meth c H locs la kc ks hp (pm_ad E (i + 4)) (bs.map (pm_v E)) (r.map (pm_v E)) _ _ F hM' ⟨pm_blind E _ _, hpre⟩ (by rw [List.length_map]; exact hln) hl.1 (by rw [pk_cat_eq (pm_fm_cat F.2.2.2.2.2.2.2.2.2.2.1)]; exact Nat.le_of_ble_eq_true h2) (by rw [hc0]; omega) (by rw [hs0]; omega)
    have hst0 : (bs.map (pm_v E)).reverse ++ .ref (pm_ad E (i + 4)) :: r.map (pm_v E) = (vs ++ r).map (pm_v E) := by
      rw [hvs, List.append_assoc, List.map_append, List.map_reverse, List.singleton_append, List.map_cons, pm_v_ref4]
    rw [hst0] at hr
    refine pm_goes hr hS (fun v h' H1 locs1 hK hP1 hS1 hl1 => ?_)
    rw [pk_push_map]
    rw [hc0] at hl1
    have hk := hN _ hK n0 p e s m args below meth c H1 locs1 la QQ F hP1 hS1 hl (by show kc + mc' ≤ _; omega) (by show ks + ms' ≤ _; omega) (by show h'.length = n0 + (kc + mc'); have : hp.length = n0 + kc := hn; omega) hend
    rw [hc0, hs0]
    exact hk
theorem ps_callI {E : pm_E} {y pc y' n nL idx mc' ms' mc ms : Nat} (hce : pm_Ce y' n) (hnm : (pm_nm y').name = "<init>") (hrt : pm_rt y' = none) (hst : Cond.instanceMethod (pm_nm y') ∈ pm_ws) (hw : Cond.methodLink (pm_nm y).cls idx (pm_nm y') ∈ pm_ws) (hR : (pm_rm y').frames + 1 ≤ (pm_rm y).frames ∧ 8 + (pm_mL y' + 11) + (pm_rm y').locals ≤ (pm_rm y).locals) (hnL : pm_mL y' = nL) (hc0 : (pm_rm y').cells = mc') (hs0 : (pm_rm y').slots = ms') (hmc : mc ≤ (pm_rm y).cells) (hms : ms ≤ (pm_rm y).slots) (hd : decode (pm_cd y) pc = .ok (.invokespecial idx, 3)) : pm_Snd E y pc (pc + 3) (po_callI y' n nL mc' ms' mc ms) := by
  refine ps_callI0 (idx := idx) hce hnm hrt hst hnL hc0 hs0 hmc hms ?_
  intro n0 p e s m args below meth c H locs la kc ks hp b As rest Pc Qc F hM hpre hlen hla hcat hf1 hf2
  have hts := F.2.2.2.2.1
  exact va_runI (Ts := pm_ws) ⟨F.1, F.2.1, F.2.2.1, F.2.2.2.1, hts⟩ hM ⟨callB_of n hts hce.good (by rw [← hrt]; rfl) rfl rfl (hts _ hce.2.1) (hts _ hw) hce.2.2.1 hR, hnm, hts _ hst⟩ hpre rfl hlen hla rfl (lv_room hcat) hd ⟨hf1, hf2⟩
theorem ps_callIN {E : pm_E} {y pc y' n nL idx mc' ms' mc ms : Nat} {host : String} (hce : pm_Ce y' n) (hnm : (pm_nm y').name = "<init>") (hrt : pm_rt y' = none) (hst : Cond.instanceMethod (pm_nm y') ∈ pm_ws) (hw : Cond.methodLinkNest (pm_nm y).cls idx (pm_nm y') host ∈ pm_nw) (hR : (pm_rm y').frames + 1 ≤ (pm_rm y).frames ∧ 8 + (pm_mL y' + 11) + (pm_rm y').locals ≤ (pm_rm y).locals) (hnL : pm_mL y' = nL) (hc0 : (pm_rm y').cells = mc') (hs0 : (pm_rm y').slots = ms') (hmc : mc ≤ (pm_rm y).cells) (hms : ms ≤ (pm_rm y).slots) (hd : decode (pm_cd y) pc = .ok (.invokespecial idx, 3)) : pm_Snd E y pc (pc + 3) (po_callI y' n nL mc' ms' mc ms) := by
  refine ps_callI0 (idx := idx) hce hnm hrt hst hnL hc0 hs0 hmc hms ?_
  intro n0 p e s m args below meth c H locs la kc ks hp b As rest Pc Qc F hM hpre hlen hla hcat hf1 hf2
  have hts := F.2.2.2.2.1
  exact va_runIN (Ts := pm_ws) ⟨F.1, F.2.1, F.2.2.1, F.2.2.2.1, hts⟩ hM ⟨va_cnB n hts hce.good (by rw [← hrt]; rfl) rfl rfl (F.2.2.2.2.2.1 _ hw) (hts _ hce.2.1) hce.2.2.1 hR, hnm, hts _ hst⟩ hpre rfl hlen hla rfl (lv_room hcat) hd ⟨hf1, hf2⟩
/-- Object's own constructor -/
def po_obj : pm_Op := fun N _ _ _ _ s => match s with
  | (ls, st, x) => pk_r st fun a r => pk_n3 a (pk_is (Nat.ble (pk_cat r) 8) (N (ls, r, x)))
theorem ps_obj {E : pm_E} {y pc idx : Nat} (hw : Cond.methodLink (pm_nm y).cls idx objectInit ∈ pm_ws) (hw2 : Cond.instanceMethod objectInit ∈ pm_ws) (hw3 : Cond.code objectInit ⟨#[0xb1]⟩ 1 none ∈ pm_ws) (hfr : 1 ≤ (pm_rm y).frames) (hlo : 20 ≤ (pm_rm y).locals) (hd : decode (pm_cd y) pc = .ok (.invokespecial idx, 3)) : pm_Snd E y pc (pc + 3) po_obj := by
  intro N J C M Q S hN hJ hC hM h
  obtain ⟨ls, st, x⟩ := S
  obtain ⟨a, r, rfl, h0⟩ := pk_r_of h
  obtain ⟨h3, h1⟩ := pk_n3_of h0
  obtain ⟨h2, h4⟩ := pk_is_of h1
  intro n0 p e s m args below meth c H locs la QQ F hP hS hl hk1 hk2 hn hend
  have hts := F.2.2.2.2.1
  show W p E.1 e (pm_rm y) s m args below meth c H locs _ _ QQ (F0 m pc la (List.map (pm_v E) (.ref a :: r)))
  rw [List.map_cons, pm_v_ref h3]
  refine W.objInit F.1 F.2.1 F.2.2.2.1 (hts _ hw) (hts _ hw2) (hts _ hw3) rfl (hl.1.trans F.2.2.1.symm) rfl hd hfr ?_ (hN _ h4 n0 p e s m args below meth c H locs la QQ F hP hS hl hk1 hk2 hn hend)
  have := Nat.le_of_ble_eq_true h2
  rw [pk_cat_eq (pm_fm_cat F.2.2.2.2.2.2.2.2.2.2.1)]
  show 2 * 0 + _ + 12 ≤ _
  omega
-- runs
abbrev pm_Cd : Type := List (Nat × pm_Op)
def pm_at : pm_Cd → Nat → pm_Cd
  | [], _ => []
  | (pc, op) :: l, t => match Nat.beq pc t with
    | true => (pc, op) :: l
    | false => pm_at l t
theorem pm_at_suffix : ∀ (cd : pm_Cd) (t : Nat), (pm_at cd t) <:+ cd ∧ ∀ pc op l, pm_at cd t = (pc, op) :: l → pc = t
  | [], t => ⟨⟨[], rfl⟩, fun _ _ _ h => by cases h⟩
  | (pc, op) :: l, t => by
    unfold pm_at
    split
    · rename_i hq
      refine ⟨⟨[], rfl⟩, fun pc' op' l' h => ?_⟩
      cases h
      exact Nat.eq_of_beq_eq_true hq
    · obtain ⟨h1, h2⟩ := pm_at_suffix l t
      exact ⟨h1.trans ⟨[(pc, op)], rfl⟩, h2⟩
def pm_All (E : pm_E) (y : Nat) : pm_Cd → Prop
  | [] => True
  | (pc, op) :: l => (match l with
    | [] => pm_Snd E y pc 0 op
    | (pc', _) :: _ => pm_Snd E y pc pc' op) ∧ pm_All E y l
theorem pm_All.suffix {E : pm_E} {y : Nat} : ∀ {cd is : pm_Cd}, is <:+ cd → pm_All E y cd → pm_All E y is
  | [], is, h, _ => by
    rw [List.suffix_nil.mp h]
    trivial
  | x :: l, is, h, ha => by
    rcases List.suffix_cons_iff.mp h with rfl | h
    · exact ha
    · exact pm_All.suffix h ha.2
def nP (E : pm_E) (y : Nat) (cd : pm_Cd) : Nat → pm_Cd → pm_St → pm_Q → Prop
  | 0, is, s, Q => match is with
    | [] => False
    | (pc, _) :: _ => True ∧ Sm E y pc s Q
  | n + 1, is, s, Q => match is with
    | [] => False
    | (pc, op) :: is' => op (fun s' => nP E y cd n is' s' Q) (fun t s' => nP E y cd n (pm_at cd t) s' Q) (fun y' as h K => True ∧ Sm E y' 0 (pl_entry (pm_mL y') as, [], h, 0, 0) K) (fun s' => True ∧ Sm E y pc s' Q) Q s
theorem nP_nil {E : pm_E} {y : Nat} {cd : pm_Cd} {n : Nat} {s : pm_St} {Q : pm_Q} (h : nP E y cd n [] s Q) : False := by
  cases n <;> exact h
theorem pm_run {E : pm_E} {y : Nat} {cd : pm_Cd} (hA : pm_All E y cd) : ∀ (n : Nat) (is : pm_Cd), is <:+ cd → ∀ (s : pm_St) (Q : pm_Q) (pc : Nat) (op : pm_Op) (is' : pm_Cd), is = (pc, op) :: is' → nP E y cd n is s Q → Sm E y pc s Q
  | 0, is, hs, s, Q, pc, op, is', he, h => by
    subst he
    exact h.2
  | n + 1, is, hs, s, Q, pc, op, is', he, h => by
    subst he
    have hAll := hA.suffix hs
    have hs' : is' <:+ cd := List.IsSuffix.trans ⟨[(pc, op)], rfl⟩ hs
    have hJ : ∀ t S', nP E y cd n (pm_at cd t) S' Q → Sm E y t S' Q := by
      intro t S' hq
      obtain ⟨h1, h2⟩ := pm_at_suffix cd t
      cases hc : pm_at cd t with
      | nil => rw [hc] at hq; exact (nP_nil hq).elim
      | cons x l =>
        obtain ⟨pc2, op2⟩ := x
        have := pm_run hA n _ h1 S' Q pc2 op2 l hc hq
        rw [h2 pc2 op2 l hc] at this
        exact this
    cases is' with
    | nil => exact hAll.1 _ _ _ _ Q s (fun S' hq => (nP_nil hq).elim) hJ (fun y' as h K hq => hq.2) (fun S' hq => hq.2) h
    | cons x l =>
      obtain ⟨pc2, op2⟩ := x
      exact hAll.1 _ _ _ _ Q s (fun S' hq => pm_run hA n _ hs' S' Q pc2 op2 l rfl hq) hJ (fun y' as h K hq => hq.2) (fun S' hq => hq.2) h
/-- from a method's entry -/
theorem pm_go {E : pm_E} {y : Nat} {cd : pm_Cd} (hA : pm_All E y cd) (n : Nat) {s : pm_St} {Q : pm_Q} {op : pm_Op} {l : pm_Cd} (hc : cd = (0, op) :: l) (h : nP E y cd n cd s Q) : Sm E y 0 s Q := pm_run hA n cd (List.suffix_refl cd) s Q 0 op l hc h
/-- from behind a mark -/
theorem pm_lp {E : pm_E} {y : Nat} {cd : pm_Cd} (hA : pm_All E y cd) (n t : Nat) {s : pm_St} {Q : pm_Q} {x : Nat × pm_Op} {op : pm_Op} {l : pm_Cd} (hc : pm_at cd t = x :: (t, op) :: l) (h : nP E y cd n ((t, op) :: l) s Q) : Sm E y t s Q :=
  pm_run hA n _ (List.IsSuffix.trans ⟨[x], hc.symm⟩ (pm_at_suffix cd t).1) s Q t op l rfl h
end
section
/-! Math.max, Math.min -/
def po_maxl : pm_Op := fun N _ _ _ _ s => match s with
  | (ls, st, x) => pk_ll st fun a b r => pk_is (Nat.ble (pk_cat r) 8) (N (ls, .long (if b < a then a else b) :: r, x))
theorem ps_maxl {E : pm_E} {y pc idx : Nat} (hw : Cond.methodLink (pm_nm y).cls idx Lib.MathLoose.max_long.x ∈ pm_ws) (hw2 : Cond.static Lib.MathLoose.max_long.x ∈ pm_ws) (hw3 : Cond.initialized "java/lang/Math" ∈ pm_ws) (hw4 : Cond.code Lib.MathLoose.max_long.x Lib.MathLoose.max_long.code 4 (some .long) ∈ pm_ws) (hfr : 1 ≤ (pm_rm y).frames) (hlo : 23 ≤ (pm_rm y).locals) (hd : decode (pm_cd y) pc = .ok (.invokestatic idx, 3)) : pm_Snd E y pc (pc + 3) po_maxl := by
  intro N J C M Q S hN hJ hC hM h
  obtain ⟨ls, st, x⟩ := S
  obtain ⟨a, b, r, rfl, h0⟩ := pk_ll_of h
  obtain ⟨h2, h4⟩ := pk_is_of h0
  intro n0 p e s m args below meth c H locs la QQ F hP hS hl hk1 hk2 hn hend
  have hts := F.2.2.2.2.1
  have hcat := Nat.le_of_ble_eq_true h2
  exact va_mmax_long F.1 F.2.1 (F.2.2.1.trans hl.1.symm) F.2.2.2.1 (hts _ hw) (hts _ hw2) (hts _ hw3) (hts _ hw4) hfr (by rw [pk_cat_eq (pm_fm_cat F.2.2.2.2.2.2.2.2.2.2.1)]; omega) hk1 hk2 hd (hN _ h4 n0 p e s m args below meth c H locs la QQ F hP hS hl hk1 hk2 hn hend)
def po_minl : pm_Op := fun N _ _ _ _ s => match s with
  | (ls, st, x) => pk_ll st fun a b r => pk_is (Nat.ble (pk_cat r) 8) (N (ls, .long (if b < a then b else a) :: r, x))
theorem ps_minl {E : pm_E} {y pc idx : Nat} (hw : Cond.methodLink (pm_nm y).cls idx Lib.MathLoose.min_long.x ∈ pm_ws) (hw2 : Cond.static Lib.MathLoose.min_long.x ∈ pm_ws) (hw3 : Cond.initialized "java/lang/Math" ∈ pm_ws) (hw4 : Cond.code Lib.MathLoose.min_long.x Lib.MathLoose.min_long.code 4 (some .long) ∈ pm_ws) (hfr : 1 ≤ (pm_rm y).frames) (hlo : 23 ≤ (pm_rm y).locals) (hd : decode (pm_cd y) pc = .ok (.invokestatic idx, 3)) : pm_Snd E y pc (pc + 3) po_minl := by
  intro N J C M Q S hN hJ hC hM h
  obtain ⟨ls, st, x⟩ := S
  obtain ⟨a, b, r, rfl, h0⟩ := pk_ll_of h
  obtain ⟨h2, h4⟩ := pk_is_of h0
  intro n0 p e s m args below meth c H locs la QQ F hP hS hl hk1 hk2 hn hend
  have hts := F.2.2.2.2.1
  have hcat := Nat.le_of_ble_eq_true h2
  exact va_mmin_long F.1 F.2.1 (F.2.2.1.trans hl.1.symm) F.2.2.2.1 (hts _ hw) (hts _ hw2) (hts _ hw3) (hts _ hw4) hfr (by rw [pk_cat_eq (pm_fm_cat F.2.2.2.2.2.2.2.2.2.2.1)]; omega) hk1 hk2 hd (hN _ h4 n0 p e s m args below meth c H locs la QQ F hP hS hl hk1 hk2 hn hend)
def po_mini : pm_Op := fun N _ _ _ _ s => match s with
  | (ls, st, x) => pk_ii st fun a b r => pk_is (Nat.ble (pk_cat r) 8) (N (ls, .int (if b < a then b else a) :: r, x))
theorem ps_mini {E : pm_E} {y pc idx : Nat} (hw : Cond.methodLink (pm_nm y).cls idx Lib.Math.min.name ∈ pm_ws) (hw2 : Cond.static Lib.Math.min.name ∈ pm_ws) (hw3 : Cond.initialized "java/lang/Math" ∈ pm_ws) (hw4 : Cond.code Lib.Math.min.name Lib.Math.min.code 2 (some .int) ∈ pm_ws) (hfr : 1 ≤ (pm_rm y).frames) (hlo : 23 ≤ (pm_rm y).locals) (hd : decode (pm_cd y) pc = .ok (.invokestatic idx, 3)) : pm_Snd E y pc (pc + 3) po_mini := by
  intro N J C M Q S hN hJ hC hM h
  obtain ⟨ls, st, x⟩ := S
  obtain ⟨a, b, r, rfl, h0⟩ := pk_ii_of h
  obtain ⟨h2, h4⟩ := pk_is_of h0
  intro n0 p e s m args below meth c H locs la QQ F hP hS hl hk1 hk2 hn hend
  have hts := F.2.2.2.2.1
  have hcat := Nat.le_of_ble_eq_true h2
  exact va_mmin F.1 F.2.1 (F.2.2.1.trans hl.1.symm) F.2.2.2.1 (hts _ hw) (hts _ hw2) (hts _ hw3) (hts _ hw4) hfr (by rw [pk_cat_eq (pm_fm_cat F.2.2.2.2.2.2.2.2.2.2.1)]; omega) hk1 hk2 hd (hN _ h4 n0 p e s m args below meth c H locs la QQ F hP hS hl hk1 hk2 hn hend)
end
section
/-! words of the tables, by their places (printed by gen11.py) -/
theorem wd_18 : Cond.classLink RL 7 RX8 ∈ pm_ws := List.mem_filter.mpr ⟨List.mem_append_right _ (List.mem_of_getElem? (i := 18) (by decide +kernel)), by decide +kernel⟩
theorem wd_19 : Cond.instantiable RX8 6 ∈ pm_ws := List.mem_filter.mpr ⟨List.mem_append_right _ (List.mem_of_getElem? (i := 19) (by decide +kernel)), by decide +kernel⟩
theorem wd_1 : Cond.initialized RX8 ∈ pm_ws := List.mem_filter.mpr ⟨List.mem_append_right _ (List.mem_of_getElem? (i := 1) (by decide +kernel)), by decide +kernel⟩
theorem wd_22 : Cond.code yX8_init cX8_init 1 none ∈ pm_ws := List.mem_filter.mpr ⟨List.mem_append_right _ (List.mem_of_getElem? (i := 22) (by decide +kernel)), by decide +kernel⟩
theorem wd_21 : Cond.instanceMethod yX8_init ∈ pm_ws := List.mem_filter.mpr ⟨List.mem_append_right _ (List.mem_of_getElem? (i := 21) (by decide +kernel)), by decide +kernel⟩
theorem wd_20 : Cond.methodLink RL 9 yX8_init ∈ pm_ws := List.mem_filter.mpr ⟨List.mem_append_right _ (List.mem_of_getElem? (i := 20) (by decide +kernel)), by decide +kernel⟩
theorem wd_641 : Cond.classLink RL 10 RX9 ∈ pm_ws := List.mem_filter.mpr ⟨List.mem_append_right _ (List.mem_of_getElem? (i := 641) (by decide +kernel)), by decide +kernel⟩
theorem wd_642 : Cond.instantiable RX9 15 ∈ pm_ws := List.mem_filter.mpr ⟨List.mem_append_right _ (List.mem_of_getElem? (i := 642) (by decide +kernel)), by decide +kernel⟩
theorem wd_14 : Cond.initialized RX9 ∈ pm_ws := List.mem_filter.mpr ⟨List.mem_append_right _ (List.mem_of_getElem? (i := 14) (by decide +kernel)), by decide +kernel⟩
theorem wd_645 : Cond.code yX9_init cX9_init 1 none ∈ pm_ws := List.mem_filter.mpr ⟨List.mem_append_right _ (List.mem_of_getElem? (i := 645) (by decide +kernel)), by decide +kernel⟩
theorem wd_644 : Cond.instanceMethod yX9_init ∈ pm_ws := List.mem_filter.mpr ⟨List.mem_append_right _ (List.mem_of_getElem? (i := 644) (by decide +kernel)), by decide +kernel⟩
theorem wd_643 : Cond.methodLink RL 12 yX9_init ∈ pm_ws := List.mem_filter.mpr ⟨List.mem_append_right _ (List.mem_of_getElem? (i := 643) (by decide +kernel)), by decide +kernel⟩
theorem wd_364 : Cond.code yX8_write cX8_write 2 (some .int) ∈ pm_ws := List.mem_filter.mpr ⟨List.mem_append_right _ (List.mem_of_getElem? (i := 364) (by decide +kernel)), by decide +kernel⟩
theorem wd_362 : Cond.instanceMethod yX8_write ∈ pm_ws := List.mem_filter.mpr ⟨List.mem_append_right _ (List.mem_of_getElem? (i := 362) (by decide +kernel)), by decide +kernel⟩
theorem wd_363 : Cond.selects RX8 yX8_write yX8_write ∈ pm_ws := List.mem_filter.mpr ⟨List.mem_append_right _ (List.mem_of_getElem? (i := 363) (by decide +kernel)), by decide +kernel⟩
theorem wd_361 : Cond.methodLink RL 13 yX8_write ∈ pm_ws := List.mem_filter.mpr ⟨List.mem_append_right _ (List.mem_of_getElem? (i := 361) (by decide +kernel)), by decide +kernel⟩
theorem wd_722 : Cond.code yX9_write cX9_write 2 (some .int) ∈ pm_ws := List.mem_filter.mpr ⟨List.mem_append_right _ (List.mem_of_getElem? (i := 722) (by decide +kernel)), by decide +kernel⟩
theorem wd_720 : Cond.instanceMethod yX9_write ∈ pm_ws := List.mem_filter.mpr ⟨List.mem_append_right _ (List.mem_of_getElem? (i := 720) (by decide +kernel)), by decide +kernel⟩
theorem wd_721 : Cond.selects RX9 yX9_write yX9_write ∈ pm_ws := List.mem_filter.mpr ⟨List.mem_append_right _ (List.mem_of_getElem? (i := 721) (by decide +kernel)), by decide +kernel⟩
theorem wd_719 : Cond.methodLink RL 17 yX9_write ∈ pm_ws := List.mem_filter.mpr ⟨List.mem_append_right _ (List.mem_of_getElem? (i := 719) (by decide +kernel)), by decide +kernel⟩
theorem wd_369 : Cond.code yX8_wipe cX8_wipe 2 (some .int) ∈ pm_ws := List.mem_filter.mpr ⟨List.mem_append_right _ (List.mem_of_getElem? (i := 369) (by decide +kernel)), by decide +kernel⟩
theorem wd_367 : Cond.instanceMethod yX8_wipe ∈ pm_ws := List.mem_filter.mpr ⟨List.mem_append_right _ (List.mem_of_getElem? (i := 367) (by decide +kernel)), by decide +kernel⟩
theorem wd_368 : Cond.selects RX8 yX8_wipe yX8_wipe ∈ pm_ws := List.mem_filter.mpr ⟨List.mem_append_right _ (List.mem_of_getElem? (i := 368) (by decide +kernel)), by decide +kernel⟩
theorem wd_366 : Cond.methodLink RL 18 yX8_wipe ∈ pm_ws := List.mem_filter.mpr ⟨List.mem_append_right _ (List.mem_of_getElem? (i := 366) (by decide +kernel)), by decide +kernel⟩
theorem wd_731 : Cond.code yX9_wipe cX9_wipe 2 (some .int) ∈ pm_ws := List.mem_filter.mpr ⟨List.mem_append_right _ (List.mem_of_getElem? (i := 731) (by decide +kernel)), by decide +kernel⟩
theorem wd_729 : Cond.instanceMethod yX9_wipe ∈ pm_ws := List.mem_filter.mpr ⟨List.mem_append_right _ (List.mem_of_getElem? (i := 729) (by decide +kernel)), by decide +kernel⟩
theorem wd_730 : Cond.selects RX9 yX9_wipe yX9_wipe ∈ pm_ws := List.mem_filter.mpr ⟨List.mem_append_right _ (List.mem_of_getElem? (i := 730) (by decide +kernel)), by decide +kernel⟩
theorem wd_728 : Cond.methodLink RL 22 yX9_wipe ∈ pm_ws := List.mem_filter.mpr ⟨List.mem_append_right _ (List.mem_of_getElem? (i := 728) (by decide +kernel)), by decide +kernel⟩
theorem wd_373 : Cond.code yX8_fault cX8_fault 3 (some .int) ∈ pm_ws := List.mem_filter.mpr ⟨List.mem_append_right _ (List.mem_of_getElem? (i := 373) (by decide +kernel)), by decide +kernel⟩
theorem wd_371 : Cond.instanceMethod yX8_fault ∈ pm_ws := List.mem_filter.mpr ⟨List.mem_append_right _ (List.mem_of_getElem? (i := 371) (by decide +kernel)), by decide +kernel⟩
theorem wd_372 : Cond.selects RX8 yX8_fault yX8_fault ∈ pm_ws := List.mem_filter.mpr ⟨List.mem_append_right _ (List.mem_of_getElem? (i := 372) (by decide +kernel)), by decide +kernel⟩
theorem wd_370 : Cond.methodLink RL 23 yX8_fault ∈ pm_ws := List.mem_filter.mpr ⟨List.mem_append_right _ (List.mem_of_getElem? (i := 370) (by decide +kernel)), by decide +kernel⟩
theorem wd_735 : Cond.code yX9_fault cX9_fault 1 (some .int) ∈ pm_ws := List.mem_filter.mpr ⟨List.mem_append_right _ (List.mem_of_getElem? (i := 735) (by decide +kernel)), by decide +kernel⟩
theorem wd_733 : Cond.instanceMethod yX9_fault ∈ pm_ws := List.mem_filter.mpr ⟨List.mem_append_right _ (List.mem_of_getElem? (i := 733) (by decide +kernel)), by decide +kernel⟩
theorem wd_734 : Cond.selects RX9 yX9_fault yX9_fault ∈ pm_ws := List.mem_filter.mpr ⟨List.mem_append_right _ (List.mem_of_getElem? (i := 734) (by decide +kernel)), by decide +kernel⟩
theorem wd_732 : Cond.methodLink RL 26 yX9_fault ∈ pm_ws := List.mem_filter.mpr ⟨List.mem_append_right _ (List.mem_of_getElem? (i := 732) (by decide +kernel)), by decide +kernel⟩
theorem wd_377 : Cond.code yX8_lay cX8_lay 1 (some .int) ∈ pm_ws := List.mem_filter.mpr ⟨List.mem_append_right _ (List.mem_of_getElem? (i := 377) (by decide +kernel)), by decide +kernel⟩
theorem wd_375 : Cond.instanceMethod yX8_lay ∈ pm_ws := List.mem_filter.mpr ⟨List.mem_append_right _ (List.mem_of_getElem? (i := 375) (by decide +kernel)), by decide +kernel⟩
theorem wd_376 : Cond.selects RX8 yX8_lay yX8_lay ∈ pm_ws := List.mem_filter.mpr ⟨List.mem_append_right _ (List.mem_of_getElem? (i := 376) (by decide +kernel)), by decide +kernel⟩
theorem wd_374 : Cond.methodLink RL 27 yX8_lay ∈ pm_ws := List.mem_filter.mpr ⟨List.mem_append_right _ (List.mem_of_getElem? (i := 374) (by decide +kernel)), by decide +kernel⟩
theorem wd_772 : Cond.code yX9_lay cX9_lay 1 (some .int) ∈ pm_ws := List.mem_filter.mpr ⟨List.mem_append_right _ (List.mem_of_getElem? (i := 772) (by decide +kernel)), by decide +kernel⟩
theorem wd_770 : Cond.instanceMethod yX9_lay ∈ pm_ws := List.mem_filter.mpr ⟨List.mem_append_right _ (List.mem_of_getElem? (i := 770) (by decide +kernel)), by decide +kernel⟩
theorem wd_771 : Cond.selects RX9 yX9_lay yX9_lay ∈ pm_ws := List.mem_filter.mpr ⟨List.mem_append_right _ (List.mem_of_getElem? (i := 771) (by decide +kernel)), by decide +kernel⟩
theorem wd_769 : Cond.methodLink RL 30 yX9_lay ∈ pm_ws := List.mem_filter.mpr ⟨List.mem_append_right _ (List.mem_of_getElem? (i := 769) (by decide +kernel)), by decide +kernel⟩
theorem wd_938 : Cond.constantLong RL 31 (4294967295) ∈ pm_ws := List.mem_filter.mpr ⟨List.mem_append_right _ (List.mem_of_getElem? (i := 938) (by decide +kernel)), by decide +kernel⟩
theorem wd_392 : Cond.code yX8_tell cX8_tell 6 (some .int) ∈ pm_ws := List.mem_filter.mpr ⟨List.mem_append_right _ (List.mem_of_getElem? (i := 392) (by decide +kernel)), by decide +kernel⟩
theorem wd_390 : Cond.instanceMethod yX8_tell ∈ pm_ws := List.mem_filter.mpr ⟨List.mem_append_right _ (List.mem_of_getElem? (i := 390) (by decide +kernel)), by decide +kernel⟩
theorem wd_391 : Cond.selects RX8 yX8_tell yX8_tell ∈ pm_ws := List.mem_filter.mpr ⟨List.mem_append_right _ (List.mem_of_getElem? (i := 391) (by decide +kernel)), by decide +kernel⟩
theorem wd_389 : Cond.methodLink RL 33 yX8_tell ∈ pm_ws := List.mem_filter.mpr ⟨List.mem_append_right _ (List.mem_of_getElem? (i := 389) (by decide +kernel)), by decide +kernel⟩
theorem wd_792 : Cond.code yX9_tell cX9_tell 6 (some .int) ∈ pm_ws := List.mem_filter.mpr ⟨List.mem_append_right _ (List.mem_of_getElem? (i := 792) (by decide +kernel)), by decide +kernel⟩
theorem wd_790 : Cond.instanceMethod yX9_tell ∈ pm_ws := List.mem_filter.mpr ⟨List.mem_append_right _ (List.mem_of_getElem? (i := 790) (by decide +kernel)), by decide +kernel⟩
theorem wd_791 : Cond.selects RX9 yX9_tell yX9_tell ∈ pm_ws := List.mem_filter.mpr ⟨List.mem_append_right _ (List.mem_of_getElem? (i := 791) (by decide +kernel)), by decide +kernel⟩
theorem wd_789 : Cond.methodLink RL 37 yX9_tell ∈ pm_ws := List.mem_filter.mpr ⟨List.mem_append_right _ (List.mem_of_getElem? (i := 789) (by decide +kernel)), by decide +kernel⟩
theorem wd_421 : Cond.code yX8_strike cX8_strike 3 (some .int) ∈ pm_ws := List.mem_filter.mpr ⟨List.mem_append_right _ (List.mem_of_getElem? (i := 421) (by decide +kernel)), by decide +kernel⟩
theorem wd_419 : Cond.instanceMethod yX8_strike ∈ pm_ws := List.mem_filter.mpr ⟨List.mem_append_right _ (List.mem_of_getElem? (i := 419) (by decide +kernel)), by decide +kernel⟩
theorem wd_420 : Cond.selects RX8 yX8_strike yX8_strike ∈ pm_ws := List.mem_filter.mpr ⟨List.mem_append_right _ (List.mem_of_getElem? (i := 420) (by decide +kernel)), by decide +kernel⟩
theorem wd_418 : Cond.methodLink RL 38 yX8_strike ∈ pm_ws := List.mem_filter.mpr ⟨List.mem_append_right _ (List.mem_of_getElem? (i := 418) (by decide +kernel)), by decide +kernel⟩
theorem wd_803 : Cond.code yX9_strike cX9_strike 3 (some .int) ∈ pm_ws := List.mem_filter.mpr ⟨List.mem_append_right _ (List.mem_of_getElem? (i := 803) (by decide +kernel)), by decide +kernel⟩
theorem wd_801 : Cond.instanceMethod yX9_strike ∈ pm_ws := List.mem_filter.mpr ⟨List.mem_append_right _ (List.mem_of_getElem? (i := 801) (by decide +kernel)), by decide +kernel⟩
theorem wd_802 : Cond.selects RX9 yX9_strike yX9_strike ∈ pm_ws := List.mem_filter.mpr ⟨List.mem_append_right _ (List.mem_of_getElem? (i := 802) (by decide +kernel)), by decide +kernel⟩
theorem wd_800 : Cond.methodLink RL 42 yX9_strike ∈ pm_ws := List.mem_filter.mpr ⟨List.mem_append_right _ (List.mem_of_getElem? (i := 800) (by decide +kernel)), by decide +kernel⟩
theorem wd_425 : Cond.code yX8_strikeLiars cX8_strikeLiars 2 (some .int) ∈ pm_ws := List.mem_filter.mpr ⟨List.mem_append_right _ (List.mem_of_getElem? (i := 425) (by decide +kernel)), by decide +kernel⟩
theorem wd_423 : Cond.instanceMethod yX8_strikeLiars ∈ pm_ws := List.mem_filter.mpr ⟨List.mem_append_right _ (List.mem_of_getElem? (i := 423) (by decide +kernel)), by decide +kernel⟩
theorem wd_424 : Cond.selects RX8 yX8_strikeLiars yX8_strikeLiars ∈ pm_ws := List.mem_filter.mpr ⟨List.mem_append_right _ (List.mem_of_getElem? (i := 424) (by decide +kernel)), by decide +kernel⟩
theorem wd_422 : Cond.methodLink RL 43 yX8_strikeLiars ∈ pm_ws := List.mem_filter.mpr ⟨List.mem_append_right _ (List.mem_of_getElem? (i := 422) (by decide +kernel)), by decide +kernel⟩
theorem wd_807 : Cond.code yX9_strikeLiars cX9_strikeLiars 2 (some .int) ∈ pm_ws := List.mem_filter.mpr ⟨List.mem_append_right _ (List.mem_of_getElem? (i := 807) (by decide +kernel)), by decide +kernel⟩
theorem wd_805 : Cond.instanceMethod yX9_strikeLiars ∈ pm_ws := List.mem_filter.mpr ⟨List.mem_append_right _ (List.mem_of_getElem? (i := 805) (by decide +kernel)), by decide +kernel⟩
theorem wd_806 : Cond.selects RX9 yX9_strikeLiars yX9_strikeLiars ∈ pm_ws := List.mem_filter.mpr ⟨List.mem_append_right _ (List.mem_of_getElem? (i := 806) (by decide +kernel)), by decide +kernel⟩
theorem wd_804 : Cond.methodLink RL 46 yX9_strikeLiars ∈ pm_ws := List.mem_filter.mpr ⟨List.mem_append_right _ (List.mem_of_getElem? (i := 804) (by decide +kernel)), by decide +kernel⟩
theorem wd_486 : Cond.code yX8_drift cX8_drift 3 (some .int) ∈ pm_ws := List.mem_filter.mpr ⟨List.mem_append_right _ (List.mem_of_getElem? (i := 486) (by decide +kernel)), by decide +kernel⟩
theorem wd_484 : Cond.instanceMethod yX8_drift ∈ pm_ws := List.mem_filter.mpr ⟨List.mem_append_right _ (List.mem_of_getElem? (i := 484) (by decide +kernel)), by decide +kernel⟩
theorem wd_485 : Cond.selects RX8 yX8_drift yX8_drift ∈ pm_ws := List.mem_filter.mpr ⟨List.mem_append_right _ (List.mem_of_getElem? (i := 485) (by decide +kernel)), by decide +kernel⟩
theorem wd_483 : Cond.methodLink RL 47 yX8_drift ∈ pm_ws := List.mem_filter.mpr ⟨List.mem_append_right _ (List.mem_of_getElem? (i := 483) (by decide +kernel)), by decide +kernel⟩
theorem wd_835 : Cond.code yX9_drift cX9_drift 3 (some .int) ∈ pm_ws := List.mem_filter.mpr ⟨List.mem_append_right _ (List.mem_of_getElem? (i := 835) (by decide +kernel)), by decide +kernel⟩
theorem wd_833 : Cond.instanceMethod yX9_drift ∈ pm_ws := List.mem_filter.mpr ⟨List.mem_append_right _ (List.mem_of_getElem? (i := 833) (by decide +kernel)), by decide +kernel⟩
theorem wd_834 : Cond.selects RX9 yX9_drift yX9_drift ∈ pm_ws := List.mem_filter.mpr ⟨List.mem_append_right _ (List.mem_of_getElem? (i := 834) (by decide +kernel)), by decide +kernel⟩
theorem wd_832 : Cond.methodLink RL 50 yX9_drift ∈ pm_ws := List.mem_filter.mpr ⟨List.mem_append_right _ (List.mem_of_getElem? (i := 832) (by decide +kernel)), by decide +kernel⟩
theorem wd_491 : Cond.code yX8_go cX8_go 4 (some .int) ∈ pm_ws := List.mem_filter.mpr ⟨List.mem_append_right _ (List.mem_of_getElem? (i := 491) (by decide +kernel)), by decide +kernel⟩
theorem wd_489 : Cond.instanceMethod yX8_go ∈ pm_ws := List.mem_filter.mpr ⟨List.mem_append_right _ (List.mem_of_getElem? (i := 489) (by decide +kernel)), by decide +kernel⟩
theorem wd_490 : Cond.selects RX8 yX8_go yX8_go ∈ pm_ws := List.mem_filter.mpr ⟨List.mem_append_right _ (List.mem_of_getElem? (i := 490) (by decide +kernel)), by decide +kernel⟩
theorem wd_488 : Cond.methodLink RL 51 yX8_go ∈ pm_ws := List.mem_filter.mpr ⟨List.mem_append_right _ (List.mem_of_getElem? (i := 488) (by decide +kernel)), by decide +kernel⟩
theorem wd_839 : Cond.code yX9_go cX9_go 4 (some .int) ∈ pm_ws := List.mem_filter.mpr ⟨List.mem_append_right _ (List.mem_of_getElem? (i := 839) (by decide +kernel)), by decide +kernel⟩
theorem wd_837 : Cond.instanceMethod yX9_go ∈ pm_ws := List.mem_filter.mpr ⟨List.mem_append_right _ (List.mem_of_getElem? (i := 837) (by decide +kernel)), by decide +kernel⟩
theorem wd_838 : Cond.selects RX9 yX9_go yX9_go ∈ pm_ws := List.mem_filter.mpr ⟨List.mem_append_right _ (List.mem_of_getElem? (i := 838) (by decide +kernel)), by decide +kernel⟩
theorem wd_836 : Cond.methodLink RL 54 yX9_go ∈ pm_ws := List.mem_filter.mpr ⟨List.mem_append_right _ (List.mem_of_getElem? (i := 836) (by decide +kernel)), by decide +kernel⟩
theorem wd_511 : Cond.code yX8_undo cX8_undo 1 (some .int) ∈ pm_ws := List.mem_filter.mpr ⟨List.mem_append_right _ (List.mem_of_getElem? (i := 511) (by decide +kernel)), by decide +kernel⟩
theorem wd_509 : Cond.instanceMethod yX8_undo ∈ pm_ws := List.mem_filter.mpr ⟨List.mem_append_right _ (List.mem_of_getElem? (i := 509) (by decide +kernel)), by decide +kernel⟩
theorem wd_510 : Cond.selects RX8 yX8_undo yX8_undo ∈ pm_ws := List.mem_filter.mpr ⟨List.mem_append_right _ (List.mem_of_getElem? (i := 510) (by decide +kernel)), by decide +kernel⟩
theorem wd_508 : Cond.methodLink RL 55 yX8_undo ∈ pm_ws := List.mem_filter.mpr ⟨List.mem_append_right _ (List.mem_of_getElem? (i := 508) (by decide +kernel)), by decide +kernel⟩
theorem wd_788 : Cond.code yX9_undo cX9_undo 2 (some .int) ∈ pm_ws := List.mem_filter.mpr ⟨List.mem_append_right _ (List.mem_of_getElem? (i := 788) (by decide +kernel)), by decide +kernel⟩
theorem wd_786 : Cond.instanceMethod yX9_undo ∈ pm_ws := List.mem_filter.mpr ⟨List.mem_append_right _ (List.mem_of_getElem? (i := 786) (by decide +kernel)), by decide +kernel⟩
theorem wd_787 : Cond.selects RX9 yX9_undo yX9_undo ∈ pm_ws := List.mem_filter.mpr ⟨List.mem_append_right _ (List.mem_of_getElem? (i := 787) (by decide +kernel)), by decide +kernel⟩
theorem wd_785 : Cond.methodLink RL 58 yX9_undo ∈ pm_ws := List.mem_filter.mpr ⟨List.mem_append_right _ (List.mem_of_getElem? (i := 785) (by decide +kernel)), by decide +kernel⟩
theorem wd_519 : Cond.code yX8_span cX8_span 3 (some .long) ∈ pm_ws := List.mem_filter.mpr ⟨List.mem_append_right _ (List.mem_of_getElem? (i := 519) (by decide +kernel)), by decide +kernel⟩
theorem wd_517 : Cond.instanceMethod yX8_span ∈ pm_ws := List.mem_filter.mpr ⟨List.mem_append_right _ (List.mem_of_getElem? (i := 517) (by decide +kernel)), by decide +kernel⟩
theorem wd_518 : Cond.selects RX8 yX8_span yX8_span ∈ pm_ws := List.mem_filter.mpr ⟨List.mem_append_right _ (List.mem_of_getElem? (i := 518) (by decide +kernel)), by decide +kernel⟩
theorem wd_516 : Cond.methodLink RL 59 yX8_span ∈ pm_ws := List.mem_filter.mpr ⟨List.mem_append_right _ (List.mem_of_getElem? (i := 516) (by decide +kernel)), by decide +kernel⟩
theorem wd_857 : Cond.code yX9_span cX9_span 3 (some .long) ∈ pm_ws := List.mem_filter.mpr ⟨List.mem_append_right _ (List.mem_of_getElem? (i := 857) (by decide +kernel)), by decide +kernel⟩
theorem wd_855 : Cond.instanceMethod yX9_span ∈ pm_ws := List.mem_filter.mpr ⟨List.mem_append_right _ (List.mem_of_getElem? (i := 855) (by decide +kernel)), by decide +kernel⟩
theorem wd_856 : Cond.selects RX9 yX9_span yX9_span ∈ pm_ws := List.mem_filter.mpr ⟨List.mem_append_right _ (List.mem_of_getElem? (i := 856) (by decide +kernel)), by decide +kernel⟩
theorem wd_854 : Cond.methodLink RL 63 yX9_span ∈ pm_ws := List.mem_filter.mpr ⟨List.mem_append_right _ (List.mem_of_getElem? (i := 854) (by decide +kernel)), by decide +kernel⟩
theorem wd_531 : Cond.code yX8_agreed cX8_agreed 2 (some .long) ∈ pm_ws := List.mem_filter.mpr ⟨List.mem_append_right _ (List.mem_of_getElem? (i := 531) (by decide +kernel)), by decide +kernel⟩
theorem wd_529 : Cond.instanceMethod yX8_agreed ∈ pm_ws := List.mem_filter.mpr ⟨List.mem_append_right _ (List.mem_of_getElem? (i := 529) (by decide +kernel)), by decide +kernel⟩
theorem wd_530 : Cond.selects RX8 yX8_agreed yX8_agreed ∈ pm_ws := List.mem_filter.mpr ⟨List.mem_append_right _ (List.mem_of_getElem? (i := 530) (by decide +kernel)), by decide +kernel⟩
theorem wd_528 : Cond.methodLink RL 64 yX8_agreed ∈ pm_ws := List.mem_filter.mpr ⟨List.mem_append_right _ (List.mem_of_getElem? (i := 528) (by decide +kernel)), by decide +kernel⟩
theorem wd_863 : Cond.code yX9_agreed cX9_agreed 2 (some .long) ∈ pm_ws := List.mem_filter.mpr ⟨List.mem_append_right _ (List.mem_of_getElem? (i := 863) (by decide +kernel)), by decide +kernel⟩
theorem wd_861 : Cond.instanceMethod yX9_agreed ∈ pm_ws := List.mem_filter.mpr ⟨List.mem_append_right _ (List.mem_of_getElem? (i := 861) (by decide +kernel)), by decide +kernel⟩
theorem wd_862 : Cond.selects RX9 yX9_agreed yX9_agreed ∈ pm_ws := List.mem_filter.mpr ⟨List.mem_append_right _ (List.mem_of_getElem? (i := 862) (by decide +kernel)), by decide +kernel⟩
theorem wd_860 : Cond.methodLink RL 68 yX9_agreed ∈ pm_ws := List.mem_filter.mpr ⟨List.mem_append_right _ (List.mem_of_getElem? (i := 860) (by decide +kernel)), by decide +kernel⟩
theorem wd_535 : Cond.code yX8_good cX8_good 1 (some .int) ∈ pm_ws := List.mem_filter.mpr ⟨List.mem_append_right _ (List.mem_of_getElem? (i := 535) (by decide +kernel)), by decide +kernel⟩
theorem wd_533 : Cond.instanceMethod yX8_good ∈ pm_ws := List.mem_filter.mpr ⟨List.mem_append_right _ (List.mem_of_getElem? (i := 533) (by decide +kernel)), by decide +kernel⟩
theorem wd_534 : Cond.selects RX8 yX8_good yX8_good ∈ pm_ws := List.mem_filter.mpr ⟨List.mem_append_right _ (List.mem_of_getElem? (i := 534) (by decide +kernel)), by decide +kernel⟩
theorem wd_532 : Cond.methodLink RL 69 yX8_good ∈ pm_ws := List.mem_filter.mpr ⟨List.mem_append_right _ (List.mem_of_getElem? (i := 532) (by decide +kernel)), by decide +kernel⟩
theorem wd_867 : Cond.code yX9_good cX9_good 1 (some .int) ∈ pm_ws := List.mem_filter.mpr ⟨List.mem_append_right _ (List.mem_of_getElem? (i := 867) (by decide +kernel)), by decide +kernel⟩
theorem wd_865 : Cond.instanceMethod yX9_good ∈ pm_ws := List.mem_filter.mpr ⟨List.mem_append_right _ (List.mem_of_getElem? (i := 865) (by decide +kernel)), by decide +kernel⟩
theorem wd_866 : Cond.selects RX9 yX9_good yX9_good ∈ pm_ws := List.mem_filter.mpr ⟨List.mem_append_right _ (List.mem_of_getElem? (i := 866) (by decide +kernel)), by decide +kernel⟩
theorem wd_864 : Cond.methodLink RL 72 yX9_good ∈ pm_ws := List.mem_filter.mpr ⟨List.mem_append_right _ (List.mem_of_getElem? (i := 864) (by decide +kernel)), by decide +kernel⟩
theorem wd_539 : Cond.code yX8_in cX8_in 3 (some .int) ∈ pm_ws := List.mem_filter.mpr ⟨List.mem_append_right _ (List.mem_of_getElem? (i := 539) (by decide +kernel)), by decide +kernel⟩
theorem wd_537 : Cond.instanceMethod yX8_in ∈ pm_ws := List.mem_filter.mpr ⟨List.mem_append_right _ (List.mem_of_getElem? (i := 537) (by decide +kernel)), by decide +kernel⟩
theorem wd_538 : Cond.selects RX8 yX8_in yX8_in ∈ pm_ws := List.mem_filter.mpr ⟨List.mem_append_right _ (List.mem_of_getElem? (i := 538) (by decide +kernel)), by decide +kernel⟩
theorem wd_536 : Cond.methodLink RL 73 yX8_in ∈ pm_ws := List.mem_filter.mpr ⟨List.mem_append_right _ (List.mem_of_getElem? (i := 536) (by decide +kernel)), by decide +kernel⟩
theorem wd_871 : Cond.code yX9_in cX9_in 3 (some .int) ∈ pm_ws := List.mem_filter.mpr ⟨List.mem_append_right _ (List.mem_of_getElem? (i := 871) (by decide +kernel)), by decide +kernel⟩
theorem wd_869 : Cond.instanceMethod yX9_in ∈ pm_ws := List.mem_filter.mpr ⟨List.mem_append_right _ (List.mem_of_getElem? (i := 869) (by decide +kernel)), by decide +kernel⟩
theorem wd_870 : Cond.selects RX9 yX9_in yX9_in ∈ pm_ws := List.mem_filter.mpr ⟨List.mem_append_right _ (List.mem_of_getElem? (i := 870) (by decide +kernel)), by decide +kernel⟩
theorem wd_868 : Cond.methodLink RL 77 yX9_in ∈ pm_ws := List.mem_filter.mpr ⟨List.mem_append_right _ (List.mem_of_getElem? (i := 868) (by decide +kernel)), by decide +kernel⟩
theorem wd_429 : Cond.code yX8_liars cX8_liars 7 (some .int) ∈ pm_ws := List.mem_filter.mpr ⟨List.mem_append_right _ (List.mem_of_getElem? (i := 429) (by decide +kernel)), by decide +kernel⟩
theorem wd_427 : Cond.instanceMethod yX8_liars ∈ pm_ws := List.mem_filter.mpr ⟨List.mem_append_right _ (List.mem_of_getElem? (i := 427) (by decide +kernel)), by decide +kernel⟩
theorem wd_428 : Cond.selects RX8 yX8_liars yX8_liars ∈ pm_ws := List.mem_filter.mpr ⟨List.mem_append_right _ (List.mem_of_getElem? (i := 428) (by decide +kernel)), by decide +kernel⟩
theorem wd_545 : Cond.methodLink RL 78 yX8_liars ∈ pm_ws := List.mem_filter.mpr ⟨List.mem_append_right _ (List.mem_of_getElem? (i := 545) (by decide +kernel)), by decide +kernel⟩
theorem wd_876 : Cond.code yX9_liars cX9_liars 1 (some .int) ∈ pm_ws := List.mem_filter.mpr ⟨List.mem_append_right _ (List.mem_of_getElem? (i := 876) (by decide +kernel)), by decide +kernel⟩
theorem wd_874 : Cond.instanceMethod yX9_liars ∈ pm_ws := List.mem_filter.mpr ⟨List.mem_append_right _ (List.mem_of_getElem? (i := 874) (by decide +kernel)), by decide +kernel⟩
theorem wd_875 : Cond.selects RX9 yX9_liars yX9_liars ∈ pm_ws := List.mem_filter.mpr ⟨List.mem_append_right _ (List.mem_of_getElem? (i := 875) (by decide +kernel)), by decide +kernel⟩
theorem wd_873 : Cond.methodLink RL 81 yX9_liars ∈ pm_ws := List.mem_filter.mpr ⟨List.mem_append_right _ (List.mem_of_getElem? (i := 873) (by decide +kernel)), by decide +kernel⟩
theorem wd_549 : Cond.code yX8_commit cX8_commit 3 (some .int) ∈ pm_ws := List.mem_filter.mpr ⟨List.mem_append_right _ (List.mem_of_getElem? (i := 549) (by decide +kernel)), by decide +kernel⟩
theorem wd_547 : Cond.instanceMethod yX8_commit ∈ pm_ws := List.mem_filter.mpr ⟨List.mem_append_right _ (List.mem_of_getElem? (i := 547) (by decide +kernel)), by decide +kernel⟩
theorem wd_548 : Cond.selects RX8 yX8_commit yX8_commit ∈ pm_ws := List.mem_filter.mpr ⟨List.mem_append_right _ (List.mem_of_getElem? (i := 548) (by decide +kernel)), by decide +kernel⟩
theorem wd_546 : Cond.methodLink RL 82 yX8_commit ∈ pm_ws := List.mem_filter.mpr ⟨List.mem_append_right _ (List.mem_of_getElem? (i := 546) (by decide +kernel)), by decide +kernel⟩
theorem wd_880 : Cond.code yX9_commit cX9_commit 7 (some .int) ∈ pm_ws := List.mem_filter.mpr ⟨List.mem_append_right _ (List.mem_of_getElem? (i := 880) (by decide +kernel)), by decide +kernel⟩
theorem wd_878 : Cond.instanceMethod yX9_commit ∈ pm_ws := List.mem_filter.mpr ⟨List.mem_append_right _ (List.mem_of_getElem? (i := 878) (by decide +kernel)), by decide +kernel⟩
theorem wd_879 : Cond.selects RX9 yX9_commit yX9_commit ∈ pm_ws := List.mem_filter.mpr ⟨List.mem_append_right _ (List.mem_of_getElem? (i := 879) (by decide +kernel)), by decide +kernel⟩
theorem wd_877 : Cond.methodLink RL 85 yX9_commit ∈ pm_ws := List.mem_filter.mpr ⟨List.mem_append_right _ (List.mem_of_getElem? (i := 877) (by decide +kernel)), by decide +kernel⟩
theorem wd_568 : Cond.code yX8_commitOf cX8_commitOf 3 (some .long) ∈ pm_ws := List.mem_filter.mpr ⟨List.mem_append_right _ (List.mem_of_getElem? (i := 568) (by decide +kernel)), by decide +kernel⟩
theorem wd_566 : Cond.instanceMethod yX8_commitOf ∈ pm_ws := List.mem_filter.mpr ⟨List.mem_append_right _ (List.mem_of_getElem? (i := 566) (by decide +kernel)), by decide +kernel⟩
theorem wd_567 : Cond.selects RX8 yX8_commitOf yX8_commitOf ∈ pm_ws := List.mem_filter.mpr ⟨List.mem_append_right _ (List.mem_of_getElem? (i := 567) (by decide +kernel)), by decide +kernel⟩
theorem wd_565 : Cond.methodLink RL 86 yX8_commitOf ∈ pm_ws := List.mem_filter.mpr ⟨List.mem_append_right _ (List.mem_of_getElem? (i := 565) (by decide +kernel)), by decide +kernel⟩
theorem wd_889 : Cond.code yX9_commitOf cX9_commitOf 3 (some .long) ∈ pm_ws := List.mem_filter.mpr ⟨List.mem_append_right _ (List.mem_of_getElem? (i := 889) (by decide +kernel)), by decide +kernel⟩
theorem wd_887 : Cond.instanceMethod yX9_commitOf ∈ pm_ws := List.mem_filter.mpr ⟨List.mem_append_right _ (List.mem_of_getElem? (i := 887) (by decide +kernel)), by decide +kernel⟩
theorem wd_888 : Cond.selects RX9 yX9_commitOf yX9_commitOf ∈ pm_ws := List.mem_filter.mpr ⟨List.mem_append_right _ (List.mem_of_getElem? (i := 888) (by decide +kernel)), by decide +kernel⟩
theorem wd_886 : Cond.methodLink RL 89 yX9_commitOf ∈ pm_ws := List.mem_filter.mpr ⟨List.mem_append_right _ (List.mem_of_getElem? (i := 886) (by decide +kernel)), by decide +kernel⟩
theorem wd_582 : Cond.code yX8_waiting cX8_waiting 5 (some .int) ∈ pm_ws := List.mem_filter.mpr ⟨List.mem_append_right _ (List.mem_of_getElem? (i := 582) (by decide +kernel)), by decide +kernel⟩
theorem wd_580 : Cond.instanceMethod yX8_waiting ∈ pm_ws := List.mem_filter.mpr ⟨List.mem_append_right _ (List.mem_of_getElem? (i := 580) (by decide +kernel)), by decide +kernel⟩
theorem wd_581 : Cond.selects RX8 yX8_waiting yX8_waiting ∈ pm_ws := List.mem_filter.mpr ⟨List.mem_append_right _ (List.mem_of_getElem? (i := 581) (by decide +kernel)), by decide +kernel⟩
theorem wd_579 : Cond.methodLink RL 90 yX8_waiting ∈ pm_ws := List.mem_filter.mpr ⟨List.mem_append_right _ (List.mem_of_getElem? (i := 579) (by decide +kernel)), by decide +kernel⟩
theorem wd_898 : Cond.code yX9_waiting cX9_waiting 3 (some .int) ∈ pm_ws := List.mem_filter.mpr ⟨List.mem_append_right _ (List.mem_of_getElem? (i := 898) (by decide +kernel)), by decide +kernel⟩
theorem wd_896 : Cond.instanceMethod yX9_waiting ∈ pm_ws := List.mem_filter.mpr ⟨List.mem_append_right _ (List.mem_of_getElem? (i := 896) (by decide +kernel)), by decide +kernel⟩
theorem wd_897 : Cond.selects RX9 yX9_waiting yX9_waiting ∈ pm_ws := List.mem_filter.mpr ⟨List.mem_append_right _ (List.mem_of_getElem? (i := 897) (by decide +kernel)), by decide +kernel⟩
theorem wd_895 : Cond.methodLink RL 93 yX9_waiting ∈ pm_ws := List.mem_filter.mpr ⟨List.mem_append_right _ (List.mem_of_getElem? (i := 895) (by decide +kernel)), by decide +kernel⟩
theorem wd_586 : Cond.code yX8_safe cX8_safe 4 (some .long) ∈ pm_ws := List.mem_filter.mpr ⟨List.mem_append_right _ (List.mem_of_getElem? (i := 586) (by decide +kernel)), by decide +kernel⟩
theorem wd_584 : Cond.instanceMethod yX8_safe ∈ pm_ws := List.mem_filter.mpr ⟨List.mem_append_right _ (List.mem_of_getElem? (i := 584) (by decide +kernel)), by decide +kernel⟩
theorem wd_585 : Cond.selects RX8 yX8_safe yX8_safe ∈ pm_ws := List.mem_filter.mpr ⟨List.mem_append_right _ (List.mem_of_getElem? (i := 585) (by decide +kernel)), by decide +kernel⟩
theorem wd_583 : Cond.methodLink RL 94 yX8_safe ∈ pm_ws := List.mem_filter.mpr ⟨List.mem_append_right _ (List.mem_of_getElem? (i := 583) (by decide +kernel)), by decide +kernel⟩
theorem wd_902 : Cond.code yX9_safe cX9_safe 1 (some .long) ∈ pm_ws := List.mem_filter.mpr ⟨List.mem_append_right _ (List.mem_of_getElem? (i := 902) (by decide +kernel)), by decide +kernel⟩
theorem wd_900 : Cond.instanceMethod yX9_safe ∈ pm_ws := List.mem_filter.mpr ⟨List.mem_append_right _ (List.mem_of_getElem? (i := 900) (by decide +kernel)), by decide +kernel⟩
theorem wd_901 : Cond.selects RX9 yX9_safe yX9_safe ∈ pm_ws := List.mem_filter.mpr ⟨List.mem_append_right _ (List.mem_of_getElem? (i := 901) (by decide +kernel)), by decide +kernel⟩
theorem wd_899 : Cond.methodLink RL 98 yX9_safe ∈ pm_ws := List.mem_filter.mpr ⟨List.mem_append_right _ (List.mem_of_getElem? (i := 899) (by decide +kernel)), by decide +kernel⟩
theorem wd_596 : Cond.code yX8_read cX8_read 4 (some .int) ∈ pm_ws := List.mem_filter.mpr ⟨List.mem_append_right _ (List.mem_of_getElem? (i := 596) (by decide +kernel)), by decide +kernel⟩
theorem wd_594 : Cond.instanceMethod yX8_read ∈ pm_ws := List.mem_filter.mpr ⟨List.mem_append_right _ (List.mem_of_getElem? (i := 594) (by decide +kernel)), by decide +kernel⟩
theorem wd_595 : Cond.selects RX8 yX8_read yX8_read ∈ pm_ws := List.mem_filter.mpr ⟨List.mem_append_right _ (List.mem_of_getElem? (i := 595) (by decide +kernel)), by decide +kernel⟩
theorem wd_593 : Cond.methodLink RL 99 yX8_read ∈ pm_ws := List.mem_filter.mpr ⟨List.mem_append_right _ (List.mem_of_getElem? (i := 593) (by decide +kernel)), by decide +kernel⟩
theorem wd_911 : Cond.code yX9_read cX9_read 7 (some .int) ∈ pm_ws := List.mem_filter.mpr ⟨List.mem_append_right _ (List.mem_of_getElem? (i := 911) (by decide +kernel)), by decide +kernel⟩
theorem wd_909 : Cond.instanceMethod yX9_read ∈ pm_ws := List.mem_filter.mpr ⟨List.mem_append_right _ (List.mem_of_getElem? (i := 909) (by decide +kernel)), by decide +kernel⟩
theorem wd_910 : Cond.selects RX9 yX9_read yX9_read ∈ pm_ws := List.mem_filter.mpr ⟨List.mem_append_right _ (List.mem_of_getElem? (i := 910) (by decide +kernel)), by decide +kernel⟩
theorem wd_908 : Cond.methodLink RL 103 yX9_read ∈ pm_ws := List.mem_filter.mpr ⟨List.mem_append_right _ (List.mem_of_getElem? (i := 908) (by decide +kernel)), by decide +kernel⟩
theorem wd_605 : Cond.code yX8_between cX8_between 6 (some .int) ∈ pm_ws := List.mem_filter.mpr ⟨List.mem_append_right _ (List.mem_of_getElem? (i := 605) (by decide +kernel)), by decide +kernel⟩
theorem wd_603 : Cond.instanceMethod yX8_between ∈ pm_ws := List.mem_filter.mpr ⟨List.mem_append_right _ (List.mem_of_getElem? (i := 603) (by decide +kernel)), by decide +kernel⟩
theorem wd_604 : Cond.selects RX8 yX8_between yX8_between ∈ pm_ws := List.mem_filter.mpr ⟨List.mem_append_right _ (List.mem_of_getElem? (i := 604) (by decide +kernel)), by decide +kernel⟩
theorem wd_602 : Cond.methodLink RL 104 yX8_between ∈ pm_ws := List.mem_filter.mpr ⟨List.mem_append_right _ (List.mem_of_getElem? (i := 602) (by decide +kernel)), by decide +kernel⟩
theorem wd_915 : Cond.code yX9_between cX9_between 9 (some .int) ∈ pm_ws := List.mem_filter.mpr ⟨List.mem_append_right _ (List.mem_of_getElem? (i := 915) (by decide +kernel)), by decide +kernel⟩
theorem wd_913 : Cond.instanceMethod yX9_between ∈ pm_ws := List.mem_filter.mpr ⟨List.mem_append_right _ (List.mem_of_getElem? (i := 913) (by decide +kernel)), by decide +kernel⟩
theorem wd_914 : Cond.selects RX9 yX9_between yX9_between ∈ pm_ws := List.mem_filter.mpr ⟨List.mem_append_right _ (List.mem_of_getElem? (i := 914) (by decide +kernel)), by decide +kernel⟩
theorem wd_912 : Cond.methodLink RL 107 yX9_between ∈ pm_ws := List.mem_filter.mpr ⟨List.mem_append_right _ (List.mem_of_getElem? (i := 912) (by decide +kernel)), by decide +kernel⟩
theorem wd_613 : Cond.code yX8_leap cX8_leap 2 (some .long) ∈ pm_ws := List.mem_filter.mpr ⟨List.mem_append_right _ (List.mem_of_getElem? (i := 613) (by decide +kernel)), by decide +kernel⟩
theorem wd_611 : Cond.instanceMethod yX8_leap ∈ pm_ws := List.mem_filter.mpr ⟨List.mem_append_right _ (List.mem_of_getElem? (i := 611) (by decide +kernel)), by decide +kernel⟩
theorem wd_612 : Cond.selects RX8 yX8_leap yX8_leap ∈ pm_ws := List.mem_filter.mpr ⟨List.mem_append_right _ (List.mem_of_getElem? (i := 612) (by decide +kernel)), by decide +kernel⟩
theorem wd_610 : Cond.methodLink RL 108 yX8_leap ∈ pm_ws := List.mem_filter.mpr ⟨List.mem_append_right _ (List.mem_of_getElem? (i := 610) (by decide +kernel)), by decide +kernel⟩
theorem wd_919 : Cond.code yX9_leap cX9_leap 2 (some .long) ∈ pm_ws := List.mem_filter.mpr ⟨List.mem_append_right _ (List.mem_of_getElem? (i := 919) (by decide +kernel)), by decide +kernel⟩
theorem wd_917 : Cond.instanceMethod yX9_leap ∈ pm_ws := List.mem_filter.mpr ⟨List.mem_append_right _ (List.mem_of_getElem? (i := 917) (by decide +kernel)), by decide +kernel⟩
theorem wd_918 : Cond.selects RX9 yX9_leap yX9_leap ∈ pm_ws := List.mem_filter.mpr ⟨List.mem_append_right _ (List.mem_of_getElem? (i := 918) (by decide +kernel)), by decide +kernel⟩
theorem wd_916 : Cond.methodLink RL 111 yX9_leap ∈ pm_ws := List.mem_filter.mpr ⟨List.mem_append_right _ (List.mem_of_getElem? (i := 916) (by decide +kernel)), by decide +kernel⟩
theorem wd_617 : Cond.code yX8_smeared cX8_smeared 3 (some .long) ∈ pm_ws := List.mem_filter.mpr ⟨List.mem_append_right _ (List.mem_of_getElem? (i := 617) (by decide +kernel)), by decide +kernel⟩
theorem wd_615 : Cond.instanceMethod yX8_smeared ∈ pm_ws := List.mem_filter.mpr ⟨List.mem_append_right _ (List.mem_of_getElem? (i := 615) (by decide +kernel)), by decide +kernel⟩
theorem wd_616 : Cond.selects RX8 yX8_smeared yX8_smeared ∈ pm_ws := List.mem_filter.mpr ⟨List.mem_append_right _ (List.mem_of_getElem? (i := 616) (by decide +kernel)), by decide +kernel⟩
theorem wd_614 : Cond.methodLink RL 112 yX8_smeared ∈ pm_ws := List.mem_filter.mpr ⟨List.mem_append_right _ (List.mem_of_getElem? (i := 614) (by decide +kernel)), by decide +kernel⟩
theorem wd_924 : Cond.code yX9_smeared cX9_smeared 3 (some .long) ∈ pm_ws := List.mem_filter.mpr ⟨List.mem_append_right _ (List.mem_of_getElem? (i := 924) (by decide +kernel)), by decide +kernel⟩
theorem wd_922 : Cond.instanceMethod yX9_smeared ∈ pm_ws := List.mem_filter.mpr ⟨List.mem_append_right _ (List.mem_of_getElem? (i := 922) (by decide +kernel)), by decide +kernel⟩
theorem wd_923 : Cond.selects RX9 yX9_smeared yX9_smeared ∈ pm_ws := List.mem_filter.mpr ⟨List.mem_append_right _ (List.mem_of_getElem? (i := 923) (by decide +kernel)), by decide +kernel⟩
theorem wd_921 : Cond.methodLink RL 116 yX9_smeared ∈ pm_ws := List.mem_filter.mpr ⟨List.mem_append_right _ (List.mem_of_getElem? (i := 921) (by decide +kernel)), by decide +kernel⟩
theorem wd_629 : Cond.code yX8_back cX8_back 3 (some .long) ∈ pm_ws := List.mem_filter.mpr ⟨List.mem_append_right _ (List.mem_of_getElem? (i := 629) (by decide +kernel)), by decide +kernel⟩
theorem wd_627 : Cond.instanceMethod yX8_back ∈ pm_ws := List.mem_filter.mpr ⟨List.mem_append_right _ (List.mem_of_getElem? (i := 627) (by decide +kernel)), by decide +kernel⟩
theorem wd_628 : Cond.selects RX8 yX8_back yX8_back ∈ pm_ws := List.mem_filter.mpr ⟨List.mem_append_right _ (List.mem_of_getElem? (i := 628) (by decide +kernel)), by decide +kernel⟩
theorem wd_626 : Cond.methodLink RL 117 yX8_back ∈ pm_ws := List.mem_filter.mpr ⟨List.mem_append_right _ (List.mem_of_getElem? (i := 626) (by decide +kernel)), by decide +kernel⟩
theorem wd_932 : Cond.code yX9_back cX9_back 9 (some .long) ∈ pm_ws := List.mem_filter.mpr ⟨List.mem_append_right _ (List.mem_of_getElem? (i := 932) (by decide +kernel)), by decide +kernel⟩
theorem wd_930 : Cond.instanceMethod yX9_back ∈ pm_ws := List.mem_filter.mpr ⟨List.mem_append_right _ (List.mem_of_getElem? (i := 930) (by decide +kernel)), by decide +kernel⟩
theorem wd_931 : Cond.selects RX9 yX9_back yX9_back ∈ pm_ws := List.mem_filter.mpr ⟨List.mem_append_right _ (List.mem_of_getElem? (i := 931) (by decide +kernel)), by decide +kernel⟩
theorem wd_929 : Cond.methodLink RL 120 yX9_back ∈ pm_ws := List.mem_filter.mpr ⟨List.mem_append_right _ (List.mem_of_getElem? (i := 929) (by decide +kernel)), by decide +kernel⟩
theorem wd_640 : Cond.code yX8_count cX8_count 2 (some .int) ∈ pm_ws := List.mem_filter.mpr ⟨List.mem_append_right _ (List.mem_of_getElem? (i := 640) (by decide +kernel)), by decide +kernel⟩
theorem wd_638 : Cond.instanceMethod yX8_count ∈ pm_ws := List.mem_filter.mpr ⟨List.mem_append_right _ (List.mem_of_getElem? (i := 638) (by decide +kernel)), by decide +kernel⟩
theorem wd_639 : Cond.selects RX8 yX8_count yX8_count ∈ pm_ws := List.mem_filter.mpr ⟨List.mem_append_right _ (List.mem_of_getElem? (i := 639) (by decide +kernel)), by decide +kernel⟩
theorem wd_637 : Cond.methodLink RL 121 yX8_count ∈ pm_ws := List.mem_filter.mpr ⟨List.mem_append_right _ (List.mem_of_getElem? (i := 637) (by decide +kernel)), by decide +kernel⟩
theorem wd_937 : Cond.code yX9_count cX9_count 2 (some .int) ∈ pm_ws := List.mem_filter.mpr ⟨List.mem_append_right _ (List.mem_of_getElem? (i := 937) (by decide +kernel)), by decide +kernel⟩
theorem wd_935 : Cond.instanceMethod yX9_count ∈ pm_ws := List.mem_filter.mpr ⟨List.mem_append_right _ (List.mem_of_getElem? (i := 935) (by decide +kernel)), by decide +kernel⟩
theorem wd_936 : Cond.selects RX9 yX9_count yX9_count ∈ pm_ws := List.mem_filter.mpr ⟨List.mem_append_right _ (List.mem_of_getElem? (i := 936) (by decide +kernel)), by decide +kernel⟩
theorem wd_934 : Cond.methodLink RL 124 yX9_count ∈ pm_ws := List.mem_filter.mpr ⟨List.mem_append_right _ (List.mem_of_getElem? (i := 934) (by decide +kernel)), by decide +kernel⟩
theorem wd_168 : Cond.methodLink RX0 3 objectInit ∈ pm_ws := List.mem_filter.mpr ⟨List.mem_append_right _ (List.mem_of_getElem? (i := 168) (by decide +kernel)), by decide +kernel⟩
theorem wd_24 : Cond.instanceMethod objectInit ∈ pm_ws := List.mem_filter.mpr ⟨List.mem_append_right _ (List.mem_of_getElem? (i := 24) (by decide +kernel)), by decide +kernel⟩
theorem wd_25 : Cond.code objectInit ⟨#[0xb1]⟩ 1 none ∈ pm_ws := List.mem_filter.mpr ⟨List.mem_append_right _ (List.mem_of_getElem? (i := 25) (by decide +kernel)), by decide +kernel⟩
theorem wd_60 : Cond.arrayClass .long ∈ pm_ws := List.mem_filter.mpr ⟨List.mem_append_right _ (List.mem_of_getElem? (i := 60) (by decide +kernel)), by decide +kernel⟩
theorem wd_169 : Cond.fieldLink RX0 9 "DoubtTime$Agreed" "begins" "[J" ∈ pm_ws := List.mem_filter.mpr ⟨List.mem_append_right _ (List.mem_of_getElem? (i := 169) (by decide +kernel)), by decide +kernel⟩
theorem wd_170 : Cond.fieldLink RX0 15 "DoubtTime$Agreed" "ends" "[J" ∈ pm_ws := List.mem_filter.mpr ⟨List.mem_append_right _ (List.mem_of_getElem? (i := 170) (by decide +kernel)), by decide +kernel⟩
theorem wd_171 : Cond.fieldLink RX0 18 "DoubtTime$Agreed" "heard" "I" ∈ pm_ws := List.mem_filter.mpr ⟨List.mem_append_right _ (List.mem_of_getElem? (i := 171) (by decide +kernel)), by decide +kernel⟩
theorem wd_173 : Cond.fieldLink RX0 22 "DoubtTime$Agreed" "most" "I" ∈ pm_ws := List.mem_filter.mpr ⟨List.mem_append_right _ (List.mem_of_getElem? (i := 173) (by decide +kernel)), by decide +kernel⟩
theorem wd_174 : Cond.fieldLink RX0 25 "DoubtTime$Agreed" "begin" "J" ∈ pm_ws := List.mem_filter.mpr ⟨List.mem_append_right _ (List.mem_of_getElem? (i := 174) (by decide +kernel)), by decide +kernel⟩
theorem wd_441 : Cond.code yX4_isHeard cX4_isHeard 2 (some .boolean) ∈ pm_ws := List.mem_filter.mpr ⟨List.mem_append_right _ (List.mem_of_getElem? (i := 441) (by decide +kernel)), by decide +kernel⟩
theorem wd_5 : Cond.initialized RX4 ∈ pm_ws := List.mem_filter.mpr ⟨List.mem_append_right _ (List.mem_of_getElem? (i := 5) (by decide +kernel)), by decide +kernel⟩
theorem wd_439 : Cond.instanceMethod yX4_isHeard ∈ pm_ws := List.mem_filter.mpr ⟨List.mem_append_right _ (List.mem_of_getElem? (i := 439) (by decide +kernel)), by decide +kernel⟩
theorem wd_440 : Cond.selects RX4 yX4_isHeard yX4_isHeard ∈ pm_ws := List.mem_filter.mpr ⟨List.mem_append_right _ (List.mem_of_getElem? (i := 440) (by decide +kernel)), by decide +kernel⟩
theorem wd_438 : Cond.methodLink RX0 29 yX4_isHeard ∈ pm_ws := List.mem_filter.mpr ⟨List.mem_append_right _ (List.mem_of_getElem? (i := 438) (by decide +kernel)), by decide +kernel⟩
theorem wd_445 : Cond.code yX4_beginOf cX4_beginOf 5 (some .long) ∈ pm_ws := List.mem_filter.mpr ⟨List.mem_append_right _ (List.mem_of_getElem? (i := 445) (by decide +kernel)), by decide +kernel⟩
theorem wd_443 : Cond.instanceMethod yX4_beginOf ∈ pm_ws := List.mem_filter.mpr ⟨List.mem_append_right _ (List.mem_of_getElem? (i := 443) (by decide +kernel)), by decide +kernel⟩
theorem wd_444 : Cond.selects RX4 yX4_beginOf yX4_beginOf ∈ pm_ws := List.mem_filter.mpr ⟨List.mem_append_right _ (List.mem_of_getElem? (i := 444) (by decide +kernel)), by decide +kernel⟩
theorem wd_442 : Cond.methodLink RX0 35 yX4_beginOf ∈ pm_ws := List.mem_filter.mpr ⟨List.mem_append_right _ (List.mem_of_getElem? (i := 442) (by decide +kernel)), by decide +kernel⟩
theorem wd_454 : Cond.code yX4_endOf cX4_endOf 5 (some .long) ∈ pm_ws := List.mem_filter.mpr ⟨List.mem_append_right _ (List.mem_of_getElem? (i := 454) (by decide +kernel)), by decide +kernel⟩
theorem wd_452 : Cond.instanceMethod yX4_endOf ∈ pm_ws := List.mem_filter.mpr ⟨List.mem_append_right _ (List.mem_of_getElem? (i := 452) (by decide +kernel)), by decide +kernel⟩
theorem wd_453 : Cond.selects RX4 yX4_endOf yX4_endOf ∈ pm_ws := List.mem_filter.mpr ⟨List.mem_append_right _ (List.mem_of_getElem? (i := 453) (by decide +kernel)), by decide +kernel⟩
theorem wd_451 : Cond.methodLink RX0 39 yX4_endOf ∈ pm_ws := List.mem_filter.mpr ⟨List.mem_append_right _ (List.mem_of_getElem? (i := 451) (by decide +kernel)), by decide +kernel⟩
theorem wd_458 : Cond.code yX0_findBegin cX0_findBegin 3 none ∈ pm_ws := List.mem_filter.mpr ⟨List.mem_append_right _ (List.mem_of_getElem? (i := 458) (by decide +kernel)), by decide +kernel⟩
theorem wd_8 : Cond.initialized RX0 ∈ pm_ws := List.mem_filter.mpr ⟨List.mem_append_right _ (List.mem_of_getElem? (i := 8) (by decide +kernel)), by decide +kernel⟩
theorem wd_457 : Cond.instanceMethod yX0_findBegin ∈ pm_ws := List.mem_filter.mpr ⟨List.mem_append_right _ (List.mem_of_getElem? (i := 457) (by decide +kernel)), by decide +kernel⟩
theorem wp_7 : Cond.selects RX0 yX0_findBegin yX0_findBegin ∈ pm_ws := List.mem_filter.mpr ⟨List.mem_append_left _ (List.mem_of_getElem? (i := 7) (by decide +kernel)), by decide +kernel⟩
theorem wd_455 : Cond.methodLink RX0 42 yX0_findBegin ∈ pm_ws := List.mem_filter.mpr ⟨List.mem_append_right _ (List.mem_of_getElem? (i := 455) (by decide +kernel)), by decide +kernel⟩
theorem wd_462 : Cond.code yX0_howManyHold cX0_howManyHold 5 (some .int) ∈ pm_ws := List.mem_filter.mpr ⟨List.mem_append_right _ (List.mem_of_getElem? (i := 462) (by decide +kernel)), by decide +kernel⟩
theorem wd_460 : Cond.instanceMethod yX0_howManyHold ∈ pm_ws := List.mem_filter.mpr ⟨List.mem_append_right _ (List.mem_of_getElem? (i := 460) (by decide +kernel)), by decide +kernel⟩
theorem wd_461 : Cond.selects RX0 yX0_howManyHold yX0_howManyHold ∈ pm_ws := List.mem_filter.mpr ⟨List.mem_append_right _ (List.mem_of_getElem? (i := 461) (by decide +kernel)), by decide +kernel⟩
theorem wd_459 : Cond.methodLink RX0 45 yX0_howManyHold ∈ pm_ws := List.mem_filter.mpr ⟨List.mem_append_right _ (List.mem_of_getElem? (i := 459) (by decide +kernel)), by decide +kernel⟩
theorem wd_470 : Cond.code yX0_leastEndOver cX0_leastEndOver 6 (some .long) ∈ pm_ws := List.mem_filter.mpr ⟨List.mem_append_right _ (List.mem_of_getElem? (i := 470) (by decide +kernel)), by decide +kernel⟩
theorem wd_469 : Cond.instanceMethod yX0_leastEndOver ∈ pm_ws := List.mem_filter.mpr ⟨List.mem_append_right _ (List.mem_of_getElem? (i := 469) (by decide +kernel)), by decide +kernel⟩
theorem wp_8 : Cond.selects RX0 yX0_leastEndOver yX0_leastEndOver ∈ pm_ws := List.mem_filter.mpr ⟨List.mem_append_left _ (List.mem_of_getElem? (i := 8) (by decide +kernel)), by decide +kernel⟩
theorem wd_467 : Cond.methodLink RX0 49 yX0_leastEndOver ∈ pm_ws := List.mem_filter.mpr ⟨List.mem_append_right _ (List.mem_of_getElem? (i := 467) (by decide +kernel)), by decide +kernel⟩
theorem wd_471 : Cond.constantLong RX0 53 (9223372036854775807) ∈ pm_ws := List.mem_filter.mpr ⟨List.mem_append_right _ (List.mem_of_getElem? (i := 471) (by decide +kernel)), by decide +kernel⟩
theorem wd_472 : Cond.methodLink RX0 55 Lib.MathLoose.min_long.x ∈ pm_ws := List.mem_filter.mpr ⟨List.mem_append_right _ (List.mem_of_getElem? (i := 472) (by decide +kernel)), by decide +kernel⟩
theorem wd_473 : Cond.static Lib.MathLoose.min_long.x ∈ pm_ws := List.mem_filter.mpr ⟨List.mem_append_right _ (List.mem_of_getElem? (i := 473) (by decide +kernel)), by decide +kernel⟩
theorem wd_17 : Cond.initialized RJ9 ∈ pm_ws := List.mem_filter.mpr ⟨List.mem_append_right _ (List.mem_of_getElem? (i := 17) (by decide +kernel)), by decide +kernel⟩
theorem wd_474 : Cond.code Lib.MathLoose.min_long.x Lib.MathLoose.min_long.code 4 (some .long) ∈ pm_ws := List.mem_filter.mpr ⟨List.mem_append_right _ (List.mem_of_getElem? (i := 474) (by decide +kernel)), by decide +kernel⟩
theorem wd_100 : Cond.methodLink RX1 3 objectInit ∈ pm_ws := List.mem_filter.mpr ⟨List.mem_append_right _ (List.mem_of_getElem? (i := 100) (by decide +kernel)), by decide +kernel⟩
theorem wd_94 : Cond.arrayClass .int ∈ pm_ws := List.mem_filter.mpr ⟨List.mem_append_right _ (List.mem_of_getElem? (i := 94) (by decide +kernel)), by decide +kernel⟩
theorem wd_101 : Cond.fieldLink RX1 9 "DoubtTime$Commits" "key" "[I" ∈ pm_ws := List.mem_filter.mpr ⟨List.mem_append_right _ (List.mem_of_getElem? (i := 101) (by decide +kernel)), by decide +kernel⟩
theorem wd_103 : Cond.fieldLink RX1 15 "DoubtTime$Commits" "value" "[I" ∈ pm_ws := List.mem_filter.mpr ⟨List.mem_append_right _ (List.mem_of_getElem? (i := 103) (by decide +kernel)), by decide +kernel⟩
theorem wd_105 : Cond.fieldLink RX1 18 "DoubtTime$Commits" "stamp" "[J" ∈ pm_ws := List.mem_filter.mpr ⟨List.mem_append_right _ (List.mem_of_getElem? (i := 105) (by decide +kernel)), by decide +kernel⟩
theorem wd_107 : Cond.fieldLink RX1 22 "DoubtTime$Commits" "madeAt" "[I" ∈ pm_ws := List.mem_filter.mpr ⟨List.mem_append_right _ (List.mem_of_getElem? (i := 107) (by decide +kernel)), by decide +kernel⟩
theorem wd_109 : Cond.fieldLink RX1 25 "DoubtTime$Commits" "doneAt" "[I" ∈ pm_ws := List.mem_filter.mpr ⟨List.mem_append_right _ (List.mem_of_getElem? (i := 109) (by decide +kernel)), by decide +kernel⟩
theorem wd_111 : Cond.fieldLink RX1 28 "DoubtTime$Commits" "size" "I" ∈ pm_ws := List.mem_filter.mpr ⟨List.mem_append_right _ (List.mem_of_getElem? (i := 111) (by decide +kernel)), by decide +kernel⟩
theorem wd_113 : Cond.fieldLink RX1 32 "DoubtTime$Commits" "done" "I" ∈ pm_ws := List.mem_filter.mpr ⟨List.mem_append_right _ (List.mem_of_getElem? (i := 113) (by decide +kernel)), by decide +kernel⟩
theorem wd_414 : Cond.methodLink RX1 35 arraycopyName ∈ pm_ws := List.mem_filter.mpr ⟨List.mem_append_right _ (List.mem_of_getElem? (i := 414) (by decide +kernel)), by decide +kernel⟩
theorem wd_409 : Cond.native arraycopyName ∈ pm_ws := List.mem_filter.mpr ⟨List.mem_append_right _ (List.mem_of_getElem? (i := 409) (by decide +kernel)), by decide +kernel⟩
theorem wd_408 : Cond.static arraycopyName ∈ pm_ws := List.mem_filter.mpr ⟨List.mem_append_right _ (List.mem_of_getElem? (i := 408) (by decide +kernel)), by decide +kernel⟩
theorem wd_16 : Cond.initialized RJ10 ∈ pm_ws := List.mem_filter.mpr ⟨List.mem_append_right _ (List.mem_of_getElem? (i := 16) (by decide +kernel)), by decide +kernel⟩
theorem wd_561 : Cond.code yX1_latestStamp cX1_latestStamp 1 (some .long) ∈ pm_ws := List.mem_filter.mpr ⟨List.mem_append_right _ (List.mem_of_getElem? (i := 561) (by decide +kernel)), by decide +kernel⟩
theorem wd_6 : Cond.initialized RX1 ∈ pm_ws := List.mem_filter.mpr ⟨List.mem_append_right _ (List.mem_of_getElem? (i := 6) (by decide +kernel)), by decide +kernel⟩
theorem wd_559 : Cond.instanceMethod yX1_latestStamp ∈ pm_ws := List.mem_filter.mpr ⟨List.mem_append_right _ (List.mem_of_getElem? (i := 559) (by decide +kernel)), by decide +kernel⟩
theorem wd_560 : Cond.selects RX1 yX1_latestStamp yX1_latestStamp ∈ pm_ws := List.mem_filter.mpr ⟨List.mem_append_right _ (List.mem_of_getElem? (i := 560) (by decide +kernel)), by decide +kernel⟩
theorem wd_558 : Cond.methodLink RX1 41 yX1_latestStamp ∈ pm_ws := List.mem_filter.mpr ⟨List.mem_append_right _ (List.mem_of_getElem? (i := 558) (by decide +kernel)), by decide +kernel⟩
theorem wd_562 : Cond.methodLink RX1 45 Lib.MathLoose.max_long.x ∈ pm_ws := List.mem_filter.mpr ⟨List.mem_append_right _ (List.mem_of_getElem? (i := 562) (by decide +kernel)), by decide +kernel⟩
theorem wd_563 : Cond.static Lib.MathLoose.max_long.x ∈ pm_ws := List.mem_filter.mpr ⟨List.mem_append_right _ (List.mem_of_getElem? (i := 563) (by decide +kernel)), by decide +kernel⟩
theorem wd_564 : Cond.code Lib.MathLoose.max_long.x Lib.MathLoose.max_long.code 4 (some .long) ∈ pm_ws := List.mem_filter.mpr ⟨List.mem_append_right _ (List.mem_of_getElem? (i := 564) (by decide +kernel)), by decide +kernel⟩
theorem wd_46 : Cond.methodLink RX2 3 objectInit ∈ pm_ws := List.mem_filter.mpr ⟨List.mem_append_right _ (List.mem_of_getElem? (i := 46) (by decide +kernel)), by decide +kernel⟩
theorem wd_47 : Cond.fieldLink RX2 9 "DoubtTime$Item" "numbers" "[J" ∈ pm_ws := List.mem_filter.mpr ⟨List.mem_append_right _ (List.mem_of_getElem? (i := 47) (by decide +kernel)), by decide +kernel⟩
theorem wd_49 : Cond.fieldLink RX2 15 "DoubtTime$Item" "kind" "C" ∈ pm_ws := List.mem_filter.mpr ⟨List.mem_append_right _ (List.mem_of_getElem? (i := 49) (by decide +kernel)), by decide +kernel⟩
theorem wd_51 : Cond.fieldLink RX2 19 "DoubtTime$Item" "behind" "I" ∈ pm_ws := List.mem_filter.mpr ⟨List.mem_append_right _ (List.mem_of_getElem? (i := 51) (by decide +kernel)), by decide +kernel⟩
theorem wd_300 : Cond.code yX7_letterAt cX7_letterAt 2 (some .char) ∈ pm_ws := List.mem_filter.mpr ⟨List.mem_append_right _ (List.mem_of_getElem? (i := 300) (by decide +kernel)), by decide +kernel⟩
theorem wd_2 : Cond.initialized RX7 ∈ pm_ws := List.mem_filter.mpr ⟨List.mem_append_right _ (List.mem_of_getElem? (i := 2) (by decide +kernel)), by decide +kernel⟩
theorem wd_298 : Cond.instanceMethod yX7_letterAt ∈ pm_ws := List.mem_filter.mpr ⟨List.mem_append_right _ (List.mem_of_getElem? (i := 298) (by decide +kernel)), by decide +kernel⟩
theorem wd_299 : Cond.selects RX7 yX7_letterAt yX7_letterAt ∈ pm_ws := List.mem_filter.mpr ⟨List.mem_append_right _ (List.mem_of_getElem? (i := 299) (by decide +kernel)), by decide +kernel⟩
theorem wd_297 : Cond.methodLink RX2 23 yX7_letterAt ∈ pm_ws := List.mem_filter.mpr ⟨List.mem_append_right _ (List.mem_of_getElem? (i := 297) (by decide +kernel)), by decide +kernel⟩
theorem wd_304 : Cond.code yX2_howManyNumbers cX2_howManyNumbers 1 (some .int) ∈ pm_ws := List.mem_filter.mpr ⟨List.mem_append_right _ (List.mem_of_getElem? (i := 304) (by decide +kernel)), by decide +kernel⟩
theorem wd_3 : Cond.initialized RX2 ∈ pm_ws := List.mem_filter.mpr ⟨List.mem_append_right _ (List.mem_of_getElem? (i := 3) (by decide +kernel)), by decide +kernel⟩
theorem wd_303 : Cond.instanceMethod yX2_howManyNumbers ∈ pm_ws := List.mem_filter.mpr ⟨List.mem_append_right _ (List.mem_of_getElem? (i := 303) (by decide +kernel)), by decide +kernel⟩
theorem wp_1 : Cond.selects RX2 yX2_howManyNumbers yX2_howManyNumbers ∈ pm_ws := List.mem_filter.mpr ⟨List.mem_append_left _ (List.mem_of_getElem? (i := 1) (by decide +kernel)), by decide +kernel⟩
theorem wd_301 : Cond.methodLink RX2 29 yX2_howManyNumbers ∈ pm_ws := List.mem_filter.mpr ⟨List.mem_append_right _ (List.mem_of_getElem? (i := 301) (by decide +kernel)), by decide +kernel⟩
theorem wd_308 : Cond.code yX2_takeNumber cX2_takeNumber 9 (some .boolean) ∈ pm_ws := List.mem_filter.mpr ⟨List.mem_append_right _ (List.mem_of_getElem? (i := 308) (by decide +kernel)), by decide +kernel⟩
theorem wd_307 : Cond.instanceMethod yX2_takeNumber ∈ pm_ws := List.mem_filter.mpr ⟨List.mem_append_right _ (List.mem_of_getElem? (i := 307) (by decide +kernel)), by decide +kernel⟩
theorem wp_2 : Cond.selects RX2 yX2_takeNumber yX2_takeNumber ∈ pm_ws := List.mem_filter.mpr ⟨List.mem_append_left _ (List.mem_of_getElem? (i := 2) (by decide +kernel)), by decide +kernel⟩
theorem wd_305 : Cond.methodLink RX2 33 yX2_takeNumber ∈ pm_ws := List.mem_filter.mpr ⟨List.mem_append_right _ (List.mem_of_getElem? (i := 305) (by decide +kernel)), by decide +kernel⟩
theorem wd_314 : Cond.code yX2_areNumbersTold cX2_areNumbersTold 2 (some .boolean) ∈ pm_ws := List.mem_filter.mpr ⟨List.mem_append_right _ (List.mem_of_getElem? (i := 314) (by decide +kernel)), by decide +kernel⟩
theorem wd_313 : Cond.instanceMethod yX2_areNumbersTold ∈ pm_ws := List.mem_filter.mpr ⟨List.mem_append_right _ (List.mem_of_getElem? (i := 313) (by decide +kernel)), by decide +kernel⟩
theorem wp_3 : Cond.selects RX2 yX2_areNumbersTold yX2_areNumbersTold ∈ pm_ws := List.mem_filter.mpr ⟨List.mem_append_left _ (List.mem_of_getElem? (i := 3) (by decide +kernel)), by decide +kernel⟩
theorem wd_311 : Cond.methodLink RX2 37 yX2_areNumbersTold ∈ pm_ws := List.mem_filter.mpr ⟨List.mem_append_right _ (List.mem_of_getElem? (i := 311) (by decide +kernel)), by decide +kernel⟩
theorem wd_309 : Cond.constantLong RX2 41 (9223372036854775807) ∈ pm_ws := List.mem_filter.mpr ⟨List.mem_append_right _ (List.mem_of_getElem? (i := 309) (by decide +kernel)), by decide +kernel⟩
theorem wd_310 : Cond.constantLong RX2 43 (10) ∈ pm_ws := List.mem_filter.mpr ⟨List.mem_append_right _ (List.mem_of_getElem? (i := 310) (by decide +kernel)), by decide +kernel⟩
theorem wd_317 : Cond.code yX8_isDrift cX8_isDrift 2 (some .boolean) ∈ pm_ws := List.mem_filter.mpr ⟨List.mem_append_right _ (List.mem_of_getElem? (i := 317) (by decide +kernel)), by decide +kernel⟩
theorem wd_316 : Cond.static yX8_isDrift ∈ pm_ws := List.mem_filter.mpr ⟨List.mem_append_right _ (List.mem_of_getElem? (i := 316) (by decide +kernel)), by decide +kernel⟩
theorem wn_315 : Cond.methodLinkNest RX2 45 yX8_isDrift "DoubtTime" ∈ pm_nw := List.mem_filter.mpr ⟨List.mem_of_getElem? (i := 315) (by decide +kernel), by decide +kernel⟩
theorem wd_321 : Cond.code yX8_isMaster cX8_isMaster 2 (some .boolean) ∈ pm_ws := List.mem_filter.mpr ⟨List.mem_append_right _ (List.mem_of_getElem? (i := 321) (by decide +kernel)), by decide +kernel⟩
theorem wd_320 : Cond.static yX8_isMaster ∈ pm_ws := List.mem_filter.mpr ⟨List.mem_append_right _ (List.mem_of_getElem? (i := 320) (by decide +kernel)), by decide +kernel⟩
theorem wn_319 : Cond.methodLinkNest RX2 49 yX8_isMaster "DoubtTime" ∈ pm_nw := List.mem_filter.mpr ⟨List.mem_of_getElem? (i := 319) (by decide +kernel), by decide +kernel⟩
theorem wd_325 : Cond.code yX8_isToldSpan cX8_isToldSpan 4 (some .boolean) ∈ pm_ws := List.mem_filter.mpr ⟨List.mem_append_right _ (List.mem_of_getElem? (i := 325) (by decide +kernel)), by decide +kernel⟩
theorem wd_324 : Cond.static yX8_isToldSpan ∈ pm_ws := List.mem_filter.mpr ⟨List.mem_append_right _ (List.mem_of_getElem? (i := 324) (by decide +kernel)), by decide +kernel⟩
theorem wn_323 : Cond.methodLinkNest RX2 52 yX8_isToldSpan "DoubtTime" ∈ pm_nw := List.mem_filter.mpr ⟨List.mem_of_getElem? (i := 323) (by decide +kernel), by decide +kernel⟩
theorem wd_329 : Cond.code yX8_isLeap cX8_isLeap 8 (some .boolean) ∈ pm_ws := List.mem_filter.mpr ⟨List.mem_append_right _ (List.mem_of_getElem? (i := 329) (by decide +kernel)), by decide +kernel⟩
theorem wd_328 : Cond.static yX8_isLeap ∈ pm_ws := List.mem_filter.mpr ⟨List.mem_append_right _ (List.mem_of_getElem? (i := 328) (by decide +kernel)), by decide +kernel⟩
theorem wn_327 : Cond.methodLinkNest RX2 56 yX8_isLeap "DoubtTime" ∈ pm_nw := List.mem_filter.mpr ⟨List.mem_of_getElem? (i := 327) (by decide +kernel), by decide +kernel⟩
theorem wd_192 : Cond.methodLink RX3 1 objectInit ∈ pm_ws := List.mem_filter.mpr ⟨List.mem_append_right _ (List.mem_of_getElem? (i := 192) (by decide +kernel)), by decide +kernel⟩
theorem wd_193 : Cond.fieldLink RX3 7 "DoubtTime$Leap" "at" "J" ∈ pm_ws := List.mem_filter.mpr ⟨List.mem_append_right _ (List.mem_of_getElem? (i := 193) (by decide +kernel)), by decide +kernel⟩
theorem wd_195 : Cond.fieldLink RX3 13 "DoubtTime$Leap" "ticks" "J" ∈ pm_ws := List.mem_filter.mpr ⟨List.mem_append_right _ (List.mem_of_getElem? (i := 195) (by decide +kernel)), by decide +kernel⟩
theorem wd_197 : Cond.fieldLink RX3 16 "DoubtTime$Leap" "window" "J" ∈ pm_ws := List.mem_filter.mpr ⟨List.mem_append_right _ (List.mem_of_getElem? (i := 197) (by decide +kernel)), by decide +kernel⟩
theorem wd_199 : Cond.fieldLink RX3 19 "DoubtTime$Leap" "kind" "J" ∈ pm_ws := List.mem_filter.mpr ⟨List.mem_append_right _ (List.mem_of_getElem? (i := 199) (by decide +kernel)), by decide +kernel⟩
theorem wd_287 : Cond.constantLong RX3 22 (1000) ∈ pm_ws := List.mem_filter.mpr ⟨List.mem_append_right _ (List.mem_of_getElem? (i := 287) (by decide +kernel)), by decide +kernel⟩
theorem wd_288 : Cond.constantLong RX3 24 (100) ∈ pm_ws := List.mem_filter.mpr ⟨List.mem_append_right _ (List.mem_of_getElem? (i := 288) (by decide +kernel)), by decide +kernel⟩
theorem wd_292 : Cond.code yX3_set cX3_set 9 none ∈ pm_ws := List.mem_filter.mpr ⟨List.mem_append_right _ (List.mem_of_getElem? (i := 292) (by decide +kernel)), by decide +kernel⟩
theorem wd_9 : Cond.initialized RX3 ∈ pm_ws := List.mem_filter.mpr ⟨List.mem_append_right _ (List.mem_of_getElem? (i := 9) (by decide +kernel)), by decide +kernel⟩
theorem wd_290 : Cond.instanceMethod yX3_set ∈ pm_ws := List.mem_filter.mpr ⟨List.mem_append_right _ (List.mem_of_getElem? (i := 290) (by decide +kernel)), by decide +kernel⟩
theorem wd_291 : Cond.selects RX3 yX3_set yX3_set ∈ pm_ws := List.mem_filter.mpr ⟨List.mem_append_right _ (List.mem_of_getElem? (i := 291) (by decide +kernel)), by decide +kernel⟩
theorem wd_289 : Cond.methodLink RX3 26 yX3_set ∈ pm_ws := List.mem_filter.mpr ⟨List.mem_append_right _ (List.mem_of_getElem? (i := 289) (by decide +kernel)), by decide +kernel⟩
theorem wd_625 : Cond.code yX3_shift cX3_shift 3 (some .long) ∈ pm_ws := List.mem_filter.mpr ⟨List.mem_append_right _ (List.mem_of_getElem? (i := 625) (by decide +kernel)), by decide +kernel⟩
theorem wd_624 : Cond.instanceMethod yX3_shift ∈ pm_ws := List.mem_filter.mpr ⟨List.mem_append_right _ (List.mem_of_getElem? (i := 624) (by decide +kernel)), by decide +kernel⟩
theorem wp_10 : Cond.selects RX3 yX3_shift yX3_shift ∈ pm_ws := List.mem_filter.mpr ⟨List.mem_append_left _ (List.mem_of_getElem? (i := 10) (by decide +kernel)), by decide +kernel⟩
theorem wd_622 : Cond.methodLink RX3 30 yX3_shift ∈ pm_ws := List.mem_filter.mpr ⟨List.mem_append_right _ (List.mem_of_getElem? (i := 622) (by decide +kernel)), by decide +kernel⟩
theorem wd_634 : Cond.methodLink RX3 34 Lib.MathLoose.max_long.x ∈ pm_ws := List.mem_filter.mpr ⟨List.mem_append_right _ (List.mem_of_getElem? (i := 634) (by decide +kernel)), by decide +kernel⟩
theorem wd_635 : Cond.constantLong RX3 40 (2) ∈ pm_ws := List.mem_filter.mpr ⟨List.mem_append_right _ (List.mem_of_getElem? (i := 635) (by decide +kernel)), by decide +kernel⟩
theorem wd_621 : Cond.code yX3_smear cX3_smear 3 (some .long) ∈ pm_ws := List.mem_filter.mpr ⟨List.mem_append_right _ (List.mem_of_getElem? (i := 621) (by decide +kernel)), by decide +kernel⟩
theorem wd_619 : Cond.instanceMethod yX3_smear ∈ pm_ws := List.mem_filter.mpr ⟨List.mem_append_right _ (List.mem_of_getElem? (i := 619) (by decide +kernel)), by decide +kernel⟩
theorem wd_620 : Cond.selects RX3 yX3_smear yX3_smear ∈ pm_ws := List.mem_filter.mpr ⟨List.mem_append_right _ (List.mem_of_getElem? (i := 620) (by decide +kernel)), by decide +kernel⟩
theorem wd_636 : Cond.methodLink RX3 42 yX3_smear ∈ pm_ws := List.mem_filter.mpr ⟨List.mem_append_right _ (List.mem_of_getElem? (i := 636) (by decide +kernel)), by decide +kernel⟩
theorem wd_72 : Cond.methodLink RX4 3 objectInit ∈ pm_ws := List.mem_filter.mpr ⟨List.mem_append_right _ (List.mem_of_getElem? (i := 72) (by decide +kernel)), by decide +kernel⟩
theorem wd_73 : Cond.fieldLink RX4 9 "DoubtTime$Masters" "low" "[J" ∈ pm_ws := List.mem_filter.mpr ⟨List.mem_append_right _ (List.mem_of_getElem? (i := 73) (by decide +kernel)), by decide +kernel⟩
theorem wd_74 : Cond.fieldLink RX4 15 "DoubtTime$Masters" "high" "[J" ∈ pm_ws := List.mem_filter.mpr ⟨List.mem_append_right _ (List.mem_of_getElem? (i := 74) (by decide +kernel)), by decide +kernel⟩
theorem wd_75 : Cond.fieldLink RX4 18 "DoubtTime$Masters" "toldAt" "[I" ∈ pm_ws := List.mem_filter.mpr ⟨List.mem_append_right _ (List.mem_of_getElem? (i := 75) (by decide +kernel)), by decide +kernel⟩
theorem wd_76 : Cond.fieldLink RX4 22 "DoubtTime$Masters" "told" "I" ∈ pm_ws := List.mem_filter.mpr ⟨List.mem_append_right _ (List.mem_of_getElem? (i := 76) (by decide +kernel)), by decide +kernel⟩
theorem wd_77 : Cond.fieldLink RX4 26 "DoubtTime$Masters" "struck" "I" ∈ pm_ws := List.mem_filter.mpr ⟨List.mem_append_right _ (List.mem_of_getElem? (i := 77) (by decide +kernel)), by decide +kernel⟩
theorem wd_79 : Cond.fieldLink RX4 29 "DoubtTime$Masters" "drift" "I" ∈ pm_ws := List.mem_filter.mpr ⟨List.mem_append_right _ (List.mem_of_getElem? (i := 79) (by decide +kernel)), by decide +kernel⟩
theorem wd_407 : Cond.methodLink RX4 32 arraycopyName ∈ pm_ws := List.mem_filter.mpr ⟨List.mem_append_right _ (List.mem_of_getElem? (i := 407) (by decide +kernel)), by decide +kernel⟩
theorem wd_385 : Cond.code yJ6_bitCount_0f7a4 cJ6_bitCount_0f7a4 1 (some .int) ∈ pm_ws := List.mem_filter.mpr ⟨List.mem_append_right _ (List.mem_of_getElem? (i := 385) (by decide +kernel)), by decide +kernel⟩
theorem wd_15 : Cond.initialized RJ6 ∈ pm_ws := List.mem_filter.mpr ⟨List.mem_append_right _ (List.mem_of_getElem? (i := 15) (by decide +kernel)), by decide +kernel⟩
theorem wd_384 : Cond.static yJ6_bitCount_0f7a4 ∈ pm_ws := List.mem_filter.mpr ⟨List.mem_append_right _ (List.mem_of_getElem? (i := 384) (by decide +kernel)), by decide +kernel⟩
theorem wd_383 : Cond.methodLink RX4 38 yJ6_bitCount_0f7a4 ∈ pm_ws := List.mem_filter.mpr ⟨List.mem_append_right _ (List.mem_of_getElem? (i := 383) (by decide +kernel)), by decide +kernel⟩
theorem wd_449 : Cond.code yX4_widening cX4_widening 3 (some .long) ∈ pm_ws := List.mem_filter.mpr ⟨List.mem_append_right _ (List.mem_of_getElem? (i := 449) (by decide +kernel)), by decide +kernel⟩
theorem wd_448 : Cond.instanceMethod yX4_widening ∈ pm_ws := List.mem_filter.mpr ⟨List.mem_append_right _ (List.mem_of_getElem? (i := 448) (by decide +kernel)), by decide +kernel⟩
theorem wp_6 : Cond.selects RX4 yX4_widening yX4_widening ∈ pm_ws := List.mem_filter.mpr ⟨List.mem_append_left _ (List.mem_of_getElem? (i := 6) (by decide +kernel)), by decide +kernel⟩
theorem wd_446 : Cond.methodLink RX4 44 yX4_widening ∈ pm_ws := List.mem_filter.mpr ⟨List.mem_append_right _ (List.mem_of_getElem? (i := 446) (by decide +kernel)), by decide +kernel⟩
theorem wd_450 : Cond.constantLong RX4 48 (1000000) ∈ pm_ws := List.mem_filter.mpr ⟨List.mem_append_right _ (List.mem_of_getElem? (i := 450) (by decide +kernel)), by decide +kernel⟩
theorem wd_480 : Cond.methodLink RX4 50 yX4_beginOf ∈ pm_ws := List.mem_filter.mpr ⟨List.mem_append_right _ (List.mem_of_getElem? (i := 480) (by decide +kernel)), by decide +kernel⟩
theorem wd_481 : Cond.methodLink RX4 54 yX4_endOf ∈ pm_ws := List.mem_filter.mpr ⟨List.mem_append_right _ (List.mem_of_getElem? (i := 481) (by decide +kernel)), by decide +kernel⟩
theorem wd_148 : Cond.methodLink RX5 3 objectInit ∈ pm_ws := List.mem_filter.mpr ⟨List.mem_append_right _ (List.mem_of_getElem? (i := 148) (by decide +kernel)), by decide +kernel⟩
theorem wd_149 : Cond.classLink RX5 9 RX6 ∈ pm_ws := List.mem_filter.mpr ⟨List.mem_append_right _ (List.mem_of_getElem? (i := 149) (by decide +kernel)), by decide +kernel⟩
theorem wd_152 : Cond.fieldLink RX5 11 "DoubtTime$Past" "states" "[LDoubtTime$State;" ∈ pm_ws := List.mem_filter.mpr ⟨List.mem_append_right _ (List.mem_of_getElem? (i := 152) (by decide +kernel)), by decide +kernel⟩
theorem wd_153 : Cond.fieldLink RX5 17 "DoubtTime$Past" "next" "I" ∈ pm_ws := List.mem_filter.mpr ⟨List.mem_append_right _ (List.mem_of_getElem? (i := 153) (by decide +kernel)), by decide +kernel⟩
theorem wd_154 : Cond.fieldLink RX5 21 "DoubtTime$Past" "size" "I" ∈ pm_ws := List.mem_filter.mpr ⟨List.mem_append_right _ (List.mem_of_getElem? (i := 154) (by decide +kernel)), by decide +kernel⟩
theorem wd_62 : Cond.instantiable RX6 3 ∈ pm_ws := List.mem_filter.mpr ⟨List.mem_append_right _ (List.mem_of_getElem? (i := 62) (by decide +kernel)), by decide +kernel⟩
theorem wd_4 : Cond.initialized RX6 ∈ pm_ws := List.mem_filter.mpr ⟨List.mem_append_right _ (List.mem_of_getElem? (i := 4) (by decide +kernel)), by decide +kernel⟩
theorem wd_65 : Cond.code yX6_init cX6_init 1 none ∈ pm_ws := List.mem_filter.mpr ⟨List.mem_append_right _ (List.mem_of_getElem? (i := 65) (by decide +kernel)), by decide +kernel⟩
theorem wd_64 : Cond.instanceMethod yX6_init ∈ pm_ws := List.mem_filter.mpr ⟨List.mem_append_right _ (List.mem_of_getElem? (i := 64) (by decide +kernel)), by decide +kernel⟩
theorem wn_151 : Cond.methodLinkNest RX5 24 yX6_init "DoubtTime" ∈ pm_nw := List.mem_filter.mpr ⟨List.mem_of_getElem? (i := 151) (by decide +kernel), by decide +kernel⟩
theorem wd_402 : Cond.code yX6_copyFrom cX6_copyFrom 2 none ∈ pm_ws := List.mem_filter.mpr ⟨List.mem_append_right _ (List.mem_of_getElem? (i := 402) (by decide +kernel)), by decide +kernel⟩
theorem wd_400 : Cond.instanceMethod yX6_copyFrom ∈ pm_ws := List.mem_filter.mpr ⟨List.mem_append_right _ (List.mem_of_getElem? (i := 400) (by decide +kernel)), by decide +kernel⟩
theorem wd_401 : Cond.selects RX6 yX6_copyFrom yX6_copyFrom ∈ pm_ws := List.mem_filter.mpr ⟨List.mem_append_right _ (List.mem_of_getElem? (i := 401) (by decide +kernel)), by decide +kernel⟩
theorem wd_399 : Cond.methodLink RX5 25 yX6_copyFrom ∈ pm_ws := List.mem_filter.mpr ⟨List.mem_append_right _ (List.mem_of_getElem? (i := 399) (by decide +kernel)), by decide +kernel⟩
theorem wd_415 : Cond.methodLink RX5 29 Lib.Math.min.name ∈ pm_ws := List.mem_filter.mpr ⟨List.mem_append_right _ (List.mem_of_getElem? (i := 415) (by decide +kernel)), by decide +kernel⟩
theorem wd_416 : Cond.static Lib.Math.min.name ∈ pm_ws := List.mem_filter.mpr ⟨List.mem_append_right _ (List.mem_of_getElem? (i := 416) (by decide +kernel)), by decide +kernel⟩
theorem wd_417 : Cond.code Lib.Math.min.name Lib.Math.min.code 2 (some .int) ∈ pm_ws := List.mem_filter.mpr ⟨List.mem_append_right _ (List.mem_of_getElem? (i := 417) (by decide +kernel)), by decide +kernel⟩
theorem wd_66 : Cond.methodLink RX6 1 objectInit ∈ pm_ws := List.mem_filter.mpr ⟨List.mem_append_right _ (List.mem_of_getElem? (i := 66) (by decide +kernel)), by decide +kernel⟩
theorem wd_67 : Cond.classLink RX6 7 RX4 ∈ pm_ws := List.mem_filter.mpr ⟨List.mem_append_right _ (List.mem_of_getElem? (i := 67) (by decide +kernel)), by decide +kernel⟩
theorem wd_68 : Cond.instantiable RX4 6 ∈ pm_ws := List.mem_filter.mpr ⟨List.mem_append_right _ (List.mem_of_getElem? (i := 68) (by decide +kernel)), by decide +kernel⟩
theorem wd_71 : Cond.code yX4_init cX4_init 1 none ∈ pm_ws := List.mem_filter.mpr ⟨List.mem_append_right _ (List.mem_of_getElem? (i := 71) (by decide +kernel)), by decide +kernel⟩
theorem wd_70 : Cond.instanceMethod yX4_init ∈ pm_ws := List.mem_filter.mpr ⟨List.mem_append_right _ (List.mem_of_getElem? (i := 70) (by decide +kernel)), by decide +kernel⟩
theorem wn_69 : Cond.methodLinkNest RX6 9 yX4_init "DoubtTime" ∈ pm_nw := List.mem_filter.mpr ⟨List.mem_of_getElem? (i := 69) (by decide +kernel), by decide +kernel⟩
theorem wd_130 : Cond.fieldLink RX6 10 "DoubtTime$State" "masters" "LDoubtTime$Masters;" ∈ pm_ws := List.mem_filter.mpr ⟨List.mem_append_right _ (List.mem_of_getElem? (i := 130) (by decide +kernel)), by decide +kernel⟩
theorem wd_95 : Cond.classLink RX6 16 RX1 ∈ pm_ws := List.mem_filter.mpr ⟨List.mem_append_right _ (List.mem_of_getElem? (i := 95) (by decide +kernel)), by decide +kernel⟩
theorem wd_96 : Cond.instantiable RX1 7 ∈ pm_ws := List.mem_filter.mpr ⟨List.mem_append_right _ (List.mem_of_getElem? (i := 96) (by decide +kernel)), by decide +kernel⟩
theorem wd_99 : Cond.code yX1_init cX1_init 1 none ∈ pm_ws := List.mem_filter.mpr ⟨List.mem_append_right _ (List.mem_of_getElem? (i := 99) (by decide +kernel)), by decide +kernel⟩
theorem wd_98 : Cond.instanceMethod yX1_init ∈ pm_ws := List.mem_filter.mpr ⟨List.mem_append_right _ (List.mem_of_getElem? (i := 98) (by decide +kernel)), by decide +kernel⟩
theorem wn_97 : Cond.methodLinkNest RX6 18 yX1_init "DoubtTime" ∈ pm_nw := List.mem_filter.mpr ⟨List.mem_of_getElem? (i := 97) (by decide +kernel), by decide +kernel⟩
theorem wd_132 : Cond.fieldLink RX6 19 "DoubtTime$State" "commits" "LDoubtTime$Commits;" ∈ pm_ws := List.mem_filter.mpr ⟨List.mem_append_right _ (List.mem_of_getElem? (i := 132) (by decide +kernel)), by decide +kernel⟩
theorem wd_134 : Cond.fieldLink RX6 23 "DoubtTime$State" "local" "I" ∈ pm_ws := List.mem_filter.mpr ⟨List.mem_append_right _ (List.mem_of_getElem? (i := 134) (by decide +kernel)), by decide +kernel⟩
theorem wd_278 : Cond.code yX4_clear cX4_clear 1 none ∈ pm_ws := List.mem_filter.mpr ⟨List.mem_append_right _ (List.mem_of_getElem? (i := 278) (by decide +kernel)), by decide +kernel⟩
theorem wd_276 : Cond.instanceMethod yX4_clear ∈ pm_ws := List.mem_filter.mpr ⟨List.mem_append_right _ (List.mem_of_getElem? (i := 276) (by decide +kernel)), by decide +kernel⟩
theorem wd_277 : Cond.selects RX4 yX4_clear yX4_clear ∈ pm_ws := List.mem_filter.mpr ⟨List.mem_append_right _ (List.mem_of_getElem? (i := 277) (by decide +kernel)), by decide +kernel⟩
theorem wd_275 : Cond.methodLink RX6 27 yX4_clear ∈ pm_ws := List.mem_filter.mpr ⟨List.mem_append_right _ (List.mem_of_getElem? (i := 275) (by decide +kernel)), by decide +kernel⟩
theorem wd_282 : Cond.code yX1_clear cX1_clear 1 none ∈ pm_ws := List.mem_filter.mpr ⟨List.mem_append_right _ (List.mem_of_getElem? (i := 282) (by decide +kernel)), by decide +kernel⟩
theorem wd_280 : Cond.instanceMethod yX1_clear ∈ pm_ws := List.mem_filter.mpr ⟨List.mem_append_right _ (List.mem_of_getElem? (i := 280) (by decide +kernel)), by decide +kernel⟩
theorem wd_281 : Cond.selects RX1 yX1_clear yX1_clear ∈ pm_ws := List.mem_filter.mpr ⟨List.mem_append_right _ (List.mem_of_getElem? (i := 281) (by decide +kernel)), by decide +kernel⟩
theorem wd_279 : Cond.methodLink RX6 30 yX1_clear ∈ pm_ws := List.mem_filter.mpr ⟨List.mem_append_right _ (List.mem_of_getElem? (i := 279) (by decide +kernel)), by decide +kernel⟩
theorem wd_406 : Cond.code yX4_copyFrom cX4_copyFrom 2 none ∈ pm_ws := List.mem_filter.mpr ⟨List.mem_append_right _ (List.mem_of_getElem? (i := 406) (by decide +kernel)), by decide +kernel⟩
theorem wd_404 : Cond.instanceMethod yX4_copyFrom ∈ pm_ws := List.mem_filter.mpr ⟨List.mem_append_right _ (List.mem_of_getElem? (i := 404) (by decide +kernel)), by decide +kernel⟩
theorem wd_405 : Cond.selects RX4 yX4_copyFrom yX4_copyFrom ∈ pm_ws := List.mem_filter.mpr ⟨List.mem_append_right _ (List.mem_of_getElem? (i := 405) (by decide +kernel)), by decide +kernel⟩
theorem wd_403 : Cond.methodLink RX6 31 yX4_copyFrom ∈ pm_ws := List.mem_filter.mpr ⟨List.mem_append_right _ (List.mem_of_getElem? (i := 403) (by decide +kernel)), by decide +kernel⟩
theorem wd_413 : Cond.code yX1_copyFrom cX1_copyFrom 2 none ∈ pm_ws := List.mem_filter.mpr ⟨List.mem_append_right _ (List.mem_of_getElem? (i := 413) (by decide +kernel)), by decide +kernel⟩
theorem wd_411 : Cond.instanceMethod yX1_copyFrom ∈ pm_ws := List.mem_filter.mpr ⟨List.mem_append_right _ (List.mem_of_getElem? (i := 411) (by decide +kernel)), by decide +kernel⟩
theorem wd_412 : Cond.selects RX1 yX1_copyFrom yX1_copyFrom ∈ pm_ws := List.mem_filter.mpr ⟨List.mem_append_right _ (List.mem_of_getElem? (i := 412) (by decide +kernel)), by decide +kernel⟩
theorem wd_410 : Cond.methodLink RX6 35 yX1_copyFrom ∈ pm_ws := List.mem_filter.mpr ⟨List.mem_append_right _ (List.mem_of_getElem? (i := 410) (by decide +kernel)), by decide +kernel⟩
theorem wd_31 : Cond.methodLink RX7 3 objectInit ∈ pm_ws := List.mem_filter.mpr ⟨List.mem_append_right _ (List.mem_of_getElem? (i := 31) (by decide +kernel)), by decide +kernel⟩
theorem wd_40 : Cond.arrayClass .char ∈ pm_ws := List.mem_filter.mpr ⟨List.mem_append_right _ (List.mem_of_getElem? (i := 40) (by decide +kernel)), by decide +kernel⟩
theorem wd_32 : Cond.fieldLink RX7 9 "DoubtTime$Text" "letters" "[C" ∈ pm_ws := List.mem_filter.mpr ⟨List.mem_append_right _ (List.mem_of_getElem? (i := 32) (by decide +kernel)), by decide +kernel⟩
theorem wd_33 : Cond.fieldLink RX7 15 "DoubtTime$Text" "size" "I" ∈ pm_ws := List.mem_filter.mpr ⟨List.mem_append_right _ (List.mem_of_getElem? (i := 33) (by decide +kernel)), by decide +kernel⟩
theorem wd_218 : Cond.code yJ0_length_8abf5 cJ0_length_8abf5 1 (some .int) ∈ pm_ws := List.mem_filter.mpr ⟨List.mem_append_right _ (List.mem_of_getElem? (i := 218) (by decide +kernel)), by decide +kernel⟩
theorem wd_10 : Cond.initialized RJ0 ∈ pm_ws := List.mem_filter.mpr ⟨List.mem_append_right _ (List.mem_of_getElem? (i := 10) (by decide +kernel)), by decide +kernel⟩
theorem wd_216 : Cond.instanceMethod yJ0_length_8abf5 ∈ pm_ws := List.mem_filter.mpr ⟨List.mem_append_right _ (List.mem_of_getElem? (i := 216) (by decide +kernel)), by decide +kernel⟩
theorem wd_217 : Cond.selects RJ0 yJ0_length_8abf5 yJ0_length_8abf5 ∈ pm_ws := List.mem_filter.mpr ⟨List.mem_append_right _ (List.mem_of_getElem? (i := 217) (by decide +kernel)), by decide +kernel⟩
theorem wd_215 : Cond.methodLink RX7 19 yJ0_length_8abf5 ∈ pm_ws := List.mem_filter.mpr ⟨List.mem_append_right _ (List.mem_of_getElem? (i := 215) (by decide +kernel)), by decide +kernel⟩
theorem wd_228 : Cond.code yJ0_charAt_5068e cJ0_charAt_5068e 2 (some .char) ∈ pm_ws := List.mem_filter.mpr ⟨List.mem_append_right _ (List.mem_of_getElem? (i := 228) (by decide +kernel)), by decide +kernel⟩
theorem wd_226 : Cond.instanceMethod yJ0_charAt_5068e ∈ pm_ws := List.mem_filter.mpr ⟨List.mem_append_right _ (List.mem_of_getElem? (i := 226) (by decide +kernel)), by decide +kernel⟩
theorem wd_227 : Cond.selects RJ0 yJ0_charAt_5068e yJ0_charAt_5068e ∈ pm_ws := List.mem_filter.mpr ⟨List.mem_append_right _ (List.mem_of_getElem? (i := 227) (by decide +kernel)), by decide +kernel⟩
theorem wd_225 : Cond.methodLink RX7 25 yJ0_charAt_5068e ∈ pm_ws := List.mem_filter.mpr ⟨List.mem_append_right _ (List.mem_of_getElem? (i := 225) (by decide +kernel)), by decide +kernel⟩
theorem wd_266 : Cond.code yX7_put cX7_put 2 none ∈ pm_ws := List.mem_filter.mpr ⟨List.mem_append_right _ (List.mem_of_getElem? (i := 266) (by decide +kernel)), by decide +kernel⟩
theorem wd_264 : Cond.instanceMethod yX7_put ∈ pm_ws := List.mem_filter.mpr ⟨List.mem_append_right _ (List.mem_of_getElem? (i := 264) (by decide +kernel)), by decide +kernel⟩
theorem wd_265 : Cond.selects RX7 yX7_put yX7_put ∈ pm_ws := List.mem_filter.mpr ⟨List.mem_append_right _ (List.mem_of_getElem? (i := 265) (by decide +kernel)), by decide +kernel⟩
theorem wd_263 : Cond.methodLink RX7 29 yX7_put ∈ pm_ws := List.mem_filter.mpr ⟨List.mem_append_right _ (List.mem_of_getElem? (i := 263) (by decide +kernel)), by decide +kernel⟩
theorem wd_23 : Cond.methodLink RX8 1 objectInit ∈ pm_ws := List.mem_filter.mpr ⟨List.mem_append_right _ (List.mem_of_getElem? (i := 23) (by decide +kernel)), by decide +kernel⟩
theorem wd_26 : Cond.classLink RX8 7 RX7 ∈ pm_ws := List.mem_filter.mpr ⟨List.mem_append_right _ (List.mem_of_getElem? (i := 26) (by decide +kernel)), by decide +kernel⟩
theorem wd_27 : Cond.instantiable RX7 2 ∈ pm_ws := List.mem_filter.mpr ⟨List.mem_append_right _ (List.mem_of_getElem? (i := 27) (by decide +kernel)), by decide +kernel⟩
theorem wd_30 : Cond.code yX7_init cX7_init 1 none ∈ pm_ws := List.mem_filter.mpr ⟨List.mem_append_right _ (List.mem_of_getElem? (i := 30) (by decide +kernel)), by decide +kernel⟩
theorem wd_29 : Cond.instanceMethod yX7_init ∈ pm_ws := List.mem_filter.mpr ⟨List.mem_append_right _ (List.mem_of_getElem? (i := 29) (by decide +kernel)), by decide +kernel⟩
theorem wn_28 : Cond.methodLinkNest RX8 9 yX7_init "DoubtTime" ∈ pm_nw := List.mem_filter.mpr ⟨List.mem_of_getElem? (i := 28) (by decide +kernel), by decide +kernel⟩
theorem wd_341 : Cond.fieldLink RX8 10 "DoubtTime" "text" "LDoubtTime$Text;" ∈ pm_ws := List.mem_filter.mpr ⟨List.mem_append_right _ (List.mem_of_getElem? (i := 341) (by decide +kernel)), by decide +kernel⟩
theorem wd_41 : Cond.classLink RX8 16 RX2 ∈ pm_ws := List.mem_filter.mpr ⟨List.mem_append_right _ (List.mem_of_getElem? (i := 41) (by decide +kernel)), by decide +kernel⟩
theorem wd_42 : Cond.instantiable RX2 3 ∈ pm_ws := List.mem_filter.mpr ⟨List.mem_append_right _ (List.mem_of_getElem? (i := 42) (by decide +kernel)), by decide +kernel⟩
theorem wd_45 : Cond.code yX2_init cX2_init 1 none ∈ pm_ws := List.mem_filter.mpr ⟨List.mem_append_right _ (List.mem_of_getElem? (i := 45) (by decide +kernel)), by decide +kernel⟩
theorem wd_44 : Cond.instanceMethod yX2_init ∈ pm_ws := List.mem_filter.mpr ⟨List.mem_append_right _ (List.mem_of_getElem? (i := 44) (by decide +kernel)), by decide +kernel⟩
theorem wn_43 : Cond.methodLinkNest RX8 18 yX2_init "DoubtTime" ∈ pm_nw := List.mem_filter.mpr ⟨List.mem_of_getElem? (i := 43) (by decide +kernel), by decide +kernel⟩
theorem wd_342 : Cond.fieldLink RX8 19 "DoubtTime" "item" "LDoubtTime$Item;" ∈ pm_ws := List.mem_filter.mpr ⟨List.mem_append_right _ (List.mem_of_getElem? (i := 342) (by decide +kernel)), by decide +kernel⟩
theorem wd_61 : Cond.classLink RX8 23 RX6 ∈ pm_ws := List.mem_filter.mpr ⟨List.mem_append_right _ (List.mem_of_getElem? (i := 61) (by decide +kernel)), by decide +kernel⟩
theorem wn_63 : Cond.methodLinkNest RX8 25 yX6_init "DoubtTime" ∈ pm_nw := List.mem_filter.mpr ⟨List.mem_of_getElem? (i := 63) (by decide +kernel), by decide +kernel⟩
theorem wd_343 : Cond.fieldLink RX8 26 "DoubtTime" "now" "LDoubtTime$State;" ∈ pm_ws := List.mem_filter.mpr ⟨List.mem_append_right _ (List.mem_of_getElem? (i := 343) (by decide +kernel)), by decide +kernel⟩
theorem wd_143 : Cond.classLink RX8 30 RX5 ∈ pm_ws := List.mem_filter.mpr ⟨List.mem_append_right _ (List.mem_of_getElem? (i := 143) (by decide +kernel)), by decide +kernel⟩
theorem wd_144 : Cond.instantiable RX5 3 ∈ pm_ws := List.mem_filter.mpr ⟨List.mem_append_right _ (List.mem_of_getElem? (i := 144) (by decide +kernel)), by decide +kernel⟩
theorem wd_7 : Cond.initialized RX5 ∈ pm_ws := List.mem_filter.mpr ⟨List.mem_append_right _ (List.mem_of_getElem? (i := 7) (by decide +kernel)), by decide +kernel⟩
theorem wd_147 : Cond.code yX5_init cX5_init 2 none ∈ pm_ws := List.mem_filter.mpr ⟨List.mem_append_right _ (List.mem_of_getElem? (i := 147) (by decide +kernel)), by decide +kernel⟩
theorem wd_146 : Cond.instanceMethod yX5_init ∈ pm_ws := List.mem_filter.mpr ⟨List.mem_append_right _ (List.mem_of_getElem? (i := 146) (by decide +kernel)), by decide +kernel⟩
theorem wd_145 : Cond.methodLink RX8 32 yX5_init ∈ pm_ws := List.mem_filter.mpr ⟨List.mem_append_right _ (List.mem_of_getElem? (i := 145) (by decide +kernel)), by decide +kernel⟩
theorem wd_344 : Cond.fieldLink RX8 33 "DoubtTime" "past" "LDoubtTime$Past;" ∈ pm_ws := List.mem_filter.mpr ⟨List.mem_append_right _ (List.mem_of_getElem? (i := 344) (by decide +kernel)), by decide +kernel⟩
theorem wd_163 : Cond.classLink RX8 37 RX0 ∈ pm_ws := List.mem_filter.mpr ⟨List.mem_append_right _ (List.mem_of_getElem? (i := 163) (by decide +kernel)), by decide +kernel⟩
theorem wd_164 : Cond.instantiable RX0 5 ∈ pm_ws := List.mem_filter.mpr ⟨List.mem_append_right _ (List.mem_of_getElem? (i := 164) (by decide +kernel)), by decide +kernel⟩
theorem wd_167 : Cond.code yX0_init cX0_init 1 none ∈ pm_ws := List.mem_filter.mpr ⟨List.mem_append_right _ (List.mem_of_getElem? (i := 167) (by decide +kernel)), by decide +kernel⟩
theorem wd_166 : Cond.instanceMethod yX0_init ∈ pm_ws := List.mem_filter.mpr ⟨List.mem_append_right _ (List.mem_of_getElem? (i := 166) (by decide +kernel)), by decide +kernel⟩
theorem wn_165 : Cond.methodLinkNest RX8 39 yX0_init "DoubtTime" ∈ pm_nw := List.mem_filter.mpr ⟨List.mem_of_getElem? (i := 165) (by decide +kernel), by decide +kernel⟩
theorem wd_345 : Cond.fieldLink RX8 40 "DoubtTime" "agreement" "LDoubtTime$Agreed;" ∈ pm_ws := List.mem_filter.mpr ⟨List.mem_append_right _ (List.mem_of_getElem? (i := 345) (by decide +kernel)), by decide +kernel⟩
theorem wd_187 : Cond.classLink RX8 44 RX3 ∈ pm_ws := List.mem_filter.mpr ⟨List.mem_append_right _ (List.mem_of_getElem? (i := 187) (by decide +kernel)), by decide +kernel⟩
theorem wd_188 : Cond.instantiable RX3 4 ∈ pm_ws := List.mem_filter.mpr ⟨List.mem_append_right _ (List.mem_of_getElem? (i := 188) (by decide +kernel)), by decide +kernel⟩
theorem wd_191 : Cond.code yX3_init cX3_init 1 none ∈ pm_ws := List.mem_filter.mpr ⟨List.mem_append_right _ (List.mem_of_getElem? (i := 191) (by decide +kernel)), by decide +kernel⟩
theorem wd_190 : Cond.instanceMethod yX3_init ∈ pm_ws := List.mem_filter.mpr ⟨List.mem_append_right _ (List.mem_of_getElem? (i := 190) (by decide +kernel)), by decide +kernel⟩
theorem wn_189 : Cond.methodLinkNest RX8 46 yX3_init "DoubtTime" ∈ pm_nw := List.mem_filter.mpr ⟨List.mem_of_getElem? (i := 189) (by decide +kernel), by decide +kernel⟩
theorem wd_346 : Cond.fieldLink RX8 47 "DoubtTime" "theLeap" "LDoubtTime$Leap;" ∈ pm_ws := List.mem_filter.mpr ⟨List.mem_append_right _ (List.mem_of_getElem? (i := 346) (by decide +kernel)), by decide +kernel⟩
theorem wd_214 : Cond.code yX7_putAll cX7_putAll 3 none ∈ pm_ws := List.mem_filter.mpr ⟨List.mem_append_right _ (List.mem_of_getElem? (i := 214) (by decide +kernel)), by decide +kernel⟩
theorem wd_212 : Cond.instanceMethod yX7_putAll ∈ pm_ws := List.mem_filter.mpr ⟨List.mem_append_right _ (List.mem_of_getElem? (i := 212) (by decide +kernel)), by decide +kernel⟩
theorem wd_213 : Cond.selects RX7 yX7_putAll yX7_putAll ∈ pm_ws := List.mem_filter.mpr ⟨List.mem_append_right _ (List.mem_of_getElem? (i := 213) (by decide +kernel)), by decide +kernel⟩
theorem wd_211 : Cond.methodLink RX8 53 yX7_putAll ∈ pm_ws := List.mem_filter.mpr ⟨List.mem_append_right _ (List.mem_of_getElem? (i := 211) (by decide +kernel)), by decide +kernel⟩
theorem wd_270 : Cond.code yX8_layItems cX8_layItems 3 none ∈ pm_ws := List.mem_filter.mpr ⟨List.mem_append_right _ (List.mem_of_getElem? (i := 270) (by decide +kernel)), by decide +kernel⟩
theorem wd_269 : Cond.instanceMethod yX8_layItems ∈ pm_ws := List.mem_filter.mpr ⟨List.mem_append_right _ (List.mem_of_getElem? (i := 269) (by decide +kernel)), by decide +kernel⟩
theorem wp_0 : Cond.selects RX8 yX8_layItems yX8_layItems ∈ pm_ws := List.mem_filter.mpr ⟨List.mem_append_left _ (List.mem_of_getElem? (i := 0) (by decide +kernel)), by decide +kernel⟩
theorem wd_267 : Cond.methodLink RX8 57 yX8_layItems ∈ pm_ws := List.mem_filter.mpr ⟨List.mem_append_right _ (List.mem_of_getElem? (i := 267) (by decide +kernel)), by decide +kernel⟩
theorem wn_34 : Cond.fieldLinkNest RX8 60 "DoubtTime$Text" "size" "I" "DoubtTime" ∈ pm_nw := List.mem_filter.mpr ⟨List.mem_of_getElem? (i := 34) (by decide +kernel), by decide +kernel⟩
theorem wd_365 : Cond.methodLink RX8 64 yX7_put ∈ pm_ws := List.mem_filter.mpr ⟨List.mem_append_right _ (List.mem_of_getElem? (i := 365) (by decide +kernel)), by decide +kernel⟩
theorem wd_296 : Cond.code yX2_takeFrom cX2_takeFrom 6 (some .boolean) ∈ pm_ws := List.mem_filter.mpr ⟨List.mem_append_right _ (List.mem_of_getElem? (i := 296) (by decide +kernel)), by decide +kernel⟩
theorem wd_294 : Cond.instanceMethod yX2_takeFrom ∈ pm_ws := List.mem_filter.mpr ⟨List.mem_append_right _ (List.mem_of_getElem? (i := 294) (by decide +kernel)), by decide +kernel⟩
theorem wd_295 : Cond.selects RX2 yX2_takeFrom yX2_takeFrom ∈ pm_ws := List.mem_filter.mpr ⟨List.mem_append_right _ (List.mem_of_getElem? (i := 295) (by decide +kernel)), by decide +kernel⟩
theorem wd_293 : Cond.methodLink RX8 68 yX2_takeFrom ∈ pm_ws := List.mem_filter.mpr ⟨List.mem_append_right _ (List.mem_of_getElem? (i := 293) (by decide +kernel)), by decide +kernel⟩
theorem wn_52 : Cond.fieldLinkNest RX8 72 "DoubtTime$Item" "behind" "I" "DoubtTime" ∈ pm_nw := List.mem_filter.mpr ⟨List.mem_of_getElem? (i := 52) (by decide +kernel), by decide +kernel⟩
theorem wd_378 : Cond.methodLink RX8 75 yX8_fault ∈ pm_ws := List.mem_filter.mpr ⟨List.mem_append_right _ (List.mem_of_getElem? (i := 378) (by decide +kernel)), by decide +kernel⟩
theorem wn_131 : Cond.fieldLinkNest RX8 79 "DoubtTime$State" "masters" "LDoubtTime$Masters;" "DoubtTime" ∈ pm_nw := List.mem_filter.mpr ⟨List.mem_of_getElem? (i := 131) (by decide +kernel), by decide +kernel⟩
theorem wd_382 : Cond.code yX4_howManyHeard cX4_howManyHeard 1 (some .int) ∈ pm_ws := List.mem_filter.mpr ⟨List.mem_append_right _ (List.mem_of_getElem? (i := 382) (by decide +kernel)), by decide +kernel⟩
theorem wd_380 : Cond.instanceMethod yX4_howManyHeard ∈ pm_ws := List.mem_filter.mpr ⟨List.mem_append_right _ (List.mem_of_getElem? (i := 380) (by decide +kernel)), by decide +kernel⟩
theorem wd_381 : Cond.selects RX4 yX4_howManyHeard yX4_howManyHeard ∈ pm_ws := List.mem_filter.mpr ⟨List.mem_append_right _ (List.mem_of_getElem? (i := 381) (by decide +kernel)), by decide +kernel⟩
theorem wd_379 : Cond.methodLink RX8 83 yX4_howManyHeard ∈ pm_ws := List.mem_filter.mpr ⟨List.mem_append_right _ (List.mem_of_getElem? (i := 379) (by decide +kernel)), by decide +kernel⟩
theorem wd_274 : Cond.code yX6_clear cX6_clear 1 none ∈ pm_ws := List.mem_filter.mpr ⟨List.mem_append_right _ (List.mem_of_getElem? (i := 274) (by decide +kernel)), by decide +kernel⟩
theorem wd_272 : Cond.instanceMethod yX6_clear ∈ pm_ws := List.mem_filter.mpr ⟨List.mem_append_right _ (List.mem_of_getElem? (i := 272) (by decide +kernel)), by decide +kernel⟩
theorem wd_273 : Cond.selects RX6 yX6_clear yX6_clear ∈ pm_ws := List.mem_filter.mpr ⟨List.mem_append_right _ (List.mem_of_getElem? (i := 273) (by decide +kernel)), by decide +kernel⟩
theorem wd_271 : Cond.methodLink RX8 88 yX6_clear ∈ pm_ws := List.mem_filter.mpr ⟨List.mem_append_right _ (List.mem_of_getElem? (i := 271) (by decide +kernel)), by decide +kernel⟩
theorem wn_155 : Cond.fieldLinkNest RX8 91 "DoubtTime$Past" "size" "I" "DoubtTime" ∈ pm_nw := List.mem_filter.mpr ⟨List.mem_of_getElem? (i := 155) (by decide +kernel), by decide +kernel⟩
theorem wd_286 : Cond.code yX3_clear cX3_clear 1 none ∈ pm_ws := List.mem_filter.mpr ⟨List.mem_append_right _ (List.mem_of_getElem? (i := 286) (by decide +kernel)), by decide +kernel⟩
theorem wd_284 : Cond.instanceMethod yX3_clear ∈ pm_ws := List.mem_filter.mpr ⟨List.mem_append_right _ (List.mem_of_getElem? (i := 284) (by decide +kernel)), by decide +kernel⟩
theorem wd_285 : Cond.selects RX3 yX3_clear yX3_clear ∈ pm_ws := List.mem_filter.mpr ⟨List.mem_append_right _ (List.mem_of_getElem? (i := 285) (by decide +kernel)), by decide +kernel⟩
theorem wd_283 : Cond.methodLink RX8 92 yX3_clear ∈ pm_ws := List.mem_filter.mpr ⟨List.mem_append_right _ (List.mem_of_getElem? (i := 283) (by decide +kernel)), by decide +kernel⟩
theorem wd_335 : Cond.code yX8_layItem cX8_layItem 2 none ∈ pm_ws := List.mem_filter.mpr ⟨List.mem_append_right _ (List.mem_of_getElem? (i := 335) (by decide +kernel)), by decide +kernel⟩
theorem wd_334 : Cond.instanceMethod yX8_layItem ∈ pm_ws := List.mem_filter.mpr ⟨List.mem_append_right _ (List.mem_of_getElem? (i := 334) (by decide +kernel)), by decide +kernel⟩
theorem wp_4 : Cond.selects RX8 yX8_layItem yX8_layItem ∈ pm_ws := List.mem_filter.mpr ⟨List.mem_append_left _ (List.mem_of_getElem? (i := 4) (by decide +kernel)), by decide +kernel⟩
theorem wd_332 : Cond.methodLink RX8 93 yX8_layItem ∈ pm_ws := List.mem_filter.mpr ⟨List.mem_append_right _ (List.mem_of_getElem? (i := 332) (by decide +kernel)), by decide +kernel⟩
theorem wn_48 : Cond.fieldLinkNest RX8 96 "DoubtTime$Item" "numbers" "[J" "DoubtTime" ∈ pm_nw := List.mem_filter.mpr ⟨List.mem_of_getElem? (i := 48) (by decide +kernel), by decide +kernel⟩
theorem wn_50 : Cond.fieldLinkNest RX8 100 "DoubtTime$Item" "kind" "C" "DoubtTime" ∈ pm_nw := List.mem_filter.mpr ⟨List.mem_of_getElem? (i := 50) (by decide +kernel), by decide +kernel⟩
theorem wn_80 : Cond.fieldLinkNest RX8 104 "DoubtTime$Masters" "drift" "I" "DoubtTime" ∈ pm_nw := List.mem_filter.mpr ⟨List.mem_of_getElem? (i := 80) (by decide +kernel), by decide +kernel⟩
theorem wd_339 : Cond.code yX4_hear cX4_hear 7 none ∈ pm_ws := List.mem_filter.mpr ⟨List.mem_append_right _ (List.mem_of_getElem? (i := 339) (by decide +kernel)), by decide +kernel⟩
theorem wd_337 : Cond.instanceMethod yX4_hear ∈ pm_ws := List.mem_filter.mpr ⟨List.mem_append_right _ (List.mem_of_getElem? (i := 337) (by decide +kernel)), by decide +kernel⟩
theorem wd_338 : Cond.selects RX4 yX4_hear yX4_hear ∈ pm_ws := List.mem_filter.mpr ⟨List.mem_append_right _ (List.mem_of_getElem? (i := 338) (by decide +kernel)), by decide +kernel⟩
theorem wd_336 : Cond.methodLink RX8 107 yX4_hear ∈ pm_ws := List.mem_filter.mpr ⟨List.mem_append_right _ (List.mem_of_getElem? (i := 336) (by decide +kernel)), by decide +kernel⟩
theorem wd_340 : Cond.methodLink RX8 111 yX3_set ∈ pm_ws := List.mem_filter.mpr ⟨List.mem_append_right _ (List.mem_of_getElem? (i := 340) (by decide +kernel)), by decide +kernel⟩
theorem wd_393 : Cond.methodLink RX8 115 yX8_isMaster ∈ pm_ws := List.mem_filter.mpr ⟨List.mem_append_right _ (List.mem_of_getElem? (i := 393) (by decide +kernel)), by decide +kernel⟩
theorem wd_394 : Cond.methodLink RX8 119 yX8_isToldSpan ∈ pm_ws := List.mem_filter.mpr ⟨List.mem_append_right _ (List.mem_of_getElem? (i := 394) (by decide +kernel)), by decide +kernel⟩
theorem wd_398 : Cond.code yX5_keep cX5_keep 2 none ∈ pm_ws := List.mem_filter.mpr ⟨List.mem_append_right _ (List.mem_of_getElem? (i := 398) (by decide +kernel)), by decide +kernel⟩
theorem wd_396 : Cond.instanceMethod yX5_keep ∈ pm_ws := List.mem_filter.mpr ⟨List.mem_append_right _ (List.mem_of_getElem? (i := 396) (by decide +kernel)), by decide +kernel⟩
theorem wd_397 : Cond.selects RX5 yX5_keep yX5_keep ∈ pm_ws := List.mem_filter.mpr ⟨List.mem_append_right _ (List.mem_of_getElem? (i := 397) (by decide +kernel)), by decide +kernel⟩
theorem wd_395 : Cond.methodLink RX8 123 yX5_keep ∈ pm_ws := List.mem_filter.mpr ⟨List.mem_append_right _ (List.mem_of_getElem? (i := 395) (by decide +kernel)), by decide +kernel⟩
theorem wn_135 : Cond.fieldLinkNest RX8 127 "DoubtTime$State" "local" "I" "DoubtTime" ∈ pm_nw := List.mem_filter.mpr ⟨List.mem_of_getElem? (i := 135) (by decide +kernel), by decide +kernel⟩
theorem wn_78 : Cond.fieldLinkNest RX8 130 "DoubtTime$Masters" "struck" "I" "DoubtTime" ∈ pm_nw := List.mem_filter.mpr ⟨List.mem_of_getElem? (i := 78) (by decide +kernel), by decide +kernel⟩
theorem wd_426 : Cond.methodLink RX8 133 yX8_liars ∈ pm_ws := List.mem_filter.mpr ⟨List.mem_append_right _ (List.mem_of_getElem? (i := 426) (by decide +kernel)), by decide +kernel⟩
theorem wd_482 : Cond.methodLink RX8 136 yJ6_bitCount_0f7a4 ∈ pm_ws := List.mem_filter.mpr ⟨List.mem_append_right _ (List.mem_of_getElem? (i := 482) (by decide +kernel)), by decide +kernel⟩
theorem wd_487 : Cond.methodLink RX8 142 yX8_isDrift ∈ pm_ws := List.mem_filter.mpr ⟨List.mem_append_right _ (List.mem_of_getElem? (i := 487) (by decide +kernel)), by decide +kernel⟩
theorem wn_133 : Cond.fieldLinkNest RX8 145 "DoubtTime$State" "commits" "LDoubtTime$Commits;" "DoubtTime" ∈ pm_nw := List.mem_filter.mpr ⟨List.mem_of_getElem? (i := 133) (by decide +kernel), by decide +kernel⟩
theorem wn_114 : Cond.fieldLinkNest RX8 149 "DoubtTime$Commits" "done" "I" "DoubtTime" ∈ pm_nw := List.mem_filter.mpr ⟨List.mem_of_getElem? (i := 114) (by decide +kernel), by decide +kernel⟩
theorem wd_495 : Cond.code yX8_finishCommits cX8_finishCommits 1 none ∈ pm_ws := List.mem_filter.mpr ⟨List.mem_append_right _ (List.mem_of_getElem? (i := 495) (by decide +kernel)), by decide +kernel⟩
theorem wd_494 : Cond.instanceMethod yX8_finishCommits ∈ pm_ws := List.mem_filter.mpr ⟨List.mem_append_right _ (List.mem_of_getElem? (i := 494) (by decide +kernel)), by decide +kernel⟩
theorem wp_9 : Cond.selects RX8 yX8_finishCommits yX8_finishCommits ∈ pm_ws := List.mem_filter.mpr ⟨List.mem_append_left _ (List.mem_of_getElem? (i := 9) (by decide +kernel)), by decide +kernel⟩
theorem wd_492 : Cond.methodLink RX8 154 yX8_finishCommits ∈ pm_ws := List.mem_filter.mpr ⟨List.mem_append_right _ (List.mem_of_getElem? (i := 492) (by decide +kernel)), by decide +kernel⟩
theorem wd_499 : Cond.code yX1_howManyOpen cX1_howManyOpen 1 (some .int) ∈ pm_ws := List.mem_filter.mpr ⟨List.mem_append_right _ (List.mem_of_getElem? (i := 499) (by decide +kernel)), by decide +kernel⟩
theorem wd_497 : Cond.instanceMethod yX1_howManyOpen ∈ pm_ws := List.mem_filter.mpr ⟨List.mem_append_right _ (List.mem_of_getElem? (i := 497) (by decide +kernel)), by decide +kernel⟩
theorem wd_498 : Cond.selects RX1 yX1_howManyOpen yX1_howManyOpen ∈ pm_ws := List.mem_filter.mpr ⟨List.mem_append_right _ (List.mem_of_getElem? (i := 498) (by decide +kernel)), by decide +kernel⟩
theorem wd_496 : Cond.methodLink RX8 157 yX1_howManyOpen ∈ pm_ws := List.mem_filter.mpr ⟨List.mem_append_right _ (List.mem_of_getElem? (i := 496) (by decide +kernel)), by decide +kernel⟩
theorem wd_433 : Cond.code yX8_lookAround cX8_lookAround 1 none ∈ pm_ws := List.mem_filter.mpr ⟨List.mem_append_right _ (List.mem_of_getElem? (i := 433) (by decide +kernel)), by decide +kernel⟩
theorem wd_432 : Cond.instanceMethod yX8_lookAround ∈ pm_ws := List.mem_filter.mpr ⟨List.mem_append_right _ (List.mem_of_getElem? (i := 432) (by decide +kernel)), by decide +kernel⟩
theorem wp_5 : Cond.selects RX8 yX8_lookAround yX8_lookAround ∈ pm_ws := List.mem_filter.mpr ⟨List.mem_append_left _ (List.mem_of_getElem? (i := 5) (by decide +kernel)), by decide +kernel⟩
theorem wd_430 : Cond.methodLink RX8 160 yX8_lookAround ∈ pm_ws := List.mem_filter.mpr ⟨List.mem_append_right _ (List.mem_of_getElem? (i := 430) (by decide +kernel)), by decide +kernel⟩
theorem wd_503 : Cond.code yX0_isGood cX0_isGood 1 (some .boolean) ∈ pm_ws := List.mem_filter.mpr ⟨List.mem_append_right _ (List.mem_of_getElem? (i := 503) (by decide +kernel)), by decide +kernel⟩
theorem wd_501 : Cond.instanceMethod yX0_isGood ∈ pm_ws := List.mem_filter.mpr ⟨List.mem_append_right _ (List.mem_of_getElem? (i := 501) (by decide +kernel)), by decide +kernel⟩
theorem wd_502 : Cond.selects RX0 yX0_isGood yX0_isGood ∈ pm_ws := List.mem_filter.mpr ⟨List.mem_append_right _ (List.mem_of_getElem? (i := 502) (by decide +kernel)), by decide +kernel⟩
theorem wd_500 : Cond.methodLink RX8 163 yX0_isGood ∈ pm_ws := List.mem_filter.mpr ⟨List.mem_append_right _ (List.mem_of_getElem? (i := 500) (by decide +kernel)), by decide +kernel⟩
theorem wn_175 : Cond.fieldLinkNest RX8 167 "DoubtTime$Agreed" "begin" "J" "DoubtTime" ∈ pm_nw := List.mem_filter.mpr ⟨List.mem_of_getElem? (i := 175) (by decide +kernel), by decide +kernel⟩
theorem wd_507 : Cond.code yX1_finishBelow cX1_finishBelow 4 none ∈ pm_ws := List.mem_filter.mpr ⟨List.mem_append_right _ (List.mem_of_getElem? (i := 507) (by decide +kernel)), by decide +kernel⟩
theorem wd_505 : Cond.instanceMethod yX1_finishBelow ∈ pm_ws := List.mem_filter.mpr ⟨List.mem_append_right _ (List.mem_of_getElem? (i := 505) (by decide +kernel)), by decide +kernel⟩
theorem wd_506 : Cond.selects RX1 yX1_finishBelow yX1_finishBelow ∈ pm_ws := List.mem_filter.mpr ⟨List.mem_append_right _ (List.mem_of_getElem? (i := 506) (by decide +kernel)), by decide +kernel⟩
theorem wd_504 : Cond.methodLink RX8 171 yX1_finishBelow ∈ pm_ws := List.mem_filter.mpr ⟨List.mem_append_right _ (List.mem_of_getElem? (i := 504) (by decide +kernel)), by decide +kernel⟩
theorem wd_515 : Cond.code yX5_giveBack cX5_giveBack 2 none ∈ pm_ws := List.mem_filter.mpr ⟨List.mem_append_right _ (List.mem_of_getElem? (i := 515) (by decide +kernel)), by decide +kernel⟩
theorem wd_513 : Cond.instanceMethod yX5_giveBack ∈ pm_ws := List.mem_filter.mpr ⟨List.mem_append_right _ (List.mem_of_getElem? (i := 513) (by decide +kernel)), by decide +kernel⟩
theorem wd_514 : Cond.selects RX5 yX5_giveBack yX5_giveBack ∈ pm_ws := List.mem_filter.mpr ⟨List.mem_append_right _ (List.mem_of_getElem? (i := 514) (by decide +kernel)), by decide +kernel⟩
theorem wd_512 : Cond.methodLink RX8 175 yX5_giveBack ∈ pm_ws := List.mem_filter.mpr ⟨List.mem_append_right _ (List.mem_of_getElem? (i := 512) (by decide +kernel)), by decide +kernel⟩
theorem wd_520 : Cond.constantLong RX8 178 (-2000000000000) ∈ pm_ws := List.mem_filter.mpr ⟨List.mem_append_right _ (List.mem_of_getElem? (i := 520) (by decide +kernel)), by decide +kernel⟩
theorem wd_524 : Cond.code yX4_hasTold cX4_hasTold 2 (some .boolean) ∈ pm_ws := List.mem_filter.mpr ⟨List.mem_append_right _ (List.mem_of_getElem? (i := 524) (by decide +kernel)), by decide +kernel⟩
theorem wd_522 : Cond.instanceMethod yX4_hasTold ∈ pm_ws := List.mem_filter.mpr ⟨List.mem_append_right _ (List.mem_of_getElem? (i := 522) (by decide +kernel)), by decide +kernel⟩
theorem wd_523 : Cond.selects RX4 yX4_hasTold yX4_hasTold ∈ pm_ws := List.mem_filter.mpr ⟨List.mem_append_right _ (List.mem_of_getElem? (i := 523) (by decide +kernel)), by decide +kernel⟩
theorem wd_521 : Cond.methodLink RX8 180 yX4_hasTold ∈ pm_ws := List.mem_filter.mpr ⟨List.mem_append_right _ (List.mem_of_getElem? (i := 521) (by decide +kernel)), by decide +kernel⟩
theorem wd_525 : Cond.constantLong RX8 184 (-2000000000001) ∈ pm_ws := List.mem_filter.mpr ⟨List.mem_append_right _ (List.mem_of_getElem? (i := 525) (by decide +kernel)), by decide +kernel⟩
theorem wd_526 : Cond.methodLink RX8 186 yX4_beginOf ∈ pm_ws := List.mem_filter.mpr ⟨List.mem_append_right _ (List.mem_of_getElem? (i := 526) (by decide +kernel)), by decide +kernel⟩
theorem wd_527 : Cond.methodLink RX8 190 yX4_endOf ∈ pm_ws := List.mem_filter.mpr ⟨List.mem_append_right _ (List.mem_of_getElem? (i := 527) (by decide +kernel)), by decide +kernel⟩
theorem wn_172 : Cond.fieldLinkNest RX8 193 "DoubtTime$Agreed" "heard" "I" "DoubtTime" ∈ pm_nw := List.mem_filter.mpr ⟨List.mem_of_getElem? (i := 172) (by decide +kernel), by decide +kernel⟩
theorem wd_466 : Cond.code yX0_endOfRow cX0_endOfRow 4 (some .long) ∈ pm_ws := List.mem_filter.mpr ⟨List.mem_append_right _ (List.mem_of_getElem? (i := 466) (by decide +kernel)), by decide +kernel⟩
theorem wd_464 : Cond.instanceMethod yX0_endOfRow ∈ pm_ws := List.mem_filter.mpr ⟨List.mem_append_right _ (List.mem_of_getElem? (i := 464) (by decide +kernel)), by decide +kernel⟩
theorem wd_465 : Cond.selects RX0 yX0_endOfRow yX0_endOfRow ∈ pm_ws := List.mem_filter.mpr ⟨List.mem_append_right _ (List.mem_of_getElem? (i := 465) (by decide +kernel)), by decide +kernel⟩
theorem wd_463 : Cond.methodLink RX8 196 yX0_endOfRow ∈ pm_ws := List.mem_filter.mpr ⟨List.mem_append_right _ (List.mem_of_getElem? (i := 463) (by decide +kernel)), by decide +kernel⟩
theorem wd_542 : Cond.code yX8_isAsked cX8_isAsked 2 (some .boolean) ∈ pm_ws := List.mem_filter.mpr ⟨List.mem_append_right _ (List.mem_of_getElem? (i := 542) (by decide +kernel)), by decide +kernel⟩
theorem wd_541 : Cond.static yX8_isAsked ∈ pm_ws := List.mem_filter.mpr ⟨List.mem_append_right _ (List.mem_of_getElem? (i := 541) (by decide +kernel)), by decide +kernel⟩
theorem wd_540 : Cond.methodLink RX8 200 yX8_isAsked ∈ pm_ws := List.mem_filter.mpr ⟨List.mem_append_right _ (List.mem_of_getElem? (i := 540) (by decide +kernel)), by decide +kernel⟩
theorem wd_544 : Cond.methodLink RX8 203 yX0_howManyHold ∈ pm_ws := List.mem_filter.mpr ⟨List.mem_append_right _ (List.mem_of_getElem? (i := 544) (by decide +kernel)), by decide +kernel⟩
theorem wd_475 : Cond.methodLink RX8 207 yX4_isHeard ∈ pm_ws := List.mem_filter.mpr ⟨List.mem_append_right _ (List.mem_of_getElem? (i := 475) (by decide +kernel)), by decide +kernel⟩
theorem wd_479 : Cond.code yX4_meets cX4_meets 7 (some .boolean) ∈ pm_ws := List.mem_filter.mpr ⟨List.mem_append_right _ (List.mem_of_getElem? (i := 479) (by decide +kernel)), by decide +kernel⟩
theorem wd_477 : Cond.instanceMethod yX4_meets ∈ pm_ws := List.mem_filter.mpr ⟨List.mem_append_right _ (List.mem_of_getElem? (i := 477) (by decide +kernel)), by decide +kernel⟩
theorem wd_478 : Cond.selects RX4 yX4_meets yX4_meets ∈ pm_ws := List.mem_filter.mpr ⟨List.mem_append_right _ (List.mem_of_getElem? (i := 478) (by decide +kernel)), by decide +kernel⟩
theorem wd_476 : Cond.methodLink RX8 210 yX4_meets ∈ pm_ws := List.mem_filter.mpr ⟨List.mem_append_right _ (List.mem_of_getElem? (i := 476) (by decide +kernel)), by decide +kernel⟩
theorem wd_437 : Cond.code yX0_look cX0_look 4 none ∈ pm_ws := List.mem_filter.mpr ⟨List.mem_append_right _ (List.mem_of_getElem? (i := 437) (by decide +kernel)), by decide +kernel⟩
theorem wd_435 : Cond.instanceMethod yX0_look ∈ pm_ws := List.mem_filter.mpr ⟨List.mem_append_right _ (List.mem_of_getElem? (i := 435) (by decide +kernel)), by decide +kernel⟩
theorem wd_436 : Cond.selects RX0 yX0_look yX0_look ∈ pm_ws := List.mem_filter.mpr ⟨List.mem_append_right _ (List.mem_of_getElem? (i := 436) (by decide +kernel)), by decide +kernel⟩
theorem wd_434 : Cond.methodLink RX8 214 yX0_look ∈ pm_ws := List.mem_filter.mpr ⟨List.mem_append_right _ (List.mem_of_getElem? (i := 434) (by decide +kernel)), by decide +kernel⟩
theorem wd_552 : Cond.code yX8_isKey cX8_isKey 1 (some .boolean) ∈ pm_ws := List.mem_filter.mpr ⟨List.mem_append_right _ (List.mem_of_getElem? (i := 552) (by decide +kernel)), by decide +kernel⟩
theorem wd_551 : Cond.static yX8_isKey ∈ pm_ws := List.mem_filter.mpr ⟨List.mem_append_right _ (List.mem_of_getElem? (i := 551) (by decide +kernel)), by decide +kernel⟩
theorem wd_550 : Cond.methodLink RX8 218 yX8_isKey ∈ pm_ws := List.mem_filter.mpr ⟨List.mem_append_right _ (List.mem_of_getElem? (i := 550) (by decide +kernel)), by decide +kernel⟩
theorem wd_553 : Cond.constant RX8 221 (999999) ∈ pm_ws := List.mem_filter.mpr ⟨List.mem_append_right _ (List.mem_of_getElem? (i := 553) (by decide +kernel)), by decide +kernel⟩
theorem wn_112 : Cond.fieldLinkNest RX8 222 "DoubtTime$Commits" "size" "I" "DoubtTime" ∈ pm_nw := List.mem_filter.mpr ⟨List.mem_of_getElem? (i := 112) (by decide +kernel), by decide +kernel⟩
theorem wd_557 : Cond.code yX1_make cX1_make 6 none ∈ pm_ws := List.mem_filter.mpr ⟨List.mem_append_right _ (List.mem_of_getElem? (i := 557) (by decide +kernel)), by decide +kernel⟩
theorem wd_555 : Cond.instanceMethod yX1_make ∈ pm_ws := List.mem_filter.mpr ⟨List.mem_append_right _ (List.mem_of_getElem? (i := 555) (by decide +kernel)), by decide +kernel⟩
theorem wd_556 : Cond.selects RX1 yX1_make yX1_make ∈ pm_ws := List.mem_filter.mpr ⟨List.mem_append_right _ (List.mem_of_getElem? (i := 556) (by decide +kernel)), by decide +kernel⟩
theorem wd_554 : Cond.methodLink RX8 223 yX1_make ∈ pm_ws := List.mem_filter.mpr ⟨List.mem_append_right _ (List.mem_of_getElem? (i := 554) (by decide +kernel)), by decide +kernel⟩
theorem wd_572 : Cond.code yX1_has cX1_has 2 (some .boolean) ∈ pm_ws := List.mem_filter.mpr ⟨List.mem_append_right _ (List.mem_of_getElem? (i := 572) (by decide +kernel)), by decide +kernel⟩
theorem wd_570 : Cond.instanceMethod yX1_has ∈ pm_ws := List.mem_filter.mpr ⟨List.mem_append_right _ (List.mem_of_getElem? (i := 570) (by decide +kernel)), by decide +kernel⟩
theorem wd_571 : Cond.selects RX1 yX1_has yX1_has ∈ pm_ws := List.mem_filter.mpr ⟨List.mem_append_right _ (List.mem_of_getElem? (i := 571) (by decide +kernel)), by decide +kernel⟩
theorem wd_569 : Cond.methodLink RX8 227 yX1_has ∈ pm_ws := List.mem_filter.mpr ⟨List.mem_append_right _ (List.mem_of_getElem? (i := 569) (by decide +kernel)), by decide +kernel⟩
theorem wd_573 : Cond.constantLong RX8 230 (-1) ∈ pm_ws := List.mem_filter.mpr ⟨List.mem_append_right _ (List.mem_of_getElem? (i := 573) (by decide +kernel)), by decide +kernel⟩
theorem wn_102 : Cond.fieldLinkNest RX8 232 "DoubtTime$Commits" "key" "[I" "DoubtTime" ∈ pm_nw := List.mem_filter.mpr ⟨List.mem_of_getElem? (i := 102) (by decide +kernel), by decide +kernel⟩
theorem wn_104 : Cond.fieldLinkNest RX8 236 "DoubtTime$Commits" "value" "[I" "DoubtTime" ∈ pm_nw := List.mem_filter.mpr ⟨List.mem_of_getElem? (i := 104) (by decide +kernel), by decide +kernel⟩
theorem wn_106 : Cond.fieldLinkNest RX8 239 "DoubtTime$Commits" "stamp" "[J" "DoubtTime" ∈ pm_nw := List.mem_filter.mpr ⟨List.mem_of_getElem? (i := 106) (by decide +kernel), by decide +kernel⟩
theorem wn_108 : Cond.fieldLinkNest RX8 242 "DoubtTime$Commits" "madeAt" "[I" "DoubtTime" ∈ pm_nw := List.mem_filter.mpr ⟨List.mem_of_getElem? (i := 108) (by decide +kernel), by decide +kernel⟩
theorem wd_577 : Cond.code yX1_isOpen cX1_isOpen 2 (some .boolean) ∈ pm_ws := List.mem_filter.mpr ⟨List.mem_append_right _ (List.mem_of_getElem? (i := 577) (by decide +kernel)), by decide +kernel⟩
theorem wd_575 : Cond.instanceMethod yX1_isOpen ∈ pm_ws := List.mem_filter.mpr ⟨List.mem_append_right _ (List.mem_of_getElem? (i := 575) (by decide +kernel)), by decide +kernel⟩
theorem wd_576 : Cond.selects RX1 yX1_isOpen yX1_isOpen ∈ pm_ws := List.mem_filter.mpr ⟨List.mem_append_right _ (List.mem_of_getElem? (i := 576) (by decide +kernel)), by decide +kernel⟩
theorem wd_574 : Cond.methodLink RX8 245 yX1_isOpen ∈ pm_ws := List.mem_filter.mpr ⟨List.mem_append_right _ (List.mem_of_getElem? (i := 574) (by decide +kernel)), by decide +kernel⟩
theorem wd_578 : Cond.constantLong RX8 248 (-4) ∈ pm_ws := List.mem_filter.mpr ⟨List.mem_append_right _ (List.mem_of_getElem? (i := 578) (by decide +kernel)), by decide +kernel⟩
theorem wn_110 : Cond.fieldLinkNest RX8 250 "DoubtTime$Commits" "doneAt" "[I" "DoubtTime" ∈ pm_nw := List.mem_filter.mpr ⟨List.mem_of_getElem? (i := 110) (by decide +kernel), by decide +kernel⟩
theorem wd_590 : Cond.code yX1_leastOpenStamp cX1_leastOpenStamp 1 (some .long) ∈ pm_ws := List.mem_filter.mpr ⟨List.mem_append_right _ (List.mem_of_getElem? (i := 590) (by decide +kernel)), by decide +kernel⟩
theorem wd_588 : Cond.instanceMethod yX1_leastOpenStamp ∈ pm_ws := List.mem_filter.mpr ⟨List.mem_append_right _ (List.mem_of_getElem? (i := 588) (by decide +kernel)), by decide +kernel⟩
theorem wd_589 : Cond.selects RX1 yX1_leastOpenStamp yX1_leastOpenStamp ∈ pm_ws := List.mem_filter.mpr ⟨List.mem_append_right _ (List.mem_of_getElem? (i := 589) (by decide +kernel)), by decide +kernel⟩
theorem wd_587 : Cond.methodLink RX8 253 yX1_leastOpenStamp ∈ pm_ws := List.mem_filter.mpr ⟨List.mem_append_right _ (List.mem_of_getElem? (i := 587) (by decide +kernel)), by decide +kernel⟩
theorem wd_591 : Cond.methodLink RX8 256 yX1_latestStamp ∈ pm_ws := List.mem_filter.mpr ⟨List.mem_append_right _ (List.mem_of_getElem? (i := 591) (by decide +kernel)), by decide +kernel⟩
theorem wd_592 : Cond.methodLink RX8 259 Lib.MathLoose.max_long.x ∈ pm_ws := List.mem_filter.mpr ⟨List.mem_append_right _ (List.mem_of_getElem? (i := 592) (by decide +kernel)), by decide +kernel⟩
theorem wd_597 : Cond.methodLink RX8 265 yX8_safe ∈ pm_ws := List.mem_filter.mpr ⟨List.mem_append_right _ (List.mem_of_getElem? (i := 597) (by decide +kernel)), by decide +kernel⟩
theorem wd_601 : Cond.code yX1_valueAsOf cX1_valueAsOf 6 (some .int) ∈ pm_ws := List.mem_filter.mpr ⟨List.mem_append_right _ (List.mem_of_getElem? (i := 601) (by decide +kernel)), by decide +kernel⟩
theorem wd_599 : Cond.instanceMethod yX1_valueAsOf ∈ pm_ws := List.mem_filter.mpr ⟨List.mem_append_right _ (List.mem_of_getElem? (i := 599) (by decide +kernel)), by decide +kernel⟩
theorem wd_600 : Cond.selects RX1 yX1_valueAsOf yX1_valueAsOf ∈ pm_ws := List.mem_filter.mpr ⟨List.mem_append_right _ (List.mem_of_getElem? (i := 600) (by decide +kernel)), by decide +kernel⟩
theorem wd_598 : Cond.methodLink RX8 268 yX1_valueAsOf ∈ pm_ws := List.mem_filter.mpr ⟨List.mem_append_right _ (List.mem_of_getElem? (i := 598) (by decide +kernel)), by decide +kernel⟩
theorem wd_609 : Cond.code yX1_howManyStamped cX1_howManyStamped 9 (some .int) ∈ pm_ws := List.mem_filter.mpr ⟨List.mem_append_right _ (List.mem_of_getElem? (i := 609) (by decide +kernel)), by decide +kernel⟩
theorem wd_607 : Cond.instanceMethod yX1_howManyStamped ∈ pm_ws := List.mem_filter.mpr ⟨List.mem_append_right _ (List.mem_of_getElem? (i := 607) (by decide +kernel)), by decide +kernel⟩
theorem wd_608 : Cond.selects RX1 yX1_howManyStamped yX1_howManyStamped ∈ pm_ws := List.mem_filter.mpr ⟨List.mem_append_right _ (List.mem_of_getElem? (i := 608) (by decide +kernel)), by decide +kernel⟩
theorem wd_606 : Cond.methodLink RX8 272 yX1_howManyStamped ∈ pm_ws := List.mem_filter.mpr ⟨List.mem_append_right _ (List.mem_of_getElem? (i := 606) (by decide +kernel)), by decide +kernel⟩
theorem wn_194 : Cond.fieldLinkNest RX8 276 "DoubtTime$Leap" "at" "J" "DoubtTime" ∈ pm_nw := List.mem_filter.mpr ⟨List.mem_of_getElem? (i := 194) (by decide +kernel), by decide +kernel⟩
theorem wn_196 : Cond.fieldLinkNest RX8 279 "DoubtTime$Leap" "ticks" "J" "DoubtTime" ∈ pm_nw := List.mem_filter.mpr ⟨List.mem_of_getElem? (i := 196) (by decide +kernel), by decide +kernel⟩
theorem wn_198 : Cond.fieldLinkNest RX8 282 "DoubtTime$Leap" "window" "J" "DoubtTime" ∈ pm_nw := List.mem_filter.mpr ⟨List.mem_of_getElem? (i := 198) (by decide +kernel), by decide +kernel⟩
theorem wn_200 : Cond.fieldLinkNest RX8 285 "DoubtTime$Leap" "kind" "J" "DoubtTime" ∈ pm_nw := List.mem_filter.mpr ⟨List.mem_of_getElem? (i := 200) (by decide +kernel), by decide +kernel⟩
theorem wd_618 : Cond.methodLink RX8 287 yX3_smear ∈ pm_ws := List.mem_filter.mpr ⟨List.mem_append_right _ (List.mem_of_getElem? (i := 618) (by decide +kernel)), by decide +kernel⟩
theorem wd_633 : Cond.code yX3_leastSmearedTo cX3_leastSmearedTo 10 (some .long) ∈ pm_ws := List.mem_filter.mpr ⟨List.mem_append_right _ (List.mem_of_getElem? (i := 633) (by decide +kernel)), by decide +kernel⟩
theorem wd_631 : Cond.instanceMethod yX3_leastSmearedTo ∈ pm_ws := List.mem_filter.mpr ⟨List.mem_append_right _ (List.mem_of_getElem? (i := 631) (by decide +kernel)), by decide +kernel⟩
theorem wd_632 : Cond.selects RX3 yX3_leastSmearedTo yX3_leastSmearedTo ∈ pm_ws := List.mem_filter.mpr ⟨List.mem_append_right _ (List.mem_of_getElem? (i := 632) (by decide +kernel)), by decide +kernel⟩
theorem wd_630 : Cond.methodLink RX8 291 yX3_leastSmearedTo ∈ pm_ws := List.mem_filter.mpr ⟨List.mem_append_right _ (List.mem_of_getElem? (i := 630) (by decide +kernel)), by decide +kernel⟩
theorem wd_322 : Cond.constantLong RX8 294 (6) ∈ pm_ws := List.mem_filter.mpr ⟨List.mem_append_right _ (List.mem_of_getElem? (i := 322) (by decide +kernel)), by decide +kernel⟩
theorem wd_318 : Cond.constantLong RX8 296 (999999) ∈ pm_ws := List.mem_filter.mpr ⟨List.mem_append_right _ (List.mem_of_getElem? (i := 318) (by decide +kernel)), by decide +kernel⟩
theorem wd_326 : Cond.constantLong RX8 298 (1000000000000) ∈ pm_ws := List.mem_filter.mpr ⟨List.mem_append_right _ (List.mem_of_getElem? (i := 326) (by decide +kernel)), by decide +kernel⟩
theorem wd_543 : Cond.constantLong RX8 300 (2000000000000) ∈ pm_ws := List.mem_filter.mpr ⟨List.mem_append_right _ (List.mem_of_getElem? (i := 543) (by decide +kernel)), by decide +kernel⟩
theorem wd_330 : Cond.constantLong RX8 302 (1000) ∈ pm_ws := List.mem_filter.mpr ⟨List.mem_append_right _ (List.mem_of_getElem? (i := 330) (by decide +kernel)), by decide +kernel⟩
theorem wd_331 : Cond.constantLong RX8 304 (1000000000) ∈ pm_ws := List.mem_filter.mpr ⟨List.mem_append_right _ (List.mem_of_getElem? (i := 331) (by decide +kernel)), by decide +kernel⟩
theorem wd_646 : Cond.methodLink RX9 1 objectInit ∈ pm_ws := List.mem_filter.mpr ⟨List.mem_append_right _ (List.mem_of_getElem? (i := 646) (by decide +kernel)), by decide +kernel⟩
theorem wd_673 : Cond.fieldLink RX9 7 "DoubtTimeModel" "now" "[J" ∈ pm_ws := List.mem_filter.mpr ⟨List.mem_append_right _ (List.mem_of_getElem? (i := 673) (by decide +kernel)), by decide +kernel⟩
theorem wd_674 : Cond.fieldLink RX9 13 "DoubtTimeModel" "past" "[J" ∈ pm_ws := List.mem_filter.mpr ⟨List.mem_append_right _ (List.mem_of_getElem? (i := 674) (by decide +kernel)), by decide +kernel⟩
theorem wd_676 : Cond.fieldLink RX9 16 "DoubtTimeModel" "text" "[I" ∈ pm_ws := List.mem_filter.mpr ⟨List.mem_append_right _ (List.mem_of_getElem? (i := 676) (by decide +kernel)), by decide +kernel⟩
theorem wd_679 : Cond.fieldLink RX9 20 "DoubtTimeModel" "made" "[J" ∈ pm_ws := List.mem_filter.mpr ⟨List.mem_append_right _ (List.mem_of_getElem? (i := 679) (by decide +kernel)), by decide +kernel⟩
theorem wd_680 : Cond.fieldLink RX9 23 "DoubtTimeModel" "leapRead" "[J" ∈ pm_ws := List.mem_filter.mpr ⟨List.mem_append_right _ (List.mem_of_getElem? (i := 680) (by decide +kernel)), by decide +kernel⟩
theorem wd_681 : Cond.fieldLink RX9 26 "DoubtTimeModel" "leapNow" "[J" ∈ pm_ws := List.mem_filter.mpr ⟨List.mem_append_right _ (List.mem_of_getElem? (i := 681) (by decide +kernel)), by decide +kernel⟩
theorem wd_682 : Cond.fieldLink RX9 29 "DoubtTimeModel" "low" "[J" ∈ pm_ws := List.mem_filter.mpr ⟨List.mem_append_right _ (List.mem_of_getElem? (i := 682) (by decide +kernel)), by decide +kernel⟩
theorem wd_683 : Cond.fieldLink RX9 32 "DoubtTimeModel" "high" "[J" ∈ pm_ws := List.mem_filter.mpr ⟨List.mem_append_right _ (List.mem_of_getElem? (i := 683) (by decide +kernel)), by decide +kernel⟩
theorem wd_650 : Cond.code yX9_begin cX9_begin 2 none ∈ pm_ws := List.mem_filter.mpr ⟨List.mem_append_right _ (List.mem_of_getElem? (i := 650) (by decide +kernel)), by decide +kernel⟩
theorem wd_649 : Cond.instanceMethod yX9_begin ∈ pm_ws := List.mem_filter.mpr ⟨List.mem_append_right _ (List.mem_of_getElem? (i := 649) (by decide +kernel)), by decide +kernel⟩
theorem wp_11 : Cond.selects RX9 yX9_begin yX9_begin ∈ pm_ws := List.mem_filter.mpr ⟨List.mem_append_left _ (List.mem_of_getElem? (i := 11) (by decide +kernel)), by decide +kernel⟩
theorem wd_647 : Cond.methodLink RX9 35 yX9_begin ∈ pm_ws := List.mem_filter.mpr ⟨List.mem_append_right _ (List.mem_of_getElem? (i := 647) (by decide +kernel)), by decide +kernel⟩
theorem wd_657 : Cond.constantLong RX9 38 (990) ∈ pm_ws := List.mem_filter.mpr ⟨List.mem_append_right _ (List.mem_of_getElem? (i := 657) (by decide +kernel)), by decide +kernel⟩
theorem wd_658 : Cond.constantLong RX9 40 (1010) ∈ pm_ws := List.mem_filter.mpr ⟨List.mem_append_right _ (List.mem_of_getElem? (i := 658) (by decide +kernel)), by decide +kernel⟩
theorem wd_662 : Cond.code yX9_putMaster cX9_putMaster 6 none ∈ pm_ws := List.mem_filter.mpr ⟨List.mem_append_right _ (List.mem_of_getElem? (i := 662) (by decide +kernel)), by decide +kernel⟩
theorem wd_661 : Cond.instanceMethod yX9_putMaster ∈ pm_ws := List.mem_filter.mpr ⟨List.mem_append_right _ (List.mem_of_getElem? (i := 661) (by decide +kernel)), by decide +kernel⟩
theorem wp_13 : Cond.selects RX9 yX9_putMaster yX9_putMaster ∈ pm_ws := List.mem_filter.mpr ⟨List.mem_append_left _ (List.mem_of_getElem? (i := 13) (by decide +kernel)), by decide +kernel⟩
theorem wd_659 : Cond.methodLink RX9 42 yX9_putMaster ∈ pm_ws := List.mem_filter.mpr ⟨List.mem_append_right _ (List.mem_of_getElem? (i := 659) (by decide +kernel)), by decide +kernel⟩
theorem wd_651 : Cond.constantLong RX9 46 (1000) ∈ pm_ws := List.mem_filter.mpr ⟨List.mem_append_right _ (List.mem_of_getElem? (i := 651) (by decide +kernel)), by decide +kernel⟩
theorem wd_663 : Cond.constantLong RX9 48 (1030) ∈ pm_ws := List.mem_filter.mpr ⟨List.mem_append_right _ (List.mem_of_getElem? (i := 663) (by decide +kernel)), by decide +kernel⟩
theorem wd_664 : Cond.constantLong RX9 50 (995) ∈ pm_ws := List.mem_filter.mpr ⟨List.mem_append_right _ (List.mem_of_getElem? (i := 664) (by decide +kernel)), by decide +kernel⟩
theorem wd_665 : Cond.constantLong RX9 52 (1005) ∈ pm_ws := List.mem_filter.mpr ⟨List.mem_append_right _ (List.mem_of_getElem? (i := 665) (by decide +kernel)), by decide +kernel⟩
theorem wd_666 : Cond.constantLong RX9 54 (2000) ∈ pm_ws := List.mem_filter.mpr ⟨List.mem_append_right _ (List.mem_of_getElem? (i := 666) (by decide +kernel)), by decide +kernel⟩
theorem wd_667 : Cond.constantLong RX9 56 (2010) ∈ pm_ws := List.mem_filter.mpr ⟨List.mem_append_right _ (List.mem_of_getElem? (i := 667) (by decide +kernel)), by decide +kernel⟩
theorem wd_668 : Cond.constantLong RX9 58 (1500) ∈ pm_ws := List.mem_filter.mpr ⟨List.mem_append_right _ (List.mem_of_getElem? (i := 668) (by decide +kernel)), by decide +kernel⟩
theorem wd_652 : Cond.constantLong RX9 60 (100) ∈ pm_ws := List.mem_filter.mpr ⟨List.mem_append_right _ (List.mem_of_getElem? (i := 652) (by decide +kernel)), by decide +kernel⟩
theorem wd_656 : Cond.code yX9_putLeap cX9_putLeap 9 none ∈ pm_ws := List.mem_filter.mpr ⟨List.mem_append_right _ (List.mem_of_getElem? (i := 656) (by decide +kernel)), by decide +kernel⟩
theorem wd_655 : Cond.instanceMethod yX9_putLeap ∈ pm_ws := List.mem_filter.mpr ⟨List.mem_append_right _ (List.mem_of_getElem? (i := 655) (by decide +kernel)), by decide +kernel⟩
theorem wp_12 : Cond.selects RX9 yX9_putLeap yX9_putLeap ∈ pm_ws := List.mem_filter.mpr ⟨List.mem_append_left _ (List.mem_of_getElem? (i := 12) (by decide +kernel)), by decide +kernel⟩
theorem wd_653 : Cond.methodLink RX9 62 yX9_putLeap ∈ pm_ws := List.mem_filter.mpr ⟨List.mem_append_right _ (List.mem_of_getElem? (i := 653) (by decide +kernel)), by decide +kernel⟩
theorem wd_672 : Cond.code yX9_take cX9_take 2 none ∈ pm_ws := List.mem_filter.mpr ⟨List.mem_append_right _ (List.mem_of_getElem? (i := 672) (by decide +kernel)), by decide +kernel⟩
theorem wd_671 : Cond.instanceMethod yX9_take ∈ pm_ws := List.mem_filter.mpr ⟨List.mem_append_right _ (List.mem_of_getElem? (i := 671) (by decide +kernel)), by decide +kernel⟩
theorem wp_14 : Cond.selects RX9 yX9_take yX9_take ∈ pm_ws := List.mem_filter.mpr ⟨List.mem_append_left _ (List.mem_of_getElem? (i := 14) (by decide +kernel)), by decide +kernel⟩
theorem wd_669 : Cond.methodLink RX9 66 yX9_take ∈ pm_ws := List.mem_filter.mpr ⟨List.mem_append_right _ (List.mem_of_getElem? (i := 669) (by decide +kernel)), by decide +kernel⟩
theorem wd_675 : Cond.fieldLink RX9 69 "DoubtTimeModel" "changes" "I" ∈ pm_ws := List.mem_filter.mpr ⟨List.mem_append_right _ (List.mem_of_getElem? (i := 675) (by decide +kernel)), by decide +kernel⟩
theorem wd_678 : Cond.fieldLink RX9 73 "DoubtTimeModel" "at" "I" ∈ pm_ws := List.mem_filter.mpr ⟨List.mem_append_right _ (List.mem_of_getElem? (i := 678) (by decide +kernel)), by decide +kernel⟩
theorem wd_677 : Cond.fieldLink RX9 76 "DoubtTimeModel" "letters" "I" ∈ pm_ws := List.mem_filter.mpr ⟨List.mem_append_right _ (List.mem_of_getElem? (i := 677) (by decide +kernel)), by decide +kernel⟩
theorem wd_748 : Cond.constantLong RX9 79 (48) ∈ pm_ws := List.mem_filter.mpr ⟨List.mem_append_right _ (List.mem_of_getElem? (i := 748) (by decide +kernel)), by decide +kernel⟩
theorem wd_749 : Cond.constantLong RX9 81 (57) ∈ pm_ws := List.mem_filter.mpr ⟨List.mem_append_right _ (List.mem_of_getElem? (i := 749) (by decide +kernel)), by decide +kernel⟩
theorem wd_727 : Cond.code yX9_within cX9_within 6 (some .boolean) ∈ pm_ws := List.mem_filter.mpr ⟨List.mem_append_right _ (List.mem_of_getElem? (i := 727) (by decide +kernel)), by decide +kernel⟩
theorem wd_726 : Cond.static yX9_within ∈ pm_ws := List.mem_filter.mpr ⟨List.mem_append_right _ (List.mem_of_getElem? (i := 726) (by decide +kernel)), by decide +kernel⟩
theorem wd_725 : Cond.methodLink RX9 83 yX9_within ∈ pm_ws := List.mem_filter.mpr ⟨List.mem_append_right _ (List.mem_of_getElem? (i := 725) (by decide +kernel)), by decide +kernel⟩
theorem wd_750 : Cond.constantLong RX9 87 (9223372036854775807) ∈ pm_ws := List.mem_filter.mpr ⟨List.mem_append_right _ (List.mem_of_getElem? (i := 750) (by decide +kernel)), by decide +kernel⟩
theorem wd_751 : Cond.constantLong RX9 89 (10) ∈ pm_ws := List.mem_filter.mpr ⟨List.mem_append_right _ (List.mem_of_getElem? (i := 751) (by decide +kernel)), by decide +kernel⟩
theorem wd_752 : Cond.constantLong RX9 91 (-1) ∈ pm_ws := List.mem_filter.mpr ⟨List.mem_append_right _ (List.mem_of_getElem? (i := 752) (by decide +kernel)), by decide +kernel⟩
theorem wd_747 : Cond.code yX9_takeNumber cX9_takeNumber 7 (some .long) ∈ pm_ws := List.mem_filter.mpr ⟨List.mem_append_right _ (List.mem_of_getElem? (i := 747) (by decide +kernel)), by decide +kernel⟩
theorem wd_746 : Cond.instanceMethod yX9_takeNumber ∈ pm_ws := List.mem_filter.mpr ⟨List.mem_append_right _ (List.mem_of_getElem? (i := 746) (by decide +kernel)), by decide +kernel⟩
theorem wp_17 : Cond.selects RX9 yX9_takeNumber yX9_takeNumber ∈ pm_ws := List.mem_filter.mpr ⟨List.mem_append_left _ (List.mem_of_getElem? (i := 17) (by decide +kernel)), by decide +kernel⟩
theorem wd_744 : Cond.methodLink RX9 93 yX9_takeNumber ∈ pm_ws := List.mem_filter.mpr ⟨List.mem_append_right _ (List.mem_of_getElem? (i := 744) (by decide +kernel)), by decide +kernel⟩
theorem wd_761 : Cond.code yX9_takeSign cX9_takeSign 3 (some .boolean) ∈ pm_ws := List.mem_filter.mpr ⟨List.mem_append_right _ (List.mem_of_getElem? (i := 761) (by decide +kernel)), by decide +kernel⟩
theorem wd_760 : Cond.instanceMethod yX9_takeSign ∈ pm_ws := List.mem_filter.mpr ⟨List.mem_append_right _ (List.mem_of_getElem? (i := 760) (by decide +kernel)), by decide +kernel⟩
theorem wp_19 : Cond.selects RX9 yX9_takeSign yX9_takeSign ∈ pm_ws := List.mem_filter.mpr ⟨List.mem_append_left _ (List.mem_of_getElem? (i := 19) (by decide +kernel)), by decide +kernel⟩
theorem wd_758 : Cond.methodLink RX9 97 yX9_takeSign ∈ pm_ws := List.mem_filter.mpr ⟨List.mem_append_right _ (List.mem_of_getElem? (i := 758) (by decide +kernel)), by decide +kernel⟩
theorem wd_762 : Cond.constantLong RX9 101 (5) ∈ pm_ws := List.mem_filter.mpr ⟨List.mem_append_right _ (List.mem_of_getElem? (i := 762) (by decide +kernel)), by decide +kernel⟩
theorem wd_763 : Cond.constantLong RX9 103 (1000000000000) ∈ pm_ws := List.mem_filter.mpr ⟨List.mem_append_right _ (List.mem_of_getElem? (i := 763) (by decide +kernel)), by decide +kernel⟩
theorem wd_768 : Cond.constantLong RX9 105 (1000000000) ∈ pm_ws := List.mem_filter.mpr ⟨List.mem_append_right _ (List.mem_of_getElem? (i := 768) (by decide +kernel)), by decide +kernel⟩
theorem wd_753 : Cond.constantLong RX9 107 (999999) ∈ pm_ws := List.mem_filter.mpr ⟨List.mem_append_right _ (List.mem_of_getElem? (i := 753) (by decide +kernel)), by decide +kernel⟩
theorem wd_757 : Cond.code yX9_readMaster cX9_readMaster 9 (some .boolean) ∈ pm_ws := List.mem_filter.mpr ⟨List.mem_append_right _ (List.mem_of_getElem? (i := 757) (by decide +kernel)), by decide +kernel⟩
theorem wd_756 : Cond.instanceMethod yX9_readMaster ∈ pm_ws := List.mem_filter.mpr ⟨List.mem_append_right _ (List.mem_of_getElem? (i := 756) (by decide +kernel)), by decide +kernel⟩
theorem wp_18 : Cond.selects RX9 yX9_readMaster yX9_readMaster ∈ pm_ws := List.mem_filter.mpr ⟨List.mem_append_left _ (List.mem_of_getElem? (i := 18) (by decide +kernel)), by decide +kernel⟩
theorem wd_754 : Cond.methodLink RX9 109 yX9_readMaster ∈ pm_ws := List.mem_filter.mpr ⟨List.mem_append_right _ (List.mem_of_getElem? (i := 754) (by decide +kernel)), by decide +kernel⟩
theorem wd_767 : Cond.code yX9_readLeap cX9_readLeap 12 (some .boolean) ∈ pm_ws := List.mem_filter.mpr ⟨List.mem_append_right _ (List.mem_of_getElem? (i := 767) (by decide +kernel)), by decide +kernel⟩
theorem wd_766 : Cond.instanceMethod yX9_readLeap ∈ pm_ws := List.mem_filter.mpr ⟨List.mem_append_right _ (List.mem_of_getElem? (i := 766) (by decide +kernel)), by decide +kernel⟩
theorem wp_20 : Cond.selects RX9 yX9_readLeap yX9_readLeap ∈ pm_ws := List.mem_filter.mpr ⟨List.mem_append_left _ (List.mem_of_getElem? (i := 20) (by decide +kernel)), by decide +kernel⟩
theorem wd_764 : Cond.methodLink RX9 113 yX9_readLeap ∈ pm_ws := List.mem_filter.mpr ⟨List.mem_append_right _ (List.mem_of_getElem? (i := 764) (by decide +kernel)), by decide +kernel⟩
theorem wd_743 : Cond.code yX9_readItem cX9_readItem 5 (some .boolean) ∈ pm_ws := List.mem_filter.mpr ⟨List.mem_append_right _ (List.mem_of_getElem? (i := 743) (by decide +kernel)), by decide +kernel⟩
theorem wd_742 : Cond.instanceMethod yX9_readItem ∈ pm_ws := List.mem_filter.mpr ⟨List.mem_append_right _ (List.mem_of_getElem? (i := 742) (by decide +kernel)), by decide +kernel⟩
theorem wp_16 : Cond.selects RX9 yX9_readItem yX9_readItem ∈ pm_ws := List.mem_filter.mpr ⟨List.mem_append_left _ (List.mem_of_getElem? (i := 16) (by decide +kernel)), by decide +kernel⟩
theorem wd_740 : Cond.methodLink RX9 116 yX9_readItem ∈ pm_ws := List.mem_filter.mpr ⟨List.mem_append_right _ (List.mem_of_getElem? (i := 740) (by decide +kernel)), by decide +kernel⟩
theorem wd_723 : Cond.constantLong RX9 119 (32) ∈ pm_ws := List.mem_filter.mpr ⟨List.mem_append_right _ (List.mem_of_getElem? (i := 723) (by decide +kernel)), by decide +kernel⟩
theorem wd_724 : Cond.constantLong RX9 121 (126) ∈ pm_ws := List.mem_filter.mpr ⟨List.mem_append_right _ (List.mem_of_getElem? (i := 724) (by decide +kernel)), by decide +kernel⟩
theorem wd_739 : Cond.code yX9_readText cX9_readText 2 (some .int) ∈ pm_ws := List.mem_filter.mpr ⟨List.mem_append_right _ (List.mem_of_getElem? (i := 739) (by decide +kernel)), by decide +kernel⟩
theorem wd_738 : Cond.instanceMethod yX9_readText ∈ pm_ws := List.mem_filter.mpr ⟨List.mem_append_right _ (List.mem_of_getElem? (i := 738) (by decide +kernel)), by decide +kernel⟩
theorem wp_15 : Cond.selects RX9 yX9_readText yX9_readText ∈ pm_ws := List.mem_filter.mpr ⟨List.mem_append_left _ (List.mem_of_getElem? (i := 15) (by decide +kernel)), by decide +kernel⟩
theorem wd_736 : Cond.methodLink RX9 123 yX9_readText ∈ pm_ws := List.mem_filter.mpr ⟨List.mem_append_right _ (List.mem_of_getElem? (i := 736) (by decide +kernel)), by decide +kernel⟩
theorem wd_776 : Cond.code yX9_heardMany cX9_heardMany 3 (some .int) ∈ pm_ws := List.mem_filter.mpr ⟨List.mem_append_right _ (List.mem_of_getElem? (i := 776) (by decide +kernel)), by decide +kernel⟩
theorem wd_775 : Cond.instanceMethod yX9_heardMany ∈ pm_ws := List.mem_filter.mpr ⟨List.mem_append_right _ (List.mem_of_getElem? (i := 775) (by decide +kernel)), by decide +kernel⟩
theorem wp_21 : Cond.selects RX9 yX9_heardMany yX9_heardMany ∈ pm_ws := List.mem_filter.mpr ⟨List.mem_append_left _ (List.mem_of_getElem? (i := 21) (by decide +kernel)), by decide +kernel⟩
theorem wd_773 : Cond.methodLink RX9 127 yX9_heardMany ∈ pm_ws := List.mem_filter.mpr ⟨List.mem_append_right _ (List.mem_of_getElem? (i := 773) (by decide +kernel)), by decide +kernel⟩
theorem wd_784 : Cond.code yX9_isStruck cX9_isStruck 2 (some .boolean) ∈ pm_ws := List.mem_filter.mpr ⟨List.mem_append_right _ (List.mem_of_getElem? (i := 784) (by decide +kernel)), by decide +kernel⟩
theorem wd_783 : Cond.instanceMethod yX9_isStruck ∈ pm_ws := List.mem_filter.mpr ⟨List.mem_append_right _ (List.mem_of_getElem? (i := 783) (by decide +kernel)), by decide +kernel⟩
theorem wp_23 : Cond.selects RX9 yX9_isStruck yX9_isStruck ∈ pm_ws := List.mem_filter.mpr ⟨List.mem_append_left _ (List.mem_of_getElem? (i := 23) (by decide +kernel)), by decide +kernel⟩
theorem wd_781 : Cond.methodLink RX9 130 yX9_isStruck ∈ pm_ws := List.mem_filter.mpr ⟨List.mem_append_right _ (List.mem_of_getElem? (i := 781) (by decide +kernel)), by decide +kernel⟩
theorem wd_780 : Cond.code yX9_isHeard cX9_isHeard 2 (some .boolean) ∈ pm_ws := List.mem_filter.mpr ⟨List.mem_append_right _ (List.mem_of_getElem? (i := 780) (by decide +kernel)), by decide +kernel⟩
theorem wd_779 : Cond.instanceMethod yX9_isHeard ∈ pm_ws := List.mem_filter.mpr ⟨List.mem_append_right _ (List.mem_of_getElem? (i := 779) (by decide +kernel)), by decide +kernel⟩
theorem wp_22 : Cond.selects RX9 yX9_isHeard yX9_isHeard ∈ pm_ws := List.mem_filter.mpr ⟨List.mem_append_left _ (List.mem_of_getElem? (i := 22) (by decide +kernel)), by decide +kernel⟩
theorem wd_777 : Cond.methodLink RX9 133 yX9_isHeard ∈ pm_ws := List.mem_filter.mpr ⟨List.mem_append_right _ (List.mem_of_getElem? (i := 777) (by decide +kernel)), by decide +kernel⟩
theorem wd_795 : Cond.code yX9_isMaster cX9_isMaster 1 (some .boolean) ∈ pm_ws := List.mem_filter.mpr ⟨List.mem_append_right _ (List.mem_of_getElem? (i := 795) (by decide +kernel)), by decide +kernel⟩
theorem wd_794 : Cond.static yX9_isMaster ∈ pm_ws := List.mem_filter.mpr ⟨List.mem_append_right _ (List.mem_of_getElem? (i := 794) (by decide +kernel)), by decide +kernel⟩
theorem wd_793 : Cond.methodLink RX9 136 yX9_isMaster ∈ pm_ws := List.mem_filter.mpr ⟨List.mem_append_right _ (List.mem_of_getElem? (i := 793) (by decide +kernel)), by decide +kernel⟩
theorem wd_799 : Cond.code yX9_note cX9_note 2 none ∈ pm_ws := List.mem_filter.mpr ⟨List.mem_append_right _ (List.mem_of_getElem? (i := 799) (by decide +kernel)), by decide +kernel⟩
theorem wd_798 : Cond.instanceMethod yX9_note ∈ pm_ws := List.mem_filter.mpr ⟨List.mem_append_right _ (List.mem_of_getElem? (i := 798) (by decide +kernel)), by decide +kernel⟩
theorem wp_24 : Cond.selects RX9 yX9_note yX9_note ∈ pm_ws := List.mem_filter.mpr ⟨List.mem_append_left _ (List.mem_of_getElem? (i := 24) (by decide +kernel)), by decide +kernel⟩
theorem wd_796 : Cond.methodLink RX9 139 yX9_note ∈ pm_ws := List.mem_filter.mpr ⟨List.mem_append_right _ (List.mem_of_getElem? (i := 796) (by decide +kernel)), by decide +kernel⟩
theorem wd_811 : Cond.code yX9_liarsNow cX9_liarsNow 4 (some .int) ∈ pm_ws := List.mem_filter.mpr ⟨List.mem_append_right _ (List.mem_of_getElem? (i := 811) (by decide +kernel)), by decide +kernel⟩
theorem wd_810 : Cond.instanceMethod yX9_liarsNow ∈ pm_ws := List.mem_filter.mpr ⟨List.mem_append_right _ (List.mem_of_getElem? (i := 810) (by decide +kernel)), by decide +kernel⟩
theorem wp_25 : Cond.selects RX9 yX9_liarsNow yX9_liarsNow ∈ pm_ws := List.mem_filter.mpr ⟨List.mem_append_left _ (List.mem_of_getElem? (i := 25) (by decide +kernel)), by decide +kernel⟩
theorem wd_808 : Cond.methodLink RX9 142 yX9_liarsNow ∈ pm_ws := List.mem_filter.mpr ⟨List.mem_append_right _ (List.mem_of_getElem? (i := 808) (by decide +kernel)), by decide +kernel⟩
theorem wd_831 : Cond.code yX9_ones cX9_ones 3 (some .int) ∈ pm_ws := List.mem_filter.mpr ⟨List.mem_append_right _ (List.mem_of_getElem? (i := 831) (by decide +kernel)), by decide +kernel⟩
theorem wd_830 : Cond.static yX9_ones ∈ pm_ws := List.mem_filter.mpr ⟨List.mem_append_right _ (List.mem_of_getElem? (i := 830) (by decide +kernel)), by decide +kernel⟩
theorem wd_829 : Cond.methodLink RX9 145 yX9_ones ∈ pm_ws := List.mem_filter.mpr ⟨List.mem_append_right _ (List.mem_of_getElem? (i := 829) (by decide +kernel)), by decide +kernel⟩
theorem wd_840 : Cond.constantLong RX9 149 (5000) ∈ pm_ws := List.mem_filter.mpr ⟨List.mem_append_right _ (List.mem_of_getElem? (i := 840) (by decide +kernel)), by decide +kernel⟩
theorem wd_844 : Cond.code yX9_closeOpen cX9_closeOpen 5 (some .int) ∈ pm_ws := List.mem_filter.mpr ⟨List.mem_append_right _ (List.mem_of_getElem? (i := 844) (by decide +kernel)), by decide +kernel⟩
theorem wd_843 : Cond.instanceMethod yX9_closeOpen ∈ pm_ws := List.mem_filter.mpr ⟨List.mem_append_right _ (List.mem_of_getElem? (i := 843) (by decide +kernel)), by decide +kernel⟩
theorem wp_30 : Cond.selects RX9 yX9_closeOpen yX9_closeOpen ∈ pm_ws := List.mem_filter.mpr ⟨List.mem_append_left _ (List.mem_of_getElem? (i := 30) (by decide +kernel)), by decide +kernel⟩
theorem wd_841 : Cond.methodLink RX9 151 yX9_closeOpen ∈ pm_ws := List.mem_filter.mpr ⟨List.mem_append_right _ (List.mem_of_getElem? (i := 841) (by decide +kernel)), by decide +kernel⟩
theorem wd_848 : Cond.code yX9_openMany cX9_openMany 3 (some .int) ∈ pm_ws := List.mem_filter.mpr ⟨List.mem_append_right _ (List.mem_of_getElem? (i := 848) (by decide +kernel)), by decide +kernel⟩
theorem wd_847 : Cond.instanceMethod yX9_openMany ∈ pm_ws := List.mem_filter.mpr ⟨List.mem_append_right _ (List.mem_of_getElem? (i := 847) (by decide +kernel)), by decide +kernel⟩
theorem wp_31 : Cond.selects RX9 yX9_openMany yX9_openMany ∈ pm_ws := List.mem_filter.mpr ⟨List.mem_append_left _ (List.mem_of_getElem? (i := 31) (by decide +kernel)), by decide +kernel⟩
theorem wd_845 : Cond.methodLink RX9 154 yX9_openMany ∈ pm_ws := List.mem_filter.mpr ⟨List.mem_append_right _ (List.mem_of_getElem? (i := 845) (by decide +kernel)), by decide +kernel⟩
theorem wd_815 : Cond.code yX9_find cX9_find 6 none ∈ pm_ws := List.mem_filter.mpr ⟨List.mem_append_right _ (List.mem_of_getElem? (i := 815) (by decide +kernel)), by decide +kernel⟩
theorem wd_814 : Cond.instanceMethod yX9_find ∈ pm_ws := List.mem_filter.mpr ⟨List.mem_append_right _ (List.mem_of_getElem? (i := 814) (by decide +kernel)), by decide +kernel⟩
theorem wp_26 : Cond.selects RX9 yX9_find yX9_find ∈ pm_ws := List.mem_filter.mpr ⟨List.mem_append_left _ (List.mem_of_getElem? (i := 26) (by decide +kernel)), by decide +kernel⟩
theorem wd_812 : Cond.methodLink RX9 157 yX9_find ∈ pm_ws := List.mem_filter.mpr ⟨List.mem_append_right _ (List.mem_of_getElem? (i := 812) (by decide +kernel)), by decide +kernel⟩
theorem wd_849 : Cond.constantLong RX9 161 (-4) ∈ pm_ws := List.mem_filter.mpr ⟨List.mem_append_right _ (List.mem_of_getElem? (i := 849) (by decide +kernel)), by decide +kernel⟩
theorem wd_853 : Cond.code yX9_isGood cX9_isGood 1 (some .boolean) ∈ pm_ws := List.mem_filter.mpr ⟨List.mem_append_right _ (List.mem_of_getElem? (i := 853) (by decide +kernel)), by decide +kernel⟩
theorem wd_852 : Cond.instanceMethod yX9_isGood ∈ pm_ws := List.mem_filter.mpr ⟨List.mem_append_right _ (List.mem_of_getElem? (i := 852) (by decide +kernel)), by decide +kernel⟩
theorem wp_32 : Cond.selects RX9 yX9_isGood yX9_isGood ∈ pm_ws := List.mem_filter.mpr ⟨List.mem_append_left _ (List.mem_of_getElem? (i := 32) (by decide +kernel)), by decide +kernel⟩
theorem wd_850 : Cond.methodLink RX9 163 yX9_isGood ∈ pm_ws := List.mem_filter.mpr ⟨List.mem_append_right _ (List.mem_of_getElem? (i := 850) (by decide +kernel)), by decide +kernel⟩
theorem wd_686 : Cond.fieldLink RX9 166 "DoubtTimeModel" "rowBegin" "J" ∈ pm_ws := List.mem_filter.mpr ⟨List.mem_append_right _ (List.mem_of_getElem? (i := 686) (by decide +kernel)), by decide +kernel⟩
theorem wd_820 : Cond.constantLong RX9 170 (1000000) ∈ pm_ws := List.mem_filter.mpr ⟨List.mem_append_right _ (List.mem_of_getElem? (i := 820) (by decide +kernel)), by decide +kernel⟩
theorem wd_684 : Cond.fieldLink RX9 172 "DoubtTimeModel" "spans" "I" ∈ pm_ws := List.mem_filter.mpr ⟨List.mem_append_right _ (List.mem_of_getElem? (i := 684) (by decide +kernel)), by decide +kernel⟩
theorem wd_819 : Cond.code yX9_spanOf cX9_spanOf 10 (some .long) ∈ pm_ws := List.mem_filter.mpr ⟨List.mem_append_right _ (List.mem_of_getElem? (i := 819) (by decide +kernel)), by decide +kernel⟩
theorem wd_818 : Cond.instanceMethod yX9_spanOf ∈ pm_ws := List.mem_filter.mpr ⟨List.mem_append_right _ (List.mem_of_getElem? (i := 818) (by decide +kernel)), by decide +kernel⟩
theorem wp_27 : Cond.selects RX9 yX9_spanOf yX9_spanOf ∈ pm_ws := List.mem_filter.mpr ⟨List.mem_append_left _ (List.mem_of_getElem? (i := 27) (by decide +kernel)), by decide +kernel⟩
theorem wd_816 : Cond.methodLink RX9 175 yX9_spanOf ∈ pm_ws := List.mem_filter.mpr ⟨List.mem_append_right _ (List.mem_of_getElem? (i := 816) (by decide +kernel)), by decide +kernel⟩
theorem wd_685 : Cond.fieldLink RX9 179 "DoubtTimeModel" "most" "I" ∈ pm_ws := List.mem_filter.mpr ⟨List.mem_append_right _ (List.mem_of_getElem? (i := 685) (by decide +kernel)), by decide +kernel⟩
theorem wd_824 : Cond.code yX9_manyAt cX9_manyAt 5 (some .int) ∈ pm_ws := List.mem_filter.mpr ⟨List.mem_append_right _ (List.mem_of_getElem? (i := 824) (by decide +kernel)), by decide +kernel⟩
theorem wd_823 : Cond.instanceMethod yX9_manyAt ∈ pm_ws := List.mem_filter.mpr ⟨List.mem_append_right _ (List.mem_of_getElem? (i := 823) (by decide +kernel)), by decide +kernel⟩
theorem wp_28 : Cond.selects RX9 yX9_manyAt yX9_manyAt ∈ pm_ws := List.mem_filter.mpr ⟨List.mem_append_left _ (List.mem_of_getElem? (i := 28) (by decide +kernel)), by decide +kernel⟩
theorem wd_821 : Cond.methodLink RX9 182 yX9_manyAt ∈ pm_ws := List.mem_filter.mpr ⟨List.mem_append_right _ (List.mem_of_getElem? (i := 821) (by decide +kernel)), by decide +kernel⟩
theorem wd_828 : Cond.code yX9_sameTo cX9_sameTo 8 (some .long) ∈ pm_ws := List.mem_filter.mpr ⟨List.mem_append_right _ (List.mem_of_getElem? (i := 828) (by decide +kernel)), by decide +kernel⟩
theorem wd_827 : Cond.instanceMethod yX9_sameTo ∈ pm_ws := List.mem_filter.mpr ⟨List.mem_append_right _ (List.mem_of_getElem? (i := 827) (by decide +kernel)), by decide +kernel⟩
theorem wp_29 : Cond.selects RX9 yX9_sameTo yX9_sameTo ∈ pm_ws := List.mem_filter.mpr ⟨List.mem_append_left _ (List.mem_of_getElem? (i := 29) (by decide +kernel)), by decide +kernel⟩
theorem wd_825 : Cond.methodLink RX9 186 yX9_sameTo ∈ pm_ws := List.mem_filter.mpr ⟨List.mem_append_right _ (List.mem_of_getElem? (i := 825) (by decide +kernel)), by decide +kernel⟩
theorem wd_687 : Cond.fieldLink RX9 190 "DoubtTimeModel" "rowEnd" "J" ∈ pm_ws := List.mem_filter.mpr ⟨List.mem_append_right _ (List.mem_of_getElem? (i := 687) (by decide +kernel)), by decide +kernel⟩
theorem wd_858 : Cond.constantLong RX9 193 (-2000000000000) ∈ pm_ws := List.mem_filter.mpr ⟨List.mem_append_right _ (List.mem_of_getElem? (i := 858) (by decide +kernel)), by decide +kernel⟩
theorem wd_859 : Cond.constantLong RX9 195 (-2000000000001) ∈ pm_ws := List.mem_filter.mpr ⟨List.mem_append_right _ (List.mem_of_getElem? (i := 859) (by decide +kernel)), by decide +kernel⟩
theorem wd_872 : Cond.constantLong RX9 197 (2000000000000) ∈ pm_ws := List.mem_filter.mpr ⟨List.mem_append_right _ (List.mem_of_getElem? (i := 872) (by decide +kernel)), by decide +kernel⟩
theorem wd_881 : Cond.constantLong RX9 199 (16) ∈ pm_ws := List.mem_filter.mpr ⟨List.mem_append_right _ (List.mem_of_getElem? (i := 881) (by decide +kernel)), by decide +kernel⟩
theorem wd_885 : Cond.code yX9_latest cX9_latest 1 (some .long) ∈ pm_ws := List.mem_filter.mpr ⟨List.mem_append_right _ (List.mem_of_getElem? (i := 885) (by decide +kernel)), by decide +kernel⟩
theorem wd_884 : Cond.instanceMethod yX9_latest ∈ pm_ws := List.mem_filter.mpr ⟨List.mem_append_right _ (List.mem_of_getElem? (i := 884) (by decide +kernel)), by decide +kernel⟩
theorem wp_33 : Cond.selects RX9 yX9_latest yX9_latest ∈ pm_ws := List.mem_filter.mpr ⟨List.mem_append_left _ (List.mem_of_getElem? (i := 33) (by decide +kernel)), by decide +kernel⟩
theorem wd_882 : Cond.methodLink RX9 201 yX9_latest ∈ pm_ws := List.mem_filter.mpr ⟨List.mem_append_right _ (List.mem_of_getElem? (i := 882) (by decide +kernel)), by decide +kernel⟩
theorem wd_893 : Cond.code yX9_isCommit cX9_isCommit 2 (some .boolean) ∈ pm_ws := List.mem_filter.mpr ⟨List.mem_append_right _ (List.mem_of_getElem? (i := 893) (by decide +kernel)), by decide +kernel⟩
theorem wd_892 : Cond.instanceMethod yX9_isCommit ∈ pm_ws := List.mem_filter.mpr ⟨List.mem_append_right _ (List.mem_of_getElem? (i := 892) (by decide +kernel)), by decide +kernel⟩
theorem wp_34 : Cond.selects RX9 yX9_isCommit yX9_isCommit ∈ pm_ws := List.mem_filter.mpr ⟨List.mem_append_left _ (List.mem_of_getElem? (i := 34) (by decide +kernel)), by decide +kernel⟩
theorem wd_890 : Cond.methodLink RX9 204 yX9_isCommit ∈ pm_ws := List.mem_filter.mpr ⟨List.mem_append_right _ (List.mem_of_getElem? (i := 890) (by decide +kernel)), by decide +kernel⟩
theorem wd_894 : Cond.constantLong RX9 207 (4) ∈ pm_ws := List.mem_filter.mpr ⟨List.mem_append_right _ (List.mem_of_getElem? (i := 894) (by decide +kernel)), by decide +kernel⟩
theorem wd_907 : Cond.constantLong RX9 209 (8000000000000) ∈ pm_ws := List.mem_filter.mpr ⟨List.mem_append_right _ (List.mem_of_getElem? (i := 907) (by decide +kernel)), by decide +kernel⟩
theorem wd_906 : Cond.code yX9_safeNow cX9_safeNow 5 (some .long) ∈ pm_ws := List.mem_filter.mpr ⟨List.mem_append_right _ (List.mem_of_getElem? (i := 906) (by decide +kernel)), by decide +kernel⟩
theorem wd_905 : Cond.instanceMethod yX9_safeNow ∈ pm_ws := List.mem_filter.mpr ⟨List.mem_append_right _ (List.mem_of_getElem? (i := 905) (by decide +kernel)), by decide +kernel⟩
theorem wp_35 : Cond.selects RX9 yX9_safeNow yX9_safeNow ∈ pm_ws := List.mem_filter.mpr ⟨List.mem_append_left _ (List.mem_of_getElem? (i := 35) (by decide +kernel)), by decide +kernel⟩
theorem wd_903 : Cond.methodLink RX9 211 yX9_safeNow ∈ pm_ws := List.mem_filter.mpr ⟨List.mem_append_right _ (List.mem_of_getElem? (i := 903) (by decide +kernel)), by decide +kernel⟩
theorem wd_920 : Cond.constantLong RX9 214 (3) ∈ pm_ws := List.mem_filter.mpr ⟨List.mem_append_right _ (List.mem_of_getElem? (i := 920) (by decide +kernel)), by decide +kernel⟩
theorem wd_928 : Cond.code yX9_smear cX9_smear 7 (some .long) ∈ pm_ws := List.mem_filter.mpr ⟨List.mem_append_right _ (List.mem_of_getElem? (i := 928) (by decide +kernel)), by decide +kernel⟩
theorem wd_927 : Cond.instanceMethod yX9_smear ∈ pm_ws := List.mem_filter.mpr ⟨List.mem_append_right _ (List.mem_of_getElem? (i := 927) (by decide +kernel)), by decide +kernel⟩
theorem wp_36 : Cond.selects RX9 yX9_smear yX9_smear ∈ pm_ws := List.mem_filter.mpr ⟨List.mem_append_left _ (List.mem_of_getElem? (i := 36) (by decide +kernel)), by decide +kernel⟩
theorem wd_925 : Cond.methodLink RX9 216 yX9_smear ∈ pm_ws := List.mem_filter.mpr ⟨List.mem_append_right _ (List.mem_of_getElem? (i := 925) (by decide +kernel)), by decide +kernel⟩
theorem wd_933 : Cond.constantLong RX9 219 (2) ∈ pm_ws := List.mem_filter.mpr ⟨List.mem_append_right _ (List.mem_of_getElem? (i := 933) (by decide +kernel)), by decide +kernel⟩
theorem wd_386 : Cond.constant RJ6 265 (1431655765) ∈ pm_ws := List.mem_filter.mpr ⟨List.mem_append_right _ (List.mem_of_getElem? (i := 386) (by decide +kernel)), by decide +kernel⟩
theorem wd_387 : Cond.constant RJ6 266 (858993459) ∈ pm_ws := List.mem_filter.mpr ⟨List.mem_append_right _ (List.mem_of_getElem? (i := 387) (by decide +kernel)), by decide +kernel⟩
theorem wd_388 : Cond.constant RJ6 267 (252645135) ∈ pm_ws := List.mem_filter.mpr ⟨List.mem_append_right _ (List.mem_of_getElem? (i := 388) (by decide +kernel)), by decide +kernel⟩
theorem wd_939 : Cond.fieldLink RJ0 9 "java/lang/String" "value" "[B" ∈ pm_ws := List.mem_filter.mpr ⟨List.mem_append_right _ (List.mem_of_getElem? (i := 939) (by decide +kernel)), by decide +kernel⟩
theorem wd_222 : Cond.code yJ0_coder_7d493 cJ0_coder_7d493 1 (some .byte) ∈ pm_ws := List.mem_filter.mpr ⟨List.mem_append_right _ (List.mem_of_getElem? (i := 222) (by decide +kernel)), by decide +kernel⟩
theorem wd_220 : Cond.instanceMethod yJ0_coder_7d493 ∈ pm_ws := List.mem_filter.mpr ⟨List.mem_append_right _ (List.mem_of_getElem? (i := 220) (by decide +kernel)), by decide +kernel⟩
theorem wd_221 : Cond.selects RJ0 yJ0_coder_7d493 yJ0_coder_7d493 ∈ pm_ws := List.mem_filter.mpr ⟨List.mem_append_right _ (List.mem_of_getElem? (i := 221) (by decide +kernel)), by decide +kernel⟩
theorem wd_219 : Cond.methodLink RJ0 335 yJ0_coder_7d493 ∈ pm_ws := List.mem_filter.mpr ⟨List.mem_append_right _ (List.mem_of_getElem? (i := 219) (by decide +kernel)), by decide +kernel⟩
theorem wd_232 : Cond.code yJ0_isLatin1_aae02 cJ0_isLatin1_aae02 1 (some .boolean) ∈ pm_ws := List.mem_filter.mpr ⟨List.mem_append_right _ (List.mem_of_getElem? (i := 232) (by decide +kernel)), by decide +kernel⟩
theorem wd_230 : Cond.instanceMethod yJ0_isLatin1_aae02 ∈ pm_ws := List.mem_filter.mpr ⟨List.mem_append_right _ (List.mem_of_getElem? (i := 230) (by decide +kernel)), by decide +kernel⟩
theorem wd_231 : Cond.selects RJ0 yJ0_isLatin1_aae02 yJ0_isLatin1_aae02 ∈ pm_ws := List.mem_filter.mpr ⟨List.mem_append_right _ (List.mem_of_getElem? (i := 231) (by decide +kernel)), by decide +kernel⟩
theorem wd_229 : Cond.methodLink RJ0 492 yJ0_isLatin1_aae02 ∈ pm_ws := List.mem_filter.mpr ⟨List.mem_append_right _ (List.mem_of_getElem? (i := 229) (by decide +kernel)), by decide +kernel⟩
theorem wd_235 : Cond.code yJ1_charAt_3b067 cJ1_charAt_3b067 2 (some .char) ∈ pm_ws := List.mem_filter.mpr ⟨List.mem_append_right _ (List.mem_of_getElem? (i := 235) (by decide +kernel)), by decide +kernel⟩
theorem wd_11 : Cond.initialized RJ1 ∈ pm_ws := List.mem_filter.mpr ⟨List.mem_append_right _ (List.mem_of_getElem? (i := 11) (by decide +kernel)), by decide +kernel⟩
theorem wd_234 : Cond.static yJ1_charAt_3b067 ∈ pm_ws := List.mem_filter.mpr ⟨List.mem_append_right _ (List.mem_of_getElem? (i := 234) (by decide +kernel)), by decide +kernel⟩
theorem wd_233 : Cond.methodLink RJ0 495 yJ1_charAt_3b067 ∈ pm_ws := List.mem_filter.mpr ⟨List.mem_append_right _ (List.mem_of_getElem? (i := 233) (by decide +kernel)), by decide +kernel⟩
theorem wd_223 : Cond.fieldLink RJ0 38 "java/lang/String" "COMPACT_STRINGS" "Z" ∈ pm_ws := List.mem_filter.mpr ⟨List.mem_append_right _ (List.mem_of_getElem? (i := 223) (by decide +kernel)), by decide +kernel⟩
theorem wd_940 : Cond.fieldLink RJ0 15 "java/lang/String" "coder" "B" ∈ pm_ws := List.mem_filter.mpr ⟨List.mem_append_right _ (List.mem_of_getElem? (i := 940) (by decide +kernel)), by decide +kernel⟩
theorem wd_239 : Cond.fieldLink RJ0 1053 "jdk/internal/util/Preconditions" "SIOOBE_FORMATTER" "Ljava/util/function/BiFunction;" ∈ pm_ws := List.mem_filter.mpr ⟨List.mem_append_right _ (List.mem_of_getElem? (i := 239) (by decide +kernel)), by decide +kernel⟩
theorem wd_243 : Cond.code yJ3_checkIndex_8e157 cJ3_checkIndex_8e157 3 (some .int) ∈ pm_ws := List.mem_filter.mpr ⟨List.mem_append_right _ (List.mem_of_getElem? (i := 243) (by decide +kernel)), by decide +kernel⟩
theorem wd_12 : Cond.initialized RJ3 ∈ pm_ws := List.mem_filter.mpr ⟨List.mem_append_right _ (List.mem_of_getElem? (i := 12) (by decide +kernel)), by decide +kernel⟩
theorem wd_242 : Cond.static yJ3_checkIndex_8e157 ∈ pm_ws := List.mem_filter.mpr ⟨List.mem_append_right _ (List.mem_of_getElem? (i := 242) (by decide +kernel)), by decide +kernel⟩
theorem wd_241 : Cond.methodLink RJ0 1059 yJ3_checkIndex_8e157 ∈ pm_ws := List.mem_filter.mpr ⟨List.mem_append_right _ (List.mem_of_getElem? (i := 241) (by decide +kernel)), by decide +kernel⟩
theorem wd_238 : Cond.code yJ0_checkIndex_df160 cJ0_checkIndex_df160 2 none ∈ pm_ws := List.mem_filter.mpr ⟨List.mem_append_right _ (List.mem_of_getElem? (i := 238) (by decide +kernel)), by decide +kernel⟩
theorem wd_237 : Cond.static yJ0_checkIndex_df160 ∈ pm_ws := List.mem_filter.mpr ⟨List.mem_append_right _ (List.mem_of_getElem? (i := 237) (by decide +kernel)), by decide +kernel⟩
theorem wd_236 : Cond.methodLink RJ1 9 yJ0_checkIndex_df160 ∈ pm_ws := List.mem_filter.mpr ⟨List.mem_append_right _ (List.mem_of_getElem? (i := 236) (by decide +kernel)), by decide +kernel⟩
theorem ci_0 : ∀ w ∈ u_ws RX0 TX0 5, w ∈ pm_ws := by decide +kernel
theorem cl_0 : pm_Cl 0 RX0 TX0 5 tyX0 := ⟨rfl, ci_0, tyX0_ok, nmX0⟩
theorem ci_1 : ∀ w ∈ u_ws RX1 TX1 7, w ∈ pm_ws := by decide +kernel
theorem cl_1 : pm_Cl 1 RX1 TX1 7 tyX1 := ⟨rfl, ci_1, tyX1_ok, nmX1⟩
theorem ci_2 : ∀ w ∈ u_ws RX2 TX2 3, w ∈ pm_ws := by decide +kernel
theorem cl_2 : pm_Cl 2 RX2 TX2 3 tyX2 := ⟨rfl, ci_2, tyX2_ok, nmX2⟩
theorem ci_3 : ∀ w ∈ u_ws RX3 TX3 4, w ∈ pm_ws := by decide +kernel
theorem cl_3 : pm_Cl 3 RX3 TX3 4 tyX3 := ⟨rfl, ci_3, tyX3_ok, nmX3⟩
theorem ci_4 : ∀ w ∈ u_ws RX4 TX4 6, w ∈ pm_ws := by decide +kernel
theorem cl_4 : pm_Cl 4 RX4 TX4 6 tyX4 := ⟨rfl, ci_4, tyX4_ok, nmX4⟩
theorem ci_5 : ∀ w ∈ u_ws RX5 TX5 3, w ∈ pm_ws := by decide +kernel
theorem cl_5 : pm_Cl 5 RX5 TX5 3 tyX5 := ⟨rfl, ci_5, tyX5_ok, nmX5⟩
theorem ci_6 : ∀ w ∈ u_ws RX6 TX6 3, w ∈ pm_ws := by decide +kernel
theorem cl_6 : pm_Cl 6 RX6 TX6 3 tyX6 := ⟨rfl, ci_6, tyX6_ok, nmX6⟩
theorem ci_7 : ∀ w ∈ u_ws RX7 TX7 2, w ∈ pm_ws := by decide +kernel
theorem cl_7 : pm_Cl 7 RX7 TX7 2 tyX7 := ⟨rfl, ci_7, tyX7_ok, nmX7⟩
theorem ci_8 : ∀ w ∈ u_ws RX8 TX8 6, w ∈ pm_ws := by decide +kernel
theorem cl_8 : pm_Cl 8 RX8 TX8 6 tyX8 := ⟨rfl, ci_8, tyX8_ok, nmX8⟩
theorem ci_9 : ∀ w ∈ u_ws RX9 TX9 15, w ∈ pm_ws := by decide +kernel
theorem cl_9 : pm_Cl 9 RX9 TX9 15 tyX9 := ⟨rfl, ci_9, tyX9_ok, nmX9⟩
theorem ce_X8_init : pm_Ce 52 0 := ⟨wd_22, wd_1, ⟨by decide +kernel, by decide +kernel, by decide +kernel⟩, by decide +kernel, by decide⟩
theorem ce_X9_init : pm_Ce 88 0 := ⟨wd_645, wd_14, ⟨by decide +kernel, by decide +kernel, by decide +kernel⟩, by decide +kernel, by decide⟩
theorem ce_X8_write : pm_Ce 53 1 := ⟨wd_364, wd_1, ⟨by decide +kernel, by decide +kernel, by decide +kernel⟩, by decide +kernel, by decide⟩
theorem ce_X9_write : pm_Ce 100 1 := ⟨wd_722, wd_14, ⟨by decide +kernel, by decide +kernel, by decide +kernel⟩, by decide +kernel, by decide⟩
theorem ce_X8_wipe : pm_Ce 54 0 := ⟨wd_369, wd_1, ⟨by decide +kernel, by decide +kernel, by decide +kernel⟩, by decide +kernel, by decide⟩
theorem ce_X9_wipe : pm_Ce 101 0 := ⟨wd_731, wd_14, ⟨by decide +kernel, by decide +kernel, by decide +kernel⟩, by decide +kernel, by decide⟩
theorem ce_X8_fault : pm_Ce 55 0 := ⟨wd_373, wd_1, ⟨by decide +kernel, by decide +kernel, by decide +kernel⟩, by decide +kernel, by decide⟩
theorem ce_X9_fault : pm_Ce 102 0 := ⟨wd_735, wd_14, ⟨by decide +kernel, by decide +kernel, by decide +kernel⟩, by decide +kernel, by decide⟩
theorem ce_X8_lay : pm_Ce 56 0 := ⟨wd_377, wd_1, ⟨by decide +kernel, by decide +kernel, by decide +kernel⟩, by decide +kernel, by decide⟩
theorem ce_X9_lay : pm_Ce 103 0 := ⟨wd_772, wd_14, ⟨by decide +kernel, by decide +kernel, by decide +kernel⟩, by decide +kernel, by decide⟩
theorem ce_X8_tell : pm_Ce 59 3 := ⟨wd_392, wd_1, ⟨by decide +kernel, by decide +kernel, by decide +kernel⟩, by decide +kernel, by decide⟩
theorem ce_X9_tell : pm_Ce 110 3 := ⟨wd_792, wd_14, ⟨by decide +kernel, by decide +kernel, by decide +kernel⟩, by decide +kernel, by decide⟩
theorem ce_X8_strike : pm_Ce 60 2 := ⟨wd_421, wd_1, ⟨by decide +kernel, by decide +kernel, by decide +kernel⟩, by decide +kernel, by decide⟩
theorem ce_X9_strike : pm_Ce 111 2 := ⟨wd_803, wd_14, ⟨by decide +kernel, by decide +kernel, by decide +kernel⟩, by decide +kernel, by decide⟩
theorem ce_X8_strikeLiars : pm_Ce 61 0 := ⟨wd_425, wd_1, ⟨by decide +kernel, by decide +kernel, by decide +kernel⟩, by decide +kernel, by decide⟩
theorem ce_X9_strikeLiars : pm_Ce 112 0 := ⟨wd_807, wd_14, ⟨by decide +kernel, by decide +kernel, by decide +kernel⟩, by decide +kernel, by decide⟩
theorem ce_X8_drift : pm_Ce 62 1 := ⟨wd_486, wd_1, ⟨by decide +kernel, by decide +kernel, by decide +kernel⟩, by decide +kernel, by decide⟩
theorem ce_X9_drift : pm_Ce 113 1 := ⟨wd_835, wd_14, ⟨by decide +kernel, by decide +kernel, by decide +kernel⟩, by decide +kernel, by decide⟩
theorem ce_X8_go : pm_Ce 63 1 := ⟨wd_491, wd_1, ⟨by decide +kernel, by decide +kernel, by decide +kernel⟩, by decide +kernel, by decide⟩
theorem ce_X9_go : pm_Ce 114 1 := ⟨wd_839, wd_14, ⟨by decide +kernel, by decide +kernel, by decide +kernel⟩, by decide +kernel, by decide⟩
theorem ce_X8_undo : pm_Ce 65 0 := ⟨wd_511, wd_1, ⟨by decide +kernel, by decide +kernel, by decide +kernel⟩, by decide +kernel, by decide⟩
theorem ce_X9_undo : pm_Ce 105 0 := ⟨wd_788, wd_14, ⟨by decide +kernel, by decide +kernel, by decide +kernel⟩, by decide +kernel, by decide⟩
theorem ce_X8_span : pm_Ce 66 2 := ⟨wd_519, wd_1, ⟨by decide +kernel, by decide +kernel, by decide +kernel⟩, by decide +kernel, by decide⟩
theorem ce_X9_span : pm_Ce 121 2 := ⟨wd_857, wd_14, ⟨by decide +kernel, by decide +kernel, by decide +kernel⟩, by decide +kernel, by decide⟩
theorem ce_X8_agreed : pm_Ce 67 1 := ⟨wd_531, wd_1, ⟨by decide +kernel, by decide +kernel, by decide +kernel⟩, by decide +kernel, by decide⟩
theorem ce_X9_agreed : pm_Ce 122 1 := ⟨wd_863, wd_14, ⟨by decide +kernel, by decide +kernel, by decide +kernel⟩, by decide +kernel, by decide⟩
theorem ce_X8_good : pm_Ce 68 0 := ⟨wd_535, wd_1, ⟨by decide +kernel, by decide +kernel, by decide +kernel⟩, by decide +kernel, by decide⟩
theorem ce_X9_good : pm_Ce 123 0 := ⟨wd_867, wd_14, ⟨by decide +kernel, by decide +kernel, by decide +kernel⟩, by decide +kernel, by decide⟩
theorem ce_X8_in : pm_Ce 69 1 := ⟨wd_539, wd_1, ⟨by decide +kernel, by decide +kernel, by decide +kernel⟩, by decide +kernel, by decide⟩
theorem ce_X9_in : pm_Ce 124 1 := ⟨wd_871, wd_14, ⟨by decide +kernel, by decide +kernel, by decide +kernel⟩, by decide +kernel, by decide⟩
theorem ce_X8_liars : pm_Ce 70 0 := ⟨wd_429, wd_1, ⟨by decide +kernel, by decide +kernel, by decide +kernel⟩, by decide +kernel, by decide⟩
theorem ce_X9_liars : pm_Ce 126 0 := ⟨wd_876, wd_14, ⟨by decide +kernel, by decide +kernel, by decide +kernel⟩, by decide +kernel, by decide⟩
theorem ce_X8_commit : pm_Ce 72 2 := ⟨wd_549, wd_1, ⟨by decide +kernel, by decide +kernel, by decide +kernel⟩, by decide +kernel, by decide⟩
theorem ce_X9_commit : pm_Ce 130 2 := ⟨wd_880, wd_14, ⟨by decide +kernel, by decide +kernel, by decide +kernel⟩, by decide +kernel, by decide⟩
theorem ce_X8_commitOf : pm_Ce 73 2 := ⟨wd_568, wd_1, ⟨by decide +kernel, by decide +kernel, by decide +kernel⟩, by decide +kernel, by decide⟩
theorem ce_X9_commitOf : pm_Ce 132 2 := ⟨wd_889, wd_14, ⟨by decide +kernel, by decide +kernel, by decide +kernel⟩, by decide +kernel, by decide⟩
theorem ce_X8_waiting : pm_Ce 74 1 := ⟨wd_582, wd_1, ⟨by decide +kernel, by decide +kernel, by decide +kernel⟩, by decide +kernel, by decide⟩
theorem ce_X9_waiting : pm_Ce 133 1 := ⟨wd_898, wd_14, ⟨by decide +kernel, by decide +kernel, by decide +kernel⟩, by decide +kernel, by decide⟩
theorem ce_X8_safe : pm_Ce 75 0 := ⟨wd_586, wd_1, ⟨by decide +kernel, by decide +kernel, by decide +kernel⟩, by decide +kernel, by decide⟩
theorem ce_X9_safe : pm_Ce 135 0 := ⟨wd_902, wd_14, ⟨by decide +kernel, by decide +kernel, by decide +kernel⟩, by decide +kernel, by decide⟩
theorem ce_X8_read : pm_Ce 76 2 := ⟨wd_596, wd_1, ⟨by decide +kernel, by decide +kernel, by decide +kernel⟩, by decide +kernel, by decide⟩
theorem ce_X9_read : pm_Ce 136 2 := ⟨wd_911, wd_14, ⟨by decide +kernel, by decide +kernel, by decide +kernel⟩, by decide +kernel, by decide⟩
theorem ce_X8_between : pm_Ce 77 3 := ⟨wd_605, wd_1, ⟨by decide +kernel, by decide +kernel, by decide +kernel⟩, by decide +kernel, by decide⟩
theorem ce_X9_between : pm_Ce 137 3 := ⟨wd_915, wd_14, ⟨by decide +kernel, by decide +kernel, by decide +kernel⟩, by decide +kernel, by decide⟩
theorem ce_X8_leap : pm_Ce 78 1 := ⟨wd_613, wd_1, ⟨by decide +kernel, by decide +kernel, by decide +kernel⟩, by decide +kernel, by decide⟩
theorem ce_X9_leap : pm_Ce 138 1 := ⟨wd_919, wd_14, ⟨by decide +kernel, by decide +kernel, by decide +kernel⟩, by decide +kernel, by decide⟩
theorem ce_X8_smeared : pm_Ce 79 1 := ⟨wd_617, wd_1, ⟨by decide +kernel, by decide +kernel, by decide +kernel⟩, by decide +kernel, by decide⟩
theorem ce_X9_smeared : pm_Ce 140 1 := ⟨wd_924, wd_14, ⟨by decide +kernel, by decide +kernel, by decide +kernel⟩, by decide +kernel, by decide⟩
theorem ce_X8_back : pm_Ce 80 1 := ⟨wd_629, wd_1, ⟨by decide +kernel, by decide +kernel, by decide +kernel⟩, by decide +kernel, by decide⟩
theorem ce_X9_back : pm_Ce 141 1 := ⟨wd_932, wd_14, ⟨by decide +kernel, by decide +kernel, by decide +kernel⟩, by decide +kernel, by decide⟩
theorem ce_X8_count : pm_Ce 81 1 := ⟨wd_640, wd_1, ⟨by decide +kernel, by decide +kernel, by decide +kernel⟩, by decide +kernel, by decide⟩
theorem ce_X9_count : pm_Ce 142 1 := ⟨wd_937, wd_14, ⟨by decide +kernel, by decide +kernel, by decide +kernel⟩, by decide +kernel, by decide⟩
theorem ce_X4_isHeard : pm_Ce 36 1 := ⟨wd_441, wd_5, ⟨by decide +kernel, by decide +kernel, by decide +kernel⟩, by decide +kernel, by decide⟩
theorem ce_X4_beginOf : pm_Ce 38 2 := ⟨wd_445, wd_5, ⟨by decide +kernel, by decide +kernel, by decide +kernel⟩, by decide +kernel, by decide⟩
theorem ce_X4_endOf : pm_Ce 39 2 := ⟨wd_454, wd_5, ⟨by decide +kernel, by decide +kernel, by decide +kernel⟩, by decide +kernel, by decide⟩
theorem ce_X0_findBegin : pm_Ce 3 0 := ⟨wd_458, wd_8, ⟨by decide +kernel, by decide +kernel, by decide +kernel⟩, by decide +kernel, by decide⟩
theorem ce_X0_howManyHold : pm_Ce 6 1 := ⟨wd_462, wd_8, ⟨by decide +kernel, by decide +kernel, by decide +kernel⟩, by decide +kernel, by decide⟩
theorem ce_X0_leastEndOver : pm_Ce 5 1 := ⟨wd_470, wd_8, ⟨by decide +kernel, by decide +kernel, by decide +kernel⟩, by decide +kernel, by decide⟩
theorem ce_X1_latestStamp : pm_Ce 16 0 := ⟨wd_561, wd_6, ⟨by decide +kernel, by decide +kernel, by decide +kernel⟩, by decide +kernel, by decide⟩
theorem ce_X7_letterAt : pm_Ce 51 1 := ⟨wd_300, wd_2, ⟨by decide +kernel, by decide +kernel, by decide +kernel⟩, by decide +kernel, by decide⟩
theorem ce_X2_howManyNumbers : pm_Ce 22 0 := ⟨wd_304, wd_3, ⟨by decide +kernel, by decide +kernel, by decide +kernel⟩, by decide +kernel, by decide⟩
theorem ce_X2_takeNumber : pm_Ce 23 3 := ⟨wd_308, wd_3, ⟨by decide +kernel, by decide +kernel, by decide +kernel⟩, by decide +kernel, by decide⟩
theorem ce_X2_areNumbersTold : pm_Ce 24 0 := ⟨wd_314, wd_3, ⟨by decide +kernel, by decide +kernel, by decide +kernel⟩, by decide +kernel, by decide⟩
theorem ce_X8_isDrift : pm_Ce 84 1 := ⟨wd_317, wd_1, ⟨by decide +kernel, by decide +kernel, by decide +kernel⟩, by decide +kernel, by decide⟩
theorem ce_X8_isMaster : pm_Ce 82 1 := ⟨wd_321, wd_1, ⟨by decide +kernel, by decide +kernel, by decide +kernel⟩, by decide +kernel, by decide⟩
theorem ce_X8_isToldSpan : pm_Ce 85 2 := ⟨wd_325, wd_1, ⟨by decide +kernel, by decide +kernel, by decide +kernel⟩, by decide +kernel, by decide⟩
theorem ce_X8_isLeap : pm_Ce 87 4 := ⟨wd_329, wd_1, ⟨by decide +kernel, by decide +kernel, by decide +kernel⟩, by decide +kernel, by decide⟩
theorem ce_X3_set : pm_Ce 27 4 := ⟨wd_292, wd_9, ⟨by decide +kernel, by decide +kernel, by decide +kernel⟩, by decide +kernel, by decide⟩
theorem ce_X3_shift : pm_Ce 29 1 := ⟨wd_625, wd_9, ⟨by decide +kernel, by decide +kernel, by decide +kernel⟩, by decide +kernel, by decide⟩
theorem ce_X3_smear : pm_Ce 28 1 := ⟨wd_621, wd_9, ⟨by decide +kernel, by decide +kernel, by decide +kernel⟩, by decide +kernel, by decide⟩
theorem ce_J6_bitCount_0f7a4 : pm_Ce 143 1 := ⟨wd_385, wd_15, ⟨by decide +kernel, by decide +kernel, by decide +kernel⟩, by decide +kernel, by decide⟩
theorem ce_X4_widening : pm_Ce 40 1 := ⟨wd_449, wd_5, ⟨by decide +kernel, by decide +kernel, by decide +kernel⟩, by decide +kernel, by decide⟩
theorem ce_X6_init : pm_Ce 45 0 := ⟨wd_65, wd_4, ⟨by decide +kernel, by decide +kernel, by decide +kernel⟩, by decide +kernel, by decide⟩
theorem ce_X6_copyFrom : pm_Ce 47 1 := ⟨wd_402, wd_4, ⟨by decide +kernel, by decide +kernel, by decide +kernel⟩, by decide +kernel, by decide⟩
theorem ce_X4_init : pm_Ce 31 0 := ⟨wd_71, wd_5, ⟨by decide +kernel, by decide +kernel, by decide +kernel⟩, by decide +kernel, by decide⟩
theorem ce_X1_init : pm_Ce 8 0 := ⟨wd_99, wd_6, ⟨by decide +kernel, by decide +kernel, by decide +kernel⟩, by decide +kernel, by decide⟩
theorem ce_X4_clear : pm_Ce 32 0 := ⟨wd_278, wd_5, ⟨by decide +kernel, by decide +kernel, by decide +kernel⟩, by decide +kernel, by decide⟩
theorem ce_X1_clear : pm_Ce 9 0 := ⟨wd_282, wd_6, ⟨by decide +kernel, by decide +kernel, by decide +kernel⟩, by decide +kernel, by decide⟩
theorem ce_X4_copyFrom : pm_Ce 33 1 := ⟨wd_406, wd_5, ⟨by decide +kernel, by decide +kernel, by decide +kernel⟩, by decide +kernel, by decide⟩
theorem ce_X1_copyFrom : pm_Ce 10 1 := ⟨wd_413, wd_6, ⟨by decide +kernel, by decide +kernel, by decide +kernel⟩, by decide +kernel, by decide⟩
theorem ce_J0_length_8abf5 : pm_Ce 144 0 := ⟨wd_218, wd_10, ⟨by decide +kernel, by decide +kernel, by decide +kernel⟩, by decide +kernel, by decide⟩
theorem ce_J0_charAt_5068e : pm_Ce 145 1 := ⟨wd_228, wd_10, ⟨by decide +kernel, by decide +kernel, by decide +kernel⟩, by decide +kernel, by decide⟩
theorem ce_X7_put : pm_Ce 49 1 := ⟨wd_266, wd_2, ⟨by decide +kernel, by decide +kernel, by decide +kernel⟩, by decide +kernel, by decide⟩
theorem ce_X7_init : pm_Ce 48 0 := ⟨wd_30, wd_2, ⟨by decide +kernel, by decide +kernel, by decide +kernel⟩, by decide +kernel, by decide⟩
theorem ce_X2_init : pm_Ce 20 0 := ⟨wd_45, wd_3, ⟨by decide +kernel, by decide +kernel, by decide +kernel⟩, by decide +kernel, by decide⟩
theorem ce_X5_init : pm_Ce 42 0 := ⟨wd_147, wd_7, ⟨by decide +kernel, by decide +kernel, by decide +kernel⟩, by decide +kernel, by decide⟩
theorem ce_X0_init : pm_Ce 1 0 := ⟨wd_167, wd_8, ⟨by decide +kernel, by decide +kernel, by decide +kernel⟩, by decide +kernel, by decide⟩
theorem ce_X3_init : pm_Ce 25 0 := ⟨wd_191, wd_9, ⟨by decide +kernel, by decide +kernel, by decide +kernel⟩, by decide +kernel, by decide⟩
theorem ce_X7_putAll : pm_Ce 50 1 := ⟨wd_214, wd_2, ⟨by decide +kernel, by decide +kernel, by decide +kernel⟩, by decide +kernel, by decide⟩
theorem ce_X8_layItems : pm_Ce 57 0 := ⟨wd_270, wd_1, ⟨by decide +kernel, by decide +kernel, by decide +kernel⟩, by decide +kernel, by decide⟩
theorem ce_X2_takeFrom : pm_Ce 21 2 := ⟨wd_296, wd_3, ⟨by decide +kernel, by decide +kernel, by decide +kernel⟩, by decide +kernel, by decide⟩
theorem ce_X4_howManyHeard : pm_Ce 37 0 := ⟨wd_382, wd_5, ⟨by decide +kernel, by decide +kernel, by decide +kernel⟩, by decide +kernel, by decide⟩
theorem ce_X6_clear : pm_Ce 46 0 := ⟨wd_274, wd_4, ⟨by decide +kernel, by decide +kernel, by decide +kernel⟩, by decide +kernel, by decide⟩
theorem ce_X3_clear : pm_Ce 26 0 := ⟨wd_286, wd_9, ⟨by decide +kernel, by decide +kernel, by decide +kernel⟩, by decide +kernel, by decide⟩
theorem ce_X8_layItem : pm_Ce 58 0 := ⟨wd_335, wd_1, ⟨by decide +kernel, by decide +kernel, by decide +kernel⟩, by decide +kernel, by decide⟩
theorem ce_X4_hear : pm_Ce 34 4 := ⟨wd_339, wd_5, ⟨by decide +kernel, by decide +kernel, by decide +kernel⟩, by decide +kernel, by decide⟩
theorem ce_X5_keep : pm_Ce 43 1 := ⟨wd_398, wd_7, ⟨by decide +kernel, by decide +kernel, by decide +kernel⟩, by decide +kernel, by decide⟩
theorem ce_X8_finishCommits : pm_Ce 64 0 := ⟨wd_495, wd_1, ⟨by decide +kernel, by decide +kernel, by decide +kernel⟩, by decide +kernel, by decide⟩
theorem ce_X1_howManyOpen : pm_Ce 13 0 := ⟨wd_499, wd_6, ⟨by decide +kernel, by decide +kernel, by decide +kernel⟩, by decide +kernel, by decide⟩
theorem ce_X8_lookAround : pm_Ce 71 0 := ⟨wd_433, wd_1, ⟨by decide +kernel, by decide +kernel, by decide +kernel⟩, by decide +kernel, by decide⟩
theorem ce_X0_isGood : pm_Ce 7 0 := ⟨wd_503, wd_8, ⟨by decide +kernel, by decide +kernel, by decide +kernel⟩, by decide +kernel, by decide⟩
theorem ce_X1_finishBelow : pm_Ce 15 2 := ⟨wd_507, wd_6, ⟨by decide +kernel, by decide +kernel, by decide +kernel⟩, by decide +kernel, by decide⟩
theorem ce_X5_giveBack : pm_Ce 44 1 := ⟨wd_515, wd_7, ⟨by decide +kernel, by decide +kernel, by decide +kernel⟩, by decide +kernel, by decide⟩
theorem ce_X4_hasTold : pm_Ce 35 1 := ⟨wd_524, wd_5, ⟨by decide +kernel, by decide +kernel, by decide +kernel⟩, by decide +kernel, by decide⟩
theorem ce_X0_endOfRow : pm_Ce 4 0 := ⟨wd_466, wd_8, ⟨by decide +kernel, by decide +kernel, by decide +kernel⟩, by decide +kernel, by decide⟩
theorem ce_X8_isAsked : pm_Ce 86 1 := ⟨wd_542, wd_1, ⟨by decide +kernel, by decide +kernel, by decide +kernel⟩, by decide +kernel, by decide⟩
theorem ce_X4_meets : pm_Ce 41 4 := ⟨wd_479, wd_5, ⟨by decide +kernel, by decide +kernel, by decide +kernel⟩, by decide +kernel, by decide⟩
theorem ce_X0_look : pm_Ce 2 2 := ⟨wd_437, wd_8, ⟨by decide +kernel, by decide +kernel, by decide +kernel⟩, by decide +kernel, by decide⟩
theorem ce_X8_isKey : pm_Ce 83 1 := ⟨wd_552, wd_1, ⟨by decide +kernel, by decide +kernel, by decide +kernel⟩, by decide +kernel, by decide⟩
theorem ce_X1_make : pm_Ce 14 4 := ⟨wd_557, wd_6, ⟨by decide +kernel, by decide +kernel, by decide +kernel⟩, by decide +kernel, by decide⟩
theorem ce_X1_has : pm_Ce 11 1 := ⟨wd_572, wd_6, ⟨by decide +kernel, by decide +kernel, by decide +kernel⟩, by decide +kernel, by decide⟩
theorem ce_X1_isOpen : pm_Ce 12 1 := ⟨wd_577, wd_6, ⟨by decide +kernel, by decide +kernel, by decide +kernel⟩, by decide +kernel, by decide⟩
theorem ce_X1_leastOpenStamp : pm_Ce 17 0 := ⟨wd_590, wd_6, ⟨by decide +kernel, by decide +kernel, by decide +kernel⟩, by decide +kernel, by decide⟩
theorem ce_X1_valueAsOf : pm_Ce 18 2 := ⟨wd_601, wd_6, ⟨by decide +kernel, by decide +kernel, by decide +kernel⟩, by decide +kernel, by decide⟩
theorem ce_X1_howManyStamped : pm_Ce 19 3 := ⟨wd_609, wd_6, ⟨by decide +kernel, by decide +kernel, by decide +kernel⟩, by decide +kernel, by decide⟩
theorem ce_X3_leastSmearedTo : pm_Ce 30 1 := ⟨wd_633, wd_9, ⟨by decide +kernel, by decide +kernel, by decide +kernel⟩, by decide +kernel, by decide⟩
theorem ce_X9_begin : pm_Ce 90 0 := ⟨wd_650, wd_14, ⟨by decide +kernel, by decide +kernel, by decide +kernel⟩, by decide +kernel, by decide⟩
theorem ce_X9_putMaster : pm_Ce 91 3 := ⟨wd_662, wd_14, ⟨by decide +kernel, by decide +kernel, by decide +kernel⟩, by decide +kernel, by decide⟩
theorem ce_X9_putLeap : pm_Ce 92 4 := ⟨wd_656, wd_14, ⟨by decide +kernel, by decide +kernel, by decide +kernel⟩, by decide +kernel, by decide⟩
theorem ce_X9_take : pm_Ce 93 0 := ⟨wd_672, wd_14, ⟨by decide +kernel, by decide +kernel, by decide +kernel⟩, by decide +kernel, by decide⟩
theorem ce_X9_within : pm_Ce 89 3 := ⟨wd_727, wd_14, ⟨by decide +kernel, by decide +kernel, by decide +kernel⟩, by decide +kernel, by decide⟩
theorem ce_X9_takeNumber : pm_Ce 94 0 := ⟨wd_747, wd_14, ⟨by decide +kernel, by decide +kernel, by decide +kernel⟩, by decide +kernel, by decide⟩
theorem ce_X9_takeSign : pm_Ce 95 1 := ⟨wd_761, wd_14, ⟨by decide +kernel, by decide +kernel, by decide +kernel⟩, by decide +kernel, by decide⟩
theorem ce_X9_readMaster : pm_Ce 96 0 := ⟨wd_757, wd_14, ⟨by decide +kernel, by decide +kernel, by decide +kernel⟩, by decide +kernel, by decide⟩
theorem ce_X9_readLeap : pm_Ce 97 0 := ⟨wd_767, wd_14, ⟨by decide +kernel, by decide +kernel, by decide +kernel⟩, by decide +kernel, by decide⟩
theorem ce_X9_readItem : pm_Ce 98 0 := ⟨wd_743, wd_14, ⟨by decide +kernel, by decide +kernel, by decide +kernel⟩, by decide +kernel, by decide⟩
theorem ce_X9_readText : pm_Ce 99 0 := ⟨wd_739, wd_14, ⟨by decide +kernel, by decide +kernel, by decide +kernel⟩, by decide +kernel, by decide⟩
theorem ce_X9_heardMany : pm_Ce 109 0 := ⟨wd_776, wd_14, ⟨by decide +kernel, by decide +kernel, by decide +kernel⟩, by decide +kernel, by decide⟩
theorem ce_X9_isStruck : pm_Ce 107 1 := ⟨wd_784, wd_14, ⟨by decide +kernel, by decide +kernel, by decide +kernel⟩, by decide +kernel, by decide⟩
theorem ce_X9_isHeard : pm_Ce 108 1 := ⟨wd_780, wd_14, ⟨by decide +kernel, by decide +kernel, by decide +kernel⟩, by decide +kernel, by decide⟩
theorem ce_X9_isMaster : pm_Ce 106 1 := ⟨wd_795, wd_14, ⟨by decide +kernel, by decide +kernel, by decide +kernel⟩, by decide +kernel, by decide⟩
theorem ce_X9_note : pm_Ce 104 0 := ⟨wd_799, wd_14, ⟨by decide +kernel, by decide +kernel, by decide +kernel⟩, by decide +kernel, by decide⟩
theorem ce_X9_liarsNow : pm_Ce 125 0 := ⟨wd_811, wd_14, ⟨by decide +kernel, by decide +kernel, by decide +kernel⟩, by decide +kernel, by decide⟩
theorem ce_X9_ones : pm_Ce 127 1 := ⟨wd_831, wd_14, ⟨by decide +kernel, by decide +kernel, by decide +kernel⟩, by decide +kernel, by decide⟩
theorem ce_X9_closeOpen : pm_Ce 115 0 := ⟨wd_844, wd_14, ⟨by decide +kernel, by decide +kernel, by decide +kernel⟩, by decide +kernel, by decide⟩
theorem ce_X9_openMany : pm_Ce 128 0 := ⟨wd_848, wd_14, ⟨by decide +kernel, by decide +kernel, by decide +kernel⟩, by decide +kernel, by decide⟩
theorem ce_X9_find : pm_Ce 119 1 := ⟨wd_815, wd_14, ⟨by decide +kernel, by decide +kernel, by decide +kernel⟩, by decide +kernel, by decide⟩
theorem ce_X9_isGood : pm_Ce 120 0 := ⟨wd_853, wd_14, ⟨by decide +kernel, by decide +kernel, by decide +kernel⟩, by decide +kernel, by decide⟩
theorem ce_X9_spanOf : pm_Ce 116 3 := ⟨wd_819, wd_14, ⟨by decide +kernel, by decide +kernel, by decide +kernel⟩, by decide +kernel, by decide⟩
theorem ce_X9_manyAt : pm_Ce 117 1 := ⟨wd_824, wd_14, ⟨by decide +kernel, by decide +kernel, by decide +kernel⟩, by decide +kernel, by decide⟩
theorem ce_X9_sameTo : pm_Ce 118 1 := ⟨wd_828, wd_14, ⟨by decide +kernel, by decide +kernel, by decide +kernel⟩, by decide +kernel, by decide⟩
theorem ce_X9_latest : pm_Ce 129 0 := ⟨wd_885, wd_14, ⟨by decide +kernel, by decide +kernel, by decide +kernel⟩, by decide +kernel, by decide⟩
theorem ce_X9_isCommit : pm_Ce 131 1 := ⟨wd_893, wd_14, ⟨by decide +kernel, by decide +kernel, by decide +kernel⟩, by decide +kernel, by decide⟩
theorem ce_X9_safeNow : pm_Ce 134 0 := ⟨wd_906, wd_14, ⟨by decide +kernel, by decide +kernel, by decide +kernel⟩, by decide +kernel, by decide⟩
theorem ce_X9_smear : pm_Ce 139 1 := ⟨wd_928, wd_14, ⟨by decide +kernel, by decide +kernel, by decide +kernel⟩, by decide +kernel, by decide⟩
theorem ce_J0_coder_7d493 : pm_Ce 146 0 := ⟨wd_222, wd_10, ⟨by decide +kernel, by decide +kernel, by decide +kernel⟩, by decide +kernel, by decide⟩
theorem ce_J0_isLatin1_aae02 : pm_Ce 147 0 := ⟨wd_232, wd_10, ⟨by decide +kernel, by decide +kernel, by decide +kernel⟩, by decide +kernel, by decide⟩
theorem ce_J1_charAt_3b067 : pm_Ce 149 2 := ⟨wd_235, wd_11, ⟨by decide +kernel, by decide +kernel, by decide +kernel⟩, by decide +kernel, by decide⟩
theorem ce_J3_checkIndex_8e157 : pm_Ce 150 3 := ⟨wd_243, wd_12, ⟨by decide +kernel, by decide +kernel, by decide +kernel⟩, by decide +kernel, by decide⟩
theorem ce_J0_checkIndex_df160 : pm_Ce 148 2 := ⟨wd_238, wd_10, ⟨by decide +kernel, by decide +kernel, by decide +kernel⟩, by decide +kernel, by decide⟩
end
section
def tJ6_bitCount_0f7a4 : pm_Cd := [(0, po_il 0), (1, po_il 0), (2, po_ic (1)), (3, po_iushr), (4, po_ic (1431655765)), (7, po_iand), (8, po_isub), (9, po_is 0), (10, po_il 0), (11, po_ic (858993459)), (14, po_iand), (15, po_il 0), (16, po_ic (2)), (17, po_iushr), (18, po_ic (858993459)), (21, po_iand), (22, po_iadd), (23, po_is 0), (24, po_il 0), (25, po_il 0), (26, po_ic (4)), (27, po_iushr), (28, po_iadd), (29, po_ic (252645135)), (32, po_iand), (33, po_is 0), (34, po_il 0), (35, po_il 0), (36, po_ic (8)), (38, po_iushr), (39, po_iadd), (40, po_is 0), (41, po_il 0), (42, po_il 0), (43, po_ic (16)), (45, po_iushr), (46, po_iadd), (47, po_is 0), (48, po_il 0), (49, po_ic (63)), (51, po_iand), (52, po_iret)]
set_option maxRecDepth 100000 in
theorem aJ6_bitCount_0f7a4 (E : pm_E) : pm_All E 143 (tJ6_bitCount_0f7a4) :=
  ⟨ps_iln (kf := 0) (by decide +kernel) rfl,
  ps_iln (kf := 0) (by decide +kernel) rfl,
  ps_iconst (n := 1) (by decide +kernel) (by decide +kernel),
  ps_iushr (by decide +kernel),
  ps_ldcw (n := 265) (by decide +kernel) wd_386,
  ps_iand (by decide +kernel),
  ps_isub (by decide +kernel),
  ps_isn (kf := 0) (by decide +kernel) rfl (by decide +kernel),
  ps_iln (kf := 0) (by decide +kernel) rfl,
  ps_ldcw (n := 266) (by decide +kernel) wd_387,
  ps_iand (by decide +kernel),
  ps_iln (kf := 0) (by decide +kernel) rfl,
  ps_iconst (n := 2) (by decide +kernel) (by decide +kernel),
  ps_iushr (by decide +kernel),
  ps_ldcw (n := 266) (by decide +kernel) wd_387,
  ps_iand (by decide +kernel),
  ps_iadd (by decide +kernel),
  ps_isn (kf := 0) (by decide +kernel) rfl (by decide +kernel),
  ps_iln (kf := 0) (by decide +kernel) rfl,
  ps_iln (kf := 0) (by decide +kernel) rfl,
  ps_iconst (n := 4) (by decide +kernel) (by decide +kernel),
  ps_iushr (by decide +kernel),
  ps_iadd (by decide +kernel),
  ps_ldcw (n := 267) (by decide +kernel) wd_388,
  ps_iand (by decide +kernel),
  ps_isn (kf := 0) (by decide +kernel) rfl (by decide +kernel),
  ps_iln (kf := 0) (by decide +kernel) rfl,
  ps_iln (kf := 0) (by decide +kernel) rfl,
  ps_bipush (n := 8) (by decide +kernel) (by decide +kernel),
  ps_iushr (by decide +kernel),
  ps_iadd (by decide +kernel),
  ps_isn (kf := 0) (by decide +kernel) rfl (by decide +kernel),
  ps_iln (kf := 0) (by decide +kernel) rfl,
  ps_iln (kf := 0) (by decide +kernel) rfl,
  ps_bipush (n := 16) (by decide +kernel) (by decide +kernel),
  ps_iushr (by decide +kernel),
  ps_iadd (by decide +kernel),
  ps_isn (kf := 0) (by decide +kernel) rfl (by decide +kernel),
  ps_iln (kf := 0) (by decide +kernel) rfl,
  ps_bipush (n := 63) (by decide +kernel) (by decide +kernel),
  ps_iand (by decide +kernel),
  ps_iret (by decide +kernel) rfl rfl rfl, trivial⟩
def tJ0_length_8abf5 : pm_Cd := [(0, po_al 0), (1, po_sval), (4, po_sblen), (5, po_al 0), (6, po_callT 146 0 1), (9, po_ishr), (10, po_iret)]
set_option maxRecDepth 100000 in
theorem aJ0_length_8abf5 (E : pm_E) : pm_All E 144 (tJ0_length_8abf5) :=
  ⟨ps_aln (kf := 0) (by decide +kernel) rfl,
  ps_sval wd_939 (by decide +kernel),
  ps_sblen (by decide +kernel),
  ps_aln (kf := 0) (by decide +kernel) rfl,
  ps_callT rfl ce_J0_coder_7d493 wd_220 wd_221 wd_219 ⟨by decide +kernel, by decide +kernel⟩ rfl rfl rfl (by decide +kernel),
  ps_ishr (by decide +kernel),
  ps_iret (by decide +kernel) rfl rfl rfl, trivial⟩
def tJ0_charAt_5068e : pm_Cd := [(0, po_al 0), (1, po_callT 147 0 1), (4, po_ifeq 16), (7, po_al 0), (8, po_sval), (11, po_il 1), (12, po_callS 149 2 2), (15, po_zret .char), (16, po_al 0), (17, po_sval), (20, po_il 1), (21, po_no), (24, po_zret .char)]
set_option maxRecDepth 100000 in
theorem aJ0_charAt_5068e (E : pm_E) : pm_All E 145 (tJ0_charAt_5068e) :=
  ⟨ps_aln (kf := 0) (by decide +kernel) rfl,
  ps_callT rfl ce_J0_isLatin1_aae02 wd_230 wd_231 wd_229 ⟨by decide +kernel, by decide +kernel⟩ rfl rfl rfl (by decide +kernel),
  ps_ifeq (off := 12) (by decide +kernel) (by decide +kernel),
  ps_aln (kf := 0) (by decide +kernel) rfl,
  ps_sval wd_939 (by decide +kernel),
  ps_iln (kf := 1) (by decide +kernel) rfl,
  ps_callS ce_J1_charAt_3b067 wd_234 wd_233 ⟨by decide +kernel, by decide +kernel⟩ rfl rfl rfl (by decide +kernel),
  ps_zret (by decide +kernel) rfl rfl rfl,
  ps_aln (kf := 0) (by decide +kernel) rfl,
  ps_sval wd_939 (by decide +kernel),
  ps_iln (kf := 1) (by decide +kernel) rfl,
  ps_no,
  ps_zret (by decide +kernel) rfl rfl rfl, trivial⟩
def tJ0_coder_7d493 : pm_Cd := [(0, po_ic 1), (3, po_ifeq 13), (6, po_al 0), (7, po_scod), (10, po_goto 14), (13, po_ic (1)), (14, po_zret .byte)]
set_option maxRecDepth 100000 in
theorem aJ0_coder_7d493 (E : pm_E) : pm_All E 146 (tJ0_coder_7d493) :=
  ⟨ps_cmps wd_223 (by decide +kernel),
  ps_ifeq (off := 10) (by decide +kernel) (by decide +kernel),
  ps_aln (kf := 0) (by decide +kernel) rfl,
  ps_scod wd_940 (by decide +kernel),
  ps_goto (off := 4) (by decide +kernel) (by decide +kernel),
  ps_iconst (n := 1) (by decide +kernel) (by decide +kernel),
  ps_zret (by decide +kernel) rfl rfl rfl, trivial⟩
def tJ0_isLatin1_aae02 : pm_Cd := [(0, po_ic 1), (3, po_ifeq 17), (6, po_al 0), (7, po_scod), (10, po_ifne 17), (13, po_ic (1)), (14, po_goto 18), (17, po_ic (0)), (18, po_zret .boolean)]
set_option maxRecDepth 100000 in
theorem aJ0_isLatin1_aae02 (E : pm_E) : pm_All E 147 (tJ0_isLatin1_aae02) :=
  ⟨ps_cmps wd_223 (by decide +kernel),
  ps_ifeq (off := 14) (by decide +kernel) (by decide +kernel),
  ps_aln (kf := 0) (by decide +kernel) rfl,
  ps_scod wd_940 (by decide +kernel),
  ps_ifne (off := 7) (by decide +kernel) (by decide +kernel),
  ps_iconst (n := 1) (by decide +kernel) (by decide +kernel),
  ps_goto (off := 4) (by decide +kernel) (by decide +kernel),
  ps_iconst (n := 0) (by decide +kernel) (by decide +kernel),
  ps_zret (by decide +kernel) rfl rfl rfl, trivial⟩
def tJ0_checkIndex_df160 : pm_Cd := [(0, po_il 0), (1, po_il 1), (2, po_fmt), (5, po_callS 150 3 3), (8, po_pop), (9, po_vret)]
set_option maxRecDepth 100000 in
theorem aJ0_checkIndex_df160 (E : pm_E) : pm_All E 148 (tJ0_checkIndex_df160) :=
  ⟨ps_iln (kf := 0) (by decide +kernel) rfl,
  ps_iln (kf := 1) (by decide +kernel) rfl,
  ps_fmt wd_239 (by decide +kernel),
  ps_callS ce_J3_checkIndex_8e157 wd_242 wd_241 ⟨by decide +kernel, by decide +kernel⟩ rfl rfl rfl (by decide +kernel),
  ps_pop (by decide +kernel),
  ps_vret (by decide +kernel) rfl rfl rfl, trivial⟩
def tJ1_charAt_3b067 : pm_Cd := [(0, po_il 1), (1, po_al 0), (2, po_sblen), (3, po_callS 148 2 2), (6, po_al 0), (7, po_il 1), (8, po_sbld), (9, po_ic (255)), (12, po_iand), (13, po_i2c), (14, po_zret .char)]
set_option maxRecDepth 100000 in
theorem aJ1_charAt_3b067 (E : pm_E) : pm_All E 149 (tJ1_charAt_3b067) :=
  ⟨ps_iln (kf := 1) (by decide +kernel) rfl,
  ps_aln (kf := 0) (by decide +kernel) rfl,
  ps_sblen (by decide +kernel),
  ps_callS ce_J0_checkIndex_df160 wd_237 wd_236 ⟨by decide +kernel, by decide +kernel⟩ rfl rfl rfl (by decide +kernel),
  ps_aln (kf := 0) (by decide +kernel) rfl,
  ps_iln (kf := 1) (by decide +kernel) rfl,
  ps_sbld (by decide +kernel),
  ps_sipush (n := 255) (by decide +kernel) (by decide +kernel),
  ps_iand (by decide +kernel),
  ps_i2c (by decide +kernel),
  ps_zret (by decide +kernel) rfl rfl rfl, trivial⟩
def tJ3_checkIndex_8e157 : pm_Cd := [(0, po_il 0), (1, po_iflt 9), (4, po_il 0), (5, po_il 1), (6, po_iclt 16), (9, po_al 2), (10, po_il 0), (11, po_il 1), (12, po_no), (15, po_no), (16, po_il 0), (17, po_iret)]
set_option maxRecDepth 100000 in
theorem aJ3_checkIndex_8e157 (E : pm_E) : pm_All E 150 (tJ3_checkIndex_8e157) :=
  ⟨ps_iln (kf := 0) (by decide +kernel) rfl,
  ps_iflt (off := 8) (by decide +kernel) (by decide +kernel),
  ps_iln (kf := 0) (by decide +kernel) rfl,
  ps_iln (kf := 1) (by decide +kernel) rfl,
  ps_iclt (off := 10) (by decide +kernel) (by decide +kernel),
  ps_aln (kf := 2) (by decide +kernel) rfl,
  ps_iln (kf := 0) (by decide +kernel) rfl,
  ps_iln (kf := 1) (by decide +kernel) rfl,
  ps_no,
  ps_no,
  ps_iln (kf := 0) (by decide +kernel) rfl,
  ps_iret (by decide +kernel) rfl rfl rfl, trivial⟩
def tX0_init : pm_Cd := [(0, po_al 0), (1, po_obj), (4, po_al 0), (5, po_ic (6)), (7, po_newa 2 6 2 12 (6, .inr (.inl (fun _ => 0)))), (9, po_put 0 0 (.array .long)), (12, po_al 0), (13, po_ic (6)), (15, po_newa 2 6 2 12 (6, .inr (.inl (fun _ => 0)))), (17, po_put 0 1 (.array .long)), (20, po_al 0), (21, po_ic (0)), (22, po_put 0 2 .int), (25, po_al 0), (26, po_ic (0)), (27, po_put 0 3 .int), (30, po_al 0), (31, po_lc (0)), (32, po_put 0 4 .long), (35, po_vretC 2 12)]
set_option maxRecDepth 100000 in
theorem aX0_init (E : pm_E) : pm_All E 1 (tX0_init) :=
  ⟨ps_aln (kf := 0) (by decide +kernel) rfl,
  ps_obj wd_168 wd_24 wd_25 (by decide +kernel) (by decide +kernel) (by decide +kernel),
  ps_aln (kf := 0) (by decide +kernel) rfl,
  ps_bipush (n := 6) (by decide +kernel) (by decide +kernel),
  ps_newa (atype := .long) (ty := .long) wd_60 rfl rfl (fun _ q => q) (fun _ => rfl) rfl (by decide) (by decide) (by decide +kernel) (by decide +kernel) (by decide +kernel),
  ps_putF cl_0 (k := 0) (by decide) wd_169 rfl rfl (by decide +kernel) (by decide +kernel) (by decide +kernel),
  ps_aln (kf := 0) (by decide +kernel) rfl,
  ps_bipush (n := 6) (by decide +kernel) (by decide +kernel),
  ps_newa (atype := .long) (ty := .long) wd_60 rfl rfl (fun _ q => q) (fun _ => rfl) rfl (by decide) (by decide) (by decide +kernel) (by decide +kernel) (by decide +kernel),
  ps_putF cl_0 (k := 1) (by decide) wd_170 rfl rfl (by decide +kernel) (by decide +kernel) (by decide +kernel),
  ps_aln (kf := 0) (by decide +kernel) rfl,
  ps_iconst (n := 0) (by decide +kernel) (by decide +kernel),
  ps_put cl_0 (k := 2) (by decide) wd_171 rfl rfl (by decide +kernel),
  ps_aln (kf := 0) (by decide +kernel) rfl,
  ps_iconst (n := 0) (by decide +kernel) (by decide +kernel),
  ps_put cl_0 (k := 3) (by decide) wd_173 rfl rfl (by decide +kernel),
  ps_aln (kf := 0) (by decide +kernel) rfl,
  ps_lconst (n := 0) (by decide +kernel) (by decide +kernel),
  ps_put cl_0 (k := 4) (by decide) wd_174 rfl rfl (by decide +kernel),
  ps_vretC (by decide +kernel) rfl rfl rfl, trivial⟩
def tX0_look : pm_Cd := [(0, po_al 0), (1, po_ic (0)), (2, po_put 0 2 .int), (5, po_ic (0)), (6, po_is 3), (7, po_mark), (7, po_il 3), (8, po_ic (6)), (10, po_icge 67), (13, po_al 1), (14, po_il 3), (15, po_callV 4 36 1 2), (18, po_ifeq 61), (21, po_al 0), (22, po_get 0 0), (25, po_al 0), (26, po_get 0 2), (29, po_al 1), (30, po_il 3), (31, po_il 2), (32, po_callV 4 38 2 5), (35, po_last), (36, po_al 0), (37, po_get 0 1), (40, po_al 0), (41, po_get 0 2), (44, po_al 1), (45, po_il 3), (46, po_il 2), (47, po_callV 4 39 2 5), (50, po_last), (51, po_al 0), (52, po_dup), (53, po_get 0 2), (56, po_ic (1)), (57, po_iadd), (58, po_put 0 2 .int), (61, po_iinc 3 (1)), (64, po_goto 7), (67, po_al 0), (68, po_callV 0 3 0 3), (71, po_vret)]
set_option maxRecDepth 100000 in
theorem aX0_look (E : pm_E) : pm_All E 2 (tX0_look) :=
  ⟨ps_aln (kf := 0) (by decide +kernel) rfl,
  ps_iconst (n := 0) (by decide +kernel) (by decide +kernel),
  ps_put cl_0 (k := 2) (by decide) wd_171 rfl rfl (by decide +kernel),
  ps_iconst (n := 0) (by decide +kernel) (by decide +kernel),
  ps_isn (kf := 3) (by decide +kernel) rfl (by decide +kernel),
  ps_mark,
  ps_iln (kf := 3) (by decide +kernel) rfl,
  ps_bipush (n := 6) (by decide +kernel) (by decide +kernel),
  ps_icge (off := 57) (by decide +kernel) (by decide +kernel),
  ps_aln (kf := 1) (by decide +kernel) rfl,
  ps_iln (kf := 3) (by decide +kernel) rfl,
  ps_callV cl_4 rfl ce_X4_isHeard wd_439 wd_440 wd_438 ⟨by decide +kernel, by decide +kernel⟩ rfl rfl rfl (by decide +kernel),
  ps_ifeq (off := 43) (by decide +kernel) (by decide +kernel),
  ps_aln (kf := 0) (by decide +kernel) rfl,
  ps_get cl_0 (k := 0) (by decide) wd_169 (by decide +kernel),
  ps_aln (kf := 0) (by decide +kernel) rfl,
  ps_get cl_0 (k := 2) (by decide) wd_171 (by decide +kernel),
  ps_aln (kf := 1) (by decide +kernel) rfl,
  ps_iln (kf := 3) (by decide +kernel) rfl,
  ps_iln (kf := 2) (by decide +kernel) rfl,
  ps_callV cl_4 rfl ce_X4_beginOf wd_443 wd_444 wd_442 ⟨by decide +kernel, by decide +kernel⟩ rfl rfl rfl (by decide +kernel),
  ps_last (by decide +kernel),
  ps_aln (kf := 0) (by decide +kernel) rfl,
  ps_get cl_0 (k := 1) (by decide) wd_170 (by decide +kernel),
  ps_aln (kf := 0) (by decide +kernel) rfl,
  ps_get cl_0 (k := 2) (by decide) wd_171 (by decide +kernel),
  ps_aln (kf := 1) (by decide +kernel) rfl,
  ps_iln (kf := 3) (by decide +kernel) rfl,
  ps_iln (kf := 2) (by decide +kernel) rfl,
  ps_callV cl_4 rfl ce_X4_endOf wd_452 wd_453 wd_451 ⟨by decide +kernel, by decide +kernel⟩ rfl rfl rfl (by decide +kernel),
  ps_last (by decide +kernel),
  ps_aln (kf := 0) (by decide +kernel) rfl,
  ps_dup (by decide +kernel),
  ps_get cl_0 (k := 2) (by decide) wd_171 (by decide +kernel),
  ps_iconst (n := 1) (by decide +kernel) (by decide +kernel),
  ps_iadd (by decide +kernel),
  ps_put cl_0 (k := 2) (by decide) wd_171 rfl rfl (by decide +kernel),
  ps_iinc (n := 1) (by decide +kernel) (by decide +kernel) (by decide +kernel),
  ps_goto (off := -57) (by decide +kernel) (by decide +kernel),
  ps_aln (kf := 0) (by decide +kernel) rfl,
  ps_callV cl_0 rfl ce_X0_findBegin wd_457 wp_7 wd_455 ⟨by decide +kernel, by decide +kernel⟩ rfl rfl rfl (by decide +kernel),
  ps_vret (by decide +kernel) rfl rfl rfl, trivial⟩
def tX0_findBegin : pm_Cd := [(0, po_al 0), (1, po_ic (0)), (2, po_put 0 3 .int), (5, po_al 0), (6, po_lc (0)), (7, po_put 0 4 .long), (10, po_ic (0)), (11, po_is 1), (12, po_mark), (12, po_il 1), (13, po_al 0), (14, po_get 0 2), (17, po_icge 82), (20, po_al 0), (21, po_al 0), (22, po_get 0 0), (25, po_il 1), (26, po_lald), (27, po_callV 0 6 1 5), (30, po_is 2), (31, po_il 2), (32, po_al 0), (33, po_get 0 3), (36, po_icgt 61), (39, po_il 2), (40, po_al 0), (41, po_get 0 3), (44, po_icne 76), (47, po_al 0), (48, po_get 0 0), (51, po_il 1), (52, po_lald), (53, po_al 0), (54, po_get 0 4), (57, po_lcge 76), (61, po_al 0), (62, po_il 2), (63, po_put 0 3 .int), (66, po_al 0), (67, po_al 0), (68, po_get 0 0), (71, po_il 1), (72, po_lald), (73, po_put 0 4 .long), (76, po_iinc 1 (1)), (79, po_goto 12), (82, po_vret)]
set_option maxRecDepth 100000 in
theorem aX0_findBegin (E : pm_E) : pm_All E 3 (tX0_findBegin) :=
  ⟨ps_aln (kf := 0) (by decide +kernel) rfl,
  ps_iconst (n := 0) (by decide +kernel) (by decide +kernel),
  ps_put cl_0 (k := 3) (by decide) wd_173 rfl rfl (by decide +kernel),
  ps_aln (kf := 0) (by decide +kernel) rfl,
  ps_lconst (n := 0) (by decide +kernel) (by decide +kernel),
  ps_put cl_0 (k := 4) (by decide) wd_174 rfl rfl (by decide +kernel),
  ps_iconst (n := 0) (by decide +kernel) (by decide +kernel),
  ps_isn (kf := 1) (by decide +kernel) rfl (by decide +kernel),
  ps_mark,
  ps_iln (kf := 1) (by decide +kernel) rfl,
  ps_aln (kf := 0) (by decide +kernel) rfl,
  ps_get cl_0 (k := 2) (by decide) wd_171 (by decide +kernel),
  ps_icge (off := 65) (by decide +kernel) (by decide +kernel),
  ps_aln (kf := 0) (by decide +kernel) rfl,
  ps_aln (kf := 0) (by decide +kernel) rfl,
  ps_get cl_0 (k := 0) (by decide) wd_169 (by decide +kernel),
  ps_iln (kf := 1) (by decide +kernel) rfl,
  ps_lald (by decide +kernel),
  ps_callV cl_0 rfl ce_X0_howManyHold wd_460 wd_461 wd_459 ⟨by decide +kernel, by decide +kernel⟩ rfl rfl rfl (by decide +kernel),
  ps_isn (kf := 2) (by decide +kernel) rfl (by decide +kernel),
  ps_iln (kf := 2) (by decide +kernel) rfl,
  ps_aln (kf := 0) (by decide +kernel) rfl,
  ps_get cl_0 (k := 3) (by decide) wd_173 (by decide +kernel),
  ps_icgt (off := 25) (by decide +kernel) (by decide +kernel),
  ps_iln (kf := 2) (by decide +kernel) rfl,
  ps_aln (kf := 0) (by decide +kernel) rfl,
  ps_get cl_0 (k := 3) (by decide) wd_173 (by decide +kernel),
  ps_icne (off := 32) (by decide +kernel) (by decide +kernel),
  ps_aln (kf := 0) (by decide +kernel) rfl,
  ps_get cl_0 (k := 0) (by decide) wd_169 (by decide +kernel),
  ps_iln (kf := 1) (by decide +kernel) rfl,
  ps_lald (by decide +kernel),
  ps_aln (kf := 0) (by decide +kernel) rfl,
  ps_get cl_0 (k := 4) (by decide) wd_174 (by decide +kernel),
  ps_lcge (off := 18) (by decide +kernel) (by decide +kernel) (by decide +kernel),
  ps_aln (kf := 0) (by decide +kernel) rfl,
  ps_iln (kf := 2) (by decide +kernel) rfl,
  ps_put cl_0 (k := 3) (by decide) wd_173 rfl rfl (by decide +kernel),
  ps_aln (kf := 0) (by decide +kernel) rfl,
  ps_aln (kf := 0) (by decide +kernel) rfl,
  ps_get cl_0 (k := 0) (by decide) wd_169 (by decide +kernel),
  ps_iln (kf := 1) (by decide +kernel) rfl,
  ps_lald (by decide +kernel),
  ps_put cl_0 (k := 4) (by decide) wd_174 rfl rfl (by decide +kernel),
  ps_iinc (n := 1) (by decide +kernel) (by decide +kernel) (by decide +kernel),
  ps_goto (off := -67) (by decide +kernel) (by decide +kernel),
  ps_vret (by decide +kernel) rfl rfl rfl, trivial⟩
def tX0_endOfRow : pm_Cd := [(0, po_al 0), (1, po_get 0 4), (4, po_ls 1), (5, po_ic (0)), (6, po_is 3), (7, po_mark), (7, po_il 3), (8, po_al 0), (9, po_get 0 2), (12, po_icge 43), (15, po_al 0), (16, po_ll 1), (17, po_lc (1)), (18, po_ladd), (19, po_callV 0 6 1 5), (22, po_al 0), (23, po_get 0 3), (26, po_icne 43), (29, po_al 0), (30, po_ll 1), (31, po_lc (1)), (32, po_ladd), (33, po_callV 0 5 1 6), (36, po_ls 1), (37, po_iinc 3 (1)), (40, po_goto 7), (43, po_ll 1), (44, po_lret)]
set_option maxRecDepth 100000 in
theorem aX0_endOfRow (E : pm_E) : pm_All E 4 (tX0_endOfRow) :=
  ⟨ps_aln (kf := 0) (by decide +kernel) rfl,
  ps_get cl_0 (k := 4) (by decide) wd_174 (by decide +kernel),
  ps_lsn (kf := 1) (by decide +kernel) rfl (by decide +kernel),
  ps_iconst (n := 0) (by decide +kernel) (by decide +kernel),
  ps_isn (kf := 3) (by decide +kernel) rfl (by decide +kernel),
  ps_mark,
  ps_iln (kf := 3) (by decide +kernel) rfl,
  ps_aln (kf := 0) (by decide +kernel) rfl,
  ps_get cl_0 (k := 2) (by decide) wd_171 (by decide +kernel),
  ps_icge (off := 31) (by decide +kernel) (by decide +kernel),
  ps_aln (kf := 0) (by decide +kernel) rfl,
  ps_lln (kf := 1) (by decide +kernel) rfl,
  ps_lconst (n := 1) (by decide +kernel) (by decide +kernel),
  ps_ladd (by decide +kernel),
  ps_callV cl_0 rfl ce_X0_howManyHold wd_460 wd_461 wd_459 ⟨by decide +kernel, by decide +kernel⟩ rfl rfl rfl (by decide +kernel),
  ps_aln (kf := 0) (by decide +kernel) rfl,
  ps_get cl_0 (k := 3) (by decide) wd_173 (by decide +kernel),
  ps_icne (off := 17) (by decide +kernel) (by decide +kernel),
  ps_aln (kf := 0) (by decide +kernel) rfl,
  ps_lln (kf := 1) (by decide +kernel) rfl,
  ps_lconst (n := 1) (by decide +kernel) (by decide +kernel),
  ps_ladd (by decide +kernel),
  ps_callV cl_0 rfl ce_X0_leastEndOver wd_469 wp_8 wd_467 ⟨by decide +kernel, by decide +kernel⟩ rfl rfl rfl (by decide +kernel),
  ps_lsn (kf := 1) (by decide +kernel) rfl (by decide +kernel),
  ps_iinc (n := 1) (by decide +kernel) (by decide +kernel) (by decide +kernel),
  ps_goto (off := -33) (by decide +kernel) (by decide +kernel),
  ps_lln (kf := 1) (by decide +kernel) rfl,
  ps_lret (by decide +kernel) rfl rfl rfl, trivial⟩
def tX0_leastEndOver : pm_Cd := [(0, po_lc (9223372036854775807)), (3, po_ls 3), (4, po_ic (0)), (5, po_is 5), (7, po_mark), (7, po_il 5), (9, po_al 0), (10, po_get 0 2), (13, po_icge 58), (16, po_al 0), (17, po_get 0 0), (20, po_il 5), (22, po_lald), (23, po_ll 1), (24, po_lcgt 52), (28, po_al 0), (29, po_get 0 1), (32, po_il 5), (34, po_lald), (35, po_ll 1), (36, po_lclt 52), (40, po_ll 3), (41, po_al 0), (42, po_get 0 1), (45, po_il 5), (47, po_lald), (48, po_minl), (51, po_ls 3), (52, po_iinc 5 (1)), (55, po_goto 7), (58, po_ll 3), (59, po_lret)]
set_option maxRecDepth 100000 in
theorem aX0_leastEndOver (E : pm_E) : pm_All E 5 (tX0_leastEndOver) :=
  ⟨ps_ldc2 (n := 53) (by decide +kernel) wd_471,
  ps_lsn (kf := 3) (by decide +kernel) rfl (by decide +kernel),
  ps_iconst (n := 0) (by decide +kernel) (by decide +kernel),
  ps_is (by decide +kernel) (by decide +kernel),
  ps_mark,
  ps_il (by decide +kernel),
  ps_aln (kf := 0) (by decide +kernel) rfl,
  ps_get cl_0 (k := 2) (by decide) wd_171 (by decide +kernel),
  ps_icge (off := 45) (by decide +kernel) (by decide +kernel),
  ps_aln (kf := 0) (by decide +kernel) rfl,
  ps_get cl_0 (k := 0) (by decide) wd_169 (by decide +kernel),
  ps_il (by decide +kernel),
  ps_lald (by decide +kernel),
  ps_lln (kf := 1) (by decide +kernel) rfl,
  ps_lcgt (off := 27) (by decide +kernel) (by decide +kernel) (by decide +kernel),
  ps_aln (kf := 0) (by decide +kernel) rfl,
  ps_get cl_0 (k := 1) (by decide) wd_170 (by decide +kernel),
  ps_il (by decide +kernel),
  ps_lald (by decide +kernel),
  ps_lln (kf := 1) (by decide +kernel) rfl,
  ps_lclt (off := 15) (by decide +kernel) (by decide +kernel) (by decide +kernel),
  ps_lln (kf := 3) (by decide +kernel) rfl,
  ps_aln (kf := 0) (by decide +kernel) rfl,
  ps_get cl_0 (k := 1) (by decide) wd_170 (by decide +kernel),
  ps_il (by decide +kernel),
  ps_lald (by decide +kernel),
  ps_minl wd_472 wd_473 wd_17 wd_474 (by decide +kernel) (by decide +kernel) (by decide +kernel),
  ps_lsn (kf := 3) (by decide +kernel) rfl (by decide +kernel),
  ps_iinc (n := 1) (by decide +kernel) (by decide +kernel) (by decide +kernel),
  ps_goto (off := -48) (by decide +kernel) (by decide +kernel),
  ps_lln (kf := 3) (by decide +kernel) rfl,
  ps_lret (by decide +kernel) rfl rfl rfl, trivial⟩
def tX0_howManyHold : pm_Cd := [(0, po_ic (0)), (1, po_is 3), (2, po_ic (0)), (3, po_is 4), (5, po_mark), (5, po_il 4), (7, po_al 0), (8, po_get 0 2), (11, po_icge 47), (14, po_al 0), (15, po_get 0 0), (18, po_il 4), (20, po_lald), (21, po_ll 1), (22, po_lcgt 41), (26, po_al 0), (27, po_get 0 1), (30, po_il 4), (32, po_lald), (33, po_ll 1), (34, po_lclt 41), (38, po_iinc 3 (1)), (41, po_iinc 4 (1)), (44, po_goto 5), (47, po_il 3), (48, po_iret)]
set_option maxRecDepth 100000 in
theorem aX0_howManyHold (E : pm_E) : pm_All E 6 (tX0_howManyHold) :=
  ⟨ps_iconst (n := 0) (by decide +kernel) (by decide +kernel),
  ps_isn (kf := 3) (by decide +kernel) rfl (by decide +kernel),
  ps_iconst (n := 0) (by decide +kernel) (by decide +kernel),
  ps_is (by decide +kernel) (by decide +kernel),
  ps_mark,
  ps_il (by decide +kernel),
  ps_aln (kf := 0) (by decide +kernel) rfl,
  ps_get cl_0 (k := 2) (by decide) wd_171 (by decide +kernel),
  ps_icge (off := 36) (by decide +kernel) (by decide +kernel),
  ps_aln (kf := 0) (by decide +kernel) rfl,
  ps_get cl_0 (k := 0) (by decide) wd_169 (by decide +kernel),
  ps_il (by decide +kernel),
  ps_lald (by decide +kernel),
  ps_lln (kf := 1) (by decide +kernel) rfl,
  ps_lcgt (off := 18) (by decide +kernel) (by decide +kernel) (by decide +kernel),
  ps_aln (kf := 0) (by decide +kernel) rfl,
  ps_get cl_0 (k := 1) (by decide) wd_170 (by decide +kernel),
  ps_il (by decide +kernel),
  ps_lald (by decide +kernel),
  ps_lln (kf := 1) (by decide +kernel) rfl,
  ps_lclt (off := 6) (by decide +kernel) (by decide +kernel) (by decide +kernel),
  ps_iinc (n := 1) (by decide +kernel) (by decide +kernel) (by decide +kernel),
  ps_iinc (n := 1) (by decide +kernel) (by decide +kernel) (by decide +kernel),
  ps_goto (off := -39) (by decide +kernel) (by decide +kernel),
  ps_iln (kf := 3) (by decide +kernel) rfl,
  ps_iret (by decide +kernel) rfl rfl rfl, trivial⟩
def tX0_isGood : pm_Cd := [(0, po_ic (2)), (1, po_al 0), (2, po_get 0 3), (5, po_imul), (6, po_al 0), (7, po_get 0 2), (10, po_icle 17), (13, po_ic (1)), (14, po_goto 18), (17, po_ic (0)), (18, po_zret .boolean)]
set_option maxRecDepth 100000 in
theorem aX0_isGood (E : pm_E) : pm_All E 7 (tX0_isGood) :=
  ⟨ps_iconst (n := 2) (by decide +kernel) (by decide +kernel),
  ps_aln (kf := 0) (by decide +kernel) rfl,
  ps_get cl_0 (k := 3) (by decide) wd_173 (by decide +kernel),
  ps_imul (by decide +kernel),
  ps_aln (kf := 0) (by decide +kernel) rfl,
  ps_get cl_0 (k := 2) (by decide) wd_171 (by decide +kernel),
  ps_icle (off := 7) (by decide +kernel) (by decide +kernel),
  ps_iconst (n := 1) (by decide +kernel) (by decide +kernel),
  ps_goto (off := 4) (by decide +kernel) (by decide +kernel),
  ps_iconst (n := 0) (by decide +kernel) (by decide +kernel),
  ps_zret (by decide +kernel) rfl rfl rfl, trivial⟩
def tX1_init : pm_Cd := [(0, po_al 0), (1, po_obj), (4, po_al 0), (5, po_ic (16)), (7, po_newa 1 16 5 80 (16, .inl (fun _ => 0))), (9, po_put 1 0 (.array .int)), (12, po_al 0), (13, po_ic (16)), (15, po_newa 1 16 5 80 (16, .inl (fun _ => 0))), (17, po_put 1 1 (.array .int)), (20, po_al 0), (21, po_ic (16)), (23, po_newa 2 16 5 80 (16, .inr (.inl (fun _ => 0)))), (25, po_put 1 2 (.array .long)), (28, po_al 0), (29, po_ic (16)), (31, po_newa 1 16 5 80 (16, .inl (fun _ => 0))), (33, po_put 1 3 (.array .int)), (36, po_al 0), (37, po_ic (16)), (39, po_newa 1 16 5 80 (16, .inl (fun _ => 0))), (41, po_put 1 4 (.array .int)), (44, po_al 0), (45, po_ic (0)), (46, po_put 1 5 .int), (49, po_al 0), (50, po_ic (0)), (51, po_put 1 6 .int), (54, po_vretC 5 80)]
set_option maxRecDepth 100000 in
theorem aX1_init (E : pm_E) : pm_All E 8 (tX1_init) :=
  ⟨ps_aln (kf := 0) (by decide +kernel) rfl,
  ps_obj wd_100 wd_24 wd_25 (by decide +kernel) (by decide +kernel) (by decide +kernel),
  ps_aln (kf := 0) (by decide +kernel) rfl,
  ps_bipush (n := 16) (by decide +kernel) (by decide +kernel),
  ps_newa (atype := .int) (ty := .int) wd_94 rfl rfl (fun _ q => q) (fun _ => rfl) rfl (by decide) (by decide) (by decide +kernel) (by decide +kernel) (by decide +kernel),
  ps_putF cl_1 (k := 0) (by decide) wd_101 rfl rfl (by decide +kernel) (by decide +kernel) (by decide +kernel),
  ps_aln (kf := 0) (by decide +kernel) rfl,
  ps_bipush (n := 16) (by decide +kernel) (by decide +kernel),
  ps_newa (atype := .int) (ty := .int) wd_94 rfl rfl (fun _ q => q) (fun _ => rfl) rfl (by decide) (by decide) (by decide +kernel) (by decide +kernel) (by decide +kernel),
  ps_putF cl_1 (k := 1) (by decide) wd_103 rfl rfl (by decide +kernel) (by decide +kernel) (by decide +kernel),
  ps_aln (kf := 0) (by decide +kernel) rfl,
  ps_bipush (n := 16) (by decide +kernel) (by decide +kernel),
  ps_newa (atype := .long) (ty := .long) wd_60 rfl rfl (fun _ q => q) (fun _ => rfl) rfl (by decide) (by decide) (by decide +kernel) (by decide +kernel) (by decide +kernel),
  ps_putF cl_1 (k := 2) (by decide) wd_105 rfl rfl (by decide +kernel) (by decide +kernel) (by decide +kernel),
  ps_aln (kf := 0) (by decide +kernel) rfl,
  ps_bipush (n := 16) (by decide +kernel) (by decide +kernel),
  ps_newa (atype := .int) (ty := .int) wd_94 rfl rfl (fun _ q => q) (fun _ => rfl) rfl (by decide) (by decide) (by decide +kernel) (by decide +kernel) (by decide +kernel),
  ps_putF cl_1 (k := 3) (by decide) wd_107 rfl rfl (by decide +kernel) (by decide +kernel) (by decide +kernel),
  ps_aln (kf := 0) (by decide +kernel) rfl,
  ps_bipush (n := 16) (by decide +kernel) (by decide +kernel),
  ps_newa (atype := .int) (ty := .int) wd_94 rfl rfl (fun _ q => q) (fun _ => rfl) rfl (by decide) (by decide) (by decide +kernel) (by decide +kernel) (by decide +kernel),
  ps_putF cl_1 (k := 4) (by decide) wd_109 rfl rfl (by decide +kernel) (by decide +kernel) (by decide +kernel),
  ps_aln (kf := 0) (by decide +kernel) rfl,
  ps_iconst (n := 0) (by decide +kernel) (by decide +kernel),
  ps_put cl_1 (k := 5) (by decide) wd_111 rfl rfl (by decide +kernel),
  ps_aln (kf := 0) (by decide +kernel) rfl,
  ps_iconst (n := 0) (by decide +kernel) (by decide +kernel),
  ps_put cl_1 (k := 6) (by decide) wd_113 rfl rfl (by decide +kernel),
  ps_vretC (by decide +kernel) rfl rfl rfl, trivial⟩
def tX1_clear : pm_Cd := [(0, po_al 0), (1, po_ic (0)), (2, po_put 1 5 .int), (5, po_al 0), (6, po_ic (0)), (7, po_put 1 6 .int), (10, po_vret)]
set_option maxRecDepth 100000 in
theorem aX1_clear (E : pm_E) : pm_All E 9 (tX1_clear) :=
  ⟨ps_aln (kf := 0) (by decide +kernel) rfl,
  ps_iconst (n := 0) (by decide +kernel) (by decide +kernel),
  ps_put cl_1 (k := 5) (by decide) wd_111 rfl rfl (by decide +kernel),
  ps_aln (kf := 0) (by decide +kernel) rfl,
  ps_iconst (n := 0) (by decide +kernel) (by decide +kernel),
  ps_put cl_1 (k := 6) (by decide) wd_113 rfl rfl (by decide +kernel),
  ps_vret (by decide +kernel) rfl rfl rfl, trivial⟩
def tX1_copyFrom : pm_Cd := [(0, po_al 1), (1, po_get 1 0), (4, po_ic (0)), (5, po_al 0), (6, po_get 1 0), (9, po_ic (0)), (10, po_ic (16)), (12, po_cpi), (15, po_al 1), (16, po_get 1 1), (19, po_ic (0)), (20, po_al 0), (21, po_get 1 1), (24, po_ic (0)), (25, po_ic (16)), (27, po_cpi), (30, po_al 1), (31, po_get 1 2), (34, po_ic (0)), (35, po_al 0), (36, po_get 1 2), (39, po_ic (0)), (40, po_ic (16)), (42, po_cpl), (45, po_al 1), (46, po_get 1 3), (49, po_ic (0)), (50, po_al 0), (51, po_get 1 3), (54, po_ic (0)), (55, po_ic (16)), (57, po_cpi), (60, po_al 1), (61, po_get 1 4), (64, po_ic (0)), (65, po_al 0), (66, po_get 1 4), (69, po_ic (0)), (70, po_ic (16)), (72, po_cpi), (75, po_al 0), (76, po_al 1), (77, po_get 1 5), (80, po_put 1 5 .int), (83, po_al 0), (84, po_al 1), (85, po_get 1 6), (88, po_put 1 6 .int), (91, po_vret)]
set_option maxRecDepth 100000 in
theorem aX1_copyFrom (E : pm_E) : pm_All E 10 (tX1_copyFrom) :=
  ⟨ps_aln (kf := 1) (by decide +kernel) rfl,
  ps_get cl_1 (k := 0) (by decide) wd_101 (by decide +kernel),
  ps_iconst (n := 0) (by decide +kernel) (by decide +kernel),
  ps_aln (kf := 0) (by decide +kernel) rfl,
  ps_get cl_1 (k := 0) (by decide) wd_101 (by decide +kernel),
  ps_iconst (n := 0) (by decide +kernel) (by decide +kernel),
  ps_bipush (n := 16) (by decide +kernel) (by decide +kernel),
  ps_cpi wd_414 wd_409 wd_408 wd_16 (by decide +kernel) (by decide +kernel) (by decide +kernel),
  ps_aln (kf := 1) (by decide +kernel) rfl,
  ps_get cl_1 (k := 1) (by decide) wd_103 (by decide +kernel),
  ps_iconst (n := 0) (by decide +kernel) (by decide +kernel),
  ps_aln (kf := 0) (by decide +kernel) rfl,
  ps_get cl_1 (k := 1) (by decide) wd_103 (by decide +kernel),
  ps_iconst (n := 0) (by decide +kernel) (by decide +kernel),
  ps_bipush (n := 16) (by decide +kernel) (by decide +kernel),
  ps_cpi wd_414 wd_409 wd_408 wd_16 (by decide +kernel) (by decide +kernel) (by decide +kernel),
  ps_aln (kf := 1) (by decide +kernel) rfl,
  ps_get cl_1 (k := 2) (by decide) wd_105 (by decide +kernel),
  ps_iconst (n := 0) (by decide +kernel) (by decide +kernel),
  ps_aln (kf := 0) (by decide +kernel) rfl,
  ps_get cl_1 (k := 2) (by decide) wd_105 (by decide +kernel),
  ps_iconst (n := 0) (by decide +kernel) (by decide +kernel),
  ps_bipush (n := 16) (by decide +kernel) (by decide +kernel),
  ps_cpl wd_414 wd_409 wd_408 wd_16 (by decide +kernel) (by decide +kernel) (by decide +kernel),
  ps_aln (kf := 1) (by decide +kernel) rfl,
  ps_get cl_1 (k := 3) (by decide) wd_107 (by decide +kernel),
  ps_iconst (n := 0) (by decide +kernel) (by decide +kernel),
  ps_aln (kf := 0) (by decide +kernel) rfl,
  ps_get cl_1 (k := 3) (by decide) wd_107 (by decide +kernel),
  ps_iconst (n := 0) (by decide +kernel) (by decide +kernel),
  ps_bipush (n := 16) (by decide +kernel) (by decide +kernel),
  ps_cpi wd_414 wd_409 wd_408 wd_16 (by decide +kernel) (by decide +kernel) (by decide +kernel),
  ps_aln (kf := 1) (by decide +kernel) rfl,
  ps_get cl_1 (k := 4) (by decide) wd_109 (by decide +kernel),
  ps_iconst (n := 0) (by decide +kernel) (by decide +kernel),
  ps_aln (kf := 0) (by decide +kernel) rfl,
  ps_get cl_1 (k := 4) (by decide) wd_109 (by decide +kernel),
  ps_iconst (n := 0) (by decide +kernel) (by decide +kernel),
  ps_bipush (n := 16) (by decide +kernel) (by decide +kernel),
  ps_cpi wd_414 wd_409 wd_408 wd_16 (by decide +kernel) (by decide +kernel) (by decide +kernel),
  ps_aln (kf := 0) (by decide +kernel) rfl,
  ps_aln (kf := 1) (by decide +kernel) rfl,
  ps_get cl_1 (k := 5) (by decide) wd_111 (by decide +kernel),
  ps_put cl_1 (k := 5) (by decide) wd_111 rfl rfl (by decide +kernel),
  ps_aln (kf := 0) (by decide +kernel) rfl,
  ps_aln (kf := 1) (by decide +kernel) rfl,
  ps_get cl_1 (k := 6) (by decide) wd_113 (by decide +kernel),
  ps_put cl_1 (k := 6) (by decide) wd_113 rfl rfl (by decide +kernel),
  ps_vret (by decide +kernel) rfl rfl rfl, trivial⟩
def tX1_has : pm_Cd := [(0, po_il 1), (1, po_iflt 16), (4, po_il 1), (5, po_al 0), (6, po_get 1 5), (9, po_icge 16), (12, po_ic (1)), (13, po_goto 17), (16, po_ic (0)), (17, po_zret .boolean)]
set_option maxRecDepth 100000 in
theorem aX1_has (E : pm_E) : pm_All E 11 (tX1_has) :=
  ⟨ps_iln (kf := 1) (by decide +kernel) rfl,
  ps_iflt (off := 15) (by decide +kernel) (by decide +kernel),
  ps_iln (kf := 1) (by decide +kernel) rfl,
  ps_aln (kf := 0) (by decide +kernel) rfl,
  ps_get cl_1 (k := 5) (by decide) wd_111 (by decide +kernel),
  ps_icge (off := 7) (by decide +kernel) (by decide +kernel),
  ps_iconst (n := 1) (by decide +kernel) (by decide +kernel),
  ps_goto (off := 4) (by decide +kernel) (by decide +kernel),
  ps_iconst (n := 0) (by decide +kernel) (by decide +kernel),
  ps_zret (by decide +kernel) rfl rfl rfl, trivial⟩
def tX1_isOpen : pm_Cd := [(0, po_il 1), (1, po_al 0), (2, po_get 1 6), (5, po_iclt 12), (8, po_ic (1)), (9, po_goto 13), (12, po_ic (0)), (13, po_zret .boolean)]
set_option maxRecDepth 100000 in
theorem aX1_isOpen (E : pm_E) : pm_All E 12 (tX1_isOpen) :=
  ⟨ps_iln (kf := 1) (by decide +kernel) rfl,
  ps_aln (kf := 0) (by decide +kernel) rfl,
  ps_get cl_1 (k := 6) (by decide) wd_113 (by decide +kernel),
  ps_iclt (off := 7) (by decide +kernel) (by decide +kernel),
  ps_iconst (n := 1) (by decide +kernel) (by decide +kernel),
  ps_goto (off := 4) (by decide +kernel) (by decide +kernel),
  ps_iconst (n := 0) (by decide +kernel) (by decide +kernel),
  ps_zret (by decide +kernel) rfl rfl rfl, trivial⟩
def tX1_howManyOpen : pm_Cd := [(0, po_al 0), (1, po_get 1 5), (4, po_al 0), (5, po_get 1 6), (8, po_isub), (9, po_iret)]
set_option maxRecDepth 100000 in
theorem aX1_howManyOpen (E : pm_E) : pm_All E 13 (tX1_howManyOpen) :=
  ⟨ps_aln (kf := 0) (by decide +kernel) rfl,
  ps_get cl_1 (k := 5) (by decide) wd_111 (by decide +kernel),
  ps_aln (kf := 0) (by decide +kernel) rfl,
  ps_get cl_1 (k := 6) (by decide) wd_113 (by decide +kernel),
  ps_isub (by decide +kernel),
  ps_iret (by decide +kernel) rfl rfl rfl, trivial⟩
def tX1_make : pm_Cd := [(0, po_al 0), (1, po_get 1 0), (4, po_al 0), (5, po_get 1 5), (8, po_il 1), (9, po_iast), (10, po_al 0), (11, po_get 1 1), (14, po_al 0), (15, po_get 1 5), (18, po_il 2), (19, po_iast), (20, po_al 0), (21, po_get 1 2), (24, po_al 0), (25, po_get 1 5), (28, po_al 0), (29, po_get 1 5), (32, po_ifle 48), (35, po_ll 3), (36, po_al 0), (37, po_callV 1 16 0 1), (40, po_lc (1)), (41, po_ladd), (42, po_maxl), (45, po_goto 49), (48, po_ll 3), (49, po_last), (50, po_al 0), (51, po_get 1 3), (54, po_al 0), (55, po_get 1 5), (58, po_il 5), (60, po_iast), (61, po_al 0), (62, po_dup), (63, po_get 1 5), (66, po_ic (1)), (67, po_iadd), (68, po_put 1 5 .int), (71, po_vret)]
set_option maxRecDepth 100000 in
theorem aX1_make (E : pm_E) : pm_All E 14 (tX1_make) :=
  ⟨ps_aln (kf := 0) (by decide +kernel) rfl,
  ps_get cl_1 (k := 0) (by decide) wd_101 (by decide +kernel),
  ps_aln (kf := 0) (by decide +kernel) rfl,
  ps_get cl_1 (k := 5) (by decide) wd_111 (by decide +kernel),
  ps_iln (kf := 1) (by decide +kernel) rfl,
  ps_iast (by decide +kernel),
  ps_aln (kf := 0) (by decide +kernel) rfl,
  ps_get cl_1 (k := 1) (by decide) wd_103 (by decide +kernel),
  ps_aln (kf := 0) (by decide +kernel) rfl,
  ps_get cl_1 (k := 5) (by decide) wd_111 (by decide +kernel),
  ps_iln (kf := 2) (by decide +kernel) rfl,
  ps_iast (by decide +kernel),
  ps_aln (kf := 0) (by decide +kernel) rfl,
  ps_get cl_1 (k := 2) (by decide) wd_105 (by decide +kernel),
  ps_aln (kf := 0) (by decide +kernel) rfl,
  ps_get cl_1 (k := 5) (by decide) wd_111 (by decide +kernel),
  ps_aln (kf := 0) (by decide +kernel) rfl,
  ps_get cl_1 (k := 5) (by decide) wd_111 (by decide +kernel),
  ps_ifle (off := 16) (by decide +kernel) (by decide +kernel),
  ps_lln (kf := 3) (by decide +kernel) rfl,
  ps_aln (kf := 0) (by decide +kernel) rfl,
  ps_callV cl_1 rfl ce_X1_latestStamp wd_559 wd_560 wd_558 ⟨by decide +kernel, by decide +kernel⟩ rfl rfl rfl (by decide +kernel),
  ps_lconst (n := 1) (by decide +kernel) (by decide +kernel),
  ps_ladd (by decide +kernel),
  ps_maxl wd_562 wd_563 wd_17 wd_564 (by decide +kernel) (by decide +kernel) (by decide +kernel),
  ps_goto (off := 4) (by decide +kernel) (by decide +kernel),
  ps_lln (kf := 3) (by decide +kernel) rfl,
  ps_last (by decide +kernel),
  ps_aln (kf := 0) (by decide +kernel) rfl,
  ps_get cl_1 (k := 3) (by decide) wd_107 (by decide +kernel),
  ps_aln (kf := 0) (by decide +kernel) rfl,
  ps_get cl_1 (k := 5) (by decide) wd_111 (by decide +kernel),
  ps_il (by decide +kernel),
  ps_iast (by decide +kernel),
  ps_aln (kf := 0) (by decide +kernel) rfl,
  ps_dup (by decide +kernel),
  ps_get cl_1 (k := 5) (by decide) wd_111 (by decide +kernel),
  ps_iconst (n := 1) (by decide +kernel) (by decide +kernel),
  ps_iadd (by decide +kernel),
  ps_put cl_1 (k := 5) (by decide) wd_111 rfl rfl (by decide +kernel),
  ps_vret (by decide +kernel) rfl rfl rfl, trivial⟩
def tX1_finishBelow : pm_Cd := [(0, po_mark), (0, po_al 0), (1, po_get 1 6), (4, po_al 0), (5, po_get 1 5), (8, po_icge 48), (11, po_al 0), (12, po_get 1 2), (15, po_al 0), (16, po_get 1 6), (19, po_lald), (20, po_ll 1), (21, po_lcge 48), (25, po_al 0), (26, po_get 1 4), (29, po_al 0), (30, po_get 1 6), (33, po_il 3), (34, po_iast), (35, po_al 0), (36, po_dup), (37, po_get 1 6), (40, po_ic (1)), (41, po_iadd), (42, po_put 1 6 .int), (45, po_goto 0), (48, po_vret)]
set_option maxRecDepth 100000 in
theorem aX1_finishBelow (E : pm_E) : pm_All E 15 (tX1_finishBelow) :=
  ⟨ps_mark,
  ps_aln (kf := 0) (by decide +kernel) rfl,
  ps_get cl_1 (k := 6) (by decide) wd_113 (by decide +kernel),
  ps_aln (kf := 0) (by decide +kernel) rfl,
  ps_get cl_1 (k := 5) (by decide) wd_111 (by decide +kernel),
  ps_icge (off := 40) (by decide +kernel) (by decide +kernel),
  ps_aln (kf := 0) (by decide +kernel) rfl,
  ps_get cl_1 (k := 2) (by decide) wd_105 (by decide +kernel),
  ps_aln (kf := 0) (by decide +kernel) rfl,
  ps_get cl_1 (k := 6) (by decide) wd_113 (by decide +kernel),
  ps_lald (by decide +kernel),
  ps_lln (kf := 1) (by decide +kernel) rfl,
  ps_lcge (off := 26) (by decide +kernel) (by decide +kernel) (by decide +kernel),
  ps_aln (kf := 0) (by decide +kernel) rfl,
  ps_get cl_1 (k := 4) (by decide) wd_109 (by decide +kernel),
  ps_aln (kf := 0) (by decide +kernel) rfl,
  ps_get cl_1 (k := 6) (by decide) wd_113 (by decide +kernel),
  ps_iln (kf := 3) (by decide +kernel) rfl,
  ps_iast (by decide +kernel),
  ps_aln (kf := 0) (by decide +kernel) rfl,
  ps_dup (by decide +kernel),
  ps_get cl_1 (k := 6) (by decide) wd_113 (by decide +kernel),
  ps_iconst (n := 1) (by decide +kernel) (by decide +kernel),
  ps_iadd (by decide +kernel),
  ps_put cl_1 (k := 6) (by decide) wd_113 rfl rfl (by decide +kernel),
  ps_goto (off := -45) (by decide +kernel) (by decide +kernel),
  ps_vret (by decide +kernel) rfl rfl rfl, trivial⟩
def tX1_latestStamp : pm_Cd := [(0, po_al 0), (1, po_get 1 2), (4, po_al 0), (5, po_get 1 5), (8, po_ic (1)), (9, po_isub), (10, po_lald), (11, po_lret)]
set_option maxRecDepth 100000 in
theorem aX1_latestStamp (E : pm_E) : pm_All E 16 (tX1_latestStamp) :=
  ⟨ps_aln (kf := 0) (by decide +kernel) rfl,
  ps_get cl_1 (k := 2) (by decide) wd_105 (by decide +kernel),
  ps_aln (kf := 0) (by decide +kernel) rfl,
  ps_get cl_1 (k := 5) (by decide) wd_111 (by decide +kernel),
  ps_iconst (n := 1) (by decide +kernel) (by decide +kernel),
  ps_isub (by decide +kernel),
  ps_lald (by decide +kernel),
  ps_lret (by decide +kernel) rfl rfl rfl, trivial⟩
def tX1_leastOpenStamp : pm_Cd := [(0, po_al 0), (1, po_get 1 2), (4, po_al 0), (5, po_get 1 6), (8, po_lald), (9, po_lret)]
set_option maxRecDepth 100000 in
theorem aX1_leastOpenStamp (E : pm_E) : pm_All E 17 (tX1_leastOpenStamp) :=
  ⟨ps_aln (kf := 0) (by decide +kernel) rfl,
  ps_get cl_1 (k := 2) (by decide) wd_105 (by decide +kernel),
  ps_aln (kf := 0) (by decide +kernel) rfl,
  ps_get cl_1 (k := 6) (by decide) wd_113 (by decide +kernel),
  ps_lald (by decide +kernel),
  ps_lret (by decide +kernel) rfl rfl rfl, trivial⟩
def tX1_valueAsOf : pm_Cd := [(0, po_ic (-4)), (2, po_is 4), (4, po_ic (0)), (5, po_is 5), (7, po_mark), (7, po_il 5), (9, po_al 0), (10, po_get 1 5), (13, po_icge 54), (16, po_al 0), (17, po_get 1 0), (20, po_il 5), (22, po_iald), (23, po_il 1), (24, po_icne 48), (27, po_al 0), (28, po_get 1 2), (31, po_il 5), (33, po_lald), (34, po_ll 2), (35, po_lcgt 48), (39, po_al 0), (40, po_get 1 1), (43, po_il 5), (45, po_iald), (46, po_is 4), (48, po_iinc 5 (1)), (51, po_goto 7), (54, po_il 4), (56, po_iret)]
set_option maxRecDepth 100000 in
theorem aX1_valueAsOf (E : pm_E) : pm_All E 18 (tX1_valueAsOf) :=
  ⟨ps_bipush (n := -4) (by decide +kernel) (by decide +kernel),
  ps_is (by decide +kernel) (by decide +kernel),
  ps_iconst (n := 0) (by decide +kernel) (by decide +kernel),
  ps_is (by decide +kernel) (by decide +kernel),
  ps_mark,
  ps_il (by decide +kernel),
  ps_aln (kf := 0) (by decide +kernel) rfl,
  ps_get cl_1 (k := 5) (by decide) wd_111 (by decide +kernel),
  ps_icge (off := 41) (by decide +kernel) (by decide +kernel),
  ps_aln (kf := 0) (by decide +kernel) rfl,
  ps_get cl_1 (k := 0) (by decide) wd_101 (by decide +kernel),
  ps_il (by decide +kernel),
  ps_iald (by decide +kernel),
  ps_iln (kf := 1) (by decide +kernel) rfl,
  ps_icne (off := 24) (by decide +kernel) (by decide +kernel),
  ps_aln (kf := 0) (by decide +kernel) rfl,
  ps_get cl_1 (k := 2) (by decide) wd_105 (by decide +kernel),
  ps_il (by decide +kernel),
  ps_lald (by decide +kernel),
  ps_lln (kf := 2) (by decide +kernel) rfl,
  ps_lcgt (off := 12) (by decide +kernel) (by decide +kernel) (by decide +kernel),
  ps_aln (kf := 0) (by decide +kernel) rfl,
  ps_get cl_1 (k := 1) (by decide) wd_103 (by decide +kernel),
  ps_il (by decide +kernel),
  ps_iald (by decide +kernel),
  ps_is (by decide +kernel) (by decide +kernel),
  ps_iinc (n := 1) (by decide +kernel) (by decide +kernel) (by decide +kernel),
  ps_goto (off := -44) (by decide +kernel) (by decide +kernel),
  ps_il (by decide +kernel),
  ps_iret (by decide +kernel) rfl rfl rfl, trivial⟩
def tX1_howManyStamped : pm_Cd := [(0, po_ic (0)), (1, po_is 6), (3, po_ic (0)), (4, po_is 7), (6, po_mark), (6, po_il 7), (8, po_al 0), (9, po_get 1 5), (12, po_icge 77), (15, po_il 1), (16, po_ic (-1)), (17, po_iceq 31), (20, po_al 0), (21, po_get 1 0), (24, po_il 7), (26, po_iald), (27, po_il 1), (28, po_icne 35), (31, po_ic (1)), (32, po_goto 36), (35, po_ic (0)), (36, po_is 8), (38, po_il 8), (40, po_ifeq 71), (43, po_al 0), (44, po_get 1 2), (47, po_il 7), (49, po_lald), (50, po_ll 2), (51, po_lclt 71), (55, po_al 0), (56, po_get 1 2), (59, po_il 7), (61, po_lald), (62, po_ll 4), (64, po_lcgt 71), (68, po_iinc 6 (1)), (71, po_iinc 7 (1)), (74, po_goto 6), (77, po_il 6), (79, po_iret)]
set_option maxRecDepth 100000 in
theorem aX1_howManyStamped (E : pm_E) : pm_All E 19 (tX1_howManyStamped) :=
  ⟨ps_iconst (n := 0) (by decide +kernel) (by decide +kernel),
  ps_is (by decide +kernel) (by decide +kernel),
  ps_iconst (n := 0) (by decide +kernel) (by decide +kernel),
  ps_is (by decide +kernel) (by decide +kernel),
  ps_mark,
  ps_il (by decide +kernel),
  ps_aln (kf := 0) (by decide +kernel) rfl,
  ps_get cl_1 (k := 5) (by decide) wd_111 (by decide +kernel),
  ps_icge (off := 65) (by decide +kernel) (by decide +kernel),
  ps_iln (kf := 1) (by decide +kernel) rfl,
  ps_iconst (n := -1) (by decide +kernel) (by decide +kernel),
  ps_iceq (off := 14) (by decide +kernel) (by decide +kernel),
  ps_aln (kf := 0) (by decide +kernel) rfl,
  ps_get cl_1 (k := 0) (by decide) wd_101 (by decide +kernel),
  ps_il (by decide +kernel),
  ps_iald (by decide +kernel),
  ps_iln (kf := 1) (by decide +kernel) rfl,
  ps_icne (off := 7) (by decide +kernel) (by decide +kernel),
  ps_iconst (n := 1) (by decide +kernel) (by decide +kernel),
  ps_goto (off := 4) (by decide +kernel) (by decide +kernel),
  ps_iconst (n := 0) (by decide +kernel) (by decide +kernel),
  ps_is (by decide +kernel) (by decide +kernel),
  ps_il (by decide +kernel),
  ps_ifeq (off := 31) (by decide +kernel) (by decide +kernel),
  ps_aln (kf := 0) (by decide +kernel) rfl,
  ps_get cl_1 (k := 2) (by decide) wd_105 (by decide +kernel),
  ps_il (by decide +kernel),
  ps_lald (by decide +kernel),
  ps_lln (kf := 2) (by decide +kernel) rfl,
  ps_lclt (off := 19) (by decide +kernel) (by decide +kernel) (by decide +kernel),
  ps_aln (kf := 0) (by decide +kernel) rfl,
  ps_get cl_1 (k := 2) (by decide) wd_105 (by decide +kernel),
  ps_il (by decide +kernel),
  ps_lald (by decide +kernel),
  ps_ll (by decide +kernel),
  ps_lcgt (off := 6) (by decide +kernel) (by decide +kernel) (by decide +kernel),
  ps_iinc (n := 1) (by decide +kernel) (by decide +kernel) (by decide +kernel),
  ps_iinc (n := 1) (by decide +kernel) (by decide +kernel) (by decide +kernel),
  ps_goto (off := -68) (by decide +kernel) (by decide +kernel),
  ps_il (by decide +kernel),
  ps_iret (by decide +kernel) rfl rfl rfl, trivial⟩
def tX2_init : pm_Cd := [(0, po_al 0), (1, po_obj), (4, po_al 0), (5, po_ic (4)), (6, po_newa 2 4 1 4 (4, .inr (.inl (fun _ => 0)))), (8, po_put 2 0 (.array .long)), (11, po_al 0), (12, po_ic (0)), (13, po_put 2 1 .char), (16, po_al 0), (17, po_ic (0)), (18, po_put 2 2 .int), (21, po_vretC 1 4)]
set_option maxRecDepth 100000 in
theorem aX2_init (E : pm_E) : pm_All E 20 (tX2_init) :=
  ⟨ps_aln (kf := 0) (by decide +kernel) rfl,
  ps_obj wd_46 wd_24 wd_25 (by decide +kernel) (by decide +kernel) (by decide +kernel),
  ps_aln (kf := 0) (by decide +kernel) rfl,
  ps_iconst (n := 4) (by decide +kernel) (by decide +kernel),
  ps_newa (atype := .long) (ty := .long) wd_60 rfl rfl (fun _ q => q) (fun _ => rfl) rfl (by decide) (by decide) (by decide +kernel) (by decide +kernel) (by decide +kernel),
  ps_putF cl_2 (k := 0) (by decide) wd_47 rfl rfl (by decide +kernel) (by decide +kernel) (by decide +kernel),
  ps_aln (kf := 0) (by decide +kernel) rfl,
  ps_iconst (n := 0) (by decide +kernel) (by decide +kernel),
  ps_put cl_2 (k := 1) (by decide) wd_49 rfl rfl (by decide +kernel),
  ps_aln (kf := 0) (by decide +kernel) rfl,
  ps_iconst (n := 0) (by decide +kernel) (by decide +kernel),
  ps_put cl_2 (k := 2) (by decide) wd_51 rfl rfl (by decide +kernel),
  ps_vretC (by decide +kernel) rfl rfl rfl, trivial⟩
def tX2_takeFrom : pm_Cd := [(0, po_al 0), (1, po_al 1), (2, po_il 2), (3, po_callV 7 51 1 2), (6, po_put 2 1 .char), (9, po_al 0), (10, po_il 2), (11, po_ic (1)), (12, po_iadd), (13, po_put 2 2 .int), (16, po_al 0), (17, po_callV 2 22 0 1), (20, po_is 3), (21, po_ic (0)), (22, po_is 4), (24, po_mark), (24, po_il 4), (26, po_il 3), (27, po_icge 73), (30, po_il 4), (32, po_ic (4)), (33, po_icge 73), (36, po_il 4), (38, po_ic (1)), (39, po_iadd), (40, po_il 3), (41, po_icge 49), (44, po_ic (44)), (46, po_goto 51), (49, po_ic (59)), (51, po_is 5), (53, po_al 0), (54, po_al 1), (55, po_il 4), (57, po_il 5), (59, po_callV 2 23 3 9), (62, po_ifne 67), (65, po_ic (0)), (66, po_zret .boolean), (67, po_iinc 4 (1)), (70, po_goto 24), (73, po_al 0), (74, po_callV 2 24 0 2), (77, po_zret .boolean)]
set_option maxRecDepth 100000 in
theorem aX2_takeFrom (E : pm_E) : pm_All E 21 (tX2_takeFrom) :=
  ⟨ps_aln (kf := 0) (by decide +kernel) rfl,
  ps_aln (kf := 1) (by decide +kernel) rfl,
  ps_iln (kf := 2) (by decide +kernel) rfl,
  ps_callV cl_7 rfl ce_X7_letterAt wd_298 wd_299 wd_297 ⟨by decide +kernel, by decide +kernel⟩ rfl rfl rfl (by decide +kernel),
  ps_put cl_2 (k := 1) (by decide) wd_49 rfl rfl (by decide +kernel),
  ps_aln (kf := 0) (by decide +kernel) rfl,
  ps_iln (kf := 2) (by decide +kernel) rfl,
  ps_iconst (n := 1) (by decide +kernel) (by decide +kernel),
  ps_iadd (by decide +kernel),
  ps_put cl_2 (k := 2) (by decide) wd_51 rfl rfl (by decide +kernel),
  ps_aln (kf := 0) (by decide +kernel) rfl,
  ps_callV cl_2 rfl ce_X2_howManyNumbers wd_303 wp_1 wd_301 ⟨by decide +kernel, by decide +kernel⟩ rfl rfl rfl (by decide +kernel),
  ps_isn (kf := 3) (by decide +kernel) rfl (by decide +kernel),
  ps_iconst (n := 0) (by decide +kernel) (by decide +kernel),
  ps_is (by decide +kernel) (by decide +kernel),
  ps_mark,
  ps_il (by decide +kernel),
  ps_iln (kf := 3) (by decide +kernel) rfl,
  ps_icge (off := 46) (by decide +kernel) (by decide +kernel),
  ps_il (by decide +kernel),
  ps_iconst (n := 4) (by decide +kernel) (by decide +kernel),
  ps_icge (off := 40) (by decide +kernel) (by decide +kernel),
  ps_il (by decide +kernel),
  ps_iconst (n := 1) (by decide +kernel) (by decide +kernel),
  ps_iadd (by decide +kernel),
  ps_iln (kf := 3) (by decide +kernel) rfl,
  ps_icge (off := 8) (by decide +kernel) (by decide +kernel),
  ps_bipush (n := 44) (by decide +kernel) (by decide +kernel),
  ps_goto (off := 5) (by decide +kernel) (by decide +kernel),
  ps_bipush (n := 59) (by decide +kernel) (by decide +kernel),
  ps_is (by decide +kernel) (by decide +kernel),
  ps_aln (kf := 0) (by decide +kernel) rfl,
  ps_aln (kf := 1) (by decide +kernel) rfl,
  ps_il (by decide +kernel),
  ps_il (by decide +kernel),
  ps_callV cl_2 rfl ce_X2_takeNumber wd_307 wp_2 wd_305 ⟨by decide +kernel, by decide +kernel⟩ rfl rfl rfl (by decide +kernel),
  ps_ifne (off := 5) (by decide +kernel) (by decide +kernel),
  ps_iconst (n := 0) (by decide +kernel) (by decide +kernel),
  ps_zret (by decide +kernel) rfl rfl rfl,
  ps_iinc (n := 1) (by decide +kernel) (by decide +kernel) (by decide +kernel),
  ps_goto (off := -46) (by decide +kernel) (by decide +kernel),
  ps_aln (kf := 0) (by decide +kernel) rfl,
  ps_callV cl_2 rfl ce_X2_areNumbersTold wd_313 wp_3 wd_311 ⟨by decide +kernel, by decide +kernel⟩ rfl rfl rfl (by decide +kernel),
  ps_zret (by decide +kernel) rfl rfl rfl, trivial⟩
def tX2_howManyNumbers : pm_Cd := [(0, po_al 0), (1, po_get 2 1), (4, po_ic (100)), (6, po_icne 11), (9, po_ic (1)), (10, po_iret), (11, po_al 0), (12, po_get 2 1), (15, po_ic (109)), (17, po_icne 22), (20, po_ic (3)), (21, po_iret), (22, po_al 0), (23, po_get 2 1), (26, po_ic (115)), (28, po_icne 35), (31, po_ic (4)), (32, po_goto 36), (35, po_ic (0)), (36, po_iret)]
set_option maxRecDepth 100000 in
theorem aX2_howManyNumbers (E : pm_E) : pm_All E 22 (tX2_howManyNumbers) :=
  ⟨ps_aln (kf := 0) (by decide +kernel) rfl,
  ps_get cl_2 (k := 1) (by decide) wd_49 (by decide +kernel),
  ps_bipush (n := 100) (by decide +kernel) (by decide +kernel),
  ps_icne (off := 5) (by decide +kernel) (by decide +kernel),
  ps_iconst (n := 1) (by decide +kernel) (by decide +kernel),
  ps_iret (by decide +kernel) rfl rfl rfl,
  ps_aln (kf := 0) (by decide +kernel) rfl,
  ps_get cl_2 (k := 1) (by decide) wd_49 (by decide +kernel),
  ps_bipush (n := 109) (by decide +kernel) (by decide +kernel),
  ps_icne (off := 5) (by decide +kernel) (by decide +kernel),
  ps_iconst (n := 3) (by decide +kernel) (by decide +kernel),
  ps_iret (by decide +kernel) rfl rfl rfl,
  ps_aln (kf := 0) (by decide +kernel) rfl,
  ps_get cl_2 (k := 1) (by decide) wd_49 (by decide +kernel),
  ps_bipush (n := 115) (by decide +kernel) (by decide +kernel),
  ps_icne (off := 7) (by decide +kernel) (by decide +kernel),
  ps_iconst (n := 4) (by decide +kernel) (by decide +kernel),
  ps_goto (off := 4) (by decide +kernel) (by decide +kernel),
  ps_iconst (n := 0) (by decide +kernel) (by decide +kernel),
  ps_iret (by decide +kernel) rfl rfl rfl, trivial⟩
def tX2_takeNumber : pm_Cd := [(0, po_lc (0)), (1, po_ls 4), (3, po_ic (0)), (4, po_is 6), (6, po_al 1), (7, po_al 0), (8, po_get 2 2), (11, po_callV 7 51 1 2), (14, po_is 7), (16, po_mark), (16, po_il 6), (18, po_ic (19)), (20, po_icge 101), (23, po_il 7), (25, po_ic (48)), (27, po_iclt 101), (30, po_il 7), (32, po_ic (57)), (34, po_icgt 101), (37, po_il 7), (39, po_ic (48)), (41, po_isub), (42, po_is 8), (44, po_ll 4), (46, po_lc (9223372036854775807)), (49, po_il 8), (51, po_i2l), (52, po_lsub), (53, po_lc (10)), (56, po_ldiv), (57, po_lcle 63), (61, po_ic (0)), (62, po_zret .boolean), (63, po_ll 4), (65, po_lc (10)), (68, po_lmul), (69, po_il 8), (71, po_i2l), (72, po_ladd), (73, po_ls 4), (75, po_iinc 6 (1)), (78, po_al 0), (79, po_dup), (80, po_get 2 2), (83, po_ic (1)), (84, po_iadd), (85, po_put 2 2 .int), (88, po_al 1), (89, po_al 0), (90, po_get 2 2), (93, po_callV 7 51 1 2), (96, po_is 7), (98, po_goto 16), (101, po_il 6), (103, po_ifeq 112), (106, po_il 7), (108, po_il 3), (109, po_iceq 114), (112, po_ic (0)), (113, po_zret .boolean), (114, po_al 0), (115, po_dup), (116, po_get 2 2), (119, po_ic (1)), (120, po_iadd), (121, po_put 2 2 .int), (124, po_al 0), (125, po_get 2 0), (128, po_il 2), (129, po_ll 4), (131, po_last), (132, po_ic (1)), (133, po_zret .boolean)]
set_option maxRecDepth 100000 in
theorem aX2_takeNumber (E : pm_E) : pm_All E 23 (tX2_takeNumber) :=
  ⟨ps_lconst (n := 0) (by decide +kernel) (by decide +kernel),
  ps_ls (by decide +kernel) (by decide +kernel),
  ps_iconst (n := 0) (by decide +kernel) (by decide +kernel),
  ps_is (by decide +kernel) (by decide +kernel),
  ps_aln (kf := 1) (by decide +kernel) rfl,
  ps_aln (kf := 0) (by decide +kernel) rfl,
  ps_get cl_2 (k := 2) (by decide) wd_51 (by decide +kernel),
  ps_callV cl_7 rfl ce_X7_letterAt wd_298 wd_299 wd_297 ⟨by decide +kernel, by decide +kernel⟩ rfl rfl rfl (by decide +kernel),
  ps_is (by decide +kernel) (by decide +kernel),
  ps_mark,
  ps_il (by decide +kernel),
  ps_bipush (n := 19) (by decide +kernel) (by decide +kernel),
  ps_icge (off := 81) (by decide +kernel) (by decide +kernel),
  ps_il (by decide +kernel),
  ps_bipush (n := 48) (by decide +kernel) (by decide +kernel),
  ps_iclt (off := 74) (by decide +kernel) (by decide +kernel),
  ps_il (by decide +kernel),
  ps_bipush (n := 57) (by decide +kernel) (by decide +kernel),
  ps_icgt (off := 67) (by decide +kernel) (by decide +kernel),
  ps_il (by decide +kernel),
  ps_bipush (n := 48) (by decide +kernel) (by decide +kernel),
  ps_isub (by decide +kernel),
  ps_is (by decide +kernel) (by decide +kernel),
  ps_ll (by decide +kernel),
  ps_ldc2 (n := 41) (by decide +kernel) wd_309,
  ps_il (by decide +kernel),
  ps_i2l (by decide +kernel),
  ps_lsub (by decide +kernel),
  ps_ldc2 (n := 43) (by decide +kernel) wd_310,
  ps_ldiv (by decide +kernel),
  ps_lcle (off := 5) (by decide +kernel) (by decide +kernel) (by decide +kernel),
  ps_iconst (n := 0) (by decide +kernel) (by decide +kernel),
  ps_zret (by decide +kernel) rfl rfl rfl,
  ps_ll (by decide +kernel),
  ps_ldc2 (n := 43) (by decide +kernel) wd_310,
  ps_lmul (by decide +kernel),
  ps_il (by decide +kernel),
  ps_i2l (by decide +kernel),
  ps_ladd (by decide +kernel),
  ps_ls (by decide +kernel) (by decide +kernel),
  ps_iinc (n := 1) (by decide +kernel) (by decide +kernel) (by decide +kernel),
  ps_aln (kf := 0) (by decide +kernel) rfl,
  ps_dup (by decide +kernel),
  ps_get cl_2 (k := 2) (by decide) wd_51 (by decide +kernel),
  ps_iconst (n := 1) (by decide +kernel) (by decide +kernel),
  ps_iadd (by decide +kernel),
  ps_put cl_2 (k := 2) (by decide) wd_51 rfl rfl (by decide +kernel),
  ps_aln (kf := 1) (by decide +kernel) rfl,
  ps_aln (kf := 0) (by decide +kernel) rfl,
  ps_get cl_2 (k := 2) (by decide) wd_51 (by decide +kernel),
  ps_callV cl_7 rfl ce_X7_letterAt wd_298 wd_299 wd_297 ⟨by decide +kernel, by decide +kernel⟩ rfl rfl rfl (by decide +kernel),
  ps_is (by decide +kernel) (by decide +kernel),
  ps_goto (off := -82) (by decide +kernel) (by decide +kernel),
  ps_il (by decide +kernel),
  ps_ifeq (off := 9) (by decide +kernel) (by decide +kernel),
  ps_il (by decide +kernel),
  ps_iln (kf := 3) (by decide +kernel) rfl,
  ps_iceq (off := 5) (by decide +kernel) (by decide +kernel),
  ps_iconst (n := 0) (by decide +kernel) (by decide +kernel),
  ps_zret (by decide +kernel) rfl rfl rfl,
  ps_aln (kf := 0) (by decide +kernel) rfl,
  ps_dup (by decide +kernel),
  ps_get cl_2 (k := 2) (by decide) wd_51 (by decide +kernel),
  ps_iconst (n := 1) (by decide +kernel) (by decide +kernel),
  ps_iadd (by decide +kernel),
  ps_put cl_2 (k := 2) (by decide) wd_51 rfl rfl (by decide +kernel),
  ps_aln (kf := 0) (by decide +kernel) rfl,
  ps_get cl_2 (k := 0) (by decide) wd_47 (by decide +kernel),
  ps_iln (kf := 2) (by decide +kernel) rfl,
  ps_ll (by decide +kernel),
  ps_last (by decide +kernel),
  ps_iconst (n := 1) (by decide +kernel) (by decide +kernel),
  ps_zret (by decide +kernel) rfl rfl rfl, trivial⟩
def tX2_areNumbersTold : pm_Cd := [(0, po_al 0), (1, po_get 2 0), (4, po_as 1), (5, po_al 0), (6, po_get 2 1), (9, po_ic (100)), (11, po_icne 21), (14, po_al 1), (15, po_ic (0)), (16, po_lald), (17, po_callS 84 1 2), (20, po_zret .boolean), (21, po_al 0), (22, po_get 2 1), (25, po_ic (109)), (27, po_icne 57), (30, po_al 1), (31, po_ic (0)), (32, po_lald), (33, po_callS 82 1 2), (36, po_ifeq 55), (39, po_al 1), (40, po_ic (1)), (41, po_lald), (42, po_al 1), (43, po_ic (2)), (44, po_lald), (45, po_callS 85 2 4), (48, po_ifeq 55), (51, po_ic (1)), (52, po_goto 56), (55, po_ic (0)), (56, po_zret .boolean), (57, po_al 0), (58, po_get 2 1), (61, po_ic (115)), (63, po_icne 88), (66, po_al 1), (67, po_ic (0)), (68, po_lald), (69, po_al 1), (70, po_ic (1)), (71, po_lald), (72, po_al 1), (73, po_ic (2)), (74, po_lald), (75, po_al 1), (76, po_ic (3)), (77, po_lald), (78, po_callS 87 4 8), (81, po_ifeq 88), (84, po_ic (1)), (85, po_goto 89), (88, po_ic (0)), (89, po_zret .boolean)]
set_option maxRecDepth 100000 in
theorem aX2_areNumbersTold (E : pm_E) : pm_All E 24 (tX2_areNumbersTold) :=
  ⟨ps_aln (kf := 0) (by decide +kernel) rfl,
  ps_get cl_2 (k := 0) (by decide) wd_47 (by decide +kernel),
  ps_asn (kf := 1) (by decide +kernel) rfl (by decide +kernel),
  ps_aln (kf := 0) (by decide +kernel) rfl,
  ps_get cl_2 (k := 1) (by decide) wd_49 (by decide +kernel),
  ps_bipush (n := 100) (by decide +kernel) (by decide +kernel),
  ps_icne (off := 10) (by decide +kernel) (by decide +kernel),
  ps_aln (kf := 1) (by decide +kernel) rfl,
  ps_iconst (n := 0) (by decide +kernel) (by decide +kernel),
  ps_lald (by decide +kernel),
  ps_callSN ce_X8_isDrift wd_316 wn_315 ⟨by decide +kernel, by decide +kernel⟩ rfl rfl rfl (by decide +kernel),
  ps_zret (by decide +kernel) rfl rfl rfl,
  ps_aln (kf := 0) (by decide +kernel) rfl,
  ps_get cl_2 (k := 1) (by decide) wd_49 (by decide +kernel),
  ps_bipush (n := 109) (by decide +kernel) (by decide +kernel),
  ps_icne (off := 30) (by decide +kernel) (by decide +kernel),
  ps_aln (kf := 1) (by decide +kernel) rfl,
  ps_iconst (n := 0) (by decide +kernel) (by decide +kernel),
  ps_lald (by decide +kernel),
  ps_callSN ce_X8_isMaster wd_320 wn_319 ⟨by decide +kernel, by decide +kernel⟩ rfl rfl rfl (by decide +kernel),
  ps_ifeq (off := 19) (by decide +kernel) (by decide +kernel),
  ps_aln (kf := 1) (by decide +kernel) rfl,
  ps_iconst (n := 1) (by decide +kernel) (by decide +kernel),
  ps_lald (by decide +kernel),
  ps_aln (kf := 1) (by decide +kernel) rfl,
  ps_iconst (n := 2) (by decide +kernel) (by decide +kernel),
  ps_lald (by decide +kernel),
  ps_callSN ce_X8_isToldSpan wd_324 wn_323 ⟨by decide +kernel, by decide +kernel⟩ rfl rfl rfl (by decide +kernel),
  ps_ifeq (off := 7) (by decide +kernel) (by decide +kernel),
  ps_iconst (n := 1) (by decide +kernel) (by decide +kernel),
  ps_goto (off := 4) (by decide +kernel) (by decide +kernel),
  ps_iconst (n := 0) (by decide +kernel) (by decide +kernel),
  ps_zret (by decide +kernel) rfl rfl rfl,
  ps_aln (kf := 0) (by decide +kernel) rfl,
  ps_get cl_2 (k := 1) (by decide) wd_49 (by decide +kernel),
  ps_bipush (n := 115) (by decide +kernel) (by decide +kernel),
  ps_icne (off := 25) (by decide +kernel) (by decide +kernel),
  ps_aln (kf := 1) (by decide +kernel) rfl,
  ps_iconst (n := 0) (by decide +kernel) (by decide +kernel),
  ps_lald (by decide +kernel),
  ps_aln (kf := 1) (by decide +kernel) rfl,
  ps_iconst (n := 1) (by decide +kernel) (by decide +kernel),
  ps_lald (by decide +kernel),
  ps_aln (kf := 1) (by decide +kernel) rfl,
  ps_iconst (n := 2) (by decide +kernel) (by decide +kernel),
  ps_lald (by decide +kernel),
  ps_aln (kf := 1) (by decide +kernel) rfl,
  ps_iconst (n := 3) (by decide +kernel) (by decide +kernel),
  ps_lald (by decide +kernel),
  ps_callSN ce_X8_isLeap wd_328 wn_327 ⟨by decide +kernel, by decide +kernel⟩ rfl rfl rfl (by decide +kernel),
  ps_ifeq (off := 7) (by decide +kernel) (by decide +kernel),
  ps_iconst (n := 1) (by decide +kernel) (by decide +kernel),
  ps_goto (off := 4) (by decide +kernel) (by decide +kernel),
  ps_iconst (n := 0) (by decide +kernel) (by decide +kernel),
  ps_zret (by decide +kernel) rfl rfl rfl, trivial⟩
def tX3_init : pm_Cd := [(0, po_al 0), (1, po_obj), (4, po_al 0), (5, po_lc (0)), (6, po_put 3 0 .long), (9, po_al 0), (10, po_lc (0)), (11, po_put 3 1 .long), (14, po_al 0), (15, po_lc (0)), (16, po_put 3 2 .long), (19, po_al 0), (20, po_lc (0)), (21, po_put 3 3 .long), (24, po_vret)]
set_option maxRecDepth 100000 in
theorem aX3_init (E : pm_E) : pm_All E 25 (tX3_init) :=
  ⟨ps_aln (kf := 0) (by decide +kernel) rfl,
  ps_obj wd_192 wd_24 wd_25 (by decide +kernel) (by decide +kernel) (by decide +kernel),
  ps_aln (kf := 0) (by decide +kernel) rfl,
  ps_lconst (n := 0) (by decide +kernel) (by decide +kernel),
  ps_put cl_3 (k := 0) (by decide) wd_193 rfl rfl (by decide +kernel),
  ps_aln (kf := 0) (by decide +kernel) rfl,
  ps_lconst (n := 0) (by decide +kernel) (by decide +kernel),
  ps_put cl_3 (k := 1) (by decide) wd_195 rfl rfl (by decide +kernel),
  ps_aln (kf := 0) (by decide +kernel) rfl,
  ps_lconst (n := 0) (by decide +kernel) (by decide +kernel),
  ps_put cl_3 (k := 2) (by decide) wd_197 rfl rfl (by decide +kernel),
  ps_aln (kf := 0) (by decide +kernel) rfl,
  ps_lconst (n := 0) (by decide +kernel) (by decide +kernel),
  ps_put cl_3 (k := 3) (by decide) wd_199 rfl rfl (by decide +kernel),
  ps_vret (by decide +kernel) rfl rfl rfl, trivial⟩
def tX3_clear : pm_Cd := [(0, po_al 0), (1, po_lc (1000)), (4, po_lc (1)), (5, po_lc (100)), (8, po_lc (0)), (9, po_callV 3 27 4 9), (12, po_vret)]
set_option maxRecDepth 100000 in
theorem aX3_clear (E : pm_E) : pm_All E 26 (tX3_clear) :=
  ⟨ps_aln (kf := 0) (by decide +kernel) rfl,
  ps_ldc2 (n := 22) (by decide +kernel) wd_287,
  ps_lconst (n := 1) (by decide +kernel) (by decide +kernel),
  ps_ldc2 (n := 24) (by decide +kernel) wd_288,
  ps_lconst (n := 0) (by decide +kernel) (by decide +kernel),
  ps_callV cl_3 rfl ce_X3_set wd_290 wd_291 wd_289 ⟨by decide +kernel, by decide +kernel⟩ rfl rfl rfl (by decide +kernel),
  ps_vret (by decide +kernel) rfl rfl rfl, trivial⟩
def tX3_set : pm_Cd := [(0, po_al 0), (1, po_ll 1), (2, po_put 3 0 .long), (5, po_al 0), (6, po_ll 3), (7, po_put 3 1 .long), (10, po_al 0), (11, po_ll 5), (13, po_put 3 2 .long), (16, po_al 0), (17, po_ll 7), (19, po_put 3 3 .long), (22, po_vret)]
set_option maxRecDepth 100000 in
theorem aX3_set (E : pm_E) : pm_All E 27 (tX3_set) :=
  ⟨ps_aln (kf := 0) (by decide +kernel) rfl,
  ps_lln (kf := 1) (by decide +kernel) rfl,
  ps_put cl_3 (k := 0) (by decide) wd_193 rfl rfl (by decide +kernel),
  ps_aln (kf := 0) (by decide +kernel) rfl,
  ps_lln (kf := 3) (by decide +kernel) rfl,
  ps_put cl_3 (k := 1) (by decide) wd_195 rfl rfl (by decide +kernel),
  ps_aln (kf := 0) (by decide +kernel) rfl,
  ps_ll (by decide +kernel),
  ps_put cl_3 (k := 2) (by decide) wd_197 rfl rfl (by decide +kernel),
  ps_aln (kf := 0) (by decide +kernel) rfl,
  ps_ll (by decide +kernel),
  ps_put cl_3 (k := 3) (by decide) wd_199 rfl rfl (by decide +kernel),
  ps_vret (by decide +kernel) rfl rfl rfl, trivial⟩
def tX3_smear : pm_Cd := [(0, po_al 0), (1, po_get 3 3), (4, po_lc (0)), (5, po_lcne 19), (9, po_ll 1), (10, po_al 0), (11, po_ll 1), (12, po_callV 3 29 1 3), (15, po_ladd), (16, po_goto 26), (19, po_ll 1), (20, po_al 0), (21, po_ll 1), (22, po_callV 3 29 1 3), (25, po_lsub), (26, po_lret)]
set_option maxRecDepth 100000 in
theorem aX3_smear (E : pm_E) : pm_All E 28 (tX3_smear) :=
  ⟨ps_aln (kf := 0) (by decide +kernel) rfl,
  ps_get cl_3 (k := 3) (by decide) wd_199 (by decide +kernel),
  ps_lconst (n := 0) (by decide +kernel) (by decide +kernel),
  ps_lcne (off := 13) (by decide +kernel) (by decide +kernel) (by decide +kernel),
  ps_lln (kf := 1) (by decide +kernel) rfl,
  ps_aln (kf := 0) (by decide +kernel) rfl,
  ps_lln (kf := 1) (by decide +kernel) rfl,
  ps_callV cl_3 rfl ce_X3_shift wd_624 wp_10 wd_622 ⟨by decide +kernel, by decide +kernel⟩ rfl rfl rfl (by decide +kernel),
  ps_ladd (by decide +kernel),
  ps_goto (off := 10) (by decide +kernel) (by decide +kernel),
  ps_lln (kf := 1) (by decide +kernel) rfl,
  ps_aln (kf := 0) (by decide +kernel) rfl,
  ps_lln (kf := 1) (by decide +kernel) rfl,
  ps_callV cl_3 rfl ce_X3_shift wd_624 wp_10 wd_622 ⟨by decide +kernel, by decide +kernel⟩ rfl rfl rfl (by decide +kernel),
  ps_lsub (by decide +kernel),
  ps_lret (by decide +kernel) rfl rfl rfl, trivial⟩
def tX3_shift : pm_Cd := [(0, po_ll 1), (1, po_al 0), (2, po_get 3 0), (5, po_lcgt 11), (9, po_lc (0)), (10, po_lret), (11, po_ll 1), (12, po_al 0), (13, po_get 3 0), (16, po_al 0), (17, po_get 3 2), (20, po_ladd), (21, po_lcge 34), (25, po_al 0), (26, po_get 3 2), (29, po_lc (0)), (30, po_lcgt 39), (34, po_al 0), (35, po_get 3 1), (38, po_lret), (39, po_al 0), (40, po_get 3 1), (43, po_ll 1), (44, po_al 0), (45, po_get 3 0), (48, po_lsub), (49, po_lmul), (50, po_al 0), (51, po_get 3 2), (54, po_ldiv), (55, po_lret)]
set_option maxRecDepth 100000 in
theorem aX3_shift (E : pm_E) : pm_All E 29 (tX3_shift) :=
  ⟨ps_lln (kf := 1) (by decide +kernel) rfl,
  ps_aln (kf := 0) (by decide +kernel) rfl,
  ps_get cl_3 (k := 0) (by decide) wd_193 (by decide +kernel),
  ps_lcgt (off := 5) (by decide +kernel) (by decide +kernel) (by decide +kernel),
  ps_lconst (n := 0) (by decide +kernel) (by decide +kernel),
  ps_lret (by decide +kernel) rfl rfl rfl,
  ps_lln (kf := 1) (by decide +kernel) rfl,
  ps_aln (kf := 0) (by decide +kernel) rfl,
  ps_get cl_3 (k := 0) (by decide) wd_193 (by decide +kernel),
  ps_aln (kf := 0) (by decide +kernel) rfl,
  ps_get cl_3 (k := 2) (by decide) wd_197 (by decide +kernel),
  ps_ladd (by decide +kernel),
  ps_lcge (off := 12) (by decide +kernel) (by decide +kernel) (by decide +kernel),
  ps_aln (kf := 0) (by decide +kernel) rfl,
  ps_get cl_3 (k := 2) (by decide) wd_197 (by decide +kernel),
  ps_lconst (n := 0) (by decide +kernel) (by decide +kernel),
  ps_lcgt (off := 8) (by decide +kernel) (by decide +kernel) (by decide +kernel),
  ps_aln (kf := 0) (by decide +kernel) rfl,
  ps_get cl_3 (k := 1) (by decide) wd_195 (by decide +kernel),
  ps_lret (by decide +kernel) rfl rfl rfl,
  ps_aln (kf := 0) (by decide +kernel) rfl,
  ps_get cl_3 (k := 1) (by decide) wd_195 (by decide +kernel),
  ps_lln (kf := 1) (by decide +kernel) rfl,
  ps_aln (kf := 0) (by decide +kernel) rfl,
  ps_get cl_3 (k := 0) (by decide) wd_193 (by decide +kernel),
  ps_lsub (by decide +kernel),
  ps_lmul (by decide +kernel),
  ps_aln (kf := 0) (by decide +kernel) rfl,
  ps_get cl_3 (k := 2) (by decide) wd_197 (by decide +kernel),
  ps_ldiv (by decide +kernel),
  ps_lret (by decide +kernel) rfl rfl rfl, trivial⟩
def tX3_leastSmearedTo : pm_Cd := [(0, po_lc (0)), (1, po_ll 1), (2, po_al 0), (3, po_get 3 1), (6, po_lsub), (7, po_maxl), (10, po_ls 3), (11, po_ll 1), (12, po_al 0), (13, po_get 3 1), (16, po_ladd), (17, po_ls 5), (19, po_ic (0)), (20, po_is 7), (22, po_mark), (22, po_il 7), (24, po_ic (64)), (26, po_icge 77), (29, po_ll 3), (30, po_ll 5), (32, po_lcge 77), (36, po_ll 3), (37, po_ll 5), (39, po_ll 3), (40, po_lsub), (41, po_lc (2)), (44, po_ldiv), (45, po_ladd), (46, po_ls 8), (48, po_al 0), (49, po_ll 8), (51, po_callV 3 28 1 3), (54, po_ll 1), (55, po_lclt 66), (59, po_ll 8), (61, po_ls 5), (63, po_goto 71), (66, po_ll 8), (68, po_lc (1)), (69, po_ladd), (70, po_ls 3), (71, po_iinc 7 (1)), (74, po_goto 22), (77, po_ll 3), (78, po_lret)]
set_option maxRecDepth 100000 in
theorem aX3_leastSmearedTo (E : pm_E) : pm_All E 30 (tX3_leastSmearedTo) :=
  ⟨ps_lconst (n := 0) (by decide +kernel) (by decide +kernel),
  ps_lln (kf := 1) (by decide +kernel) rfl,
  ps_aln (kf := 0) (by decide +kernel) rfl,
  ps_get cl_3 (k := 1) (by decide) wd_195 (by decide +kernel),
  ps_lsub (by decide +kernel),
  ps_maxl wd_634 wd_563 wd_17 wd_564 (by decide +kernel) (by decide +kernel) (by decide +kernel),
  ps_lsn (kf := 3) (by decide +kernel) rfl (by decide +kernel),
  ps_lln (kf := 1) (by decide +kernel) rfl,
  ps_aln (kf := 0) (by decide +kernel) rfl,
  ps_get cl_3 (k := 1) (by decide) wd_195 (by decide +kernel),
  ps_ladd (by decide +kernel),
  ps_ls (by decide +kernel) (by decide +kernel),
  ps_iconst (n := 0) (by decide +kernel) (by decide +kernel),
  ps_is (by decide +kernel) (by decide +kernel),
  ps_mark,
  ps_il (by decide +kernel),
  ps_bipush (n := 64) (by decide +kernel) (by decide +kernel),
  ps_icge (off := 51) (by decide +kernel) (by decide +kernel),
  ps_lln (kf := 3) (by decide +kernel) rfl,
  ps_ll (by decide +kernel),
  ps_lcge (off := 44) (by decide +kernel) (by decide +kernel) (by decide +kernel),
  ps_lln (kf := 3) (by decide +kernel) rfl,
  ps_ll (by decide +kernel),
  ps_lln (kf := 3) (by decide +kernel) rfl,
  ps_lsub (by decide +kernel),
  ps_ldc2 (n := 40) (by decide +kernel) wd_635,
  ps_ldiv (by decide +kernel),
  ps_ladd (by decide +kernel),
  ps_ls (by decide +kernel) (by decide +kernel),
  ps_aln (kf := 0) (by decide +kernel) rfl,
  ps_ll (by decide +kernel),
  ps_callV cl_3 rfl ce_X3_smear wd_619 wd_620 wd_636 ⟨by decide +kernel, by decide +kernel⟩ rfl rfl rfl (by decide +kernel),
  ps_lln (kf := 1) (by decide +kernel) rfl,
  ps_lclt (off := 10) (by decide +kernel) (by decide +kernel) (by decide +kernel),
  ps_ll (by decide +kernel),
  ps_ls (by decide +kernel) (by decide +kernel),
  ps_goto (off := 8) (by decide +kernel) (by decide +kernel),
  ps_ll (by decide +kernel),
  ps_lconst (n := 1) (by decide +kernel) (by decide +kernel),
  ps_ladd (by decide +kernel),
  ps_lsn (kf := 3) (by decide +kernel) rfl (by decide +kernel),
  ps_iinc (n := 1) (by decide +kernel) (by decide +kernel) (by decide +kernel),
  ps_goto (off := -52) (by decide +kernel) (by decide +kernel),
  ps_lln (kf := 3) (by decide +kernel) rfl,
  ps_lret (by decide +kernel) rfl rfl rfl, trivial⟩
end
section
def tX4_init : pm_Cd := [(0, po_al 0), (1, po_obj), (4, po_al 0), (5, po_ic (6)), (7, po_newa 2 6 3 18 (6, .inr (.inl (fun _ => 0)))), (9, po_put 4 0 (.array .long)), (12, po_al 0), (13, po_ic (6)), (15, po_newa 2 6 3 18 (6, .inr (.inl (fun _ => 0)))), (17, po_put 4 1 (.array .long)), (20, po_al 0), (21, po_ic (6)), (23, po_newa 1 6 3 18 (6, .inl (fun _ => 0))), (25, po_put 4 2 (.array .int)), (28, po_al 0), (29, po_ic (0)), (30, po_put 4 3 .int), (33, po_al 0), (34, po_ic (0)), (35, po_put 4 4 .int), (38, po_al 0), (39, po_ic (1000)), (42, po_put 4 5 .int), (45, po_vretC 3 18)]
set_option maxRecDepth 100000 in
theorem aX4_init (E : pm_E) : pm_All E 31 (tX4_init) :=
  ⟨ps_aln (kf := 0) (by decide +kernel) rfl,
  ps_obj wd_72 wd_24 wd_25 (by decide +kernel) (by decide +kernel) (by decide +kernel),
  ps_aln (kf := 0) (by decide +kernel) rfl,
  ps_bipush (n := 6) (by decide +kernel) (by decide +kernel),
  ps_newa (atype := .long) (ty := .long) wd_60 rfl rfl (fun _ q => q) (fun _ => rfl) rfl (by decide) (by decide) (by decide +kernel) (by decide +kernel) (by decide +kernel),
  ps_putF cl_4 (k := 0) (by decide) wd_73 rfl rfl (by decide +kernel) (by decide +kernel) (by decide +kernel),
  ps_aln (kf := 0) (by decide +kernel) rfl,
  ps_bipush (n := 6) (by decide +kernel) (by decide +kernel),
  ps_newa (atype := .long) (ty := .long) wd_60 rfl rfl (fun _ q => q) (fun _ => rfl) rfl (by decide) (by decide) (by decide +kernel) (by decide +kernel) (by decide +kernel),
  ps_putF cl_4 (k := 1) (by decide) wd_74 rfl rfl (by decide +kernel) (by decide +kernel) (by decide +kernel),
  ps_aln (kf := 0) (by decide +kernel) rfl,
  ps_bipush (n := 6) (by decide +kernel) (by decide +kernel),
  ps_newa (atype := .int) (ty := .int) wd_94 rfl rfl (fun _ q => q) (fun _ => rfl) rfl (by decide) (by decide) (by decide +kernel) (by decide +kernel) (by decide +kernel),
  ps_putF cl_4 (k := 2) (by decide) wd_75 rfl rfl (by decide +kernel) (by decide +kernel) (by decide +kernel),
  ps_aln (kf := 0) (by decide +kernel) rfl,
  ps_iconst (n := 0) (by decide +kernel) (by decide +kernel),
  ps_put cl_4 (k := 3) (by decide) wd_76 rfl rfl (by decide +kernel),
  ps_aln (kf := 0) (by decide +kernel) rfl,
  ps_iconst (n := 0) (by decide +kernel) (by decide +kernel),
  ps_put cl_4 (k := 4) (by decide) wd_77 rfl rfl (by decide +kernel),
  ps_aln (kf := 0) (by decide +kernel) rfl,
  ps_sipush (n := 1000) (by decide +kernel) (by decide +kernel),
  ps_put cl_4 (k := 5) (by decide) wd_79 rfl rfl (by decide +kernel),
  ps_vretC (by decide +kernel) rfl rfl rfl, trivial⟩
def tX4_clear : pm_Cd := [(0, po_al 0), (1, po_ic (0)), (2, po_put 4 3 .int), (5, po_al 0), (6, po_ic (0)), (7, po_put 4 4 .int), (10, po_al 0), (11, po_ic (1000)), (14, po_put 4 5 .int), (17, po_vret)]
set_option maxRecDepth 100000 in
theorem aX4_clear (E : pm_E) : pm_All E 32 (tX4_clear) :=
  ⟨ps_aln (kf := 0) (by decide +kernel) rfl,
  ps_iconst (n := 0) (by decide +kernel) (by decide +kernel),
  ps_put cl_4 (k := 3) (by decide) wd_76 rfl rfl (by decide +kernel),
  ps_aln (kf := 0) (by decide +kernel) rfl,
  ps_iconst (n := 0) (by decide +kernel) (by decide +kernel),
  ps_put cl_4 (k := 4) (by decide) wd_77 rfl rfl (by decide +kernel),
  ps_aln (kf := 0) (by decide +kernel) rfl,
  ps_sipush (n := 1000) (by decide +kernel) (by decide +kernel),
  ps_put cl_4 (k := 5) (by decide) wd_79 rfl rfl (by decide +kernel),
  ps_vret (by decide +kernel) rfl rfl rfl, trivial⟩
def tX4_copyFrom : pm_Cd := [(0, po_al 1), (1, po_get 4 0), (4, po_ic (0)), (5, po_al 0), (6, po_get 4 0), (9, po_ic (0)), (10, po_ic (6)), (12, po_cpl), (15, po_al 1), (16, po_get 4 1), (19, po_ic (0)), (20, po_al 0), (21, po_get 4 1), (24, po_ic (0)), (25, po_ic (6)), (27, po_cpl), (30, po_al 1), (31, po_get 4 2), (34, po_ic (0)), (35, po_al 0), (36, po_get 4 2), (39, po_ic (0)), (40, po_ic (6)), (42, po_cpi), (45, po_al 0), (46, po_al 1), (47, po_get 4 3), (50, po_put 4 3 .int), (53, po_al 0), (54, po_al 1), (55, po_get 4 4), (58, po_put 4 4 .int), (61, po_al 0), (62, po_al 1), (63, po_get 4 5), (66, po_put 4 5 .int), (69, po_vret)]
set_option maxRecDepth 100000 in
theorem aX4_copyFrom (E : pm_E) : pm_All E 33 (tX4_copyFrom) :=
  ⟨ps_aln (kf := 1) (by decide +kernel) rfl,
  ps_get cl_4 (k := 0) (by decide) wd_73 (by decide +kernel),
  ps_iconst (n := 0) (by decide +kernel) (by decide +kernel),
  ps_aln (kf := 0) (by decide +kernel) rfl,
  ps_get cl_4 (k := 0) (by decide) wd_73 (by decide +kernel),
  ps_iconst (n := 0) (by decide +kernel) (by decide +kernel),
  ps_bipush (n := 6) (by decide +kernel) (by decide +kernel),
  ps_cpl wd_407 wd_409 wd_408 wd_16 (by decide +kernel) (by decide +kernel) (by decide +kernel),
  ps_aln (kf := 1) (by decide +kernel) rfl,
  ps_get cl_4 (k := 1) (by decide) wd_74 (by decide +kernel),
  ps_iconst (n := 0) (by decide +kernel) (by decide +kernel),
  ps_aln (kf := 0) (by decide +kernel) rfl,
  ps_get cl_4 (k := 1) (by decide) wd_74 (by decide +kernel),
  ps_iconst (n := 0) (by decide +kernel) (by decide +kernel),
  ps_bipush (n := 6) (by decide +kernel) (by decide +kernel),
  ps_cpl wd_407 wd_409 wd_408 wd_16 (by decide +kernel) (by decide +kernel) (by decide +kernel),
  ps_aln (kf := 1) (by decide +kernel) rfl,
  ps_get cl_4 (k := 2) (by decide) wd_75 (by decide +kernel),
  ps_iconst (n := 0) (by decide +kernel) (by decide +kernel),
  ps_aln (kf := 0) (by decide +kernel) rfl,
  ps_get cl_4 (k := 2) (by decide) wd_75 (by decide +kernel),
  ps_iconst (n := 0) (by decide +kernel) (by decide +kernel),
  ps_bipush (n := 6) (by decide +kernel) (by decide +kernel),
  ps_cpi wd_407 wd_409 wd_408 wd_16 (by decide +kernel) (by decide +kernel) (by decide +kernel),
  ps_aln (kf := 0) (by decide +kernel) rfl,
  ps_aln (kf := 1) (by decide +kernel) rfl,
  ps_get cl_4 (k := 3) (by decide) wd_76 (by decide +kernel),
  ps_put cl_4 (k := 3) (by decide) wd_76 rfl rfl (by decide +kernel),
  ps_aln (kf := 0) (by decide +kernel) rfl,
  ps_aln (kf := 1) (by decide +kernel) rfl,
  ps_get cl_4 (k := 4) (by decide) wd_77 (by decide +kernel),
  ps_put cl_4 (k := 4) (by decide) wd_77 rfl rfl (by decide +kernel),
  ps_aln (kf := 0) (by decide +kernel) rfl,
  ps_aln (kf := 1) (by decide +kernel) rfl,
  ps_get cl_4 (k := 5) (by decide) wd_79 (by decide +kernel),
  ps_put cl_4 (k := 5) (by decide) wd_79 rfl rfl (by decide +kernel),
  ps_vret (by decide +kernel) rfl rfl rfl, trivial⟩
def tX4_hear : pm_Cd := [(0, po_al 0), (1, po_get 4 0), (4, po_il 1), (5, po_ll 2), (6, po_last), (7, po_al 0), (8, po_get 4 1), (11, po_il 1), (12, po_ll 4), (14, po_last), (15, po_al 0), (16, po_get 4 2), (19, po_il 1), (20, po_il 6), (22, po_iast), (23, po_al 0), (24, po_dup), (25, po_get 4 3), (28, po_ic (1)), (29, po_il 1), (30, po_ishl), (31, po_ior), (32, po_put 4 3 .int), (35, po_vret)]
set_option maxRecDepth 100000 in
theorem aX4_hear (E : pm_E) : pm_All E 34 (tX4_hear) :=
  ⟨ps_aln (kf := 0) (by decide +kernel) rfl,
  ps_get cl_4 (k := 0) (by decide) wd_73 (by decide +kernel),
  ps_iln (kf := 1) (by decide +kernel) rfl,
  ps_lln (kf := 2) (by decide +kernel) rfl,
  ps_last (by decide +kernel),
  ps_aln (kf := 0) (by decide +kernel) rfl,
  ps_get cl_4 (k := 1) (by decide) wd_74 (by decide +kernel),
  ps_iln (kf := 1) (by decide +kernel) rfl,
  ps_ll (by decide +kernel),
  ps_last (by decide +kernel),
  ps_aln (kf := 0) (by decide +kernel) rfl,
  ps_get cl_4 (k := 2) (by decide) wd_75 (by decide +kernel),
  ps_iln (kf := 1) (by decide +kernel) rfl,
  ps_il (by decide +kernel),
  ps_iast (by decide +kernel),
  ps_aln (kf := 0) (by decide +kernel) rfl,
  ps_dup (by decide +kernel),
  ps_get cl_4 (k := 3) (by decide) wd_76 (by decide +kernel),
  ps_iconst (n := 1) (by decide +kernel) (by decide +kernel),
  ps_iln (kf := 1) (by decide +kernel) rfl,
  ps_ishl (by decide +kernel),
  ps_ior (by decide +kernel),
  ps_put cl_4 (k := 3) (by decide) wd_76 rfl rfl (by decide +kernel),
  ps_vret (by decide +kernel) rfl rfl rfl, trivial⟩
def tX4_hasTold : pm_Cd := [(0, po_al 0), (1, po_get 4 3), (4, po_il 1), (5, po_ishr), (6, po_ic (1)), (7, po_iand), (8, po_ic (1)), (9, po_icne 16), (12, po_ic (1)), (13, po_goto 17), (16, po_ic (0)), (17, po_zret .boolean)]
set_option maxRecDepth 100000 in
theorem aX4_hasTold (E : pm_E) : pm_All E 35 (tX4_hasTold) :=
  ⟨ps_aln (kf := 0) (by decide +kernel) rfl,
  ps_get cl_4 (k := 3) (by decide) wd_76 (by decide +kernel),
  ps_iln (kf := 1) (by decide +kernel) rfl,
  ps_ishr (by decide +kernel),
  ps_iconst (n := 1) (by decide +kernel) (by decide +kernel),
  ps_iand (by decide +kernel),
  ps_iconst (n := 1) (by decide +kernel) (by decide +kernel),
  ps_icne (off := 7) (by decide +kernel) (by decide +kernel),
  ps_iconst (n := 1) (by decide +kernel) (by decide +kernel),
  ps_goto (off := 4) (by decide +kernel) (by decide +kernel),
  ps_iconst (n := 0) (by decide +kernel) (by decide +kernel),
  ps_zret (by decide +kernel) rfl rfl rfl, trivial⟩
def tX4_isHeard : pm_Cd := [(0, po_al 0), (1, po_get 4 3), (4, po_al 0), (5, po_get 4 4), (8, po_ic (-1)), (9, po_ixor), (10, po_iand), (11, po_il 1), (12, po_ishr), (13, po_ic (1)), (14, po_iand), (15, po_ic (1)), (16, po_icne 23), (19, po_ic (1)), (20, po_goto 24), (23, po_ic (0)), (24, po_zret .boolean)]
set_option maxRecDepth 100000 in
theorem aX4_isHeard (E : pm_E) : pm_All E 36 (tX4_isHeard) :=
  ⟨ps_aln (kf := 0) (by decide +kernel) rfl,
  ps_get cl_4 (k := 3) (by decide) wd_76 (by decide +kernel),
  ps_aln (kf := 0) (by decide +kernel) rfl,
  ps_get cl_4 (k := 4) (by decide) wd_77 (by decide +kernel),
  ps_iconst (n := -1) (by decide +kernel) (by decide +kernel),
  ps_ixor (by decide +kernel),
  ps_iand (by decide +kernel),
  ps_iln (kf := 1) (by decide +kernel) rfl,
  ps_ishr (by decide +kernel),
  ps_iconst (n := 1) (by decide +kernel) (by decide +kernel),
  ps_iand (by decide +kernel),
  ps_iconst (n := 1) (by decide +kernel) (by decide +kernel),
  ps_icne (off := 7) (by decide +kernel) (by decide +kernel),
  ps_iconst (n := 1) (by decide +kernel) (by decide +kernel),
  ps_goto (off := 4) (by decide +kernel) (by decide +kernel),
  ps_iconst (n := 0) (by decide +kernel) (by decide +kernel),
  ps_zret (by decide +kernel) rfl rfl rfl, trivial⟩
def tX4_howManyHeard : pm_Cd := [(0, po_al 0), (1, po_get 4 3), (4, po_al 0), (5, po_get 4 4), (8, po_ic (-1)), (9, po_ixor), (10, po_iand), (11, po_callS 143 1 1), (14, po_iret)]
set_option maxRecDepth 100000 in
theorem aX4_howManyHeard (E : pm_E) : pm_All E 37 (tX4_howManyHeard) :=
  ⟨ps_aln (kf := 0) (by decide +kernel) rfl,
  ps_get cl_4 (k := 3) (by decide) wd_76 (by decide +kernel),
  ps_aln (kf := 0) (by decide +kernel) rfl,
  ps_get cl_4 (k := 4) (by decide) wd_77 (by decide +kernel),
  ps_iconst (n := -1) (by decide +kernel) (by decide +kernel),
  ps_ixor (by decide +kernel),
  ps_iand (by decide +kernel),
  ps_callS ce_J6_bitCount_0f7a4 wd_384 wd_383 ⟨by decide +kernel, by decide +kernel⟩ rfl rfl rfl (by decide +kernel),
  ps_iret (by decide +kernel) rfl rfl rfl, trivial⟩
def tX4_beginOf : pm_Cd := [(0, po_il 2), (1, po_i2l), (2, po_al 0), (3, po_get 4 2), (6, po_il 1), (7, po_iald), (8, po_i2l), (9, po_lsub), (10, po_ls 3), (11, po_al 0), (12, po_get 4 0), (15, po_il 1), (16, po_lald), (17, po_ll 3), (18, po_ladd), (19, po_al 0), (20, po_ll 3), (21, po_callV 4 40 1 3), (24, po_lsub), (25, po_lret)]
set_option maxRecDepth 100000 in
theorem aX4_beginOf (E : pm_E) : pm_All E 38 (tX4_beginOf) :=
  ⟨ps_iln (kf := 2) (by decide +kernel) rfl,
  ps_i2l (by decide +kernel),
  ps_aln (kf := 0) (by decide +kernel) rfl,
  ps_get cl_4 (k := 2) (by decide) wd_75 (by decide +kernel),
  ps_iln (kf := 1) (by decide +kernel) rfl,
  ps_iald (by decide +kernel),
  ps_i2l (by decide +kernel),
  ps_lsub (by decide +kernel),
  ps_lsn (kf := 3) (by decide +kernel) rfl (by decide +kernel),
  ps_aln (kf := 0) (by decide +kernel) rfl,
  ps_get cl_4 (k := 0) (by decide) wd_73 (by decide +kernel),
  ps_iln (kf := 1) (by decide +kernel) rfl,
  ps_lald (by decide +kernel),
  ps_lln (kf := 3) (by decide +kernel) rfl,
  ps_ladd (by decide +kernel),
  ps_aln (kf := 0) (by decide +kernel) rfl,
  ps_lln (kf := 3) (by decide +kernel) rfl,
  ps_callV cl_4 rfl ce_X4_widening wd_448 wp_6 wd_446 ⟨by decide +kernel, by decide +kernel⟩ rfl rfl rfl (by decide +kernel),
  ps_lsub (by decide +kernel),
  ps_lret (by decide +kernel) rfl rfl rfl, trivial⟩
def tX4_endOf : pm_Cd := [(0, po_il 2), (1, po_i2l), (2, po_al 0), (3, po_get 4 2), (6, po_il 1), (7, po_iald), (8, po_i2l), (9, po_lsub), (10, po_ls 3), (11, po_al 0), (12, po_get 4 1), (15, po_il 1), (16, po_lald), (17, po_ll 3), (18, po_ladd), (19, po_al 0), (20, po_ll 3), (21, po_callV 4 40 1 3), (24, po_ladd), (25, po_lret)]
set_option maxRecDepth 100000 in
theorem aX4_endOf (E : pm_E) : pm_All E 39 (tX4_endOf) :=
  ⟨ps_iln (kf := 2) (by decide +kernel) rfl,
  ps_i2l (by decide +kernel),
  ps_aln (kf := 0) (by decide +kernel) rfl,
  ps_get cl_4 (k := 2) (by decide) wd_75 (by decide +kernel),
  ps_iln (kf := 1) (by decide +kernel) rfl,
  ps_iald (by decide +kernel),
  ps_i2l (by decide +kernel),
  ps_lsub (by decide +kernel),
  ps_lsn (kf := 3) (by decide +kernel) rfl (by decide +kernel),
  ps_aln (kf := 0) (by decide +kernel) rfl,
  ps_get cl_4 (k := 1) (by decide) wd_74 (by decide +kernel),
  ps_iln (kf := 1) (by decide +kernel) rfl,
  ps_lald (by decide +kernel),
  ps_lln (kf := 3) (by decide +kernel) rfl,
  ps_ladd (by decide +kernel),
  ps_aln (kf := 0) (by decide +kernel) rfl,
  ps_lln (kf := 3) (by decide +kernel) rfl,
  ps_callV cl_4 rfl ce_X4_widening wd_448 wp_6 wd_446 ⟨by decide +kernel, by decide +kernel⟩ rfl rfl rfl (by decide +kernel),
  ps_ladd (by decide +kernel),
  ps_lret (by decide +kernel) rfl rfl rfl, trivial⟩
def tX4_widening : pm_Cd := [(0, po_ll 1), (1, po_al 0), (2, po_get 4 5), (5, po_i2l), (6, po_lmul), (7, po_lc (1000000)), (10, po_ladd), (11, po_lc (1)), (12, po_lsub), (13, po_lc (1000000)), (16, po_ldiv), (17, po_lret)]
set_option maxRecDepth 100000 in
theorem aX4_widening (E : pm_E) : pm_All E 40 (tX4_widening) :=
  ⟨ps_lln (kf := 1) (by decide +kernel) rfl,
  ps_aln (kf := 0) (by decide +kernel) rfl,
  ps_get cl_4 (k := 5) (by decide) wd_79 (by decide +kernel),
  ps_i2l (by decide +kernel),
  ps_lmul (by decide +kernel),
  ps_ldc2 (n := 48) (by decide +kernel) wd_450,
  ps_ladd (by decide +kernel),
  ps_lconst (n := 1) (by decide +kernel) (by decide +kernel),
  ps_lsub (by decide +kernel),
  ps_ldc2 (n := 48) (by decide +kernel) wd_450,
  ps_ldiv (by decide +kernel),
  ps_lret (by decide +kernel) rfl rfl rfl, trivial⟩
def tX4_meets : pm_Cd := [(0, po_al 0), (1, po_il 1), (2, po_il 2), (3, po_callV 4 38 2 5), (6, po_ll 5), (8, po_lcgt 27), (12, po_al 0), (13, po_il 1), (14, po_il 2), (15, po_callV 4 39 2 5), (18, po_ll 3), (19, po_lclt 27), (23, po_ic (1)), (24, po_goto 28), (27, po_ic (0)), (28, po_zret .boolean)]
set_option maxRecDepth 100000 in
theorem aX4_meets (E : pm_E) : pm_All E 41 (tX4_meets) :=
  ⟨ps_aln (kf := 0) (by decide +kernel) rfl,
  ps_iln (kf := 1) (by decide +kernel) rfl,
  ps_iln (kf := 2) (by decide +kernel) rfl,
  ps_callV cl_4 rfl ce_X4_beginOf wd_443 wd_444 wd_480 ⟨by decide +kernel, by decide +kernel⟩ rfl rfl rfl (by decide +kernel),
  ps_ll (by decide +kernel),
  ps_lcgt (off := 18) (by decide +kernel) (by decide +kernel) (by decide +kernel),
  ps_aln (kf := 0) (by decide +kernel) rfl,
  ps_iln (kf := 1) (by decide +kernel) rfl,
  ps_iln (kf := 2) (by decide +kernel) rfl,
  ps_callV cl_4 rfl ce_X4_endOf wd_452 wd_453 wd_481 ⟨by decide +kernel, by decide +kernel⟩ rfl rfl rfl (by decide +kernel),
  ps_lln (kf := 3) (by decide +kernel) rfl,
  ps_lclt (off := 7) (by decide +kernel) (by decide +kernel) (by decide +kernel),
  ps_iconst (n := 1) (by decide +kernel) (by decide +kernel),
  ps_goto (off := 4) (by decide +kernel) (by decide +kernel),
  ps_iconst (n := 0) (by decide +kernel) (by decide +kernel),
  ps_zret (by decide +kernel) rfl rfl rfl, trivial⟩
def tX5_init : pm_Cd := [(0, po_al 0), (1, po_obj), (4, po_al 0), (5, po_ic (6)), (7, po_newq 6 67 690), (10, po_put 5 0 (.array (.object "DoubtTime$State"))), (13, po_al 0), (14, po_ic (0)), (15, po_put 5 1 .int), (18, po_al 0), (19, po_ic (0)), (20, po_put 5 2 .int), (23, po_ic (0)), (24, po_is 1), (25, po_mark), (25, po_il 1), (26, po_ic (6)), (28, po_icge 50), (31, po_al 0), (32, po_get 5 0), (35, po_il 1), (36, po_new 6 3 67 690 [.null, .null, .int 0]), (39, po_dup), (40, po_callI 45 0 1 10 111 67 690), (43, po_aast), (44, po_iinc 1 (1)), (47, po_goto 25), (50, po_vretC 67 690)]
set_option maxRecDepth 100000 in
theorem aX5_init (E : pm_E) : pm_All E 42 (tX5_init) :=
  ⟨ps_aln (kf := 0) (by decide +kernel) rfl,
  ps_obj wd_148 wd_24 wd_25 (by decide +kernel) (by decide +kernel) (by decide +kernel),
  ps_aln (kf := 0) (by decide +kernel) rfl,
  ps_bipush (n := 6) (by decide +kernel) (by decide +kernel),
  ps_newq wd_149 (by decide) (by decide) (by decide +kernel) (by decide +kernel) (by decide +kernel),
  ps_putF cl_5 (k := 0) (by decide) wd_152 rfl rfl (by decide +kernel) (by decide +kernel) (by decide +kernel),
  ps_aln (kf := 0) (by decide +kernel) rfl,
  ps_iconst (n := 0) (by decide +kernel) (by decide +kernel),
  ps_put cl_5 (k := 1) (by decide) wd_153 rfl rfl (by decide +kernel),
  ps_aln (kf := 0) (by decide +kernel) rfl,
  ps_iconst (n := 0) (by decide +kernel) (by decide +kernel),
  ps_put cl_5 (k := 2) (by decide) wd_154 rfl rfl (by decide +kernel),
  ps_iconst (n := 0) (by decide +kernel) (by decide +kernel),
  ps_isn (kf := 1) (by decide +kernel) rfl (by decide +kernel),
  ps_mark,
  ps_iln (kf := 1) (by decide +kernel) rfl,
  ps_bipush (n := 6) (by decide +kernel) (by decide +kernel),
  ps_icge (off := 22) (by decide +kernel) (by decide +kernel),
  ps_aln (kf := 0) (by decide +kernel) rfl,
  ps_get cl_5 (k := 0) (by decide) wd_152 (by decide +kernel),
  ps_iln (kf := 1) (by decide +kernel) rfl,
  ps_new cl_6 wd_149 wd_62 wd_4 (by decide +kernel) (fun _ => rfl) (by decide +kernel) (by decide +kernel) (by decide +kernel),
  ps_dup (by decide +kernel),
  ps_callIN ce_X6_init rfl rfl wd_64 wn_151 ⟨by decide +kernel, by decide +kernel⟩ rfl rfl rfl (by decide +kernel) (by decide +kernel) (by decide +kernel),
  ps_aast (by decide +kernel),
  ps_iinc (n := 1) (by decide +kernel) (by decide +kernel) (by decide +kernel),
  ps_goto (off := -22) (by decide +kernel) (by decide +kernel),
  ps_vretC (by decide +kernel) rfl rfl rfl, trivial⟩
def tX5_keep : pm_Cd := [(0, po_al 0), (1, po_get 5 0), (4, po_al 0), (5, po_get 5 1), (8, po_aald), (9, po_al 1), (10, po_callV 6 47 1 2), (13, po_al 0), (14, po_al 0), (15, po_get 5 1), (18, po_ic (1)), (19, po_iadd), (20, po_ic (6)), (22, po_irem), (23, po_put 5 1 .int), (26, po_al 0), (27, po_al 0), (28, po_get 5 2), (31, po_ic (1)), (32, po_iadd), (33, po_ic (6)), (35, po_mini), (38, po_put 5 2 .int), (41, po_vret)]
set_option maxRecDepth 100000 in
theorem aX5_keep (E : pm_E) : pm_All E 43 (tX5_keep) :=
  ⟨ps_aln (kf := 0) (by decide +kernel) rfl,
  ps_get cl_5 (k := 0) (by decide) wd_152 (by decide +kernel),
  ps_aln (kf := 0) (by decide +kernel) rfl,
  ps_get cl_5 (k := 1) (by decide) wd_153 (by decide +kernel),
  ps_aald (by decide +kernel),
  ps_aln (kf := 1) (by decide +kernel) rfl,
  ps_callV cl_6 rfl ce_X6_copyFrom wd_400 wd_401 wd_399 ⟨by decide +kernel, by decide +kernel⟩ rfl rfl rfl (by decide +kernel),
  ps_aln (kf := 0) (by decide +kernel) rfl,
  ps_aln (kf := 0) (by decide +kernel) rfl,
  ps_get cl_5 (k := 1) (by decide) wd_153 (by decide +kernel),
  ps_iconst (n := 1) (by decide +kernel) (by decide +kernel),
  ps_iadd (by decide +kernel),
  ps_bipush (n := 6) (by decide +kernel) (by decide +kernel),
  ps_irem (by decide +kernel),
  ps_put cl_5 (k := 1) (by decide) wd_153 rfl rfl (by decide +kernel),
  ps_aln (kf := 0) (by decide +kernel) rfl,
  ps_aln (kf := 0) (by decide +kernel) rfl,
  ps_get cl_5 (k := 2) (by decide) wd_154 (by decide +kernel),
  ps_iconst (n := 1) (by decide +kernel) (by decide +kernel),
  ps_iadd (by decide +kernel),
  ps_bipush (n := 6) (by decide +kernel) (by decide +kernel),
  ps_mini wd_415 wd_416 wd_17 wd_417 (by decide +kernel) (by decide +kernel) (by decide +kernel),
  ps_put cl_5 (k := 2) (by decide) wd_154 rfl rfl (by decide +kernel),
  ps_vret (by decide +kernel) rfl rfl rfl, trivial⟩
def tX5_giveBack : pm_Cd := [(0, po_al 0), (1, po_al 0), (2, po_get 5 1), (5, po_ic (6)), (7, po_iadd), (8, po_ic (1)), (9, po_isub), (10, po_ic (6)), (12, po_irem), (13, po_put 5 1 .int), (16, po_al 0), (17, po_dup), (18, po_get 5 2), (21, po_ic (1)), (22, po_isub), (23, po_put 5 2 .int), (26, po_al 1), (27, po_al 0), (28, po_get 5 0), (31, po_al 0), (32, po_get 5 1), (35, po_aald), (36, po_callV 6 47 1 2), (39, po_vret)]
set_option maxRecDepth 100000 in
theorem aX5_giveBack (E : pm_E) : pm_All E 44 (tX5_giveBack) :=
  ⟨ps_aln (kf := 0) (by decide +kernel) rfl,
  ps_aln (kf := 0) (by decide +kernel) rfl,
  ps_get cl_5 (k := 1) (by decide) wd_153 (by decide +kernel),
  ps_bipush (n := 6) (by decide +kernel) (by decide +kernel),
  ps_iadd (by decide +kernel),
  ps_iconst (n := 1) (by decide +kernel) (by decide +kernel),
  ps_isub (by decide +kernel),
  ps_bipush (n := 6) (by decide +kernel) (by decide +kernel),
  ps_irem (by decide +kernel),
  ps_put cl_5 (k := 1) (by decide) wd_153 rfl rfl (by decide +kernel),
  ps_aln (kf := 0) (by decide +kernel) rfl,
  ps_dup (by decide +kernel),
  ps_get cl_5 (k := 2) (by decide) wd_154 (by decide +kernel),
  ps_iconst (n := 1) (by decide +kernel) (by decide +kernel),
  ps_isub (by decide +kernel),
  ps_put cl_5 (k := 2) (by decide) wd_154 rfl rfl (by decide +kernel),
  ps_aln (kf := 1) (by decide +kernel) rfl,
  ps_aln (kf := 0) (by decide +kernel) rfl,
  ps_get cl_5 (k := 0) (by decide) wd_152 (by decide +kernel),
  ps_aln (kf := 0) (by decide +kernel) rfl,
  ps_get cl_5 (k := 1) (by decide) wd_153 (by decide +kernel),
  ps_aald (by decide +kernel),
  ps_callV cl_6 rfl ce_X6_copyFrom wd_400 wd_401 wd_399 ⟨by decide +kernel, by decide +kernel⟩ rfl rfl rfl (by decide +kernel),
  ps_vret (by decide +kernel) rfl rfl rfl, trivial⟩
def tX6_init : pm_Cd := [(0, po_al 0), (1, po_obj), (4, po_al 0), (5, po_new 4 6 10 111 [.null, .null, .null, .int 0, .int 0, .int 0]), (8, po_dup), (9, po_callI 31 0 1 3 18 10 111), (12, po_put 6 0 (.object "DoubtTime$Masters")), (15, po_al 0), (16, po_new 1 7 10 111 [.null, .null, .null, .null, .null, .int 0, .int 0]), (19, po_dup), (20, po_callI 8 0 1 5 80 10 111), (23, po_put 6 1 (.object "DoubtTime$Commits")), (26, po_al 0), (27, po_ic (0)), (28, po_put 6 2 .int), (31, po_vretC 10 111)]
set_option maxRecDepth 100000 in
theorem aX6_init (E : pm_E) : pm_All E 45 (tX6_init) :=
  ⟨ps_aln (kf := 0) (by decide +kernel) rfl,
  ps_obj wd_66 wd_24 wd_25 (by decide +kernel) (by decide +kernel) (by decide +kernel),
  ps_aln (kf := 0) (by decide +kernel) rfl,
  ps_new cl_4 wd_67 wd_68 wd_5 (by decide +kernel) (fun _ => rfl) (by decide +kernel) (by decide +kernel) (by decide +kernel),
  ps_dup (by decide +kernel),
  ps_callIN ce_X4_init rfl rfl wd_70 wn_69 ⟨by decide +kernel, by decide +kernel⟩ rfl rfl rfl (by decide +kernel) (by decide +kernel) (by decide +kernel),
  ps_putF cl_6 (k := 0) (by decide) wd_130 rfl rfl (by decide +kernel) (by decide +kernel) (by decide +kernel),
  ps_aln (kf := 0) (by decide +kernel) rfl,
  ps_new cl_1 wd_95 wd_96 wd_6 (by decide +kernel) (fun _ => rfl) (by decide +kernel) (by decide +kernel) (by decide +kernel),
  ps_dup (by decide +kernel),
  ps_callIN ce_X1_init rfl rfl wd_98 wn_97 ⟨by decide +kernel, by decide +kernel⟩ rfl rfl rfl (by decide +kernel) (by decide +kernel) (by decide +kernel),
  ps_putF cl_6 (k := 1) (by decide) wd_132 rfl rfl (by decide +kernel) (by decide +kernel) (by decide +kernel),
  ps_aln (kf := 0) (by decide +kernel) rfl,
  ps_iconst (n := 0) (by decide +kernel) (by decide +kernel),
  ps_put cl_6 (k := 2) (by decide) wd_134 rfl rfl (by decide +kernel),
  ps_vretC (by decide +kernel) rfl rfl rfl, trivial⟩
def tX6_clear : pm_Cd := [(0, po_al 0), (1, po_get 6 0), (4, po_callV 4 32 0 1), (7, po_al 0), (8, po_get 6 1), (11, po_callV 1 9 0 1), (14, po_al 0), (15, po_ic (0)), (16, po_put 6 2 .int), (19, po_vret)]
set_option maxRecDepth 100000 in
theorem aX6_clear (E : pm_E) : pm_All E 46 (tX6_clear) :=
  ⟨ps_aln (kf := 0) (by decide +kernel) rfl,
  ps_get cl_6 (k := 0) (by decide) wd_130 (by decide +kernel),
  ps_callV cl_4 rfl ce_X4_clear wd_276 wd_277 wd_275 ⟨by decide +kernel, by decide +kernel⟩ rfl rfl rfl (by decide +kernel),
  ps_aln (kf := 0) (by decide +kernel) rfl,
  ps_get cl_6 (k := 1) (by decide) wd_132 (by decide +kernel),
  ps_callV cl_1 rfl ce_X1_clear wd_280 wd_281 wd_279 ⟨by decide +kernel, by decide +kernel⟩ rfl rfl rfl (by decide +kernel),
  ps_aln (kf := 0) (by decide +kernel) rfl,
  ps_iconst (n := 0) (by decide +kernel) (by decide +kernel),
  ps_put cl_6 (k := 2) (by decide) wd_134 rfl rfl (by decide +kernel),
  ps_vret (by decide +kernel) rfl rfl rfl, trivial⟩
def tX6_copyFrom : pm_Cd := [(0, po_al 0), (1, po_get 6 0), (4, po_al 1), (5, po_get 6 0), (8, po_callV 4 33 1 2), (11, po_al 0), (12, po_get 6 1), (15, po_al 1), (16, po_get 6 1), (19, po_callV 1 10 1 2), (22, po_al 0), (23, po_al 1), (24, po_get 6 2), (27, po_put 6 2 .int), (30, po_vret)]
set_option maxRecDepth 100000 in
theorem aX6_copyFrom (E : pm_E) : pm_All E 47 (tX6_copyFrom) :=
  ⟨ps_aln (kf := 0) (by decide +kernel) rfl,
  ps_get cl_6 (k := 0) (by decide) wd_130 (by decide +kernel),
  ps_aln (kf := 1) (by decide +kernel) rfl,
  ps_get cl_6 (k := 0) (by decide) wd_130 (by decide +kernel),
  ps_callV cl_4 rfl ce_X4_copyFrom wd_404 wd_405 wd_403 ⟨by decide +kernel, by decide +kernel⟩ rfl rfl rfl (by decide +kernel),
  ps_aln (kf := 0) (by decide +kernel) rfl,
  ps_get cl_6 (k := 1) (by decide) wd_132 (by decide +kernel),
  ps_aln (kf := 1) (by decide +kernel) rfl,
  ps_get cl_6 (k := 1) (by decide) wd_132 (by decide +kernel),
  ps_callV cl_1 rfl ce_X1_copyFrom wd_411 wd_412 wd_410 ⟨by decide +kernel, by decide +kernel⟩ rfl rfl rfl (by decide +kernel),
  ps_aln (kf := 0) (by decide +kernel) rfl,
  ps_aln (kf := 1) (by decide +kernel) rfl,
  ps_get cl_6 (k := 2) (by decide) wd_134 (by decide +kernel),
  ps_put cl_6 (k := 2) (by decide) wd_134 rfl rfl (by decide +kernel),
  ps_vret (by decide +kernel) rfl rfl rfl, trivial⟩
def tX7_init : pm_Cd := [(0, po_al 0), (1, po_obj), (4, po_al 0), (5, po_ic (200)), (8, po_newa 0 200 1 200 (200, .inl (fun _ => 0))), (10, po_put 7 0 (.array .char)), (13, po_al 0), (14, po_ic (0)), (15, po_put 7 1 .int), (18, po_vretC 1 200)]
set_option maxRecDepth 100000 in
theorem aX7_init (E : pm_E) : pm_All E 48 (tX7_init) :=
  ⟨ps_aln (kf := 0) (by decide +kernel) rfl,
  ps_obj wd_31 wd_24 wd_25 (by decide +kernel) (by decide +kernel) (by decide +kernel),
  ps_aln (kf := 0) (by decide +kernel) rfl,
  ps_sipush (n := 200) (by decide +kernel) (by decide +kernel),
  ps_newa (atype := .char) (ty := .char) wd_40 rfl rfl (fun _ q => q) (fun _ => rfl) rfl (by decide) (by decide) (by decide +kernel) (by decide +kernel) (by decide +kernel),
  ps_putF cl_7 (k := 0) (by decide) wd_32 rfl rfl (by decide +kernel) (by decide +kernel) (by decide +kernel),
  ps_aln (kf := 0) (by decide +kernel) rfl,
  ps_iconst (n := 0) (by decide +kernel) (by decide +kernel),
  ps_put cl_7 (k := 1) (by decide) wd_33 rfl rfl (by decide +kernel),
  ps_vretC (by decide +kernel) rfl rfl rfl, trivial⟩
def tX7_put : pm_Cd := [(0, po_al 0), (1, po_get 7 0), (4, po_al 0), (5, po_get 7 1), (8, po_il 1), (9, po_cast), (10, po_al 0), (11, po_dup), (12, po_get 7 1), (15, po_ic (1)), (16, po_iadd), (17, po_put 7 1 .int), (20, po_vret)]
set_option maxRecDepth 100000 in
theorem aX7_put (E : pm_E) : pm_All E 49 (tX7_put) :=
  ⟨ps_aln (kf := 0) (by decide +kernel) rfl,
  ps_get cl_7 (k := 0) (by decide) wd_32 (by decide +kernel),
  ps_aln (kf := 0) (by decide +kernel) rfl,
  ps_get cl_7 (k := 1) (by decide) wd_33 (by decide +kernel),
  ps_iln (kf := 1) (by decide +kernel) rfl,
  ps_cast (by decide +kernel),
  ps_aln (kf := 0) (by decide +kernel) rfl,
  ps_dup (by decide +kernel),
  ps_get cl_7 (k := 1) (by decide) wd_33 (by decide +kernel),
  ps_iconst (n := 1) (by decide +kernel) (by decide +kernel),
  ps_iadd (by decide +kernel),
  ps_put cl_7 (k := 1) (by decide) wd_33 rfl rfl (by decide +kernel),
  ps_vret (by decide +kernel) rfl rfl rfl, trivial⟩
def tX7_putAll : pm_Cd := [(0, po_ic (0)), (1, po_is 2), (2, po_mark), (2, po_il 2), (3, po_al 1), (4, po_callT 144 0 1), (7, po_icge 35), (10, po_al 0), (11, po_get 7 1), (14, po_ic (200)), (17, po_icge 35), (20, po_al 0), (21, po_al 1), (22, po_il 2), (23, po_callT 145 1 2), (26, po_callV 7 49 1 2), (29, po_iinc 2 (1)), (32, po_goto 2), (35, po_vret)]
set_option maxRecDepth 100000 in
theorem aX7_putAll (E : pm_E) : pm_All E 50 (tX7_putAll) :=
  ⟨ps_iconst (n := 0) (by decide +kernel) (by decide +kernel),
  ps_isn (kf := 2) (by decide +kernel) rfl (by decide +kernel),
  ps_mark,
  ps_iln (kf := 2) (by decide +kernel) rfl,
  ps_aln (kf := 1) (by decide +kernel) rfl,
  ps_callT rfl ce_J0_length_8abf5 wd_216 wd_217 wd_215 ⟨by decide +kernel, by decide +kernel⟩ rfl rfl rfl (by decide +kernel),
  ps_icge (off := 28) (by decide +kernel) (by decide +kernel),
  ps_aln (kf := 0) (by decide +kernel) rfl,
  ps_get cl_7 (k := 1) (by decide) wd_33 (by decide +kernel),
  ps_sipush (n := 200) (by decide +kernel) (by decide +kernel),
  ps_icge (off := 18) (by decide +kernel) (by decide +kernel),
  ps_aln (kf := 0) (by decide +kernel) rfl,
  ps_aln (kf := 1) (by decide +kernel) rfl,
  ps_iln (kf := 2) (by decide +kernel) rfl,
  ps_callT rfl ce_J0_charAt_5068e wd_226 wd_227 wd_225 ⟨by decide +kernel, by decide +kernel⟩ rfl rfl rfl (by decide +kernel),
  ps_callV cl_7 rfl ce_X7_put wd_264 wd_265 wd_263 ⟨by decide +kernel, by decide +kernel⟩ rfl rfl rfl (by decide +kernel),
  ps_iinc (n := 1) (by decide +kernel) (by decide +kernel) (by decide +kernel),
  ps_goto (off := -30) (by decide +kernel) (by decide +kernel),
  ps_vret (by decide +kernel) rfl rfl rfl, trivial⟩
def tX7_letterAt : pm_Cd := [(0, po_il 1), (1, po_iflt 21), (4, po_il 1), (5, po_al 0), (6, po_get 7 1), (9, po_icge 21), (12, po_al 0), (13, po_get 7 0), (16, po_il 1), (17, po_cald), (18, po_goto 22), (21, po_ic (0)), (22, po_zret .char)]
set_option maxRecDepth 100000 in
theorem aX7_letterAt (E : pm_E) : pm_All E 51 (tX7_letterAt) :=
  ⟨ps_iln (kf := 1) (by decide +kernel) rfl,
  ps_iflt (off := 20) (by decide +kernel) (by decide +kernel),
  ps_iln (kf := 1) (by decide +kernel) rfl,
  ps_aln (kf := 0) (by decide +kernel) rfl,
  ps_get cl_7 (k := 1) (by decide) wd_33 (by decide +kernel),
  ps_icge (off := 12) (by decide +kernel) (by decide +kernel),
  ps_aln (kf := 0) (by decide +kernel) rfl,
  ps_get cl_7 (k := 0) (by decide) wd_32 (by decide +kernel),
  ps_iln (kf := 1) (by decide +kernel) rfl,
  ps_cald (by decide +kernel),
  ps_goto (off := 4) (by decide +kernel) (by decide +kernel),
  ps_iconst (n := 0) (by decide +kernel) (by decide +kernel),
  ps_zret (by decide +kernel) rfl rfl rfl, trivial⟩
def tX8_init : pm_Cd := [(0, po_al 0), (1, po_obj), (4, po_al 0), (5, po_new 7 2 87 1037 [.null, .int 0]), (8, po_dup), (9, po_callI 48 0 1 1 200 87 1037), (12, po_put 8 0 (.object "DoubtTime$Text")), (15, po_al 0), (16, po_new 2 3 87 1037 [.null, .int 0, .int 0]), (19, po_dup), (20, po_callI 20 0 1 1 4 87 1037), (23, po_put 8 1 (.object "DoubtTime$Item")), (26, po_al 0), (27, po_new 6 3 87 1037 [.null, .null, .int 0]), (30, po_dup), (31, po_callI 45 0 1 10 111 87 1037), (34, po_put 8 2 (.object "DoubtTime$State")), (37, po_al 0), (38, po_new 5 3 87 1037 [.null, .int 0, .int 0]), (41, po_dup), (42, po_callI 42 0 2 67 690 87 1037), (45, po_put 8 3 (.object "DoubtTime$Past")), (48, po_al 0), (49, po_new 0 5 87 1037 [.null, .null, .int 0, .int 0, .long 0]), (52, po_dup), (53, po_callI 1 0 1 2 12 87 1037), (56, po_put 8 4 (.object "DoubtTime$Agreed")), (59, po_al 0), (60, po_new 3 4 87 1037 [.long 0, .long 0, .long 0, .long 0]), (63, po_dup), (64, po_callI 25 0 1 0 0 87 1037), (67, po_put 8 5 (.object "DoubtTime$Leap")), (70, po_al 0), (71, po_get 8 0), (74, po_str), (76, po_callV 7 50 1 3), (79, po_al 0), (80, po_callV 8 57 0 3), (83, po_al 0), (84, po_get 8 0), (87, po_ic (0)), (88, po_put 7 1 .int), (91, po_vretC 87 1037)]
set_option maxRecDepth 100000 in
theorem aX8_init (E : pm_E) : pm_All E 52 (tX8_init) :=
  ⟨ps_aln (kf := 0) (by decide +kernel) rfl,
  ps_obj wd_23 wd_24 wd_25 (by decide +kernel) (by decide +kernel) (by decide +kernel),
  ps_aln (kf := 0) (by decide +kernel) rfl,
  ps_new cl_7 wd_26 wd_27 wd_2 (by decide +kernel) (fun _ => rfl) (by decide +kernel) (by decide +kernel) (by decide +kernel),
  ps_dup (by decide +kernel),
  ps_callIN ce_X7_init rfl rfl wd_29 wn_28 ⟨by decide +kernel, by decide +kernel⟩ rfl rfl rfl (by decide +kernel) (by decide +kernel) (by decide +kernel),
  ps_putF cl_8 (k := 0) (by decide) wd_341 rfl rfl (by decide +kernel) (by decide +kernel) (by decide +kernel),
  ps_aln (kf := 0) (by decide +kernel) rfl,
  ps_new cl_2 wd_41 wd_42 wd_3 (by decide +kernel) (fun _ => rfl) (by decide +kernel) (by decide +kernel) (by decide +kernel),
  ps_dup (by decide +kernel),
  ps_callIN ce_X2_init rfl rfl wd_44 wn_43 ⟨by decide +kernel, by decide +kernel⟩ rfl rfl rfl (by decide +kernel) (by decide +kernel) (by decide +kernel),
  ps_putF cl_8 (k := 1) (by decide) wd_342 rfl rfl (by decide +kernel) (by decide +kernel) (by decide +kernel),
  ps_aln (kf := 0) (by decide +kernel) rfl,
  ps_new cl_6 wd_61 wd_62 wd_4 (by decide +kernel) (fun _ => rfl) (by decide +kernel) (by decide +kernel) (by decide +kernel),
  ps_dup (by decide +kernel),
  ps_callIN ce_X6_init rfl rfl wd_64 wn_63 ⟨by decide +kernel, by decide +kernel⟩ rfl rfl rfl (by decide +kernel) (by decide +kernel) (by decide +kernel),
  ps_putF cl_8 (k := 2) (by decide) wd_343 rfl rfl (by decide +kernel) (by decide +kernel) (by decide +kernel),
  ps_aln (kf := 0) (by decide +kernel) rfl,
  ps_new cl_5 wd_143 wd_144 wd_7 (by decide +kernel) (fun _ => rfl) (by decide +kernel) (by decide +kernel) (by decide +kernel),
  ps_dup (by decide +kernel),
  ps_callI ce_X5_init rfl rfl wd_146 wd_145 ⟨by decide +kernel, by decide +kernel⟩ rfl rfl rfl (by decide +kernel) (by decide +kernel) (by decide +kernel),
  ps_putF cl_8 (k := 3) (by decide) wd_344 rfl rfl (by decide +kernel) (by decide +kernel) (by decide +kernel),
  ps_aln (kf := 0) (by decide +kernel) rfl,
  ps_new cl_0 wd_163 wd_164 wd_8 (by decide +kernel) (fun _ => rfl) (by decide +kernel) (by decide +kernel) (by decide +kernel),
  ps_dup (by decide +kernel),
  ps_callIN ce_X0_init rfl rfl wd_166 wn_165 ⟨by decide +kernel, by decide +kernel⟩ rfl rfl rfl (by decide +kernel) (by decide +kernel) (by decide +kernel),
  ps_putF cl_8 (k := 4) (by decide) wd_345 rfl rfl (by decide +kernel) (by decide +kernel) (by decide +kernel),
  ps_aln (kf := 0) (by decide +kernel) rfl,
  ps_new cl_3 wd_187 wd_188 wd_9 (by decide +kernel) (fun _ => rfl) (by decide +kernel) (by decide +kernel) (by decide +kernel),
  ps_dup (by decide +kernel),
  ps_callIN ce_X3_init rfl rfl wd_190 wn_189 ⟨by decide +kernel, by decide +kernel⟩ rfl rfl rfl (by decide +kernel) (by decide +kernel) (by decide +kernel),
  ps_putF cl_8 (k := 5) (by decide) wd_346 rfl rfl (by decide +kernel) (by decide +kernel) (by decide +kernel),
  ps_aln (kf := 0) (by decide +kernel) rfl,
  ps_get cl_8 (k := 0) (by decide) wd_341 (by decide +kernel),
  ps_str (by decide +kernel) (by decide +kernel),
  ps_callV cl_7 rfl ce_X7_putAll wd_212 wd_213 wd_211 ⟨by decide +kernel, by decide +kernel⟩ rfl rfl rfl (by decide +kernel),
  ps_aln (kf := 0) (by decide +kernel) rfl,
  ps_callV cl_8 rfl ce_X8_layItems wd_269 wp_0 wd_267 ⟨by decide +kernel, by decide +kernel⟩ rfl rfl rfl (by decide +kernel),
  ps_aln (kf := 0) (by decide +kernel) rfl,
  ps_get cl_8 (k := 0) (by decide) wd_341 (by decide +kernel),
  ps_iconst (n := 0) (by decide +kernel) (by decide +kernel),
  ps_putN cl_7 (k := 1) (by decide) wn_34 rfl rfl (by decide +kernel),
  ps_vretC (by decide +kernel) rfl rfl rfl, trivial⟩
def tX8_write : pm_Cd := [(0, po_il 1), (1, po_ic (32)), (3, po_iclt 12), (6, po_il 1), (7, po_ic (126)), (9, po_icle 14), (12, po_ic (-1)), (13, po_iret), (14, po_al 0), (15, po_get 8 0), (18, po_get 7 1), (21, po_ic (200)), (24, po_iclt 30), (27, po_ic (-3)), (29, po_iret), (30, po_al 0), (31, po_get 8 0), (34, po_il 1), (35, po_i2c), (36, po_callV 7 49 1 2), (39, po_al 0), (40, po_get 8 0), (43, po_get 7 1), (46, po_iret)]
set_option maxRecDepth 100000 in
theorem aX8_write (E : pm_E) : pm_All E 53 (tX8_write) :=
  ⟨ps_iln (kf := 1) (by decide +kernel) rfl,
  ps_bipush (n := 32) (by decide +kernel) (by decide +kernel),
  ps_iclt (off := 9) (by decide +kernel) (by decide +kernel),
  ps_iln (kf := 1) (by decide +kernel) rfl,
  ps_bipush (n := 126) (by decide +kernel) (by decide +kernel),
  ps_icle (off := 5) (by decide +kernel) (by decide +kernel),
  ps_iconst (n := -1) (by decide +kernel) (by decide +kernel),
  ps_iret (by decide +kernel) rfl rfl rfl,
  ps_aln (kf := 0) (by decide +kernel) rfl,
  ps_get cl_8 (k := 0) (by decide) wd_341 (by decide +kernel),
  ps_getN cl_7 (k := 1) (by decide) wn_34 (by decide +kernel),
  ps_sipush (n := 200) (by decide +kernel) (by decide +kernel),
  ps_iclt (off := 6) (by decide +kernel) (by decide +kernel),
  ps_bipush (n := -3) (by decide +kernel) (by decide +kernel),
  ps_iret (by decide +kernel) rfl rfl rfl,
  ps_aln (kf := 0) (by decide +kernel) rfl,
  ps_get cl_8 (k := 0) (by decide) wd_341 (by decide +kernel),
  ps_iln (kf := 1) (by decide +kernel) rfl,
  ps_i2c (by decide +kernel),
  ps_callV cl_7 rfl ce_X7_put wd_264 wd_265 wd_365 ⟨by decide +kernel, by decide +kernel⟩ rfl rfl rfl (by decide +kernel),
  ps_aln (kf := 0) (by decide +kernel) rfl,
  ps_get cl_8 (k := 0) (by decide) wd_341 (by decide +kernel),
  ps_getN cl_7 (k := 1) (by decide) wn_34 (by decide +kernel),
  ps_iret (by decide +kernel) rfl rfl rfl, trivial⟩
def tX8_wipe : pm_Cd := [(0, po_al 0), (1, po_get 8 0), (4, po_get 7 1), (7, po_is 1), (8, po_al 0), (9, po_get 8 0), (12, po_ic (0)), (13, po_put 7 1 .int), (16, po_il 1), (17, po_iret)]
set_option maxRecDepth 100000 in
theorem aX8_wipe (E : pm_E) : pm_All E 54 (tX8_wipe) :=
  ⟨ps_aln (kf := 0) (by decide +kernel) rfl,
  ps_get cl_8 (k := 0) (by decide) wd_341 (by decide +kernel),
  ps_getN cl_7 (k := 1) (by decide) wn_34 (by decide +kernel),
  ps_isn (kf := 1) (by decide +kernel) rfl (by decide +kernel),
  ps_aln (kf := 0) (by decide +kernel) rfl,
  ps_get cl_8 (k := 0) (by decide) wd_341 (by decide +kernel),
  ps_iconst (n := 0) (by decide +kernel) (by decide +kernel),
  ps_putN cl_7 (k := 1) (by decide) wn_34 rfl rfl (by decide +kernel),
  ps_iln (kf := 1) (by decide +kernel) rfl,
  ps_iret (by decide +kernel) rfl rfl rfl, trivial⟩
def tX8_fault : pm_Cd := [(0, po_ic (0)), (1, po_is 1), (2, po_ic (0)), (3, po_is 2), (4, po_mark), (4, po_il 2), (5, po_ic (200)), (8, po_icge 53), (11, po_il 1), (12, po_al 0), (13, po_get 8 0), (16, po_get 7 1), (19, po_icge 53), (22, po_al 0), (23, po_get 8 1), (26, po_al 0), (27, po_get 8 0), (30, po_il 1), (31, po_callV 2 21 2 6), (34, po_ifne 39), (37, po_il 1), (38, po_iret), (39, po_al 0), (40, po_get 8 1), (43, po_get 2 2), (46, po_is 1), (47, po_iinc 2 (1)), (50, po_goto 4), (53, po_ic (-4)), (55, po_iret)]
set_option maxRecDepth 100000 in
theorem aX8_fault (E : pm_E) : pm_All E 55 (tX8_fault) :=
  ⟨ps_iconst (n := 0) (by decide +kernel) (by decide +kernel),
  ps_isn (kf := 1) (by decide +kernel) rfl (by decide +kernel),
  ps_iconst (n := 0) (by decide +kernel) (by decide +kernel),
  ps_isn (kf := 2) (by decide +kernel) rfl (by decide +kernel),
  ps_mark,
  ps_iln (kf := 2) (by decide +kernel) rfl,
  ps_sipush (n := 200) (by decide +kernel) (by decide +kernel),
  ps_icge (off := 45) (by decide +kernel) (by decide +kernel),
  ps_iln (kf := 1) (by decide +kernel) rfl,
  ps_aln (kf := 0) (by decide +kernel) rfl,
  ps_get cl_8 (k := 0) (by decide) wd_341 (by decide +kernel),
  ps_getN cl_7 (k := 1) (by decide) wn_34 (by decide +kernel),
  ps_icge (off := 34) (by decide +kernel) (by decide +kernel),
  ps_aln (kf := 0) (by decide +kernel) rfl,
  ps_get cl_8 (k := 1) (by decide) wd_342 (by decide +kernel),
  ps_aln (kf := 0) (by decide +kernel) rfl,
  ps_get cl_8 (k := 0) (by decide) wd_341 (by decide +kernel),
  ps_iln (kf := 1) (by decide +kernel) rfl,
  ps_callV cl_2 rfl ce_X2_takeFrom wd_294 wd_295 wd_293 ⟨by decide +kernel, by decide +kernel⟩ rfl rfl rfl (by decide +kernel),
  ps_ifne (off := 5) (by decide +kernel) (by decide +kernel),
  ps_iln (kf := 1) (by decide +kernel) rfl,
  ps_iret (by decide +kernel) rfl rfl rfl,
  ps_aln (kf := 0) (by decide +kernel) rfl,
  ps_get cl_8 (k := 1) (by decide) wd_342 (by decide +kernel),
  ps_getN cl_2 (k := 2) (by decide) wn_52 (by decide +kernel),
  ps_isn (kf := 1) (by decide +kernel) rfl (by decide +kernel),
  ps_iinc (n := 1) (by decide +kernel) (by decide +kernel) (by decide +kernel),
  ps_goto (off := -46) (by decide +kernel) (by decide +kernel),
  ps_bipush (n := -4) (by decide +kernel) (by decide +kernel),
  ps_iret (by decide +kernel) rfl rfl rfl, trivial⟩
def tX8_lay : pm_Cd := [(0, po_al 0), (1, po_callV 8 55 0 3), (4, po_ic (-4)), (6, po_iceq 12), (9, po_ic (-2)), (11, po_iret), (12, po_al 0), (13, po_callV 8 57 0 3), (16, po_al 0), (17, po_get 8 2), (20, po_get 6 0), (23, po_callV 4 37 0 1), (26, po_iret)]
set_option maxRecDepth 100000 in
theorem aX8_lay (E : pm_E) : pm_All E 56 (tX8_lay) :=
  ⟨ps_aln (kf := 0) (by decide +kernel) rfl,
  ps_callV cl_8 rfl ce_X8_fault wd_371 wd_372 wd_378 ⟨by decide +kernel, by decide +kernel⟩ rfl rfl rfl (by decide +kernel),
  ps_bipush (n := -4) (by decide +kernel) (by decide +kernel),
  ps_iceq (off := 6) (by decide +kernel) (by decide +kernel),
  ps_bipush (n := -2) (by decide +kernel) (by decide +kernel),
  ps_iret (by decide +kernel) rfl rfl rfl,
  ps_aln (kf := 0) (by decide +kernel) rfl,
  ps_callV cl_8 rfl ce_X8_layItems wd_269 wp_0 wd_267 ⟨by decide +kernel, by decide +kernel⟩ rfl rfl rfl (by decide +kernel),
  ps_aln (kf := 0) (by decide +kernel) rfl,
  ps_get cl_8 (k := 2) (by decide) wd_343 (by decide +kernel),
  ps_getN cl_6 (k := 0) (by decide) wn_131 (by decide +kernel),
  ps_callV cl_4 rfl ce_X4_howManyHeard wd_380 wd_381 wd_379 ⟨by decide +kernel, by decide +kernel⟩ rfl rfl rfl (by decide +kernel),
  ps_iret (by decide +kernel) rfl rfl rfl, trivial⟩
def tX8_layItems : pm_Cd := [(0, po_al 0), (1, po_get 8 2), (4, po_callV 6 46 0 1), (7, po_al 0), (8, po_get 8 3), (11, po_ic (0)), (12, po_put 5 2 .int), (15, po_al 0), (16, po_get 8 5), (19, po_callV 3 26 0 1), (22, po_ic (0)), (23, po_is 1), (24, po_ic (0)), (25, po_is 2), (26, po_mark), (26, po_il 2), (27, po_ic (200)), (30, po_icge 78), (33, po_il 1), (34, po_al 0), (35, po_get 8 0), (38, po_get 7 1), (41, po_icge 78), (44, po_al 0), (45, po_get 8 1), (48, po_al 0), (49, po_get 8 0), (52, po_il 1), (53, po_callV 2 21 2 6), (56, po_ifne 60), (59, po_vret), (60, po_al 0), (61, po_callV 8 58 0 2), (64, po_al 0), (65, po_get 8 1), (68, po_get 2 2), (71, po_is 1), (72, po_iinc 2 (1)), (75, po_goto 26), (78, po_vret)]
set_option maxRecDepth 100000 in
theorem aX8_layItems (E : pm_E) : pm_All E 57 (tX8_layItems) :=
  ⟨ps_aln (kf := 0) (by decide +kernel) rfl,
  ps_get cl_8 (k := 2) (by decide) wd_343 (by decide +kernel),
  ps_callV cl_6 rfl ce_X6_clear wd_272 wd_273 wd_271 ⟨by decide +kernel, by decide +kernel⟩ rfl rfl rfl (by decide +kernel),
  ps_aln (kf := 0) (by decide +kernel) rfl,
  ps_get cl_8 (k := 3) (by decide) wd_344 (by decide +kernel),
  ps_iconst (n := 0) (by decide +kernel) (by decide +kernel),
  ps_putN cl_5 (k := 2) (by decide) wn_155 rfl rfl (by decide +kernel),
  ps_aln (kf := 0) (by decide +kernel) rfl,
  ps_get cl_8 (k := 5) (by decide) wd_346 (by decide +kernel),
  ps_callV cl_3 rfl ce_X3_clear wd_284 wd_285 wd_283 ⟨by decide +kernel, by decide +kernel⟩ rfl rfl rfl (by decide +kernel),
  ps_iconst (n := 0) (by decide +kernel) (by decide +kernel),
  ps_isn (kf := 1) (by decide +kernel) rfl (by decide +kernel),
  ps_iconst (n := 0) (by decide +kernel) (by decide +kernel),
  ps_isn (kf := 2) (by decide +kernel) rfl (by decide +kernel),
  ps_mark,
  ps_iln (kf := 2) (by decide +kernel) rfl,
  ps_sipush (n := 200) (by decide +kernel) (by decide +kernel),
  ps_icge (off := 48) (by decide +kernel) (by decide +kernel),
  ps_iln (kf := 1) (by decide +kernel) rfl,
  ps_aln (kf := 0) (by decide +kernel) rfl,
  ps_get cl_8 (k := 0) (by decide) wd_341 (by decide +kernel),
  ps_getN cl_7 (k := 1) (by decide) wn_34 (by decide +kernel),
  ps_icge (off := 37) (by decide +kernel) (by decide +kernel),
  ps_aln (kf := 0) (by decide +kernel) rfl,
  ps_get cl_8 (k := 1) (by decide) wd_342 (by decide +kernel),
  ps_aln (kf := 0) (by decide +kernel) rfl,
  ps_get cl_8 (k := 0) (by decide) wd_341 (by decide +kernel),
  ps_iln (kf := 1) (by decide +kernel) rfl,
  ps_callV cl_2 rfl ce_X2_takeFrom wd_294 wd_295 wd_293 ⟨by decide +kernel, by decide +kernel⟩ rfl rfl rfl (by decide +kernel),
  ps_ifne (off := 4) (by decide +kernel) (by decide +kernel),
  ps_vret (by decide +kernel) rfl rfl rfl,
  ps_aln (kf := 0) (by decide +kernel) rfl,
  ps_callV cl_8 rfl ce_X8_layItem wd_334 wp_4 wd_332 ⟨by decide +kernel, by decide +kernel⟩ rfl rfl rfl (by decide +kernel),
  ps_aln (kf := 0) (by decide +kernel) rfl,
  ps_get cl_8 (k := 1) (by decide) wd_342 (by decide +kernel),
  ps_getN cl_2 (k := 2) (by decide) wn_52 (by decide +kernel),
  ps_isn (kf := 1) (by decide +kernel) rfl (by decide +kernel),
  ps_iinc (n := 1) (by decide +kernel) (by decide +kernel) (by decide +kernel),
  ps_goto (off := -49) (by decide +kernel) (by decide +kernel),
  ps_vret (by decide +kernel) rfl rfl rfl, trivial⟩
def tX8_layItem : pm_Cd := [(0, po_al 0), (1, po_get 8 1), (4, po_get 2 0), (7, po_as 1), (8, po_al 0), (9, po_get 8 1), (12, po_get 2 1), (15, po_ic (100)), (17, po_icne 37), (20, po_al 0), (21, po_get 8 2), (24, po_get 6 0), (27, po_al 1), (28, po_ic (0)), (29, po_lald), (30, po_l2i), (31, po_put 4 5 .int), (34, po_goto 92), (37, po_al 0), (38, po_get 8 1), (41, po_get 2 1), (44, po_ic (109)), (46, po_icne 73), (49, po_al 0), (50, po_get 8 2), (53, po_get 6 0), (56, po_al 1), (57, po_ic (0)), (58, po_lald), (59, po_l2i), (60, po_al 1), (61, po_ic (1)), (62, po_lald), (63, po_al 1), (64, po_ic (2)), (65, po_lald), (66, po_ic (0)), (67, po_callV 4 34 4 7), (70, po_goto 92), (73, po_al 0), (74, po_get 8 5), (77, po_al 1), (78, po_ic (0)), (79, po_lald), (80, po_al 1), (81, po_ic (1)), (82, po_lald), (83, po_al 1), (84, po_ic (2)), (85, po_lald), (86, po_al 1), (87, po_ic (3)), (88, po_lald), (89, po_callV 3 27 4 9), (92, po_vret)]
set_option maxRecDepth 100000 in
theorem aX8_layItem (E : pm_E) : pm_All E 58 (tX8_layItem) :=
  ⟨ps_aln (kf := 0) (by decide +kernel) rfl,
  ps_get cl_8 (k := 1) (by decide) wd_342 (by decide +kernel),
  ps_getN cl_2 (k := 0) (by decide) wn_48 (by decide +kernel),
  ps_asn (kf := 1) (by decide +kernel) rfl (by decide +kernel),
  ps_aln (kf := 0) (by decide +kernel) rfl,
  ps_get cl_8 (k := 1) (by decide) wd_342 (by decide +kernel),
  ps_getN cl_2 (k := 1) (by decide) wn_50 (by decide +kernel),
  ps_bipush (n := 100) (by decide +kernel) (by decide +kernel),
  ps_icne (off := 20) (by decide +kernel) (by decide +kernel),
  ps_aln (kf := 0) (by decide +kernel) rfl,
  ps_get cl_8 (k := 2) (by decide) wd_343 (by decide +kernel),
  ps_getN cl_6 (k := 0) (by decide) wn_131 (by decide +kernel),
  ps_aln (kf := 1) (by decide +kernel) rfl,
  ps_iconst (n := 0) (by decide +kernel) (by decide +kernel),
  ps_lald (by decide +kernel),
  ps_l2i (by decide +kernel),
  ps_putN cl_4 (k := 5) (by decide) wn_80 rfl rfl (by decide +kernel),
  ps_goto (off := 58) (by decide +kernel) (by decide +kernel),
  ps_aln (kf := 0) (by decide +kernel) rfl,
  ps_get cl_8 (k := 1) (by decide) wd_342 (by decide +kernel),
  ps_getN cl_2 (k := 1) (by decide) wn_50 (by decide +kernel),
  ps_bipush (n := 109) (by decide +kernel) (by decide +kernel),
  ps_icne (off := 27) (by decide +kernel) (by decide +kernel),
  ps_aln (kf := 0) (by decide +kernel) rfl,
  ps_get cl_8 (k := 2) (by decide) wd_343 (by decide +kernel),
  ps_getN cl_6 (k := 0) (by decide) wn_131 (by decide +kernel),
  ps_aln (kf := 1) (by decide +kernel) rfl,
  ps_iconst (n := 0) (by decide +kernel) (by decide +kernel),
  ps_lald (by decide +kernel),
  ps_l2i (by decide +kernel),
  ps_aln (kf := 1) (by decide +kernel) rfl,
  ps_iconst (n := 1) (by decide +kernel) (by decide +kernel),
  ps_lald (by decide +kernel),
  ps_aln (kf := 1) (by decide +kernel) rfl,
  ps_iconst (n := 2) (by decide +kernel) (by decide +kernel),
  ps_lald (by decide +kernel),
  ps_iconst (n := 0) (by decide +kernel) (by decide +kernel),
  ps_callV cl_4 rfl ce_X4_hear wd_337 wd_338 wd_336 ⟨by decide +kernel, by decide +kernel⟩ rfl rfl rfl (by decide +kernel),
  ps_goto (off := 22) (by decide +kernel) (by decide +kernel),
  ps_aln (kf := 0) (by decide +kernel) rfl,
  ps_get cl_8 (k := 5) (by decide) wd_346 (by decide +kernel),
  ps_aln (kf := 1) (by decide +kernel) rfl,
  ps_iconst (n := 0) (by decide +kernel) (by decide +kernel),
  ps_lald (by decide +kernel),
  ps_aln (kf := 1) (by decide +kernel) rfl,
  ps_iconst (n := 1) (by decide +kernel) (by decide +kernel),
  ps_lald (by decide +kernel),
  ps_aln (kf := 1) (by decide +kernel) rfl,
  ps_iconst (n := 2) (by decide +kernel) (by decide +kernel),
  ps_lald (by decide +kernel),
  ps_aln (kf := 1) (by decide +kernel) rfl,
  ps_iconst (n := 3) (by decide +kernel) (by decide +kernel),
  ps_lald (by decide +kernel),
  ps_callV cl_3 rfl ce_X3_set wd_290 wd_291 wd_340 ⟨by decide +kernel, by decide +kernel⟩ rfl rfl rfl (by decide +kernel),
  ps_vret (by decide +kernel) rfl rfl rfl, trivial⟩
def tX8_tell : pm_Cd := [(0, po_il 1), (1, po_i2l), (2, po_callS 82 1 2), (5, po_ifeq 17), (8, po_ll 2), (9, po_ll 4), (11, po_callS 85 2 4), (14, po_ifne 19), (17, po_ic (-1)), (18, po_iret), (19, po_al 0), (20, po_get 8 3), (23, po_al 0), (24, po_get 8 2), (27, po_callV 5 43 1 2), (30, po_al 0), (31, po_get 8 2), (34, po_get 6 0), (37, po_il 1), (38, po_ll 2), (39, po_ll 4), (41, po_al 0), (42, po_get 8 2), (45, po_get 6 2), (48, po_callV 4 34 4 7), (51, po_al 0), (52, po_get 8 2), (55, po_get 6 0), (58, po_callV 4 37 0 1), (61, po_iret)]
set_option maxRecDepth 100000 in
theorem aX8_tell (E : pm_E) : pm_All E 59 (tX8_tell) :=
  ⟨ps_iln (kf := 1) (by decide +kernel) rfl,
  ps_i2l (by decide +kernel),
  ps_callS ce_X8_isMaster wd_320 wd_393 ⟨by decide +kernel, by decide +kernel⟩ rfl rfl rfl (by decide +kernel),
  ps_ifeq (off := 12) (by decide +kernel) (by decide +kernel),
  ps_lln (kf := 2) (by decide +kernel) rfl,
  ps_ll (by decide +kernel),
  ps_callS ce_X8_isToldSpan wd_324 wd_394 ⟨by decide +kernel, by decide +kernel⟩ rfl rfl rfl (by decide +kernel),
  ps_ifne (off := 5) (by decide +kernel) (by decide +kernel),
  ps_iconst (n := -1) (by decide +kernel) (by decide +kernel),
  ps_iret (by decide +kernel) rfl rfl rfl,
  ps_aln (kf := 0) (by decide +kernel) rfl,
  ps_get cl_8 (k := 3) (by decide) wd_344 (by decide +kernel),
  ps_aln (kf := 0) (by decide +kernel) rfl,
  ps_get cl_8 (k := 2) (by decide) wd_343 (by decide +kernel),
  ps_callV cl_5 rfl ce_X5_keep wd_396 wd_397 wd_395 ⟨by decide +kernel, by decide +kernel⟩ rfl rfl rfl (by decide +kernel),
  ps_aln (kf := 0) (by decide +kernel) rfl,
  ps_get cl_8 (k := 2) (by decide) wd_343 (by decide +kernel),
  ps_getN cl_6 (k := 0) (by decide) wn_131 (by decide +kernel),
  ps_iln (kf := 1) (by decide +kernel) rfl,
  ps_lln (kf := 2) (by decide +kernel) rfl,
  ps_ll (by decide +kernel),
  ps_aln (kf := 0) (by decide +kernel) rfl,
  ps_get cl_8 (k := 2) (by decide) wd_343 (by decide +kernel),
  ps_getN cl_6 (k := 2) (by decide) wn_135 (by decide +kernel),
  ps_callV cl_4 rfl ce_X4_hear wd_337 wd_338 wd_336 ⟨by decide +kernel, by decide +kernel⟩ rfl rfl rfl (by decide +kernel),
  ps_aln (kf := 0) (by decide +kernel) rfl,
  ps_get cl_8 (k := 2) (by decide) wd_343 (by decide +kernel),
  ps_getN cl_6 (k := 0) (by decide) wn_131 (by decide +kernel),
  ps_callV cl_4 rfl ce_X4_howManyHeard wd_380 wd_381 wd_379 ⟨by decide +kernel, by decide +kernel⟩ rfl rfl rfl (by decide +kernel),
  ps_iret (by decide +kernel) rfl rfl rfl, trivial⟩
def tX8_strike : pm_Cd := [(0, po_il 1), (1, po_i2l), (2, po_callS 82 1 2), (5, po_ifeq 17), (8, po_il 2), (9, po_iflt 17), (12, po_il 2), (13, po_ic (1)), (14, po_icle 19), (17, po_ic (-1)), (18, po_iret), (19, po_al 0), (20, po_get 8 2), (23, po_get 6 0), (26, po_get 4 4), (29, po_il 1), (30, po_ishr), (31, po_ic (1)), (32, po_iand), (33, po_il 2), (34, po_icne 40), (37, po_ic (-2)), (39, po_iret), (40, po_al 0), (41, po_get 8 3), (44, po_al 0), (45, po_get 8 2), (48, po_callV 5 43 1 2), (51, po_al 0), (52, po_get 8 2), (55, po_get 6 0), (58, po_dup), (59, po_get 4 4), (62, po_ic (1)), (63, po_il 1), (64, po_ishl), (65, po_ixor), (66, po_put 4 4 .int), (69, po_al 0), (70, po_get 8 2), (73, po_get 6 0), (76, po_callV 4 37 0 1), (79, po_iret)]
set_option maxRecDepth 100000 in
theorem aX8_strike (E : pm_E) : pm_All E 60 (tX8_strike) :=
  ⟨ps_iln (kf := 1) (by decide +kernel) rfl,
  ps_i2l (by decide +kernel),
  ps_callS ce_X8_isMaster wd_320 wd_393 ⟨by decide +kernel, by decide +kernel⟩ rfl rfl rfl (by decide +kernel),
  ps_ifeq (off := 12) (by decide +kernel) (by decide +kernel),
  ps_iln (kf := 2) (by decide +kernel) rfl,
  ps_iflt (off := 8) (by decide +kernel) (by decide +kernel),
  ps_iln (kf := 2) (by decide +kernel) rfl,
  ps_iconst (n := 1) (by decide +kernel) (by decide +kernel),
  ps_icle (off := 5) (by decide +kernel) (by decide +kernel),
  ps_iconst (n := -1) (by decide +kernel) (by decide +kernel),
  ps_iret (by decide +kernel) rfl rfl rfl,
  ps_aln (kf := 0) (by decide +kernel) rfl,
  ps_get cl_8 (k := 2) (by decide) wd_343 (by decide +kernel),
  ps_getN cl_6 (k := 0) (by decide) wn_131 (by decide +kernel),
  ps_getN cl_4 (k := 4) (by decide) wn_78 (by decide +kernel),
  ps_iln (kf := 1) (by decide +kernel) rfl,
  ps_ishr (by decide +kernel),
  ps_iconst (n := 1) (by decide +kernel) (by decide +kernel),
  ps_iand (by decide +kernel),
  ps_iln (kf := 2) (by decide +kernel) rfl,
  ps_icne (off := 6) (by decide +kernel) (by decide +kernel),
  ps_bipush (n := -2) (by decide +kernel) (by decide +kernel),
  ps_iret (by decide +kernel) rfl rfl rfl,
  ps_aln (kf := 0) (by decide +kernel) rfl,
  ps_get cl_8 (k := 3) (by decide) wd_344 (by decide +kernel),
  ps_aln (kf := 0) (by decide +kernel) rfl,
  ps_get cl_8 (k := 2) (by decide) wd_343 (by decide +kernel),
  ps_callV cl_5 rfl ce_X5_keep wd_396 wd_397 wd_395 ⟨by decide +kernel, by decide +kernel⟩ rfl rfl rfl (by decide +kernel),
  ps_aln (kf := 0) (by decide +kernel) rfl,
  ps_get cl_8 (k := 2) (by decide) wd_343 (by decide +kernel),
  ps_getN cl_6 (k := 0) (by decide) wn_131 (by decide +kernel),
  ps_dup (by decide +kernel),
  ps_getN cl_4 (k := 4) (by decide) wn_78 (by decide +kernel),
  ps_iconst (n := 1) (by decide +kernel) (by decide +kernel),
  ps_iln (kf := 1) (by decide +kernel) rfl,
  ps_ishl (by decide +kernel),
  ps_ixor (by decide +kernel),
  ps_putN cl_4 (k := 4) (by decide) wn_78 rfl rfl (by decide +kernel),
  ps_aln (kf := 0) (by decide +kernel) rfl,
  ps_get cl_8 (k := 2) (by decide) wd_343 (by decide +kernel),
  ps_getN cl_6 (k := 0) (by decide) wn_131 (by decide +kernel),
  ps_callV cl_4 rfl ce_X4_howManyHeard wd_380 wd_381 wd_379 ⟨by decide +kernel, by decide +kernel⟩ rfl rfl rfl (by decide +kernel),
  ps_iret (by decide +kernel) rfl rfl rfl, trivial⟩
def tX8_strikeLiars : pm_Cd := [(0, po_al 0), (1, po_callV 8 70 0 7), (4, po_is 1), (5, po_il 1), (6, po_ifne 12), (9, po_ic (-2)), (11, po_iret), (12, po_al 0), (13, po_get 8 3), (16, po_al 0), (17, po_get 8 2), (20, po_callV 5 43 1 2), (23, po_al 0), (24, po_get 8 2), (27, po_get 6 0), (30, po_dup), (31, po_get 4 4), (34, po_il 1), (35, po_ior), (36, po_put 4 4 .int), (39, po_il 1), (40, po_callS 143 1 1), (43, po_iret)]
set_option maxRecDepth 100000 in
theorem aX8_strikeLiars (E : pm_E) : pm_All E 61 (tX8_strikeLiars) :=
  ⟨ps_aln (kf := 0) (by decide +kernel) rfl,
  ps_callV cl_8 rfl ce_X8_liars wd_427 wd_428 wd_426 ⟨by decide +kernel, by decide +kernel⟩ rfl rfl rfl (by decide +kernel),
  ps_isn (kf := 1) (by decide +kernel) rfl (by decide +kernel),
  ps_iln (kf := 1) (by decide +kernel) rfl,
  ps_ifne (off := 6) (by decide +kernel) (by decide +kernel),
  ps_bipush (n := -2) (by decide +kernel) (by decide +kernel),
  ps_iret (by decide +kernel) rfl rfl rfl,
  ps_aln (kf := 0) (by decide +kernel) rfl,
  ps_get cl_8 (k := 3) (by decide) wd_344 (by decide +kernel),
  ps_aln (kf := 0) (by decide +kernel) rfl,
  ps_get cl_8 (k := 2) (by decide) wd_343 (by decide +kernel),
  ps_callV cl_5 rfl ce_X5_keep wd_396 wd_397 wd_395 ⟨by decide +kernel, by decide +kernel⟩ rfl rfl rfl (by decide +kernel),
  ps_aln (kf := 0) (by decide +kernel) rfl,
  ps_get cl_8 (k := 2) (by decide) wd_343 (by decide +kernel),
  ps_getN cl_6 (k := 0) (by decide) wn_131 (by decide +kernel),
  ps_dup (by decide +kernel),
  ps_getN cl_4 (k := 4) (by decide) wn_78 (by decide +kernel),
  ps_iln (kf := 1) (by decide +kernel) rfl,
  ps_ior (by decide +kernel),
  ps_putN cl_4 (k := 4) (by decide) wn_78 rfl rfl (by decide +kernel),
  ps_iln (kf := 1) (by decide +kernel) rfl,
  ps_callS ce_J6_bitCount_0f7a4 wd_384 wd_482 ⟨by decide +kernel, by decide +kernel⟩ rfl rfl rfl (by decide +kernel),
  ps_iret (by decide +kernel) rfl rfl rfl, trivial⟩
def tX8_drift : pm_Cd := [(0, po_il 1), (1, po_i2l), (2, po_callS 84 1 2), (5, po_ifne 10), (8, po_ic (-1)), (9, po_iret), (10, po_al 0), (11, po_get 8 2), (14, po_get 6 0), (17, po_get 4 5), (20, po_is 2), (21, po_il 2), (22, po_il 1), (23, po_icne 29), (26, po_ic (-2)), (28, po_iret), (29, po_al 0), (30, po_get 8 3), (33, po_al 0), (34, po_get 8 2), (37, po_callV 5 43 1 2), (40, po_al 0), (41, po_get 8 2), (44, po_get 6 0), (47, po_il 1), (48, po_put 4 5 .int), (51, po_il 2), (52, po_iret)]
set_option maxRecDepth 100000 in
theorem aX8_drift (E : pm_E) : pm_All E 62 (tX8_drift) :=
  ⟨ps_iln (kf := 1) (by decide +kernel) rfl,
  ps_i2l (by decide +kernel),
  ps_callS ce_X8_isDrift wd_316 wd_487 ⟨by decide +kernel, by decide +kernel⟩ rfl rfl rfl (by decide +kernel),
  ps_ifne (off := 5) (by decide +kernel) (by decide +kernel),
  ps_iconst (n := -1) (by decide +kernel) (by decide +kernel),
  ps_iret (by decide +kernel) rfl rfl rfl,
  ps_aln (kf := 0) (by decide +kernel) rfl,
  ps_get cl_8 (k := 2) (by decide) wd_343 (by decide +kernel),
  ps_getN cl_6 (k := 0) (by decide) wn_131 (by decide +kernel),
  ps_getN cl_4 (k := 5) (by decide) wn_80 (by decide +kernel),
  ps_isn (kf := 2) (by decide +kernel) rfl (by decide +kernel),
  ps_iln (kf := 2) (by decide +kernel) rfl,
  ps_iln (kf := 1) (by decide +kernel) rfl,
  ps_icne (off := 6) (by decide +kernel) (by decide +kernel),
  ps_bipush (n := -2) (by decide +kernel) (by decide +kernel),
  ps_iret (by decide +kernel) rfl rfl rfl,
  ps_aln (kf := 0) (by decide +kernel) rfl,
  ps_get cl_8 (k := 3) (by decide) wd_344 (by decide +kernel),
  ps_aln (kf := 0) (by decide +kernel) rfl,
  ps_get cl_8 (k := 2) (by decide) wd_343 (by decide +kernel),
  ps_callV cl_5 rfl ce_X5_keep wd_396 wd_397 wd_395 ⟨by decide +kernel, by decide +kernel⟩ rfl rfl rfl (by decide +kernel),
  ps_aln (kf := 0) (by decide +kernel) rfl,
  ps_get cl_8 (k := 2) (by decide) wd_343 (by decide +kernel),
  ps_getN cl_6 (k := 0) (by decide) wn_131 (by decide +kernel),
  ps_iln (kf := 1) (by decide +kernel) rfl,
  ps_putN cl_4 (k := 5) (by decide) wn_80 rfl rfl (by decide +kernel),
  ps_iln (kf := 2) (by decide +kernel) rfl,
  ps_iret (by decide +kernel) rfl rfl rfl, trivial⟩
def tX8_go : pm_Cd := [(0, po_il 1), (1, po_ic (1)), (2, po_iclt 12), (5, po_il 1), (6, po_ic (5000)), (9, po_icle 14), (12, po_ic (-1)), (13, po_iret), (14, po_al 0), (15, po_get 8 3), (18, po_al 0), (19, po_get 8 2), (22, po_callV 5 43 1 2), (25, po_al 0), (26, po_get 8 2), (29, po_get 6 1), (32, po_get 1 6), (35, po_is 2), (36, po_ic (0)), (37, po_is 3), (38, po_mark), (38, po_il 3), (39, po_il 1), (40, po_icge 66), (43, po_al 0), (44, po_get 8 2), (47, po_dup), (48, po_get 6 2), (51, po_ic (1)), (52, po_iadd), (53, po_put 6 2 .int), (56, po_al 0), (57, po_callV 8 64 0 1), (60, po_iinc 3 (1)), (63, po_goto 38), (66, po_al 0), (67, po_get 8 2), (70, po_get 6 1), (73, po_get 1 6), (76, po_il 2), (77, po_isub), (78, po_iret)]
set_option maxRecDepth 100000 in
theorem aX8_go (E : pm_E) : pm_All E 63 (tX8_go) :=
  ⟨ps_iln (kf := 1) (by decide +kernel) rfl,
  ps_iconst (n := 1) (by decide +kernel) (by decide +kernel),
  ps_iclt (off := 10) (by decide +kernel) (by decide +kernel),
  ps_iln (kf := 1) (by decide +kernel) rfl,
  ps_sipush (n := 5000) (by decide +kernel) (by decide +kernel),
  ps_icle (off := 5) (by decide +kernel) (by decide +kernel),
  ps_iconst (n := -1) (by decide +kernel) (by decide +kernel),
  ps_iret (by decide +kernel) rfl rfl rfl,
  ps_aln (kf := 0) (by decide +kernel) rfl,
  ps_get cl_8 (k := 3) (by decide) wd_344 (by decide +kernel),
  ps_aln (kf := 0) (by decide +kernel) rfl,
  ps_get cl_8 (k := 2) (by decide) wd_343 (by decide +kernel),
  ps_callV cl_5 rfl ce_X5_keep wd_396 wd_397 wd_395 ⟨by decide +kernel, by decide +kernel⟩ rfl rfl rfl (by decide +kernel),
  ps_aln (kf := 0) (by decide +kernel) rfl,
  ps_get cl_8 (k := 2) (by decide) wd_343 (by decide +kernel),
  ps_getN cl_6 (k := 1) (by decide) wn_133 (by decide +kernel),
  ps_getN cl_1 (k := 6) (by decide) wn_114 (by decide +kernel),
  ps_isn (kf := 2) (by decide +kernel) rfl (by decide +kernel),
  ps_iconst (n := 0) (by decide +kernel) (by decide +kernel),
  ps_isn (kf := 3) (by decide +kernel) rfl (by decide +kernel),
  ps_mark,
  ps_iln (kf := 3) (by decide +kernel) rfl,
  ps_iln (kf := 1) (by decide +kernel) rfl,
  ps_icge (off := 26) (by decide +kernel) (by decide +kernel),
  ps_aln (kf := 0) (by decide +kernel) rfl,
  ps_get cl_8 (k := 2) (by decide) wd_343 (by decide +kernel),
  ps_dup (by decide +kernel),
  ps_getN cl_6 (k := 2) (by decide) wn_135 (by decide +kernel),
  ps_iconst (n := 1) (by decide +kernel) (by decide +kernel),
  ps_iadd (by decide +kernel),
  ps_putN cl_6 (k := 2) (by decide) wn_135 rfl rfl (by decide +kernel),
  ps_aln (kf := 0) (by decide +kernel) rfl,
  ps_callV cl_8 rfl ce_X8_finishCommits wd_494 wp_9 wd_492 ⟨by decide +kernel, by decide +kernel⟩ rfl rfl rfl (by decide +kernel),
  ps_iinc (n := 1) (by decide +kernel) (by decide +kernel) (by decide +kernel),
  ps_goto (off := -25) (by decide +kernel) (by decide +kernel),
  ps_aln (kf := 0) (by decide +kernel) rfl,
  ps_get cl_8 (k := 2) (by decide) wd_343 (by decide +kernel),
  ps_getN cl_6 (k := 1) (by decide) wn_133 (by decide +kernel),
  ps_getN cl_1 (k := 6) (by decide) wn_114 (by decide +kernel),
  ps_iln (kf := 2) (by decide +kernel) rfl,
  ps_isub (by decide +kernel),
  ps_iret (by decide +kernel) rfl rfl rfl, trivial⟩
def tX8_finishCommits : pm_Cd := [(0, po_al 0), (1, po_get 8 2), (4, po_get 6 1), (7, po_callV 1 13 0 1), (10, po_ifne 14), (13, po_vret), (14, po_al 0), (15, po_callV 8 71 0 1), (18, po_al 0), (19, po_get 8 4), (22, po_callV 0 7 0 1), (25, po_ifeq 52), (28, po_al 0), (29, po_get 8 2), (32, po_get 6 1), (35, po_al 0), (36, po_get 8 4), (39, po_get 0 4), (42, po_al 0), (43, po_get 8 2), (46, po_get 6 2), (49, po_callV 1 15 2 4), (52, po_vret)]
set_option maxRecDepth 100000 in
theorem aX8_finishCommits (E : pm_E) : pm_All E 64 (tX8_finishCommits) :=
  ⟨ps_aln (kf := 0) (by decide +kernel) rfl,
  ps_get cl_8 (k := 2) (by decide) wd_343 (by decide +kernel),
  ps_getN cl_6 (k := 1) (by decide) wn_133 (by decide +kernel),
  ps_callV cl_1 rfl ce_X1_howManyOpen wd_497 wd_498 wd_496 ⟨by decide +kernel, by decide +kernel⟩ rfl rfl rfl (by decide +kernel),
  ps_ifne (off := 4) (by decide +kernel) (by decide +kernel),
  ps_vret (by decide +kernel) rfl rfl rfl,
  ps_aln (kf := 0) (by decide +kernel) rfl,
  ps_callV cl_8 rfl ce_X8_lookAround wd_432 wp_5 wd_430 ⟨by decide +kernel, by decide +kernel⟩ rfl rfl rfl (by decide +kernel),
  ps_aln (kf := 0) (by decide +kernel) rfl,
  ps_get cl_8 (k := 4) (by decide) wd_345 (by decide +kernel),
  ps_callV cl_0 rfl ce_X0_isGood wd_501 wd_502 wd_500 ⟨by decide +kernel, by decide +kernel⟩ rfl rfl rfl (by decide +kernel),
  ps_ifeq (off := 27) (by decide +kernel) (by decide +kernel),
  ps_aln (kf := 0) (by decide +kernel) rfl,
  ps_get cl_8 (k := 2) (by decide) wd_343 (by decide +kernel),
  ps_getN cl_6 (k := 1) (by decide) wn_133 (by decide +kernel),
  ps_aln (kf := 0) (by decide +kernel) rfl,
  ps_get cl_8 (k := 4) (by decide) wd_345 (by decide +kernel),
  ps_getN cl_0 (k := 4) (by decide) wn_175 (by decide +kernel),
  ps_aln (kf := 0) (by decide +kernel) rfl,
  ps_get cl_8 (k := 2) (by decide) wd_343 (by decide +kernel),
  ps_getN cl_6 (k := 2) (by decide) wn_135 (by decide +kernel),
  ps_callV cl_1 rfl ce_X1_finishBelow wd_505 wd_506 wd_504 ⟨by decide +kernel, by decide +kernel⟩ rfl rfl rfl (by decide +kernel),
  ps_vret (by decide +kernel) rfl rfl rfl, trivial⟩
def tX8_undo : pm_Cd := [(0, po_al 0), (1, po_get 8 3), (4, po_get 5 2), (7, po_ifne 13), (10, po_ic (-2)), (12, po_iret), (13, po_al 0), (14, po_get 8 3), (17, po_al 0), (18, po_get 8 2), (21, po_callV 5 44 1 2), (24, po_al 0), (25, po_get 8 3), (28, po_get 5 2), (31, po_iret)]
set_option maxRecDepth 100000 in
theorem aX8_undo (E : pm_E) : pm_All E 65 (tX8_undo) :=
  ⟨ps_aln (kf := 0) (by decide +kernel) rfl,
  ps_get cl_8 (k := 3) (by decide) wd_344 (by decide +kernel),
  ps_getN cl_5 (k := 2) (by decide) wn_155 (by decide +kernel),
  ps_ifne (off := 6) (by decide +kernel) (by decide +kernel),
  ps_bipush (n := -2) (by decide +kernel) (by decide +kernel),
  ps_iret (by decide +kernel) rfl rfl rfl,
  ps_aln (kf := 0) (by decide +kernel) rfl,
  ps_get cl_8 (k := 3) (by decide) wd_344 (by decide +kernel),
  ps_aln (kf := 0) (by decide +kernel) rfl,
  ps_get cl_8 (k := 2) (by decide) wd_343 (by decide +kernel),
  ps_callV cl_5 rfl ce_X5_giveBack wd_513 wd_514 wd_512 ⟨by decide +kernel, by decide +kernel⟩ rfl rfl rfl (by decide +kernel),
  ps_aln (kf := 0) (by decide +kernel) rfl,
  ps_get cl_8 (k := 3) (by decide) wd_344 (by decide +kernel),
  ps_getN cl_5 (k := 2) (by decide) wn_155 (by decide +kernel),
  ps_iret (by decide +kernel) rfl rfl rfl, trivial⟩
def tX8_span : pm_Cd := [(0, po_il 1), (1, po_i2l), (2, po_callS 82 1 2), (5, po_ifeq 17), (8, po_il 2), (9, po_iflt 17), (12, po_il 2), (13, po_ic (1)), (14, po_icle 21), (17, po_lc (-2000000000000)), (20, po_lret), (21, po_al 0), (22, po_get 8 2), (25, po_get 6 0), (28, po_il 1), (29, po_callV 4 35 1 2), (32, po_ifne 39), (35, po_lc (-2000000000001)), (38, po_lret), (39, po_il 2), (40, po_ifne 64), (43, po_al 0), (44, po_get 8 2), (47, po_get 6 0), (50, po_il 1), (51, po_al 0), (52, po_get 8 2), (55, po_get 6 2), (58, po_callV 4 38 2 5), (61, po_goto 82), (64, po_al 0), (65, po_get 8 2), (68, po_get 6 0), (71, po_il 1), (72, po_al 0), (73, po_get 8 2), (76, po_get 6 2), (79, po_callV 4 39 2 5), (82, po_lret)]
set_option maxRecDepth 100000 in
theorem aX8_span (E : pm_E) : pm_All E 66 (tX8_span) :=
  ⟨ps_iln (kf := 1) (by decide +kernel) rfl,
  ps_i2l (by decide +kernel),
  ps_callS ce_X8_isMaster wd_320 wd_393 ⟨by decide +kernel, by decide +kernel⟩ rfl rfl rfl (by decide +kernel),
  ps_ifeq (off := 12) (by decide +kernel) (by decide +kernel),
  ps_iln (kf := 2) (by decide +kernel) rfl,
  ps_iflt (off := 8) (by decide +kernel) (by decide +kernel),
  ps_iln (kf := 2) (by decide +kernel) rfl,
  ps_iconst (n := 1) (by decide +kernel) (by decide +kernel),
  ps_icle (off := 7) (by decide +kernel) (by decide +kernel),
  ps_ldc2 (n := 178) (by decide +kernel) wd_520,
  ps_lret (by decide +kernel) rfl rfl rfl,
  ps_aln (kf := 0) (by decide +kernel) rfl,
  ps_get cl_8 (k := 2) (by decide) wd_343 (by decide +kernel),
  ps_getN cl_6 (k := 0) (by decide) wn_131 (by decide +kernel),
  ps_iln (kf := 1) (by decide +kernel) rfl,
  ps_callV cl_4 rfl ce_X4_hasTold wd_522 wd_523 wd_521 ⟨by decide +kernel, by decide +kernel⟩ rfl rfl rfl (by decide +kernel),
  ps_ifne (off := 7) (by decide +kernel) (by decide +kernel),
  ps_ldc2 (n := 184) (by decide +kernel) wd_525,
  ps_lret (by decide +kernel) rfl rfl rfl,
  ps_iln (kf := 2) (by decide +kernel) rfl,
  ps_ifne (off := 24) (by decide +kernel) (by decide +kernel),
  ps_aln (kf := 0) (by decide +kernel) rfl,
  ps_get cl_8 (k := 2) (by decide) wd_343 (by decide +kernel),
  ps_getN cl_6 (k := 0) (by decide) wn_131 (by decide +kernel),
  ps_iln (kf := 1) (by decide +kernel) rfl,
  ps_aln (kf := 0) (by decide +kernel) rfl,
  ps_get cl_8 (k := 2) (by decide) wd_343 (by decide +kernel),
  ps_getN cl_6 (k := 2) (by decide) wn_135 (by decide +kernel),
  ps_callV cl_4 rfl ce_X4_beginOf wd_443 wd_444 wd_526 ⟨by decide +kernel, by decide +kernel⟩ rfl rfl rfl (by decide +kernel),
  ps_goto (off := 21) (by decide +kernel) (by decide +kernel),
  ps_aln (kf := 0) (by decide +kernel) rfl,
  ps_get cl_8 (k := 2) (by decide) wd_343 (by decide +kernel),
  ps_getN cl_6 (k := 0) (by decide) wn_131 (by decide +kernel),
  ps_iln (kf := 1) (by decide +kernel) rfl,
  ps_aln (kf := 0) (by decide +kernel) rfl,
  ps_get cl_8 (k := 2) (by decide) wd_343 (by decide +kernel),
  ps_getN cl_6 (k := 2) (by decide) wn_135 (by decide +kernel),
  ps_callV cl_4 rfl ce_X4_endOf wd_452 wd_453 wd_527 ⟨by decide +kernel, by decide +kernel⟩ rfl rfl rfl (by decide +kernel),
  ps_lret (by decide +kernel) rfl rfl rfl, trivial⟩
def tX8_agreed : pm_Cd := [(0, po_il 1), (1, po_iflt 9), (4, po_il 1), (5, po_ic (1)), (6, po_icle 13), (9, po_lc (-2000000000000)), (12, po_lret), (13, po_al 0), (14, po_callV 8 71 0 1), (17, po_al 0), (18, po_get 8 4), (21, po_get 0 2), (24, po_ifne 31), (27, po_lc (-2000000000001)), (30, po_lret), (31, po_il 1), (32, po_ifne 45), (35, po_al 0), (36, po_get 8 4), (39, po_get 0 4), (42, po_goto 52), (45, po_al 0), (46, po_get 8 4), (49, po_callV 0 4 0 4), (52, po_lret)]
set_option maxRecDepth 100000 in
theorem aX8_agreed (E : pm_E) : pm_All E 67 (tX8_agreed) :=
  ⟨ps_iln (kf := 1) (by decide +kernel) rfl,
  ps_iflt (off := 8) (by decide +kernel) (by decide +kernel),
  ps_iln (kf := 1) (by decide +kernel) rfl,
  ps_iconst (n := 1) (by decide +kernel) (by decide +kernel),
  ps_icle (off := 7) (by decide +kernel) (by decide +kernel),
  ps_ldc2 (n := 178) (by decide +kernel) wd_520,
  ps_lret (by decide +kernel) rfl rfl rfl,
  ps_aln (kf := 0) (by decide +kernel) rfl,
  ps_callV cl_8 rfl ce_X8_lookAround wd_432 wp_5 wd_430 ⟨by decide +kernel, by decide +kernel⟩ rfl rfl rfl (by decide +kernel),
  ps_aln (kf := 0) (by decide +kernel) rfl,
  ps_get cl_8 (k := 4) (by decide) wd_345 (by decide +kernel),
  ps_getN cl_0 (k := 2) (by decide) wn_172 (by decide +kernel),
  ps_ifne (off := 7) (by decide +kernel) (by decide +kernel),
  ps_ldc2 (n := 184) (by decide +kernel) wd_525,
  ps_lret (by decide +kernel) rfl rfl rfl,
  ps_iln (kf := 1) (by decide +kernel) rfl,
  ps_ifne (off := 13) (by decide +kernel) (by decide +kernel),
  ps_aln (kf := 0) (by decide +kernel) rfl,
  ps_get cl_8 (k := 4) (by decide) wd_345 (by decide +kernel),
  ps_getN cl_0 (k := 4) (by decide) wn_175 (by decide +kernel),
  ps_goto (off := 10) (by decide +kernel) (by decide +kernel),
  ps_aln (kf := 0) (by decide +kernel) rfl,
  ps_get cl_8 (k := 4) (by decide) wd_345 (by decide +kernel),
  ps_callV cl_0 rfl ce_X0_endOfRow wd_464 wd_465 wd_463 ⟨by decide +kernel, by decide +kernel⟩ rfl rfl rfl (by decide +kernel),
  ps_lret (by decide +kernel) rfl rfl rfl, trivial⟩
def tX8_good : pm_Cd := [(0, po_al 0), (1, po_callV 8 71 0 1), (4, po_al 0), (5, po_get 8 4), (8, po_callV 0 7 0 1), (11, po_ifeq 18), (14, po_ic (1)), (15, po_goto 19), (18, po_ic (0)), (19, po_iret)]
set_option maxRecDepth 100000 in
theorem aX8_good (E : pm_E) : pm_All E 68 (tX8_good) :=
  ⟨ps_aln (kf := 0) (by decide +kernel) rfl,
  ps_callV cl_8 rfl ce_X8_lookAround wd_432 wp_5 wd_430 ⟨by decide +kernel, by decide +kernel⟩ rfl rfl rfl (by decide +kernel),
  ps_aln (kf := 0) (by decide +kernel) rfl,
  ps_get cl_8 (k := 4) (by decide) wd_345 (by decide +kernel),
  ps_callV cl_0 rfl ce_X0_isGood wd_501 wd_502 wd_500 ⟨by decide +kernel, by decide +kernel⟩ rfl rfl rfl (by decide +kernel),
  ps_ifeq (off := 7) (by decide +kernel) (by decide +kernel),
  ps_iconst (n := 1) (by decide +kernel) (by decide +kernel),
  ps_goto (off := 4) (by decide +kernel) (by decide +kernel),
  ps_iconst (n := 0) (by decide +kernel) (by decide +kernel),
  ps_iret (by decide +kernel) rfl rfl rfl, trivial⟩
def tX8_in : pm_Cd := [(0, po_ll 1), (1, po_callS 86 1 2), (4, po_ifne 9), (7, po_ic (-1)), (8, po_iret), (9, po_al 0), (10, po_callV 8 71 0 1), (13, po_al 0), (14, po_get 8 4), (17, po_ll 1), (18, po_callV 0 6 1 5), (21, po_iret)]
set_option maxRecDepth 100000 in
theorem aX8_in (E : pm_E) : pm_All E 69 (tX8_in) :=
  ⟨ps_lln (kf := 1) (by decide +kernel) rfl,
  ps_callS ce_X8_isAsked wd_541 wd_540 ⟨by decide +kernel, by decide +kernel⟩ rfl rfl rfl (by decide +kernel),
  ps_ifne (off := 5) (by decide +kernel) (by decide +kernel),
  ps_iconst (n := -1) (by decide +kernel) (by decide +kernel),
  ps_iret (by decide +kernel) rfl rfl rfl,
  ps_aln (kf := 0) (by decide +kernel) rfl,
  ps_callV cl_8 rfl ce_X8_lookAround wd_432 wp_5 wd_430 ⟨by decide +kernel, by decide +kernel⟩ rfl rfl rfl (by decide +kernel),
  ps_aln (kf := 0) (by decide +kernel) rfl,
  ps_get cl_8 (k := 4) (by decide) wd_345 (by decide +kernel),
  ps_lln (kf := 1) (by decide +kernel) rfl,
  ps_callV cl_0 rfl ce_X0_howManyHold wd_460 wd_461 wd_544 ⟨by decide +kernel, by decide +kernel⟩ rfl rfl rfl (by decide +kernel),
  ps_iret (by decide +kernel) rfl rfl rfl, trivial⟩
def tX8_liars : pm_Cd := [(0, po_al 0), (1, po_callV 8 71 0 1), (4, po_al 0), (5, po_get 8 4), (8, po_get 0 4), (11, po_ls 1), (12, po_al 0), (13, po_get 8 4), (16, po_callV 0 4 0 4), (19, po_ls 3), (20, po_ic (0)), (21, po_is 5), (23, po_ic (0)), (24, po_is 6), (26, po_mark), (26, po_il 6), (28, po_ic (6)), (30, po_icge 87), (33, po_al 0), (34, po_get 8 2), (37, po_get 6 0), (40, po_il 6), (42, po_callV 4 36 1 2), (45, po_ifeq 81), (48, po_al 0), (49, po_get 8 2), (52, po_get 6 0), (55, po_il 6), (57, po_al 0), (58, po_get 8 2), (61, po_get 6 2), (64, po_ll 1), (65, po_ll 3), (66, po_callV 4 41 4 7), (69, po_ifne 81), (72, po_il 5), (74, po_ic (1)), (75, po_il 6), (77, po_ishl), (78, po_ior), (79, po_is 5), (81, po_iinc 6 (1)), (84, po_goto 26), (87, po_il 5), (89, po_iret)]
set_option maxRecDepth 100000 in
theorem aX8_liars (E : pm_E) : pm_All E 70 (tX8_liars) :=
  ⟨ps_aln (kf := 0) (by decide +kernel) rfl,
  ps_callV cl_8 rfl ce_X8_lookAround wd_432 wp_5 wd_430 ⟨by decide +kernel, by decide +kernel⟩ rfl rfl rfl (by decide +kernel),
  ps_aln (kf := 0) (by decide +kernel) rfl,
  ps_get cl_8 (k := 4) (by decide) wd_345 (by decide +kernel),
  ps_getN cl_0 (k := 4) (by decide) wn_175 (by decide +kernel),
  ps_lsn (kf := 1) (by decide +kernel) rfl (by decide +kernel),
  ps_aln (kf := 0) (by decide +kernel) rfl,
  ps_get cl_8 (k := 4) (by decide) wd_345 (by decide +kernel),
  ps_callV cl_0 rfl ce_X0_endOfRow wd_464 wd_465 wd_463 ⟨by decide +kernel, by decide +kernel⟩ rfl rfl rfl (by decide +kernel),
  ps_lsn (kf := 3) (by decide +kernel) rfl (by decide +kernel),
  ps_iconst (n := 0) (by decide +kernel) (by decide +kernel),
  ps_is (by decide +kernel) (by decide +kernel),
  ps_iconst (n := 0) (by decide +kernel) (by decide +kernel),
  ps_is (by decide +kernel) (by decide +kernel),
  ps_mark,
  ps_il (by decide +kernel),
  ps_bipush (n := 6) (by decide +kernel) (by decide +kernel),
  ps_icge (off := 57) (by decide +kernel) (by decide +kernel),
  ps_aln (kf := 0) (by decide +kernel) rfl,
  ps_get cl_8 (k := 2) (by decide) wd_343 (by decide +kernel),
  ps_getN cl_6 (k := 0) (by decide) wn_131 (by decide +kernel),
  ps_il (by decide +kernel),
  ps_callV cl_4 rfl ce_X4_isHeard wd_439 wd_440 wd_475 ⟨by decide +kernel, by decide +kernel⟩ rfl rfl rfl (by decide +kernel),
  ps_ifeq (off := 36) (by decide +kernel) (by decide +kernel),
  ps_aln (kf := 0) (by decide +kernel) rfl,
  ps_get cl_8 (k := 2) (by decide) wd_343 (by decide +kernel),
  ps_getN cl_6 (k := 0) (by decide) wn_131 (by decide +kernel),
  ps_il (by decide +kernel),
  ps_aln (kf := 0) (by decide +kernel) rfl,
  ps_get cl_8 (k := 2) (by decide) wd_343 (by decide +kernel),
  ps_getN cl_6 (k := 2) (by decide) wn_135 (by decide +kernel),
  ps_lln (kf := 1) (by decide +kernel) rfl,
  ps_lln (kf := 3) (by decide +kernel) rfl,
  ps_callV cl_4 rfl ce_X4_meets wd_477 wd_478 wd_476 ⟨by decide +kernel, by decide +kernel⟩ rfl rfl rfl (by decide +kernel),
  ps_ifne (off := 12) (by decide +kernel) (by decide +kernel),
  ps_il (by decide +kernel),
  ps_iconst (n := 1) (by decide +kernel) (by decide +kernel),
  ps_il (by decide +kernel),
  ps_ishl (by decide +kernel),
  ps_ior (by decide +kernel),
  ps_is (by decide +kernel) (by decide +kernel),
  ps_iinc (n := 1) (by decide +kernel) (by decide +kernel) (by decide +kernel),
  ps_goto (off := -58) (by decide +kernel) (by decide +kernel),
  ps_il (by decide +kernel),
  ps_iret (by decide +kernel) rfl rfl rfl, trivial⟩
def tX8_lookAround : pm_Cd := [(0, po_al 0), (1, po_get 8 4), (4, po_al 0), (5, po_get 8 2), (8, po_get 6 0), (11, po_al 0), (12, po_get 8 2), (15, po_get 6 2), (18, po_callV 0 2 2 4), (21, po_vret)]
set_option maxRecDepth 100000 in
theorem aX8_lookAround (E : pm_E) : pm_All E 71 (tX8_lookAround) :=
  ⟨ps_aln (kf := 0) (by decide +kernel) rfl,
  ps_get cl_8 (k := 4) (by decide) wd_345 (by decide +kernel),
  ps_aln (kf := 0) (by decide +kernel) rfl,
  ps_get cl_8 (k := 2) (by decide) wd_343 (by decide +kernel),
  ps_getN cl_6 (k := 0) (by decide) wn_131 (by decide +kernel),
  ps_aln (kf := 0) (by decide +kernel) rfl,
  ps_get cl_8 (k := 2) (by decide) wd_343 (by decide +kernel),
  ps_getN cl_6 (k := 2) (by decide) wn_135 (by decide +kernel),
  ps_callV cl_0 rfl ce_X0_look wd_435 wd_436 wd_434 ⟨by decide +kernel, by decide +kernel⟩ rfl rfl rfl (by decide +kernel),
  ps_vret (by decide +kernel) rfl rfl rfl, trivial⟩
def tX8_commit : pm_Cd := [(0, po_il 1), (1, po_callS 83 1 1), (4, po_ifeq 17), (7, po_il 2), (8, po_iflt 17), (11, po_il 2), (12, po_ic (999999)), (14, po_icle 19), (17, po_ic (-1)), (18, po_iret), (19, po_al 0), (20, po_callV 8 71 0 1), (23, po_al 0), (24, po_get 8 4), (27, po_callV 0 7 0 1), (30, po_ifne 36), (33, po_ic (-2)), (35, po_iret), (36, po_al 0), (37, po_get 8 2), (40, po_get 6 1), (43, po_get 1 5), (46, po_ic (16)), (48, po_iclt 54), (51, po_ic (-3)), (53, po_iret), (54, po_al 0), (55, po_get 8 3), (58, po_al 0), (59, po_get 8 2), (62, po_callV 5 43 1 2), (65, po_al 0), (66, po_get 8 2), (69, po_get 6 1), (72, po_il 1), (73, po_il 2), (74, po_al 0), (75, po_get 8 4), (78, po_callV 0 4 0 4), (81, po_al 0), (82, po_get 8 2), (85, po_get 6 2), (88, po_callV 1 14 4 6), (91, po_al 0), (92, po_get 8 2), (95, po_get 6 1), (98, po_get 1 5), (101, po_ic (1)), (102, po_isub), (103, po_iret)]
set_option maxRecDepth 100000 in
theorem aX8_commit (E : pm_E) : pm_All E 72 (tX8_commit) :=
  ⟨ps_iln (kf := 1) (by decide +kernel) rfl,
  ps_callS ce_X8_isKey wd_551 wd_550 ⟨by decide +kernel, by decide +kernel⟩ rfl rfl rfl (by decide +kernel),
  ps_ifeq (off := 13) (by decide +kernel) (by decide +kernel),
  ps_iln (kf := 2) (by decide +kernel) rfl,
  ps_iflt (off := 9) (by decide +kernel) (by decide +kernel),
  ps_iln (kf := 2) (by decide +kernel) rfl,
  ps_ldc (n := 221) (by decide +kernel) wd_553,
  ps_icle (off := 5) (by decide +kernel) (by decide +kernel),
  ps_iconst (n := -1) (by decide +kernel) (by decide +kernel),
  ps_iret (by decide +kernel) rfl rfl rfl,
  ps_aln (kf := 0) (by decide +kernel) rfl,
  ps_callV cl_8 rfl ce_X8_lookAround wd_432 wp_5 wd_430 ⟨by decide +kernel, by decide +kernel⟩ rfl rfl rfl (by decide +kernel),
  ps_aln (kf := 0) (by decide +kernel) rfl,
  ps_get cl_8 (k := 4) (by decide) wd_345 (by decide +kernel),
  ps_callV cl_0 rfl ce_X0_isGood wd_501 wd_502 wd_500 ⟨by decide +kernel, by decide +kernel⟩ rfl rfl rfl (by decide +kernel),
  ps_ifne (off := 6) (by decide +kernel) (by decide +kernel),
  ps_bipush (n := -2) (by decide +kernel) (by decide +kernel),
  ps_iret (by decide +kernel) rfl rfl rfl,
  ps_aln (kf := 0) (by decide +kernel) rfl,
  ps_get cl_8 (k := 2) (by decide) wd_343 (by decide +kernel),
  ps_getN cl_6 (k := 1) (by decide) wn_133 (by decide +kernel),
  ps_getN cl_1 (k := 5) (by decide) wn_112 (by decide +kernel),
  ps_bipush (n := 16) (by decide +kernel) (by decide +kernel),
  ps_iclt (off := 6) (by decide +kernel) (by decide +kernel),
  ps_bipush (n := -3) (by decide +kernel) (by decide +kernel),
  ps_iret (by decide +kernel) rfl rfl rfl,
  ps_aln (kf := 0) (by decide +kernel) rfl,
  ps_get cl_8 (k := 3) (by decide) wd_344 (by decide +kernel),
  ps_aln (kf := 0) (by decide +kernel) rfl,
  ps_get cl_8 (k := 2) (by decide) wd_343 (by decide +kernel),
  ps_callV cl_5 rfl ce_X5_keep wd_396 wd_397 wd_395 ⟨by decide +kernel, by decide +kernel⟩ rfl rfl rfl (by decide +kernel),
  ps_aln (kf := 0) (by decide +kernel) rfl,
  ps_get cl_8 (k := 2) (by decide) wd_343 (by decide +kernel),
  ps_getN cl_6 (k := 1) (by decide) wn_133 (by decide +kernel),
  ps_iln (kf := 1) (by decide +kernel) rfl,
  ps_iln (kf := 2) (by decide +kernel) rfl,
  ps_aln (kf := 0) (by decide +kernel) rfl,
  ps_get cl_8 (k := 4) (by decide) wd_345 (by decide +kernel),
  ps_callV cl_0 rfl ce_X0_endOfRow wd_464 wd_465 wd_463 ⟨by decide +kernel, by decide +kernel⟩ rfl rfl rfl (by decide +kernel),
  ps_aln (kf := 0) (by decide +kernel) rfl,
  ps_get cl_8 (k := 2) (by decide) wd_343 (by decide +kernel),
  ps_getN cl_6 (k := 2) (by decide) wn_135 (by decide +kernel),
  ps_callV cl_1 rfl ce_X1_make wd_555 wd_556 wd_554 ⟨by decide +kernel, by decide +kernel⟩ rfl rfl rfl (by decide +kernel),
  ps_aln (kf := 0) (by decide +kernel) rfl,
  ps_get cl_8 (k := 2) (by decide) wd_343 (by decide +kernel),
  ps_getN cl_6 (k := 1) (by decide) wn_133 (by decide +kernel),
  ps_getN cl_1 (k := 5) (by decide) wn_112 (by decide +kernel),
  ps_iconst (n := 1) (by decide +kernel) (by decide +kernel),
  ps_isub (by decide +kernel),
  ps_iret (by decide +kernel) rfl rfl rfl, trivial⟩
def tX8_commitOf : pm_Cd := [(0, po_al 0), (1, po_get 8 2), (4, po_get 6 1), (7, po_il 1), (8, po_callV 1 11 1 2), (11, po_ifne 18), (14, po_lc (-1)), (17, po_lret), (18, po_il 2), (19, po_tsw [52, 66, 80, 93, 107] 141), (52, po_al 0), (53, po_get 8 2), (56, po_get 6 1), (59, po_get 1 0), (62, po_il 1), (63, po_iald), (64, po_i2l), (65, po_lret), (66, po_al 0), (67, po_get 8 2), (70, po_get 6 1), (73, po_get 1 1), (76, po_il 1), (77, po_iald), (78, po_i2l), (79, po_lret), (80, po_al 0), (81, po_get 8 2), (84, po_get 6 1), (87, po_get 1 2), (90, po_il 1), (91, po_lald), (92, po_lret), (93, po_al 0), (94, po_get 8 2), (97, po_get 6 1), (100, po_get 1 3), (103, po_il 1), (104, po_iald), (105, po_i2l), (106, po_lret), (107, po_al 0), (108, po_get 8 2), (111, po_get 6 1), (114, po_il 1), (115, po_callV 1 12 1 2), (118, po_ifeq 127), (121, po_lc (-4)), (124, po_goto 140), (127, po_al 0), (128, po_get 8 2), (131, po_get 6 1), (134, po_get 1 4), (137, po_il 1), (138, po_iald), (139, po_i2l), (140, po_lret), (141, po_lc (-1)), (144, po_lret)]
set_option maxRecDepth 100000 in
theorem aX8_commitOf (E : pm_E) : pm_All E 73 (tX8_commitOf) :=
  ⟨ps_aln (kf := 0) (by decide +kernel) rfl,
  ps_get cl_8 (k := 2) (by decide) wd_343 (by decide +kernel),
  ps_getN cl_6 (k := 1) (by decide) wn_133 (by decide +kernel),
  ps_iln (kf := 1) (by decide +kernel) rfl,
  ps_callV cl_1 rfl ce_X1_has wd_570 wd_571 wd_569 ⟨by decide +kernel, by decide +kernel⟩ rfl rfl rfl (by decide +kernel),
  ps_ifne (off := 7) (by decide +kernel) (by decide +kernel),
  ps_ldc2 (n := 230) (by decide +kernel) wd_573,
  ps_lret (by decide +kernel) rfl rfl rfl,
  ps_iln (kf := 2) (by decide +kernel) rfl,
  ps_tsw (dflt := 122) (hi := 4) (offs := #[33, 47, 61, 74, 88]) (len := 33) (by decide +kernel) (by decide +kernel) (by decide +kernel) (by decide +kernel) (by decide +kernel),
  ps_aln (kf := 0) (by decide +kernel) rfl,
  ps_get cl_8 (k := 2) (by decide) wd_343 (by decide +kernel),
  ps_getN cl_6 (k := 1) (by decide) wn_133 (by decide +kernel),
  ps_getN cl_1 (k := 0) (by decide) wn_102 (by decide +kernel),
  ps_iln (kf := 1) (by decide +kernel) rfl,
  ps_iald (by decide +kernel),
  ps_i2l (by decide +kernel),
  ps_lret (by decide +kernel) rfl rfl rfl,
  ps_aln (kf := 0) (by decide +kernel) rfl,
  ps_get cl_8 (k := 2) (by decide) wd_343 (by decide +kernel),
  ps_getN cl_6 (k := 1) (by decide) wn_133 (by decide +kernel),
  ps_getN cl_1 (k := 1) (by decide) wn_104 (by decide +kernel),
  ps_iln (kf := 1) (by decide +kernel) rfl,
  ps_iald (by decide +kernel),
  ps_i2l (by decide +kernel),
  ps_lret (by decide +kernel) rfl rfl rfl,
  ps_aln (kf := 0) (by decide +kernel) rfl,
  ps_get cl_8 (k := 2) (by decide) wd_343 (by decide +kernel),
  ps_getN cl_6 (k := 1) (by decide) wn_133 (by decide +kernel),
  ps_getN cl_1 (k := 2) (by decide) wn_106 (by decide +kernel),
  ps_iln (kf := 1) (by decide +kernel) rfl,
  ps_lald (by decide +kernel),
  ps_lret (by decide +kernel) rfl rfl rfl,
  ps_aln (kf := 0) (by decide +kernel) rfl,
  ps_get cl_8 (k := 2) (by decide) wd_343 (by decide +kernel),
  ps_getN cl_6 (k := 1) (by decide) wn_133 (by decide +kernel),
  ps_getN cl_1 (k := 3) (by decide) wn_108 (by decide +kernel),
  ps_iln (kf := 1) (by decide +kernel) rfl,
  ps_iald (by decide +kernel),
  ps_i2l (by decide +kernel),
  ps_lret (by decide +kernel) rfl rfl rfl,
  ps_aln (kf := 0) (by decide +kernel) rfl,
  ps_get cl_8 (k := 2) (by decide) wd_343 (by decide +kernel),
  ps_getN cl_6 (k := 1) (by decide) wn_133 (by decide +kernel),
  ps_iln (kf := 1) (by decide +kernel) rfl,
  ps_callV cl_1 rfl ce_X1_isOpen wd_575 wd_576 wd_574 ⟨by decide +kernel, by decide +kernel⟩ rfl rfl rfl (by decide +kernel),
  ps_ifeq (off := 9) (by decide +kernel) (by decide +kernel),
  ps_ldc2 (n := 248) (by decide +kernel) wd_578,
  ps_goto (off := 16) (by decide +kernel) (by decide +kernel),
  ps_aln (kf := 0) (by decide +kernel) rfl,
  ps_get cl_8 (k := 2) (by decide) wd_343 (by decide +kernel),
  ps_getN cl_6 (k := 1) (by decide) wn_133 (by decide +kernel),
  ps_getN cl_1 (k := 4) (by decide) wn_110 (by decide +kernel),
  ps_iln (kf := 1) (by decide +kernel) rfl,
  ps_iald (by decide +kernel),
  ps_i2l (by decide +kernel),
  ps_lret (by decide +kernel) rfl rfl rfl,
  ps_ldc2 (n := 230) (by decide +kernel) wd_573,
  ps_lret (by decide +kernel) rfl rfl rfl, trivial⟩
def tX8_waiting : pm_Cd := [(0, po_al 0), (1, po_get 8 2), (4, po_get 6 1), (7, po_il 1), (8, po_callV 1 11 1 2), (11, po_ifne 16), (14, po_ic (-1)), (15, po_iret), (16, po_al 0), (17, po_get 8 2), (20, po_get 6 1), (23, po_il 1), (24, po_callV 1 12 1 2), (27, po_ifne 33), (30, po_ic (-2)), (32, po_iret), (33, po_al 0), (34, po_get 8 2), (37, po_get 6 1), (40, po_get 1 2), (43, po_il 1), (44, po_lald), (45, po_ls 2), (46, po_ic (0)), (47, po_is 4), (49, po_mark), (49, po_il 4), (51, po_ic (2000)), (54, po_icgt 112), (57, po_al 0), (58, po_get 8 4), (61, po_al 0), (62, po_get 8 2), (65, po_get 6 0), (68, po_al 0), (69, po_get 8 2), (72, po_get 6 2), (75, po_il 4), (77, po_iadd), (78, po_callV 0 2 2 4), (81, po_al 0), (82, po_get 8 4), (85, po_callV 0 7 0 1), (88, po_ifeq 106), (91, po_al 0), (92, po_get 8 4), (95, po_get 0 4), (98, po_ll 2), (99, po_lcle 106), (103, po_il 4), (105, po_iret), (106, po_iinc 4 (1)), (109, po_goto 49), (112, po_ic (-4)), (114, po_iret)]
set_option maxRecDepth 100000 in
theorem aX8_waiting (E : pm_E) : pm_All E 74 (tX8_waiting) :=
  ⟨ps_aln (kf := 0) (by decide +kernel) rfl,
  ps_get cl_8 (k := 2) (by decide) wd_343 (by decide +kernel),
  ps_getN cl_6 (k := 1) (by decide) wn_133 (by decide +kernel),
  ps_iln (kf := 1) (by decide +kernel) rfl,
  ps_callV cl_1 rfl ce_X1_has wd_570 wd_571 wd_569 ⟨by decide +kernel, by decide +kernel⟩ rfl rfl rfl (by decide +kernel),
  ps_ifne (off := 5) (by decide +kernel) (by decide +kernel),
  ps_iconst (n := -1) (by decide +kernel) (by decide +kernel),
  ps_iret (by decide +kernel) rfl rfl rfl,
  ps_aln (kf := 0) (by decide +kernel) rfl,
  ps_get cl_8 (k := 2) (by decide) wd_343 (by decide +kernel),
  ps_getN cl_6 (k := 1) (by decide) wn_133 (by decide +kernel),
  ps_iln (kf := 1) (by decide +kernel) rfl,
  ps_callV cl_1 rfl ce_X1_isOpen wd_575 wd_576 wd_574 ⟨by decide +kernel, by decide +kernel⟩ rfl rfl rfl (by decide +kernel),
  ps_ifne (off := 6) (by decide +kernel) (by decide +kernel),
  ps_bipush (n := -2) (by decide +kernel) (by decide +kernel),
  ps_iret (by decide +kernel) rfl rfl rfl,
  ps_aln (kf := 0) (by decide +kernel) rfl,
  ps_get cl_8 (k := 2) (by decide) wd_343 (by decide +kernel),
  ps_getN cl_6 (k := 1) (by decide) wn_133 (by decide +kernel),
  ps_getN cl_1 (k := 2) (by decide) wn_106 (by decide +kernel),
  ps_iln (kf := 1) (by decide +kernel) rfl,
  ps_lald (by decide +kernel),
  ps_lsn (kf := 2) (by decide +kernel) rfl (by decide +kernel),
  ps_iconst (n := 0) (by decide +kernel) (by decide +kernel),
  ps_is (by decide +kernel) (by decide +kernel),
  ps_mark,
  ps_il (by decide +kernel),
  ps_sipush (n := 2000) (by decide +kernel) (by decide +kernel),
  ps_icgt (off := 58) (by decide +kernel) (by decide +kernel),
  ps_aln (kf := 0) (by decide +kernel) rfl,
  ps_get cl_8 (k := 4) (by decide) wd_345 (by decide +kernel),
  ps_aln (kf := 0) (by decide +kernel) rfl,
  ps_get cl_8 (k := 2) (by decide) wd_343 (by decide +kernel),
  ps_getN cl_6 (k := 0) (by decide) wn_131 (by decide +kernel),
  ps_aln (kf := 0) (by decide +kernel) rfl,
  ps_get cl_8 (k := 2) (by decide) wd_343 (by decide +kernel),
  ps_getN cl_6 (k := 2) (by decide) wn_135 (by decide +kernel),
  ps_il (by decide +kernel),
  ps_iadd (by decide +kernel),
  ps_callV cl_0 rfl ce_X0_look wd_435 wd_436 wd_434 ⟨by decide +kernel, by decide +kernel⟩ rfl rfl rfl (by decide +kernel),
  ps_aln (kf := 0) (by decide +kernel) rfl,
  ps_get cl_8 (k := 4) (by decide) wd_345 (by decide +kernel),
  ps_callV cl_0 rfl ce_X0_isGood wd_501 wd_502 wd_500 ⟨by decide +kernel, by decide +kernel⟩ rfl rfl rfl (by decide +kernel),
  ps_ifeq (off := 18) (by decide +kernel) (by decide +kernel),
  ps_aln (kf := 0) (by decide +kernel) rfl,
  ps_get cl_8 (k := 4) (by decide) wd_345 (by decide +kernel),
  ps_getN cl_0 (k := 4) (by decide) wn_175 (by decide +kernel),
  ps_lln (kf := 2) (by decide +kernel) rfl,
  ps_lcle (off := 6) (by decide +kernel) (by decide +kernel) (by decide +kernel),
  ps_il (by decide +kernel),
  ps_iret (by decide +kernel) rfl rfl rfl,
  ps_iinc (n := 1) (by decide +kernel) (by decide +kernel) (by decide +kernel),
  ps_goto (off := -60) (by decide +kernel) (by decide +kernel),
  ps_bipush (n := -4) (by decide +kernel) (by decide +kernel),
  ps_iret (by decide +kernel) rfl rfl rfl, trivial⟩
def tX8_safe : pm_Cd := [(0, po_al 0), (1, po_get 8 2), (4, po_get 6 1), (7, po_as 1), (8, po_al 1), (9, po_callV 1 13 0 1), (12, po_ifle 22), (15, po_al 1), (16, po_callV 1 17 0 1), (19, po_lc (1)), (20, po_lsub), (21, po_lret), (22, po_al 0), (23, po_callV 8 71 0 1), (26, po_al 1), (27, po_get 1 5), (30, po_ifle 40), (33, po_al 1), (34, po_callV 1 16 0 1), (37, po_goto 43), (40, po_lc (-2000000000000)), (43, po_ls 2), (44, po_al 0), (45, po_get 8 4), (48, po_callV 0 7 0 1), (51, po_ifeq 70), (54, po_al 0), (55, po_get 8 4), (58, po_get 0 4), (61, po_lc (1)), (62, po_lsub), (63, po_ll 2), (64, po_maxl), (67, po_goto 71), (70, po_ll 2), (71, po_lret)]
set_option maxRecDepth 100000 in
theorem aX8_safe (E : pm_E) : pm_All E 75 (tX8_safe) :=
  ⟨ps_aln (kf := 0) (by decide +kernel) rfl,
  ps_get cl_8 (k := 2) (by decide) wd_343 (by decide +kernel),
  ps_getN cl_6 (k := 1) (by decide) wn_133 (by decide +kernel),
  ps_asn (kf := 1) (by decide +kernel) rfl (by decide +kernel),
  ps_aln (kf := 1) (by decide +kernel) rfl,
  ps_callV cl_1 rfl ce_X1_howManyOpen wd_497 wd_498 wd_496 ⟨by decide +kernel, by decide +kernel⟩ rfl rfl rfl (by decide +kernel),
  ps_ifle (off := 10) (by decide +kernel) (by decide +kernel),
  ps_aln (kf := 1) (by decide +kernel) rfl,
  ps_callV cl_1 rfl ce_X1_leastOpenStamp wd_588 wd_589 wd_587 ⟨by decide +kernel, by decide +kernel⟩ rfl rfl rfl (by decide +kernel),
  ps_lconst (n := 1) (by decide +kernel) (by decide +kernel),
  ps_lsub (by decide +kernel),
  ps_lret (by decide +kernel) rfl rfl rfl,
  ps_aln (kf := 0) (by decide +kernel) rfl,
  ps_callV cl_8 rfl ce_X8_lookAround wd_432 wp_5 wd_430 ⟨by decide +kernel, by decide +kernel⟩ rfl rfl rfl (by decide +kernel),
  ps_aln (kf := 1) (by decide +kernel) rfl,
  ps_getN cl_1 (k := 5) (by decide) wn_112 (by decide +kernel),
  ps_ifle (off := 10) (by decide +kernel) (by decide +kernel),
  ps_aln (kf := 1) (by decide +kernel) rfl,
  ps_callV cl_1 rfl ce_X1_latestStamp wd_559 wd_560 wd_591 ⟨by decide +kernel, by decide +kernel⟩ rfl rfl rfl (by decide +kernel),
  ps_goto (off := 6) (by decide +kernel) (by decide +kernel),
  ps_ldc2 (n := 178) (by decide +kernel) wd_520,
  ps_lsn (kf := 2) (by decide +kernel) rfl (by decide +kernel),
  ps_aln (kf := 0) (by decide +kernel) rfl,
  ps_get cl_8 (k := 4) (by decide) wd_345 (by decide +kernel),
  ps_callV cl_0 rfl ce_X0_isGood wd_501 wd_502 wd_500 ⟨by decide +kernel, by decide +kernel⟩ rfl rfl rfl (by decide +kernel),
  ps_ifeq (off := 19) (by decide +kernel) (by decide +kernel),
  ps_aln (kf := 0) (by decide +kernel) rfl,
  ps_get cl_8 (k := 4) (by decide) wd_345 (by decide +kernel),
  ps_getN cl_0 (k := 4) (by decide) wn_175 (by decide +kernel),
  ps_lconst (n := 1) (by decide +kernel) (by decide +kernel),
  ps_lsub (by decide +kernel),
  ps_lln (kf := 2) (by decide +kernel) rfl,
  ps_maxl wd_592 wd_563 wd_17 wd_564 (by decide +kernel) (by decide +kernel) (by decide +kernel),
  ps_goto (off := 4) (by decide +kernel) (by decide +kernel),
  ps_lln (kf := 2) (by decide +kernel) rfl,
  ps_lret (by decide +kernel) rfl rfl rfl, trivial⟩
def tX8_read : pm_Cd := [(0, po_il 1), (1, po_callS 83 1 1), (4, po_ifeq 14), (7, po_ll 2), (8, po_callS 86 1 2), (11, po_ifne 16), (14, po_ic (-1)), (15, po_iret), (16, po_ll 2), (17, po_al 0), (18, po_callV 8 75 0 4), (21, po_lcle 28), (25, po_ic (-2)), (27, po_iret), (28, po_al 0), (29, po_get 8 2), (32, po_get 6 1), (35, po_il 1), (36, po_ll 2), (37, po_callV 1 18 2 6), (40, po_iret)]
set_option maxRecDepth 100000 in
theorem aX8_read (E : pm_E) : pm_All E 76 (tX8_read) :=
  ⟨ps_iln (kf := 1) (by decide +kernel) rfl,
  ps_callS ce_X8_isKey wd_551 wd_550 ⟨by decide +kernel, by decide +kernel⟩ rfl rfl rfl (by decide +kernel),
  ps_ifeq (off := 10) (by decide +kernel) (by decide +kernel),
  ps_lln (kf := 2) (by decide +kernel) rfl,
  ps_callS ce_X8_isAsked wd_541 wd_540 ⟨by decide +kernel, by decide +kernel⟩ rfl rfl rfl (by decide +kernel),
  ps_ifne (off := 5) (by decide +kernel) (by decide +kernel),
  ps_iconst (n := -1) (by decide +kernel) (by decide +kernel),
  ps_iret (by decide +kernel) rfl rfl rfl,
  ps_lln (kf := 2) (by decide +kernel) rfl,
  ps_aln (kf := 0) (by decide +kernel) rfl,
  ps_callV cl_8 rfl ce_X8_safe wd_584 wd_585 wd_597 ⟨by decide +kernel, by decide +kernel⟩ rfl rfl rfl (by decide +kernel),
  ps_lcle (off := 6) (by decide +kernel) (by decide +kernel) (by decide +kernel),
  ps_bipush (n := -2) (by decide +kernel) (by decide +kernel),
  ps_iret (by decide +kernel) rfl rfl rfl,
  ps_aln (kf := 0) (by decide +kernel) rfl,
  ps_get cl_8 (k := 2) (by decide) wd_343 (by decide +kernel),
  ps_getN cl_6 (k := 1) (by decide) wn_133 (by decide +kernel),
  ps_iln (kf := 1) (by decide +kernel) rfl,
  ps_lln (kf := 2) (by decide +kernel) rfl,
  ps_callV cl_1 rfl ce_X1_valueAsOf wd_599 wd_600 wd_598 ⟨by decide +kernel, by decide +kernel⟩ rfl rfl rfl (by decide +kernel),
  ps_iret (by decide +kernel) rfl rfl rfl, trivial⟩
def tX8_between : pm_Cd := [(0, po_il 1), (1, po_ic (-1)), (2, po_iceq 14), (5, po_il 1), (6, po_callS 83 1 1), (9, po_ifne 14), (12, po_ic (-1)), (13, po_iret), (14, po_ll 2), (15, po_callS 86 1 2), (18, po_ifeq 36), (21, po_ll 4), (23, po_callS 86 1 2), (26, po_ifeq 36), (29, po_ll 2), (30, po_ll 4), (32, po_lcle 38), (36, po_ic (-1)), (37, po_iret), (38, po_al 0), (39, po_get 8 2), (42, po_get 6 1), (45, po_il 1), (46, po_ll 2), (47, po_ll 4), (49, po_callV 1 19 3 9), (52, po_iret)]
set_option maxRecDepth 100000 in
theorem aX8_between (E : pm_E) : pm_All E 77 (tX8_between) :=
  ⟨ps_iln (kf := 1) (by decide +kernel) rfl,
  ps_iconst (n := -1) (by decide +kernel) (by decide +kernel),
  ps_iceq (off := 12) (by decide +kernel) (by decide +kernel),
  ps_iln (kf := 1) (by decide +kernel) rfl,
  ps_callS ce_X8_isKey wd_551 wd_550 ⟨by decide +kernel, by decide +kernel⟩ rfl rfl rfl (by decide +kernel),
  ps_ifne (off := 5) (by decide +kernel) (by decide +kernel),
  ps_iconst (n := -1) (by decide +kernel) (by decide +kernel),
  ps_iret (by decide +kernel) rfl rfl rfl,
  ps_lln (kf := 2) (by decide +kernel) rfl,
  ps_callS ce_X8_isAsked wd_541 wd_540 ⟨by decide +kernel, by decide +kernel⟩ rfl rfl rfl (by decide +kernel),
  ps_ifeq (off := 18) (by decide +kernel) (by decide +kernel),
  ps_ll (by decide +kernel),
  ps_callS ce_X8_isAsked wd_541 wd_540 ⟨by decide +kernel, by decide +kernel⟩ rfl rfl rfl (by decide +kernel),
  ps_ifeq (off := 10) (by decide +kernel) (by decide +kernel),
  ps_lln (kf := 2) (by decide +kernel) rfl,
  ps_ll (by decide +kernel),
  ps_lcle (off := 5) (by decide +kernel) (by decide +kernel) (by decide +kernel),
  ps_iconst (n := -1) (by decide +kernel) (by decide +kernel),
  ps_iret (by decide +kernel) rfl rfl rfl,
  ps_aln (kf := 0) (by decide +kernel) rfl,
  ps_get cl_8 (k := 2) (by decide) wd_343 (by decide +kernel),
  ps_getN cl_6 (k := 1) (by decide) wn_133 (by decide +kernel),
  ps_iln (kf := 1) (by decide +kernel) rfl,
  ps_lln (kf := 2) (by decide +kernel) rfl,
  ps_ll (by decide +kernel),
  ps_callV cl_1 rfl ce_X1_howManyStamped wd_607 wd_608 wd_606 ⟨by decide +kernel, by decide +kernel⟩ rfl rfl rfl (by decide +kernel),
  ps_iret (by decide +kernel) rfl rfl rfl, trivial⟩
def tX8_leap : pm_Cd := [(0, po_il 1), (1, po_tsw [32, 40, 48, 56] 64), (32, po_al 0), (33, po_get 8 5), (36, po_get 3 0), (39, po_lret), (40, po_al 0), (41, po_get 8 5), (44, po_get 3 1), (47, po_lret), (48, po_al 0), (49, po_get 8 5), (52, po_get 3 2), (55, po_lret), (56, po_al 0), (57, po_get 8 5), (60, po_get 3 3), (63, po_lret), (64, po_lc (-1)), (67, po_lret)]
set_option maxRecDepth 100000 in
theorem aX8_leap (E : pm_E) : pm_All E 78 (tX8_leap) :=
  ⟨ps_iln (kf := 1) (by decide +kernel) rfl,
  ps_tsw (dflt := 63) (hi := 3) (offs := #[31, 39, 47, 55]) (len := 31) (by decide +kernel) (by decide +kernel) (by decide +kernel) (by decide +kernel) (by decide +kernel),
  ps_aln (kf := 0) (by decide +kernel) rfl,
  ps_get cl_8 (k := 5) (by decide) wd_346 (by decide +kernel),
  ps_getN cl_3 (k := 0) (by decide) wn_194 (by decide +kernel),
  ps_lret (by decide +kernel) rfl rfl rfl,
  ps_aln (kf := 0) (by decide +kernel) rfl,
  ps_get cl_8 (k := 5) (by decide) wd_346 (by decide +kernel),
  ps_getN cl_3 (k := 1) (by decide) wn_196 (by decide +kernel),
  ps_lret (by decide +kernel) rfl rfl rfl,
  ps_aln (kf := 0) (by decide +kernel) rfl,
  ps_get cl_8 (k := 5) (by decide) wd_346 (by decide +kernel),
  ps_getN cl_3 (k := 2) (by decide) wn_198 (by decide +kernel),
  ps_lret (by decide +kernel) rfl rfl rfl,
  ps_aln (kf := 0) (by decide +kernel) rfl,
  ps_get cl_8 (k := 5) (by decide) wd_346 (by decide +kernel),
  ps_getN cl_3 (k := 3) (by decide) wn_200 (by decide +kernel),
  ps_lret (by decide +kernel) rfl rfl rfl,
  ps_ldc2 (n := 230) (by decide +kernel) wd_573,
  ps_lret (by decide +kernel) rfl rfl rfl, trivial⟩
def tX8_smeared : pm_Cd := [(0, po_ll 1), (1, po_callS 86 1 2), (4, po_ifeq 18), (7, po_al 0), (8, po_get 8 5), (11, po_ll 1), (12, po_callV 3 28 1 3), (15, po_goto 21), (18, po_lc (-2000000000000)), (21, po_lret)]
set_option maxRecDepth 100000 in
theorem aX8_smeared (E : pm_E) : pm_All E 79 (tX8_smeared) :=
  ⟨ps_lln (kf := 1) (by decide +kernel) rfl,
  ps_callS ce_X8_isAsked wd_541 wd_540 ⟨by decide +kernel, by decide +kernel⟩ rfl rfl rfl (by decide +kernel),
  ps_ifeq (off := 14) (by decide +kernel) (by decide +kernel),
  ps_aln (kf := 0) (by decide +kernel) rfl,
  ps_get cl_8 (k := 5) (by decide) wd_346 (by decide +kernel),
  ps_lln (kf := 1) (by decide +kernel) rfl,
  ps_callV cl_3 rfl ce_X3_smear wd_619 wd_620 wd_618 ⟨by decide +kernel, by decide +kernel⟩ rfl rfl rfl (by decide +kernel),
  ps_goto (off := 6) (by decide +kernel) (by decide +kernel),
  ps_ldc2 (n := 178) (by decide +kernel) wd_520,
  ps_lret (by decide +kernel) rfl rfl rfl, trivial⟩
def tX8_back : pm_Cd := [(0, po_ll 1), (1, po_callS 86 1 2), (4, po_ifeq 18), (7, po_al 0), (8, po_get 8 5), (11, po_ll 1), (12, po_callV 3 30 1 10), (15, po_goto 21), (18, po_lc (-1)), (21, po_lret)]
set_option maxRecDepth 100000 in
theorem aX8_back (E : pm_E) : pm_All E 80 (tX8_back) :=
  ⟨ps_lln (kf := 1) (by decide +kernel) rfl,
  ps_callS ce_X8_isAsked wd_541 wd_540 ⟨by decide +kernel, by decide +kernel⟩ rfl rfl rfl (by decide +kernel),
  ps_ifeq (off := 14) (by decide +kernel) (by decide +kernel),
  ps_aln (kf := 0) (by decide +kernel) rfl,
  ps_get cl_8 (k := 5) (by decide) wd_346 (by decide +kernel),
  ps_lln (kf := 1) (by decide +kernel) rfl,
  ps_callV cl_3 rfl ce_X3_leastSmearedTo wd_631 wd_632 wd_630 ⟨by decide +kernel, by decide +kernel⟩ rfl rfl rfl (by decide +kernel),
  ps_goto (off := 6) (by decide +kernel) (by decide +kernel),
  ps_ldc2 (n := 230) (by decide +kernel) wd_573,
  ps_lret (by decide +kernel) rfl rfl rfl, trivial⟩
def tX8_count : pm_Cd := [(0, po_il 1), (1, po_tsw [48, 56, 67, 78, 92, 103, 114, 122] 130), (48, po_al 0), (49, po_get 8 2), (52, po_get 6 2), (55, po_iret), (56, po_al 0), (57, po_get 8 2), (60, po_get 6 0), (63, po_get 4 5), (66, po_iret), (67, po_al 0), (68, po_get 8 2), (71, po_get 6 0), (74, po_callV 4 37 0 1), (77, po_iret), (78, po_al 0), (79, po_get 8 2), (82, po_get 6 0), (85, po_get 4 4), (88, po_callS 143 1 1), (91, po_iret), (92, po_al 0), (93, po_get 8 2), (96, po_get 6 1), (99, po_get 1 5), (102, po_iret), (103, po_al 0), (104, po_get 8 2), (107, po_get 6 1), (110, po_callV 1 13 0 1), (113, po_iret), (114, po_al 0), (115, po_get 8 3), (118, po_get 5 2), (121, po_iret), (122, po_al 0), (123, po_get 8 0), (126, po_get 7 1), (129, po_iret), (130, po_ic (-1)), (131, po_iret)]
set_option maxRecDepth 100000 in
theorem aX8_count (E : pm_E) : pm_All E 81 (tX8_count) :=
  ⟨ps_iln (kf := 1) (by decide +kernel) rfl,
  ps_tsw (dflt := 129) (hi := 7) (offs := #[47, 55, 66, 77, 91, 102, 113, 121]) (len := 47) (by decide +kernel) (by decide +kernel) (by decide +kernel) (by decide +kernel) (by decide +kernel),
  ps_aln (kf := 0) (by decide +kernel) rfl,
  ps_get cl_8 (k := 2) (by decide) wd_343 (by decide +kernel),
  ps_getN cl_6 (k := 2) (by decide) wn_135 (by decide +kernel),
  ps_iret (by decide +kernel) rfl rfl rfl,
  ps_aln (kf := 0) (by decide +kernel) rfl,
  ps_get cl_8 (k := 2) (by decide) wd_343 (by decide +kernel),
  ps_getN cl_6 (k := 0) (by decide) wn_131 (by decide +kernel),
  ps_getN cl_4 (k := 5) (by decide) wn_80 (by decide +kernel),
  ps_iret (by decide +kernel) rfl rfl rfl,
  ps_aln (kf := 0) (by decide +kernel) rfl,
  ps_get cl_8 (k := 2) (by decide) wd_343 (by decide +kernel),
  ps_getN cl_6 (k := 0) (by decide) wn_131 (by decide +kernel),
  ps_callV cl_4 rfl ce_X4_howManyHeard wd_380 wd_381 wd_379 ⟨by decide +kernel, by decide +kernel⟩ rfl rfl rfl (by decide +kernel),
  ps_iret (by decide +kernel) rfl rfl rfl,
  ps_aln (kf := 0) (by decide +kernel) rfl,
  ps_get cl_8 (k := 2) (by decide) wd_343 (by decide +kernel),
  ps_getN cl_6 (k := 0) (by decide) wn_131 (by decide +kernel),
  ps_getN cl_4 (k := 4) (by decide) wn_78 (by decide +kernel),
  ps_callS ce_J6_bitCount_0f7a4 wd_384 wd_482 ⟨by decide +kernel, by decide +kernel⟩ rfl rfl rfl (by decide +kernel),
  ps_iret (by decide +kernel) rfl rfl rfl,
  ps_aln (kf := 0) (by decide +kernel) rfl,
  ps_get cl_8 (k := 2) (by decide) wd_343 (by decide +kernel),
  ps_getN cl_6 (k := 1) (by decide) wn_133 (by decide +kernel),
  ps_getN cl_1 (k := 5) (by decide) wn_112 (by decide +kernel),
  ps_iret (by decide +kernel) rfl rfl rfl,
  ps_aln (kf := 0) (by decide +kernel) rfl,
  ps_get cl_8 (k := 2) (by decide) wd_343 (by decide +kernel),
  ps_getN cl_6 (k := 1) (by decide) wn_133 (by decide +kernel),
  ps_callV cl_1 rfl ce_X1_howManyOpen wd_497 wd_498 wd_496 ⟨by decide +kernel, by decide +kernel⟩ rfl rfl rfl (by decide +kernel),
  ps_iret (by decide +kernel) rfl rfl rfl,
  ps_aln (kf := 0) (by decide +kernel) rfl,
  ps_get cl_8 (k := 3) (by decide) wd_344 (by decide +kernel),
  ps_getN cl_5 (k := 2) (by decide) wn_155 (by decide +kernel),
  ps_iret (by decide +kernel) rfl rfl rfl,
  ps_aln (kf := 0) (by decide +kernel) rfl,
  ps_get cl_8 (k := 0) (by decide) wd_341 (by decide +kernel),
  ps_getN cl_7 (k := 1) (by decide) wn_34 (by decide +kernel),
  ps_iret (by decide +kernel) rfl rfl rfl,
  ps_iconst (n := -1) (by decide +kernel) (by decide +kernel),
  ps_iret (by decide +kernel) rfl rfl rfl, trivial⟩
def tX8_isMaster : pm_Cd := [(0, po_ll 0), (1, po_lc (0)), (2, po_lclt 18), (6, po_ll 0), (7, po_lc (6)), (10, po_lcge 18), (14, po_ic (1)), (15, po_goto 19), (18, po_ic (0)), (19, po_zret .boolean)]
set_option maxRecDepth 100000 in
theorem aX8_isMaster (E : pm_E) : pm_All E 82 (tX8_isMaster) :=
  ⟨ps_lln (kf := 0) (by decide +kernel) rfl,
  ps_lconst (n := 0) (by decide +kernel) (by decide +kernel),
  ps_lclt (off := 15) (by decide +kernel) (by decide +kernel) (by decide +kernel),
  ps_lln (kf := 0) (by decide +kernel) rfl,
  ps_ldc2 (n := 294) (by decide +kernel) wd_322,
  ps_lcge (off := 7) (by decide +kernel) (by decide +kernel) (by decide +kernel),
  ps_iconst (n := 1) (by decide +kernel) (by decide +kernel),
  ps_goto (off := 4) (by decide +kernel) (by decide +kernel),
  ps_iconst (n := 0) (by decide +kernel) (by decide +kernel),
  ps_zret (by decide +kernel) rfl rfl rfl, trivial⟩
def tX8_isKey : pm_Cd := [(0, po_il 0), (1, po_iflt 14), (4, po_il 0), (5, po_ic (6)), (7, po_icge 14), (10, po_ic (1)), (11, po_goto 15), (14, po_ic (0)), (15, po_zret .boolean)]
set_option maxRecDepth 100000 in
theorem aX8_isKey (E : pm_E) : pm_All E 83 (tX8_isKey) :=
  ⟨ps_iln (kf := 0) (by decide +kernel) rfl,
  ps_iflt (off := 13) (by decide +kernel) (by decide +kernel),
  ps_iln (kf := 0) (by decide +kernel) rfl,
  ps_bipush (n := 6) (by decide +kernel) (by decide +kernel),
  ps_icge (off := 7) (by decide +kernel) (by decide +kernel),
  ps_iconst (n := 1) (by decide +kernel) (by decide +kernel),
  ps_goto (off := 4) (by decide +kernel) (by decide +kernel),
  ps_iconst (n := 0) (by decide +kernel) (by decide +kernel),
  ps_zret (by decide +kernel) rfl rfl rfl, trivial⟩
def tX8_isDrift : pm_Cd := [(0, po_ll 0), (1, po_lc (0)), (2, po_lclt 18), (6, po_ll 0), (7, po_lc (999999)), (10, po_lcgt 18), (14, po_ic (1)), (15, po_goto 19), (18, po_ic (0)), (19, po_zret .boolean)]
set_option maxRecDepth 100000 in
theorem aX8_isDrift (E : pm_E) : pm_All E 84 (tX8_isDrift) :=
  ⟨ps_lln (kf := 0) (by decide +kernel) rfl,
  ps_lconst (n := 0) (by decide +kernel) (by decide +kernel),
  ps_lclt (off := 15) (by decide +kernel) (by decide +kernel) (by decide +kernel),
  ps_lln (kf := 0) (by decide +kernel) rfl,
  ps_ldc2 (n := 296) (by decide +kernel) wd_318,
  ps_lcgt (off := 7) (by decide +kernel) (by decide +kernel) (by decide +kernel),
  ps_iconst (n := 1) (by decide +kernel) (by decide +kernel),
  ps_goto (off := 4) (by decide +kernel) (by decide +kernel),
  ps_iconst (n := 0) (by decide +kernel) (by decide +kernel),
  ps_zret (by decide +kernel) rfl rfl rfl, trivial⟩
def tX8_isToldSpan : pm_Cd := [(0, po_ll 0), (1, po_lc (0)), (2, po_lclt 24), (6, po_ll 0), (7, po_ll 2), (8, po_lcgt 24), (12, po_ll 2), (13, po_lc (1000000000000)), (16, po_lcgt 24), (20, po_ic (1)), (21, po_goto 25), (24, po_ic (0)), (25, po_zret .boolean)]
set_option maxRecDepth 100000 in
theorem aX8_isToldSpan (E : pm_E) : pm_All E 85 (tX8_isToldSpan) :=
  ⟨ps_lln (kf := 0) (by decide +kernel) rfl,
  ps_lconst (n := 0) (by decide +kernel) (by decide +kernel),
  ps_lclt (off := 21) (by decide +kernel) (by decide +kernel) (by decide +kernel),
  ps_lln (kf := 0) (by decide +kernel) rfl,
  ps_lln (kf := 2) (by decide +kernel) rfl,
  ps_lcgt (off := 15) (by decide +kernel) (by decide +kernel) (by decide +kernel),
  ps_lln (kf := 2) (by decide +kernel) rfl,
  ps_ldc2 (n := 298) (by decide +kernel) wd_326,
  ps_lcgt (off := 7) (by decide +kernel) (by decide +kernel) (by decide +kernel),
  ps_iconst (n := 1) (by decide +kernel) (by decide +kernel),
  ps_goto (off := 4) (by decide +kernel) (by decide +kernel),
  ps_iconst (n := 0) (by decide +kernel) (by decide +kernel),
  ps_zret (by decide +kernel) rfl rfl rfl, trivial⟩
def tX8_isAsked : pm_Cd := [(0, po_ll 0), (1, po_lc (0)), (2, po_lclt 18), (6, po_ll 0), (7, po_lc (2000000000000)), (10, po_lcgt 18), (14, po_ic (1)), (15, po_goto 19), (18, po_ic (0)), (19, po_zret .boolean)]
set_option maxRecDepth 100000 in
theorem aX8_isAsked (E : pm_E) : pm_All E 86 (tX8_isAsked) :=
  ⟨ps_lln (kf := 0) (by decide +kernel) rfl,
  ps_lconst (n := 0) (by decide +kernel) (by decide +kernel),
  ps_lclt (off := 15) (by decide +kernel) (by decide +kernel) (by decide +kernel),
  ps_lln (kf := 0) (by decide +kernel) rfl,
  ps_ldc2 (n := 300) (by decide +kernel) wd_543,
  ps_lcgt (off := 7) (by decide +kernel) (by decide +kernel) (by decide +kernel),
  ps_iconst (n := 1) (by decide +kernel) (by decide +kernel),
  ps_goto (off := 4) (by decide +kernel) (by decide +kernel),
  ps_iconst (n := 0) (by decide +kernel) (by decide +kernel),
  ps_zret (by decide +kernel) rfl rfl rfl, trivial⟩
def tX8_isLeap : pm_Cd := [(0, po_ll 0), (1, po_lc (0)), (2, po_lclt 62), (6, po_ll 0), (7, po_lc (1000000000000)), (10, po_lcgt 62), (14, po_ll 2), (15, po_lc (1)), (16, po_lclt 62), (20, po_ll 2), (21, po_lc (1000)), (24, po_lcgt 62), (28, po_ll 4), (30, po_ll 2), (31, po_lcle 62), (35, po_ll 4), (37, po_lc (1000000000)), (40, po_lcgt 62), (44, po_ll 6), (46, po_lc (0)), (47, po_lclt 62), (51, po_ll 6), (53, po_lc (1)), (54, po_lcgt 62), (58, po_ic (1)), (59, po_goto 63), (62, po_ic (0)), (63, po_zret .boolean)]
set_option maxRecDepth 100000 in
theorem aX8_isLeap (E : pm_E) : pm_All E 87 (tX8_isLeap) :=
  ⟨ps_lln (kf := 0) (by decide +kernel) rfl,
  ps_lconst (n := 0) (by decide +kernel) (by decide +kernel),
  ps_lclt (off := 59) (by decide +kernel) (by decide +kernel) (by decide +kernel),
  ps_lln (kf := 0) (by decide +kernel) rfl,
  ps_ldc2 (n := 298) (by decide +kernel) wd_326,
  ps_lcgt (off := 51) (by decide +kernel) (by decide +kernel) (by decide +kernel),
  ps_lln (kf := 2) (by decide +kernel) rfl,
  ps_lconst (n := 1) (by decide +kernel) (by decide +kernel),
  ps_lclt (off := 45) (by decide +kernel) (by decide +kernel) (by decide +kernel),
  ps_lln (kf := 2) (by decide +kernel) rfl,
  ps_ldc2 (n := 302) (by decide +kernel) wd_330,
  ps_lcgt (off := 37) (by decide +kernel) (by decide +kernel) (by decide +kernel),
  ps_ll (by decide +kernel),
  ps_lln (kf := 2) (by decide +kernel) rfl,
  ps_lcle (off := 30) (by decide +kernel) (by decide +kernel) (by decide +kernel),
  ps_ll (by decide +kernel),
  ps_ldc2 (n := 304) (by decide +kernel) wd_331,
  ps_lcgt (off := 21) (by decide +kernel) (by decide +kernel) (by decide +kernel),
  ps_ll (by decide +kernel),
  ps_lconst (n := 0) (by decide +kernel) (by decide +kernel),
  ps_lclt (off := 14) (by decide +kernel) (by decide +kernel) (by decide +kernel),
  ps_ll (by decide +kernel),
  ps_lconst (n := 1) (by decide +kernel) (by decide +kernel),
  ps_lcgt (off := 7) (by decide +kernel) (by decide +kernel) (by decide +kernel),
  ps_iconst (n := 1) (by decide +kernel) (by decide +kernel),
  ps_goto (off := 4) (by decide +kernel) (by decide +kernel),
  ps_iconst (n := 0) (by decide +kernel) (by decide +kernel),
  ps_zret (by decide +kernel) rfl rfl rfl, trivial⟩
end
section
def tX9_init : pm_Cd := [(0, po_al 0), (1, po_obj), (4, po_al 0), (5, po_ic (108)), (7, po_newa 2 108 8 1084 (108, .inr (.inl (fun _ => 0)))), (9, po_put 9 0 (.array .long)), (12, po_al 0), (13, po_ic (648)), (16, po_newa 2 648 8 1084 (648, .inr (.inl (fun _ => 0)))), (18, po_put 9 1 (.array .long)), (21, po_al 0), (22, po_ic (200)), (25, po_newa 1 200 8 1084 (200, .inl (fun _ => 0))), (27, po_put 9 3 (.array .int)), (30, po_al 0), (31, po_ic (108)), (33, po_newa 2 108 8 1084 (108, .inr (.inl (fun _ => 0)))), (35, po_put 9 6 (.array .long)), (38, po_al 0), (39, po_ic (4)), (40, po_newa 2 4 8 1084 (4, .inr (.inl (fun _ => 0)))), (42, po_put 9 7 (.array .long)), (45, po_al 0), (46, po_ic (4)), (47, po_newa 2 4 8 1084 (4, .inr (.inl (fun _ => 0)))), (49, po_put 9 8 (.array .long)), (52, po_al 0), (53, po_ic (6)), (55, po_newa 2 6 8 1084 (6, .inr (.inl (fun _ => 0)))), (57, po_put 9 9 (.array .long)), (60, po_al 0), (61, po_ic (6)), (63, po_newa 2 6 8 1084 (6, .inr (.inl (fun _ => 0)))), (65, po_put 9 10 (.array .long)), (68, po_al 0), (69, po_callV 9 90 0 2), (72, po_al 0), (73, po_ic (0)), (74, po_lc (990)), (77, po_lc (1010)), (80, po_callV 9 91 3 6), (83, po_al 0), (84, po_ic (1)), (85, po_lc (1000)), (88, po_lc (1030)), (91, po_callV 9 91 3 6), (94, po_al 0), (95, po_ic (2)), (96, po_lc (995)), (99, po_lc (1005)), (102, po_callV 9 91 3 6), (105, po_al 0), (106, po_ic (3)), (107, po_lc (2000)), (110, po_lc (2010)), (113, po_callV 9 91 3 6), (116, po_al 0), (117, po_lc (1500)), (120, po_lc (1)), (121, po_lc (100)), (124, po_lc (0)), (125, po_callV 9 92 4 9), (128, po_al 0), (129, po_callV 9 93 0 2), (132, po_vretC 8 1084)]
set_option maxRecDepth 100000 in
theorem aX9_init (E : pm_E) : pm_All E 88 (tX9_init) :=
  ⟨ps_aln (kf := 0) (by decide +kernel) rfl,
  ps_obj wd_646 wd_24 wd_25 (by decide +kernel) (by decide +kernel) (by decide +kernel),
  ps_aln (kf := 0) (by decide +kernel) rfl,
  ps_bipush (n := 108) (by decide +kernel) (by decide +kernel),
  ps_newa (atype := .long) (ty := .long) wd_60 rfl rfl (fun _ q => q) (fun _ => rfl) rfl (by decide) (by decide) (by decide +kernel) (by decide +kernel) (by decide +kernel),
  ps_putF cl_9 (k := 0) (by decide) wd_673 rfl rfl (by decide +kernel) (by decide +kernel) (by decide +kernel),
  ps_aln (kf := 0) (by decide +kernel) rfl,
  ps_sipush (n := 648) (by decide +kernel) (by decide +kernel),
  ps_newa (atype := .long) (ty := .long) wd_60 rfl rfl (fun _ q => q) (fun _ => rfl) rfl (by decide) (by decide) (by decide +kernel) (by decide +kernel) (by decide +kernel),
  ps_putF cl_9 (k := 1) (by decide) wd_674 rfl rfl (by decide +kernel) (by decide +kernel) (by decide +kernel),
  ps_aln (kf := 0) (by decide +kernel) rfl,
  ps_sipush (n := 200) (by decide +kernel) (by decide +kernel),
  ps_newa (atype := .int) (ty := .int) wd_94 rfl rfl (fun _ q => q) (fun _ => rfl) rfl (by decide) (by decide) (by decide +kernel) (by decide +kernel) (by decide +kernel),
  ps_putF cl_9 (k := 3) (by decide) wd_676 rfl rfl (by decide +kernel) (by decide +kernel) (by decide +kernel),
  ps_aln (kf := 0) (by decide +kernel) rfl,
  ps_bipush (n := 108) (by decide +kernel) (by decide +kernel),
  ps_newa (atype := .long) (ty := .long) wd_60 rfl rfl (fun _ q => q) (fun _ => rfl) rfl (by decide) (by decide) (by decide +kernel) (by decide +kernel) (by decide +kernel),
  ps_putF cl_9 (k := 6) (by decide) wd_679 rfl rfl (by decide +kernel) (by decide +kernel) (by decide +kernel),
  ps_aln (kf := 0) (by decide +kernel) rfl,
  ps_iconst (n := 4) (by decide +kernel) (by decide +kernel),
  ps_newa (atype := .long) (ty := .long) wd_60 rfl rfl (fun _ q => q) (fun _ => rfl) rfl (by decide) (by decide) (by decide +kernel) (by decide +kernel) (by decide +kernel),
  ps_putF cl_9 (k := 7) (by decide) wd_680 rfl rfl (by decide +kernel) (by decide +kernel) (by decide +kernel),
  ps_aln (kf := 0) (by decide +kernel) rfl,
  ps_iconst (n := 4) (by decide +kernel) (by decide +kernel),
  ps_newa (atype := .long) (ty := .long) wd_60 rfl rfl (fun _ q => q) (fun _ => rfl) rfl (by decide) (by decide) (by decide +kernel) (by decide +kernel) (by decide +kernel),
  ps_putF cl_9 (k := 8) (by decide) wd_681 rfl rfl (by decide +kernel) (by decide +kernel) (by decide +kernel),
  ps_aln (kf := 0) (by decide +kernel) rfl,
  ps_bipush (n := 6) (by decide +kernel) (by decide +kernel),
  ps_newa (atype := .long) (ty := .long) wd_60 rfl rfl (fun _ q => q) (fun _ => rfl) rfl (by decide) (by decide) (by decide +kernel) (by decide +kernel) (by decide +kernel),
  ps_putF cl_9 (k := 9) (by decide) wd_682 rfl rfl (by decide +kernel) (by decide +kernel) (by decide +kernel),
  ps_aln (kf := 0) (by decide +kernel) rfl,
  ps_bipush (n := 6) (by decide +kernel) (by decide +kernel),
  ps_newa (atype := .long) (ty := .long) wd_60 rfl rfl (fun _ q => q) (fun _ => rfl) rfl (by decide) (by decide) (by decide +kernel) (by decide +kernel) (by decide +kernel),
  ps_putF cl_9 (k := 10) (by decide) wd_683 rfl rfl (by decide +kernel) (by decide +kernel) (by decide +kernel),
  ps_aln (kf := 0) (by decide +kernel) rfl,
  ps_callV cl_9 rfl ce_X9_begin wd_649 wp_11 wd_647 ⟨by decide +kernel, by decide +kernel⟩ rfl rfl rfl (by decide +kernel),
  ps_aln (kf := 0) (by decide +kernel) rfl,
  ps_iconst (n := 0) (by decide +kernel) (by decide +kernel),
  ps_ldc2 (n := 38) (by decide +kernel) wd_657,
  ps_ldc2 (n := 40) (by decide +kernel) wd_658,
  ps_callV cl_9 rfl ce_X9_putMaster wd_661 wp_13 wd_659 ⟨by decide +kernel, by decide +kernel⟩ rfl rfl rfl (by decide +kernel),
  ps_aln (kf := 0) (by decide +kernel) rfl,
  ps_iconst (n := 1) (by decide +kernel) (by decide +kernel),
  ps_ldc2 (n := 46) (by decide +kernel) wd_651,
  ps_ldc2 (n := 48) (by decide +kernel) wd_663,
  ps_callV cl_9 rfl ce_X9_putMaster wd_661 wp_13 wd_659 ⟨by decide +kernel, by decide +kernel⟩ rfl rfl rfl (by decide +kernel),
  ps_aln (kf := 0) (by decide +kernel) rfl,
  ps_iconst (n := 2) (by decide +kernel) (by decide +kernel),
  ps_ldc2 (n := 50) (by decide +kernel) wd_664,
  ps_ldc2 (n := 52) (by decide +kernel) wd_665,
  ps_callV cl_9 rfl ce_X9_putMaster wd_661 wp_13 wd_659 ⟨by decide +kernel, by decide +kernel⟩ rfl rfl rfl (by decide +kernel),
  ps_aln (kf := 0) (by decide +kernel) rfl,
  ps_iconst (n := 3) (by decide +kernel) (by decide +kernel),
  ps_ldc2 (n := 54) (by decide +kernel) wd_666,
  ps_ldc2 (n := 56) (by decide +kernel) wd_667,
  ps_callV cl_9 rfl ce_X9_putMaster wd_661 wp_13 wd_659 ⟨by decide +kernel, by decide +kernel⟩ rfl rfl rfl (by decide +kernel),
  ps_aln (kf := 0) (by decide +kernel) rfl,
  ps_ldc2 (n := 58) (by decide +kernel) wd_668,
  ps_lconst (n := 1) (by decide +kernel) (by decide +kernel),
  ps_ldc2 (n := 60) (by decide +kernel) wd_652,
  ps_lconst (n := 0) (by decide +kernel) (by decide +kernel),
  ps_callV cl_9 rfl ce_X9_putLeap wd_655 wp_12 wd_653 ⟨by decide +kernel, by decide +kernel⟩ rfl rfl rfl (by decide +kernel),
  ps_aln (kf := 0) (by decide +kernel) rfl,
  ps_callV cl_9 rfl ce_X9_take wd_671 wp_14 wd_669 ⟨by decide +kernel, by decide +kernel⟩ rfl rfl rfl (by decide +kernel),
  ps_vretC (by decide +kernel) rfl rfl rfl, trivial⟩
def tX9_within : pm_Cd := [(0, po_ll 0), (1, po_ll 2), (2, po_lclt 17), (6, po_ll 0), (7, po_ll 4), (9, po_lcgt 17), (13, po_ic (1)), (14, po_goto 18), (17, po_ic (0)), (18, po_zret .boolean)]
set_option maxRecDepth 100000 in
theorem aX9_within (E : pm_E) : pm_All E 89 (tX9_within) :=
  ⟨ps_lln (kf := 0) (by decide +kernel) rfl,
  ps_lln (kf := 2) (by decide +kernel) rfl,
  ps_lclt (off := 14) (by decide +kernel) (by decide +kernel) (by decide +kernel),
  ps_lln (kf := 0) (by decide +kernel) rfl,
  ps_ll (by decide +kernel),
  ps_lcgt (off := 7) (by decide +kernel) (by decide +kernel) (by decide +kernel),
  ps_iconst (n := 1) (by decide +kernel) (by decide +kernel),
  ps_goto (off := 4) (by decide +kernel) (by decide +kernel),
  ps_iconst (n := 0) (by decide +kernel) (by decide +kernel),
  ps_zret (by decide +kernel) rfl rfl rfl, trivial⟩
def tX9_begin : pm_Cd := [(0, po_ic (0)), (1, po_is 1), (2, po_mark), (2, po_il 1), (3, po_ic (108)), (5, po_icge 21), (8, po_al 0), (9, po_get 9 6), (12, po_il 1), (13, po_lc (0)), (14, po_last), (15, po_iinc 1 (1)), (18, po_goto 2), (21, po_al 0), (22, po_get 9 6), (25, po_ic (1)), (26, po_lc (1000)), (29, po_last), (30, po_al 0), (31, po_lc (1000)), (34, po_lc (1)), (35, po_lc (100)), (38, po_lc (0)), (39, po_callV 9 92 4 9), (42, po_vret)]
set_option maxRecDepth 100000 in
theorem aX9_begin (E : pm_E) : pm_All E 90 (tX9_begin) :=
  ⟨ps_iconst (n := 0) (by decide +kernel) (by decide +kernel),
  ps_isn (kf := 1) (by decide +kernel) rfl (by decide +kernel),
  ps_mark,
  ps_iln (kf := 1) (by decide +kernel) rfl,
  ps_bipush (n := 108) (by decide +kernel) (by decide +kernel),
  ps_icge (off := 16) (by decide +kernel) (by decide +kernel),
  ps_aln (kf := 0) (by decide +kernel) rfl,
  ps_get cl_9 (k := 6) (by decide) wd_679 (by decide +kernel),
  ps_iln (kf := 1) (by decide +kernel) rfl,
  ps_lconst (n := 0) (by decide +kernel) (by decide +kernel),
  ps_last (by decide +kernel),
  ps_iinc (n := 1) (by decide +kernel) (by decide +kernel) (by decide +kernel),
  ps_goto (off := -16) (by decide +kernel) (by decide +kernel),
  ps_aln (kf := 0) (by decide +kernel) rfl,
  ps_get cl_9 (k := 6) (by decide) wd_679 (by decide +kernel),
  ps_iconst (n := 1) (by decide +kernel) (by decide +kernel),
  ps_ldc2 (n := 46) (by decide +kernel) wd_651,
  ps_last (by decide +kernel),
  ps_aln (kf := 0) (by decide +kernel) rfl,
  ps_ldc2 (n := 46) (by decide +kernel) wd_651,
  ps_lconst (n := 1) (by decide +kernel) (by decide +kernel),
  ps_ldc2 (n := 60) (by decide +kernel) wd_652,
  ps_lconst (n := 0) (by decide +kernel) (by decide +kernel),
  ps_callV cl_9 rfl ce_X9_putLeap wd_655 wp_12 wd_653 ⟨by decide +kernel, by decide +kernel⟩ rfl rfl rfl (by decide +kernel),
  ps_vret (by decide +kernel) rfl rfl rfl, trivial⟩
def tX9_putMaster : pm_Cd := [(0, po_al 0), (1, po_get 9 6), (4, po_ic (4)), (5, po_ic (4)), (6, po_il 1), (7, po_imul), (8, po_iadd), (9, po_lc (1)), (10, po_last), (11, po_al 0), (12, po_get 9 6), (15, po_ic (4)), (16, po_ic (4)), (17, po_il 1), (18, po_imul), (19, po_iadd), (20, po_ic (1)), (21, po_iadd), (22, po_ll 2), (23, po_last), (24, po_al 0), (25, po_get 9 6), (28, po_ic (4)), (29, po_ic (4)), (30, po_il 1), (31, po_imul), (32, po_iadd), (33, po_ic (2)), (34, po_iadd), (35, po_ll 4), (37, po_last), (38, po_vret)]
set_option maxRecDepth 100000 in
theorem aX9_putMaster (E : pm_E) : pm_All E 91 (tX9_putMaster) :=
  ⟨ps_aln (kf := 0) (by decide +kernel) rfl,
  ps_get cl_9 (k := 6) (by decide) wd_679 (by decide +kernel),
  ps_iconst (n := 4) (by decide +kernel) (by decide +kernel),
  ps_iconst (n := 4) (by decide +kernel) (by decide +kernel),
  ps_iln (kf := 1) (by decide +kernel) rfl,
  ps_imul (by decide +kernel),
  ps_iadd (by decide +kernel),
  ps_lconst (n := 1) (by decide +kernel) (by decide +kernel),
  ps_last (by decide +kernel),
  ps_aln (kf := 0) (by decide +kernel) rfl,
  ps_get cl_9 (k := 6) (by decide) wd_679 (by decide +kernel),
  ps_iconst (n := 4) (by decide +kernel) (by decide +kernel),
  ps_iconst (n := 4) (by decide +kernel) (by decide +kernel),
  ps_iln (kf := 1) (by decide +kernel) rfl,
  ps_imul (by decide +kernel),
  ps_iadd (by decide +kernel),
  ps_iconst (n := 1) (by decide +kernel) (by decide +kernel),
  ps_iadd (by decide +kernel),
  ps_lln (kf := 2) (by decide +kernel) rfl,
  ps_last (by decide +kernel),
  ps_aln (kf := 0) (by decide +kernel) rfl,
  ps_get cl_9 (k := 6) (by decide) wd_679 (by decide +kernel),
  ps_iconst (n := 4) (by decide +kernel) (by decide +kernel),
  ps_iconst (n := 4) (by decide +kernel) (by decide +kernel),
  ps_iln (kf := 1) (by decide +kernel) rfl,
  ps_imul (by decide +kernel),
  ps_iadd (by decide +kernel),
  ps_iconst (n := 2) (by decide +kernel) (by decide +kernel),
  ps_iadd (by decide +kernel),
  ps_ll (by decide +kernel),
  ps_last (by decide +kernel),
  ps_vret (by decide +kernel) rfl rfl rfl, trivial⟩
def tX9_putLeap : pm_Cd := [(0, po_al 0), (1, po_get 9 7), (4, po_ic (0)), (5, po_ll 1), (6, po_last), (7, po_al 0), (8, po_get 9 7), (11, po_ic (1)), (12, po_ll 3), (13, po_last), (14, po_al 0), (15, po_get 9 7), (18, po_ic (2)), (19, po_ll 5), (21, po_last), (22, po_al 0), (23, po_get 9 7), (26, po_ic (3)), (27, po_ll 7), (29, po_last), (30, po_vret)]
set_option maxRecDepth 100000 in
theorem aX9_putLeap (E : pm_E) : pm_All E 92 (tX9_putLeap) :=
  ⟨ps_aln (kf := 0) (by decide +kernel) rfl,
  ps_get cl_9 (k := 7) (by decide) wd_680 (by decide +kernel),
  ps_iconst (n := 0) (by decide +kernel) (by decide +kernel),
  ps_lln (kf := 1) (by decide +kernel) rfl,
  ps_last (by decide +kernel),
  ps_aln (kf := 0) (by decide +kernel) rfl,
  ps_get cl_9 (k := 7) (by decide) wd_680 (by decide +kernel),
  ps_iconst (n := 1) (by decide +kernel) (by decide +kernel),
  ps_lln (kf := 3) (by decide +kernel) rfl,
  ps_last (by decide +kernel),
  ps_aln (kf := 0) (by decide +kernel) rfl,
  ps_get cl_9 (k := 7) (by decide) wd_680 (by decide +kernel),
  ps_iconst (n := 2) (by decide +kernel) (by decide +kernel),
  ps_ll (by decide +kernel),
  ps_last (by decide +kernel),
  ps_aln (kf := 0) (by decide +kernel) rfl,
  ps_get cl_9 (k := 7) (by decide) wd_680 (by decide +kernel),
  ps_iconst (n := 3) (by decide +kernel) (by decide +kernel),
  ps_ll (by decide +kernel),
  ps_last (by decide +kernel),
  ps_vret (by decide +kernel) rfl rfl rfl, trivial⟩
def tX9_take : pm_Cd := [(0, po_ic (0)), (1, po_is 1), (2, po_mark), (2, po_il 1), (3, po_ic (108)), (5, po_icge 26), (8, po_al 0), (9, po_get 9 0), (12, po_il 1), (13, po_al 0), (14, po_get 9 6), (17, po_il 1), (18, po_lald), (19, po_last), (20, po_iinc 1 (1)), (23, po_goto 2), (26, po_ic (0)), (27, po_is 1), (28, po_mark), (28, po_il 1), (29, po_ic (4)), (30, po_icge 51), (33, po_al 0), (34, po_get 9 8), (37, po_il 1), (38, po_al 0), (39, po_get 9 7), (42, po_il 1), (43, po_lald), (44, po_last), (45, po_iinc 1 (1)), (48, po_goto 28), (51, po_al 0), (52, po_ic (0)), (53, po_put 9 2 .int), (56, po_vret)]
set_option maxRecDepth 100000 in
theorem aX9_take (E : pm_E) : pm_All E 93 (tX9_take) :=
  ⟨ps_iconst (n := 0) (by decide +kernel) (by decide +kernel),
  ps_isn (kf := 1) (by decide +kernel) rfl (by decide +kernel),
  ps_mark,
  ps_iln (kf := 1) (by decide +kernel) rfl,
  ps_bipush (n := 108) (by decide +kernel) (by decide +kernel),
  ps_icge (off := 21) (by decide +kernel) (by decide +kernel),
  ps_aln (kf := 0) (by decide +kernel) rfl,
  ps_get cl_9 (k := 0) (by decide) wd_673 (by decide +kernel),
  ps_iln (kf := 1) (by decide +kernel) rfl,
  ps_aln (kf := 0) (by decide +kernel) rfl,
  ps_get cl_9 (k := 6) (by decide) wd_679 (by decide +kernel),
  ps_iln (kf := 1) (by decide +kernel) rfl,
  ps_lald (by decide +kernel),
  ps_last (by decide +kernel),
  ps_iinc (n := 1) (by decide +kernel) (by decide +kernel) (by decide +kernel),
  ps_goto (off := -21) (by decide +kernel) (by decide +kernel),
  ps_iconst (n := 0) (by decide +kernel) (by decide +kernel),
  ps_isn (kf := 1) (by decide +kernel) rfl (by decide +kernel),
  ps_mark,
  ps_iln (kf := 1) (by decide +kernel) rfl,
  ps_iconst (n := 4) (by decide +kernel) (by decide +kernel),
  ps_icge (off := 21) (by decide +kernel) (by decide +kernel),
  ps_aln (kf := 0) (by decide +kernel) rfl,
  ps_get cl_9 (k := 8) (by decide) wd_681 (by decide +kernel),
  ps_iln (kf := 1) (by decide +kernel) rfl,
  ps_aln (kf := 0) (by decide +kernel) rfl,
  ps_get cl_9 (k := 7) (by decide) wd_680 (by decide +kernel),
  ps_iln (kf := 1) (by decide +kernel) rfl,
  ps_lald (by decide +kernel),
  ps_last (by decide +kernel),
  ps_iinc (n := 1) (by decide +kernel) (by decide +kernel) (by decide +kernel),
  ps_goto (off := -20) (by decide +kernel) (by decide +kernel),
  ps_aln (kf := 0) (by decide +kernel) rfl,
  ps_iconst (n := 0) (by decide +kernel) (by decide +kernel),
  ps_put cl_9 (k := 2) (by decide) wd_675 rfl rfl (by decide +kernel),
  ps_vret (by decide +kernel) rfl rfl rfl, trivial⟩
def tX9_takeNumber : pm_Cd := [(0, po_lc (0)), (1, po_ls 1), (2, po_ic (1)), (3, po_is 3), (4, po_al 0), (5, po_get 9 5), (8, po_is 4), (10, po_mark), (10, po_al 0), (11, po_get 9 5), (14, po_al 0), (15, po_get 9 4), (18, po_icge 125), (21, po_al 0), (22, po_get 9 5), (25, po_il 4), (27, po_ic (19)), (29, po_iadd), (30, po_icge 125), (33, po_al 0), (34, po_get 9 3), (37, po_al 0), (38, po_get 9 5), (41, po_iald), (42, po_i2l), (43, po_lc (48)), (46, po_lc (57)), (49, po_callS 89 3 6), (52, po_ifeq 125), (55, po_al 0), (56, po_get 9 3), (59, po_al 0), (60, po_get 9 5), (63, po_iald), (64, po_ic (48)), (66, po_isub), (67, po_i2l), (68, po_ls 5), (70, po_il 3), (71, po_ifeq 93), (74, po_ll 1), (75, po_lc (9223372036854775807)), (78, po_ll 5), (80, po_lsub), (81, po_lc (10)), (84, po_ldiv), (85, po_lcgt 93), (89, po_ic (1)), (90, po_goto 94), (93, po_ic (0)), (94, po_is 3), (95, po_il 3), (96, po_ifeq 110), (99, po_lc (10)), (102, po_ll 1), (103, po_lmul), (104, po_ll 5), (106, po_ladd), (107, po_goto 111), (110, po_lc (0)), (111, po_ls 1), (112, po_al 0), (113, po_dup), (114, po_get 9 5), (117, po_ic (1)), (118, po_iadd), (119, po_put 9 5 .int), (122, po_goto 10), (125, po_al 0), (126, po_get 9 5), (129, po_il 4), (131, po_icle 142), (134, po_il 3), (135, po_ifeq 142), (138, po_ll 1), (139, po_goto 145), (142, po_lc (-1)), (145, po_lret)]
set_option maxRecDepth 100000 in
theorem aX9_takeNumber (E : pm_E) : pm_All E 94 (tX9_takeNumber) :=
  ⟨ps_lconst (n := 0) (by decide +kernel) (by decide +kernel),
  ps_lsn (kf := 1) (by decide +kernel) rfl (by decide +kernel),
  ps_iconst (n := 1) (by decide +kernel) (by decide +kernel),
  ps_isn (kf := 3) (by decide +kernel) rfl (by decide +kernel),
  ps_aln (kf := 0) (by decide +kernel) rfl,
  ps_get cl_9 (k := 5) (by decide) wd_678 (by decide +kernel),
  ps_is (by decide +kernel) (by decide +kernel),
  ps_mark,
  ps_aln (kf := 0) (by decide +kernel) rfl,
  ps_get cl_9 (k := 5) (by decide) wd_678 (by decide +kernel),
  ps_aln (kf := 0) (by decide +kernel) rfl,
  ps_get cl_9 (k := 4) (by decide) wd_677 (by decide +kernel),
  ps_icge (off := 107) (by decide +kernel) (by decide +kernel),
  ps_aln (kf := 0) (by decide +kernel) rfl,
  ps_get cl_9 (k := 5) (by decide) wd_678 (by decide +kernel),
  ps_il (by decide +kernel),
  ps_bipush (n := 19) (by decide +kernel) (by decide +kernel),
  ps_iadd (by decide +kernel),
  ps_icge (off := 95) (by decide +kernel) (by decide +kernel),
  ps_aln (kf := 0) (by decide +kernel) rfl,
  ps_get cl_9 (k := 3) (by decide) wd_676 (by decide +kernel),
  ps_aln (kf := 0) (by decide +kernel) rfl,
  ps_get cl_9 (k := 5) (by decide) wd_678 (by decide +kernel),
  ps_iald (by decide +kernel),
  ps_i2l (by decide +kernel),
  ps_ldc2 (n := 79) (by decide +kernel) wd_748,
  ps_ldc2 (n := 81) (by decide +kernel) wd_749,
  ps_callS ce_X9_within wd_726 wd_725 ⟨by decide +kernel, by decide +kernel⟩ rfl rfl rfl (by decide +kernel),
  ps_ifeq (off := 73) (by decide +kernel) (by decide +kernel),
  ps_aln (kf := 0) (by decide +kernel) rfl,
  ps_get cl_9 (k := 3) (by decide) wd_676 (by decide +kernel),
  ps_aln (kf := 0) (by decide +kernel) rfl,
  ps_get cl_9 (k := 5) (by decide) wd_678 (by decide +kernel),
  ps_iald (by decide +kernel),
  ps_bipush (n := 48) (by decide +kernel) (by decide +kernel),
  ps_isub (by decide +kernel),
  ps_i2l (by decide +kernel),
  ps_ls (by decide +kernel) (by decide +kernel),
  ps_iln (kf := 3) (by decide +kernel) rfl,
  ps_ifeq (off := 22) (by decide +kernel) (by decide +kernel),
  ps_lln (kf := 1) (by decide +kernel) rfl,
  ps_ldc2 (n := 87) (by decide +kernel) wd_750,
  ps_ll (by decide +kernel),
  ps_lsub (by decide +kernel),
  ps_ldc2 (n := 89) (by decide +kernel) wd_751,
  ps_ldiv (by decide +kernel),
  ps_lcgt (off := 7) (by decide +kernel) (by decide +kernel) (by decide +kernel),
  ps_iconst (n := 1) (by decide +kernel) (by decide +kernel),
  ps_goto (off := 4) (by decide +kernel) (by decide +kernel),
  ps_iconst (n := 0) (by decide +kernel) (by decide +kernel),
  ps_isn (kf := 3) (by decide +kernel) rfl (by decide +kernel),
  ps_iln (kf := 3) (by decide +kernel) rfl,
  ps_ifeq (off := 14) (by decide +kernel) (by decide +kernel),
  ps_ldc2 (n := 89) (by decide +kernel) wd_751,
  ps_lln (kf := 1) (by decide +kernel) rfl,
  ps_lmul (by decide +kernel),
  ps_ll (by decide +kernel),
  ps_ladd (by decide +kernel),
  ps_goto (off := 4) (by decide +kernel) (by decide +kernel),
  ps_lconst (n := 0) (by decide +kernel) (by decide +kernel),
  ps_lsn (kf := 1) (by decide +kernel) rfl (by decide +kernel),
  ps_aln (kf := 0) (by decide +kernel) rfl,
  ps_dup (by decide +kernel),
  ps_get cl_9 (k := 5) (by decide) wd_678 (by decide +kernel),
  ps_iconst (n := 1) (by decide +kernel) (by decide +kernel),
  ps_iadd (by decide +kernel),
  ps_put cl_9 (k := 5) (by decide) wd_678 rfl rfl (by decide +kernel),
  ps_goto (off := -112) (by decide +kernel) (by decide +kernel),
  ps_aln (kf := 0) (by decide +kernel) rfl,
  ps_get cl_9 (k := 5) (by decide) wd_678 (by decide +kernel),
  ps_il (by decide +kernel),
  ps_icle (off := 11) (by decide +kernel) (by decide +kernel),
  ps_iln (kf := 3) (by decide +kernel) rfl,
  ps_ifeq (off := 7) (by decide +kernel) (by decide +kernel),
  ps_lln (kf := 1) (by decide +kernel) rfl,
  ps_goto (off := 6) (by decide +kernel) (by decide +kernel),
  ps_ldc2 (n := 91) (by decide +kernel) wd_752,
  ps_lret (by decide +kernel) rfl rfl rfl, trivial⟩
def tX9_takeSign : pm_Cd := [(0, po_al 0), (1, po_get 9 5), (4, po_al 0), (5, po_get 9 4), (8, po_icge 28), (11, po_al 0), (12, po_get 9 3), (15, po_al 0), (16, po_get 9 5), (19, po_iald), (20, po_il 1), (21, po_icne 28), (24, po_ic (1)), (25, po_goto 29), (28, po_ic (0)), (29, po_is 2), (30, po_al 0), (31, po_dup), (32, po_get 9 5), (35, po_il 2), (36, po_ifeq 43), (39, po_ic (1)), (40, po_goto 44), (43, po_ic (0)), (44, po_iadd), (45, po_put 9 5 .int), (48, po_il 2), (49, po_zret .boolean)]
set_option maxRecDepth 100000 in
theorem aX9_takeSign (E : pm_E) : pm_All E 95 (tX9_takeSign) :=
  ⟨ps_aln (kf := 0) (by decide +kernel) rfl,
  ps_get cl_9 (k := 5) (by decide) wd_678 (by decide +kernel),
  ps_aln (kf := 0) (by decide +kernel) rfl,
  ps_get cl_9 (k := 4) (by decide) wd_677 (by decide +kernel),
  ps_icge (off := 20) (by decide +kernel) (by decide +kernel),
  ps_aln (kf := 0) (by decide +kernel) rfl,
  ps_get cl_9 (k := 3) (by decide) wd_676 (by decide +kernel),
  ps_aln (kf := 0) (by decide +kernel) rfl,
  ps_get cl_9 (k := 5) (by decide) wd_678 (by decide +kernel),
  ps_iald (by decide +kernel),
  ps_iln (kf := 1) (by decide +kernel) rfl,
  ps_icne (off := 7) (by decide +kernel) (by decide +kernel),
  ps_iconst (n := 1) (by decide +kernel) (by decide +kernel),
  ps_goto (off := 4) (by decide +kernel) (by decide +kernel),
  ps_iconst (n := 0) (by decide +kernel) (by decide +kernel),
  ps_isn (kf := 2) (by decide +kernel) rfl (by decide +kernel),
  ps_aln (kf := 0) (by decide +kernel) rfl,
  ps_dup (by decide +kernel),
  ps_get cl_9 (k := 5) (by decide) wd_678 (by decide +kernel),
  ps_iln (kf := 2) (by decide +kernel) rfl,
  ps_ifeq (off := 7) (by decide +kernel) (by decide +kernel),
  ps_iconst (n := 1) (by decide +kernel) (by decide +kernel),
  ps_goto (off := 4) (by decide +kernel) (by decide +kernel),
  ps_iconst (n := 0) (by decide +kernel) (by decide +kernel),
  ps_iadd (by decide +kernel),
  ps_put cl_9 (k := 5) (by decide) wd_678 rfl rfl (by decide +kernel),
  ps_iln (kf := 2) (by decide +kernel) rfl,
  ps_zret (by decide +kernel) rfl rfl rfl, trivial⟩
def tX9_readMaster : pm_Cd := [(0, po_al 0), (1, po_callV 9 94 0 7), (4, po_ls 1), (5, po_al 0), (6, po_ic (44)), (8, po_callV 9 95 1 3), (11, po_is 3), (12, po_al 0), (13, po_callV 9 94 0 7), (16, po_ls 4), (18, po_al 0), (19, po_ic (44)), (21, po_callV 9 95 1 3), (24, po_is 6), (26, po_al 0), (27, po_callV 9 94 0 7), (30, po_ls 7), (32, po_il 3), (33, po_ifeq 77), (36, po_il 6), (38, po_ifeq 77), (41, po_ll 1), (42, po_lc (0)), (43, po_lc (5)), (46, po_callS 89 3 6), (49, po_ifeq 77), (52, po_ll 4), (54, po_lc (0)), (55, po_lc (1000000000000)), (58, po_callS 89 3 6), (61, po_ifeq 77), (64, po_ll 7), (66, po_ll 4), (68, po_lc (1000000000000)), (71, po_callS 89 3 6), (74, po_ifne 79), (77, po_ic (0)), (78, po_zret .boolean), (79, po_al 0), (80, po_ll 1), (81, po_l2i), (82, po_ll 4), (84, po_ll 7), (86, po_callV 9 91 3 6), (89, po_ic (1)), (90, po_zret .boolean)]
set_option maxRecDepth 100000 in
theorem aX9_readMaster (E : pm_E) : pm_All E 96 (tX9_readMaster) :=
  ⟨ps_aln (kf := 0) (by decide +kernel) rfl,
  ps_callV cl_9 rfl ce_X9_takeNumber wd_746 wp_17 wd_744 ⟨by decide +kernel, by decide +kernel⟩ rfl rfl rfl (by decide +kernel),
  ps_lsn (kf := 1) (by decide +kernel) rfl (by decide +kernel),
  ps_aln (kf := 0) (by decide +kernel) rfl,
  ps_bipush (n := 44) (by decide +kernel) (by decide +kernel),
  ps_callV cl_9 rfl ce_X9_takeSign wd_760 wp_19 wd_758 ⟨by decide +kernel, by decide +kernel⟩ rfl rfl rfl (by decide +kernel),
  ps_isn (kf := 3) (by decide +kernel) rfl (by decide +kernel),
  ps_aln (kf := 0) (by decide +kernel) rfl,
  ps_callV cl_9 rfl ce_X9_takeNumber wd_746 wp_17 wd_744 ⟨by decide +kernel, by decide +kernel⟩ rfl rfl rfl (by decide +kernel),
  ps_ls (by decide +kernel) (by decide +kernel),
  ps_aln (kf := 0) (by decide +kernel) rfl,
  ps_bipush (n := 44) (by decide +kernel) (by decide +kernel),
  ps_callV cl_9 rfl ce_X9_takeSign wd_760 wp_19 wd_758 ⟨by decide +kernel, by decide +kernel⟩ rfl rfl rfl (by decide +kernel),
  ps_is (by decide +kernel) (by decide +kernel),
  ps_aln (kf := 0) (by decide +kernel) rfl,
  ps_callV cl_9 rfl ce_X9_takeNumber wd_746 wp_17 wd_744 ⟨by decide +kernel, by decide +kernel⟩ rfl rfl rfl (by decide +kernel),
  ps_ls (by decide +kernel) (by decide +kernel),
  ps_iln (kf := 3) (by decide +kernel) rfl,
  ps_ifeq (off := 44) (by decide +kernel) (by decide +kernel),
  ps_il (by decide +kernel),
  ps_ifeq (off := 39) (by decide +kernel) (by decide +kernel),
  ps_lln (kf := 1) (by decide +kernel) rfl,
  ps_lconst (n := 0) (by decide +kernel) (by decide +kernel),
  ps_ldc2 (n := 101) (by decide +kernel) wd_762,
  ps_callS ce_X9_within wd_726 wd_725 ⟨by decide +kernel, by decide +kernel⟩ rfl rfl rfl (by decide +kernel),
  ps_ifeq (off := 28) (by decide +kernel) (by decide +kernel),
  ps_ll (by decide +kernel),
  ps_lconst (n := 0) (by decide +kernel) (by decide +kernel),
  ps_ldc2 (n := 103) (by decide +kernel) wd_763,
  ps_callS ce_X9_within wd_726 wd_725 ⟨by decide +kernel, by decide +kernel⟩ rfl rfl rfl (by decide +kernel),
  ps_ifeq (off := 16) (by decide +kernel) (by decide +kernel),
  ps_ll (by decide +kernel),
  ps_ll (by decide +kernel),
  ps_ldc2 (n := 103) (by decide +kernel) wd_763,
  ps_callS ce_X9_within wd_726 wd_725 ⟨by decide +kernel, by decide +kernel⟩ rfl rfl rfl (by decide +kernel),
  ps_ifne (off := 5) (by decide +kernel) (by decide +kernel),
  ps_iconst (n := 0) (by decide +kernel) (by decide +kernel),
  ps_zret (by decide +kernel) rfl rfl rfl,
  ps_aln (kf := 0) (by decide +kernel) rfl,
  ps_lln (kf := 1) (by decide +kernel) rfl,
  ps_l2i (by decide +kernel),
  ps_ll (by decide +kernel),
  ps_ll (by decide +kernel),
  ps_callV cl_9 rfl ce_X9_putMaster wd_661 wp_13 wd_659 ⟨by decide +kernel, by decide +kernel⟩ rfl rfl rfl (by decide +kernel),
  ps_iconst (n := 1) (by decide +kernel) (by decide +kernel),
  ps_zret (by decide +kernel) rfl rfl rfl, trivial⟩
def tX9_readLeap : pm_Cd := [(0, po_al 0), (1, po_callV 9 94 0 7), (4, po_ls 1), (5, po_al 0), (6, po_ic (44)), (8, po_callV 9 95 1 3), (11, po_is 3), (12, po_al 0), (13, po_callV 9 94 0 7), (16, po_ls 4), (18, po_al 0), (19, po_ic (44)), (21, po_callV 9 95 1 3), (24, po_is 6), (26, po_al 0), (27, po_callV 9 94 0 7), (30, po_ls 7), (32, po_al 0), (33, po_ic (44)), (35, po_callV 9 95 1 3), (38, po_is 9), (40, po_al 0), (41, po_callV 9 94 0 7), (44, po_ls 10), (46, po_il 3), (47, po_ifeq 108), (50, po_il 6), (52, po_ifeq 108), (55, po_il 9), (57, po_ifeq 108), (60, po_ll 1), (61, po_lc (0)), (62, po_lc (1000000000000)), (65, po_callS 89 3 6), (68, po_ifeq 108), (71, po_ll 4), (73, po_lc (1)), (74, po_lc (1000)), (77, po_callS 89 3 6), (80, po_ifeq 108), (83, po_ll 7), (85, po_ll 4), (87, po_lc (1)), (88, po_ladd), (89, po_lc (1000000000)), (92, po_callS 89 3 6), (95, po_ifeq 108), (98, po_ll 10), (100, po_lc (0)), (101, po_lc (1)), (102, po_callS 89 3 6), (105, po_ifne 110), (108, po_ic (0)), (109, po_zret .boolean), (110, po_al 0), (111, po_ll 1), (112, po_ll 4), (114, po_ll 7), (116, po_ll 10), (118, po_callV 9 92 4 9), (121, po_ic (1)), (122, po_zret .boolean)]
set_option maxRecDepth 100000 in
theorem aX9_readLeap (E : pm_E) : pm_All E 97 (tX9_readLeap) :=
  ⟨ps_aln (kf := 0) (by decide +kernel) rfl,
  ps_callV cl_9 rfl ce_X9_takeNumber wd_746 wp_17 wd_744 ⟨by decide +kernel, by decide +kernel⟩ rfl rfl rfl (by decide +kernel),
  ps_lsn (kf := 1) (by decide +kernel) rfl (by decide +kernel),
  ps_aln (kf := 0) (by decide +kernel) rfl,
  ps_bipush (n := 44) (by decide +kernel) (by decide +kernel),
  ps_callV cl_9 rfl ce_X9_takeSign wd_760 wp_19 wd_758 ⟨by decide +kernel, by decide +kernel⟩ rfl rfl rfl (by decide +kernel),
  ps_isn (kf := 3) (by decide +kernel) rfl (by decide +kernel),
  ps_aln (kf := 0) (by decide +kernel) rfl,
  ps_callV cl_9 rfl ce_X9_takeNumber wd_746 wp_17 wd_744 ⟨by decide +kernel, by decide +kernel⟩ rfl rfl rfl (by decide +kernel),
  ps_ls (by decide +kernel) (by decide +kernel),
  ps_aln (kf := 0) (by decide +kernel) rfl,
  ps_bipush (n := 44) (by decide +kernel) (by decide +kernel),
  ps_callV cl_9 rfl ce_X9_takeSign wd_760 wp_19 wd_758 ⟨by decide +kernel, by decide +kernel⟩ rfl rfl rfl (by decide +kernel),
  ps_is (by decide +kernel) (by decide +kernel),
  ps_aln (kf := 0) (by decide +kernel) rfl,
  ps_callV cl_9 rfl ce_X9_takeNumber wd_746 wp_17 wd_744 ⟨by decide +kernel, by decide +kernel⟩ rfl rfl rfl (by decide +kernel),
  ps_ls (by decide +kernel) (by decide +kernel),
  ps_aln (kf := 0) (by decide +kernel) rfl,
  ps_bipush (n := 44) (by decide +kernel) (by decide +kernel),
  ps_callV cl_9 rfl ce_X9_takeSign wd_760 wp_19 wd_758 ⟨by decide +kernel, by decide +kernel⟩ rfl rfl rfl (by decide +kernel),
  ps_is (by decide +kernel) (by decide +kernel),
  ps_aln (kf := 0) (by decide +kernel) rfl,
  ps_callV cl_9 rfl ce_X9_takeNumber wd_746 wp_17 wd_744 ⟨by decide +kernel, by decide +kernel⟩ rfl rfl rfl (by decide +kernel),
  ps_ls (by decide +kernel) (by decide +kernel),
  ps_iln (kf := 3) (by decide +kernel) rfl,
  ps_ifeq (off := 61) (by decide +kernel) (by decide +kernel),
  ps_il (by decide +kernel),
  ps_ifeq (off := 56) (by decide +kernel) (by decide +kernel),
  ps_il (by decide +kernel),
  ps_ifeq (off := 51) (by decide +kernel) (by decide +kernel),
  ps_lln (kf := 1) (by decide +kernel) rfl,
  ps_lconst (n := 0) (by decide +kernel) (by decide +kernel),
  ps_ldc2 (n := 103) (by decide +kernel) wd_763,
  ps_callS ce_X9_within wd_726 wd_725 ⟨by decide +kernel, by decide +kernel⟩ rfl rfl rfl (by decide +kernel),
  ps_ifeq (off := 40) (by decide +kernel) (by decide +kernel),
  ps_ll (by decide +kernel),
  ps_lconst (n := 1) (by decide +kernel) (by decide +kernel),
  ps_ldc2 (n := 46) (by decide +kernel) wd_651,
  ps_callS ce_X9_within wd_726 wd_725 ⟨by decide +kernel, by decide +kernel⟩ rfl rfl rfl (by decide +kernel),
  ps_ifeq (off := 28) (by decide +kernel) (by decide +kernel),
  ps_ll (by decide +kernel),
  ps_ll (by decide +kernel),
  ps_lconst (n := 1) (by decide +kernel) (by decide +kernel),
  ps_ladd (by decide +kernel),
  ps_ldc2 (n := 105) (by decide +kernel) wd_768,
  ps_callS ce_X9_within wd_726 wd_725 ⟨by decide +kernel, by decide +kernel⟩ rfl rfl rfl (by decide +kernel),
  ps_ifeq (off := 13) (by decide +kernel) (by decide +kernel),
  ps_ll (by decide +kernel),
  ps_lconst (n := 0) (by decide +kernel) (by decide +kernel),
  ps_lconst (n := 1) (by decide +kernel) (by decide +kernel),
  ps_callS ce_X9_within wd_726 wd_725 ⟨by decide +kernel, by decide +kernel⟩ rfl rfl rfl (by decide +kernel),
  ps_ifne (off := 5) (by decide +kernel) (by decide +kernel),
  ps_iconst (n := 0) (by decide +kernel) (by decide +kernel),
  ps_zret (by decide +kernel) rfl rfl rfl,
  ps_aln (kf := 0) (by decide +kernel) rfl,
  ps_lln (kf := 1) (by decide +kernel) rfl,
  ps_ll (by decide +kernel),
  ps_ll (by decide +kernel),
  ps_ll (by decide +kernel),
  ps_callV cl_9 rfl ce_X9_putLeap wd_655 wp_12 wd_653 ⟨by decide +kernel, by decide +kernel⟩ rfl rfl rfl (by decide +kernel),
  ps_iconst (n := 1) (by decide +kernel) (by decide +kernel),
  ps_zret (by decide +kernel) rfl rfl rfl, trivial⟩
def tX9_readItem : pm_Cd := [(0, po_al 0), (1, po_get 9 3), (4, po_al 0), (5, po_get 9 5), (8, po_iald), (9, po_is 1), (10, po_al 0), (11, po_dup), (12, po_get 9 5), (15, po_ic (1)), (16, po_iadd), (17, po_put 9 5 .int), (20, po_ic (0)), (21, po_is 2), (22, po_il 1), (23, po_ic (100)), (25, po_icne 52), (28, po_al 0), (29, po_callV 9 94 0 7), (32, po_ls 3), (33, po_ll 3), (34, po_lc (0)), (35, po_lc (999999)), (38, po_callS 89 3 6), (41, po_is 2), (42, po_al 0), (43, po_get 9 6), (46, po_ic (1)), (47, po_ll 3), (48, po_last), (49, po_goto 77), (52, po_il 1), (53, po_ic (109)), (55, po_icne 66), (58, po_al 0), (59, po_callV 9 96 0 9), (62, po_is 2), (63, po_goto 77), (66, po_il 1), (67, po_ic (115)), (69, po_icne 77), (72, po_al 0), (73, po_callV 9 97 0 12), (76, po_is 2), (77, po_il 2), (78, po_ifeq 94), (81, po_al 0), (82, po_ic (59)), (84, po_callV 9 95 1 3), (87, po_ifeq 94), (90, po_ic (1)), (91, po_goto 95), (94, po_ic (0)), (95, po_zret .boolean)]
set_option maxRecDepth 100000 in
theorem aX9_readItem (E : pm_E) : pm_All E 98 (tX9_readItem) :=
  ⟨ps_aln (kf := 0) (by decide +kernel) rfl,
  ps_get cl_9 (k := 3) (by decide) wd_676 (by decide +kernel),
  ps_aln (kf := 0) (by decide +kernel) rfl,
  ps_get cl_9 (k := 5) (by decide) wd_678 (by decide +kernel),
  ps_iald (by decide +kernel),
  ps_isn (kf := 1) (by decide +kernel) rfl (by decide +kernel),
  ps_aln (kf := 0) (by decide +kernel) rfl,
  ps_dup (by decide +kernel),
  ps_get cl_9 (k := 5) (by decide) wd_678 (by decide +kernel),
  ps_iconst (n := 1) (by decide +kernel) (by decide +kernel),
  ps_iadd (by decide +kernel),
  ps_put cl_9 (k := 5) (by decide) wd_678 rfl rfl (by decide +kernel),
  ps_iconst (n := 0) (by decide +kernel) (by decide +kernel),
  ps_isn (kf := 2) (by decide +kernel) rfl (by decide +kernel),
  ps_iln (kf := 1) (by decide +kernel) rfl,
  ps_bipush (n := 100) (by decide +kernel) (by decide +kernel),
  ps_icne (off := 27) (by decide +kernel) (by decide +kernel),
  ps_aln (kf := 0) (by decide +kernel) rfl,
  ps_callV cl_9 rfl ce_X9_takeNumber wd_746 wp_17 wd_744 ⟨by decide +kernel, by decide +kernel⟩ rfl rfl rfl (by decide +kernel),
  ps_lsn (kf := 3) (by decide +kernel) rfl (by decide +kernel),
  ps_lln (kf := 3) (by decide +kernel) rfl,
  ps_lconst (n := 0) (by decide +kernel) (by decide +kernel),
  ps_ldc2 (n := 107) (by decide +kernel) wd_753,
  ps_callS ce_X9_within wd_726 wd_725 ⟨by decide +kernel, by decide +kernel⟩ rfl rfl rfl (by decide +kernel),
  ps_isn (kf := 2) (by decide +kernel) rfl (by decide +kernel),
  ps_aln (kf := 0) (by decide +kernel) rfl,
  ps_get cl_9 (k := 6) (by decide) wd_679 (by decide +kernel),
  ps_iconst (n := 1) (by decide +kernel) (by decide +kernel),
  ps_lln (kf := 3) (by decide +kernel) rfl,
  ps_last (by decide +kernel),
  ps_goto (off := 28) (by decide +kernel) (by decide +kernel),
  ps_iln (kf := 1) (by decide +kernel) rfl,
  ps_bipush (n := 109) (by decide +kernel) (by decide +kernel),
  ps_icne (off := 11) (by decide +kernel) (by decide +kernel),
  ps_aln (kf := 0) (by decide +kernel) rfl,
  ps_callV cl_9 rfl ce_X9_readMaster wd_756 wp_18 wd_754 ⟨by decide +kernel, by decide +kernel⟩ rfl rfl rfl (by decide +kernel),
  ps_isn (kf := 2) (by decide +kernel) rfl (by decide +kernel),
  ps_goto (off := 14) (by decide +kernel) (by decide +kernel),
  ps_iln (kf := 1) (by decide +kernel) rfl,
  ps_bipush (n := 115) (by decide +kernel) (by decide +kernel),
  ps_icne (off := 8) (by decide +kernel) (by decide +kernel),
  ps_aln (kf := 0) (by decide +kernel) rfl,
  ps_callV cl_9 rfl ce_X9_readLeap wd_766 wp_20 wd_764 ⟨by decide +kernel, by decide +kernel⟩ rfl rfl rfl (by decide +kernel),
  ps_isn (kf := 2) (by decide +kernel) rfl (by decide +kernel),
  ps_iln (kf := 2) (by decide +kernel) rfl,
  ps_ifeq (off := 16) (by decide +kernel) (by decide +kernel),
  ps_aln (kf := 0) (by decide +kernel) rfl,
  ps_bipush (n := 59) (by decide +kernel) (by decide +kernel),
  ps_callV cl_9 rfl ce_X9_takeSign wd_760 wp_19 wd_758 ⟨by decide +kernel, by decide +kernel⟩ rfl rfl rfl (by decide +kernel),
  ps_ifeq (off := 7) (by decide +kernel) (by decide +kernel),
  ps_iconst (n := 1) (by decide +kernel) (by decide +kernel),
  ps_goto (off := 4) (by decide +kernel) (by decide +kernel),
  ps_iconst (n := 0) (by decide +kernel) (by decide +kernel),
  ps_zret (by decide +kernel) rfl rfl rfl, trivial⟩
def tX9_readText : pm_Cd := [(0, po_al 0), (1, po_callV 9 90 0 2), (4, po_al 0), (5, po_ic (0)), (6, po_put 9 5 .int), (9, po_mark), (9, po_al 0), (10, po_get 9 5), (13, po_al 0), (14, po_get 9 4), (17, po_icge 37), (20, po_al 0), (21, po_get 9 5), (24, po_is 1), (25, po_al 0), (26, po_callV 9 98 0 5), (29, po_ifne 34), (32, po_il 1), (33, po_iret), (34, po_goto 9), (37, po_ic (-4)), (39, po_iret)]
set_option maxRecDepth 100000 in
theorem aX9_readText (E : pm_E) : pm_All E 99 (tX9_readText) :=
  ⟨ps_aln (kf := 0) (by decide +kernel) rfl,
  ps_callV cl_9 rfl ce_X9_begin wd_649 wp_11 wd_647 ⟨by decide +kernel, by decide +kernel⟩ rfl rfl rfl (by decide +kernel),
  ps_aln (kf := 0) (by decide +kernel) rfl,
  ps_iconst (n := 0) (by decide +kernel) (by decide +kernel),
  ps_put cl_9 (k := 5) (by decide) wd_678 rfl rfl (by decide +kernel),
  ps_mark,
  ps_aln (kf := 0) (by decide +kernel) rfl,
  ps_get cl_9 (k := 5) (by decide) wd_678 (by decide +kernel),
  ps_aln (kf := 0) (by decide +kernel) rfl,
  ps_get cl_9 (k := 4) (by decide) wd_677 (by decide +kernel),
  ps_icge (off := 20) (by decide +kernel) (by decide +kernel),
  ps_aln (kf := 0) (by decide +kernel) rfl,
  ps_get cl_9 (k := 5) (by decide) wd_678 (by decide +kernel),
  ps_isn (kf := 1) (by decide +kernel) rfl (by decide +kernel),
  ps_aln (kf := 0) (by decide +kernel) rfl,
  ps_callV cl_9 rfl ce_X9_readItem wd_742 wp_16 wd_740 ⟨by decide +kernel, by decide +kernel⟩ rfl rfl rfl (by decide +kernel),
  ps_ifne (off := 5) (by decide +kernel) (by decide +kernel),
  ps_iln (kf := 1) (by decide +kernel) rfl,
  ps_iret (by decide +kernel) rfl rfl rfl,
  ps_goto (off := -25) (by decide +kernel) (by decide +kernel),
  ps_bipush (n := -4) (by decide +kernel) (by decide +kernel),
  ps_iret (by decide +kernel) rfl rfl rfl, trivial⟩
def tX9_write : pm_Cd := [(0, po_il 1), (1, po_i2l), (2, po_lc (32)), (5, po_lc (126)), (8, po_callS 89 3 6), (11, po_ifne 16), (14, po_ic (-1)), (15, po_iret), (16, po_al 0), (17, po_get 9 4), (20, po_ic (200)), (23, po_icne 29), (26, po_ic (-3)), (28, po_iret), (29, po_al 0), (30, po_get 9 3), (33, po_al 0), (34, po_get 9 4), (37, po_il 1), (38, po_iast), (39, po_al 0), (40, po_dup), (41, po_get 9 4), (44, po_ic (1)), (45, po_iadd), (46, po_put 9 4 .int), (49, po_al 0), (50, po_get 9 4), (53, po_iret)]
set_option maxRecDepth 100000 in
theorem aX9_write (E : pm_E) : pm_All E 100 (tX9_write) :=
  ⟨ps_iln (kf := 1) (by decide +kernel) rfl,
  ps_i2l (by decide +kernel),
  ps_ldc2 (n := 119) (by decide +kernel) wd_723,
  ps_ldc2 (n := 121) (by decide +kernel) wd_724,
  ps_callS ce_X9_within wd_726 wd_725 ⟨by decide +kernel, by decide +kernel⟩ rfl rfl rfl (by decide +kernel),
  ps_ifne (off := 5) (by decide +kernel) (by decide +kernel),
  ps_iconst (n := -1) (by decide +kernel) (by decide +kernel),
  ps_iret (by decide +kernel) rfl rfl rfl,
  ps_aln (kf := 0) (by decide +kernel) rfl,
  ps_get cl_9 (k := 4) (by decide) wd_677 (by decide +kernel),
  ps_sipush (n := 200) (by decide +kernel) (by decide +kernel),
  ps_icne (off := 6) (by decide +kernel) (by decide +kernel),
  ps_bipush (n := -3) (by decide +kernel) (by decide +kernel),
  ps_iret (by decide +kernel) rfl rfl rfl,
  ps_aln (kf := 0) (by decide +kernel) rfl,
  ps_get cl_9 (k := 3) (by decide) wd_676 (by decide +kernel),
  ps_aln (kf := 0) (by decide +kernel) rfl,
  ps_get cl_9 (k := 4) (by decide) wd_677 (by decide +kernel),
  ps_iln (kf := 1) (by decide +kernel) rfl,
  ps_iast (by decide +kernel),
  ps_aln (kf := 0) (by decide +kernel) rfl,
  ps_dup (by decide +kernel),
  ps_get cl_9 (k := 4) (by decide) wd_677 (by decide +kernel),
  ps_iconst (n := 1) (by decide +kernel) (by decide +kernel),
  ps_iadd (by decide +kernel),
  ps_put cl_9 (k := 4) (by decide) wd_677 rfl rfl (by decide +kernel),
  ps_aln (kf := 0) (by decide +kernel) rfl,
  ps_get cl_9 (k := 4) (by decide) wd_677 (by decide +kernel),
  ps_iret (by decide +kernel) rfl rfl rfl, trivial⟩
def tX9_wipe : pm_Cd := [(0, po_al 0), (1, po_get 9 4), (4, po_is 1), (5, po_al 0), (6, po_ic (0)), (7, po_put 9 4 .int), (10, po_il 1), (11, po_iret)]
set_option maxRecDepth 100000 in
theorem aX9_wipe (E : pm_E) : pm_All E 101 (tX9_wipe) :=
  ⟨ps_aln (kf := 0) (by decide +kernel) rfl,
  ps_get cl_9 (k := 4) (by decide) wd_677 (by decide +kernel),
  ps_isn (kf := 1) (by decide +kernel) rfl (by decide +kernel),
  ps_aln (kf := 0) (by decide +kernel) rfl,
  ps_iconst (n := 0) (by decide +kernel) (by decide +kernel),
  ps_put cl_9 (k := 4) (by decide) wd_677 rfl rfl (by decide +kernel),
  ps_iln (kf := 1) (by decide +kernel) rfl,
  ps_iret (by decide +kernel) rfl rfl rfl, trivial⟩
def tX9_fault : pm_Cd := [(0, po_al 0), (1, po_callV 9 99 0 2), (4, po_iret)]
set_option maxRecDepth 100000 in
theorem aX9_fault (E : pm_E) : pm_All E 102 (tX9_fault) :=
  ⟨ps_aln (kf := 0) (by decide +kernel) rfl,
  ps_callV cl_9 rfl ce_X9_readText wd_738 wp_15 wd_736 ⟨by decide +kernel, by decide +kernel⟩ rfl rfl rfl (by decide +kernel),
  ps_iret (by decide +kernel) rfl rfl rfl, trivial⟩
def tX9_lay : pm_Cd := [(0, po_al 0), (1, po_callV 9 99 0 2), (4, po_ic (-4)), (6, po_iceq 12), (9, po_ic (-2)), (11, po_iret), (12, po_al 0), (13, po_callV 9 93 0 2), (16, po_al 0), (17, po_callV 9 109 0 3), (20, po_iret)]
set_option maxRecDepth 100000 in
theorem aX9_lay (E : pm_E) : pm_All E 103 (tX9_lay) :=
  ⟨ps_aln (kf := 0) (by decide +kernel) rfl,
  ps_callV cl_9 rfl ce_X9_readText wd_738 wp_15 wd_736 ⟨by decide +kernel, by decide +kernel⟩ rfl rfl rfl (by decide +kernel),
  ps_bipush (n := -4) (by decide +kernel) (by decide +kernel),
  ps_iceq (off := 6) (by decide +kernel) (by decide +kernel),
  ps_bipush (n := -2) (by decide +kernel) (by decide +kernel),
  ps_iret (by decide +kernel) rfl rfl rfl,
  ps_aln (kf := 0) (by decide +kernel) rfl,
  ps_callV cl_9 rfl ce_X9_take wd_671 wp_14 wd_669 ⟨by decide +kernel, by decide +kernel⟩ rfl rfl rfl (by decide +kernel),
  ps_aln (kf := 0) (by decide +kernel) rfl,
  ps_callV cl_9 rfl ce_X9_heardMany wd_775 wp_21 wd_773 ⟨by decide +kernel, by decide +kernel⟩ rfl rfl rfl (by decide +kernel),
  ps_iret (by decide +kernel) rfl rfl rfl, trivial⟩
def tX9_note : pm_Cd := [(0, po_al 0), (1, po_get 9 2), (4, po_ic (6)), (6, po_icne 49), (9, po_ic (0)), (10, po_is 1), (11, po_mark), (11, po_il 1), (12, po_ic (540)), (15, po_icge 39), (18, po_al 0), (19, po_get 9 1), (22, po_il 1), (23, po_al 0), (24, po_get 9 1), (27, po_il 1), (28, po_ic (108)), (30, po_iadd), (31, po_lald), (32, po_last), (33, po_iinc 1 (1)), (36, po_goto 11), (39, po_al 0), (40, po_dup), (41, po_get 9 2), (44, po_ic (1)), (45, po_isub), (46, po_put 9 2 .int), (49, po_ic (0)), (50, po_is 1), (51, po_mark), (51, po_il 1), (52, po_ic (108)), (54, po_icge 83), (57, po_al 0), (58, po_get 9 1), (61, po_ic (108)), (63, po_al 0), (64, po_get 9 2), (67, po_imul), (68, po_il 1), (69, po_iadd), (70, po_al 0), (71, po_get 9 0), (74, po_il 1), (75, po_lald), (76, po_last), (77, po_iinc 1 (1)), (80, po_goto 51), (83, po_al 0), (84, po_dup), (85, po_get 9 2), (88, po_ic (1)), (89, po_iadd), (90, po_put 9 2 .int), (93, po_vret)]
set_option maxRecDepth 100000 in
theorem aX9_note (E : pm_E) : pm_All E 104 (tX9_note) :=
  ⟨ps_aln (kf := 0) (by decide +kernel) rfl,
  ps_get cl_9 (k := 2) (by decide) wd_675 (by decide +kernel),
  ps_bipush (n := 6) (by decide +kernel) (by decide +kernel),
  ps_icne (off := 43) (by decide +kernel) (by decide +kernel),
  ps_iconst (n := 0) (by decide +kernel) (by decide +kernel),
  ps_isn (kf := 1) (by decide +kernel) rfl (by decide +kernel),
  ps_mark,
  ps_iln (kf := 1) (by decide +kernel) rfl,
  ps_sipush (n := 540) (by decide +kernel) (by decide +kernel),
  ps_icge (off := 24) (by decide +kernel) (by decide +kernel),
  ps_aln (kf := 0) (by decide +kernel) rfl,
  ps_get cl_9 (k := 1) (by decide) wd_674 (by decide +kernel),
  ps_iln (kf := 1) (by decide +kernel) rfl,
  ps_aln (kf := 0) (by decide +kernel) rfl,
  ps_get cl_9 (k := 1) (by decide) wd_674 (by decide +kernel),
  ps_iln (kf := 1) (by decide +kernel) rfl,
  ps_bipush (n := 108) (by decide +kernel) (by decide +kernel),
  ps_iadd (by decide +kernel),
  ps_lald (by decide +kernel),
  ps_last (by decide +kernel),
  ps_iinc (n := 1) (by decide +kernel) (by decide +kernel) (by decide +kernel),
  ps_goto (off := -25) (by decide +kernel) (by decide +kernel),
  ps_aln (kf := 0) (by decide +kernel) rfl,
  ps_dup (by decide +kernel),
  ps_get cl_9 (k := 2) (by decide) wd_675 (by decide +kernel),
  ps_iconst (n := 1) (by decide +kernel) (by decide +kernel),
  ps_isub (by decide +kernel),
  ps_put cl_9 (k := 2) (by decide) wd_675 rfl rfl (by decide +kernel),
  ps_iconst (n := 0) (by decide +kernel) (by decide +kernel),
  ps_isn (kf := 1) (by decide +kernel) rfl (by decide +kernel),
  ps_mark,
  ps_iln (kf := 1) (by decide +kernel) rfl,
  ps_bipush (n := 108) (by decide +kernel) (by decide +kernel),
  ps_icge (off := 29) (by decide +kernel) (by decide +kernel),
  ps_aln (kf := 0) (by decide +kernel) rfl,
  ps_get cl_9 (k := 1) (by decide) wd_674 (by decide +kernel),
  ps_bipush (n := 108) (by decide +kernel) (by decide +kernel),
  ps_aln (kf := 0) (by decide +kernel) rfl,
  ps_get cl_9 (k := 2) (by decide) wd_675 (by decide +kernel),
  ps_imul (by decide +kernel),
  ps_iln (kf := 1) (by decide +kernel) rfl,
  ps_iadd (by decide +kernel),
  ps_aln (kf := 0) (by decide +kernel) rfl,
  ps_get cl_9 (k := 0) (by decide) wd_673 (by decide +kernel),
  ps_iln (kf := 1) (by decide +kernel) rfl,
  ps_lald (by decide +kernel),
  ps_last (by decide +kernel),
  ps_iinc (n := 1) (by decide +kernel) (by decide +kernel) (by decide +kernel),
  ps_goto (off := -29) (by decide +kernel) (by decide +kernel),
  ps_aln (kf := 0) (by decide +kernel) rfl,
  ps_dup (by decide +kernel),
  ps_get cl_9 (k := 2) (by decide) wd_675 (by decide +kernel),
  ps_iconst (n := 1) (by decide +kernel) (by decide +kernel),
  ps_iadd (by decide +kernel),
  ps_put cl_9 (k := 2) (by decide) wd_675 rfl rfl (by decide +kernel),
  ps_vret (by decide +kernel) rfl rfl rfl, trivial⟩
def tX9_undo : pm_Cd := [(0, po_al 0), (1, po_get 9 2), (4, po_ifne 10), (7, po_ic (-2)), (9, po_iret), (10, po_al 0), (11, po_dup), (12, po_get 9 2), (15, po_ic (1)), (16, po_isub), (17, po_put 9 2 .int), (20, po_ic (0)), (21, po_is 1), (22, po_mark), (22, po_il 1), (23, po_ic (108)), (25, po_icge 54), (28, po_al 0), (29, po_get 9 0), (32, po_il 1), (33, po_al 0), (34, po_get 9 1), (37, po_ic (108)), (39, po_al 0), (40, po_get 9 2), (43, po_imul), (44, po_il 1), (45, po_iadd), (46, po_lald), (47, po_last), (48, po_iinc 1 (1)), (51, po_goto 22), (54, po_al 0), (55, po_get 9 2), (58, po_iret)]
set_option maxRecDepth 100000 in
theorem aX9_undo (E : pm_E) : pm_All E 105 (tX9_undo) :=
  ⟨ps_aln (kf := 0) (by decide +kernel) rfl,
  ps_get cl_9 (k := 2) (by decide) wd_675 (by decide +kernel),
  ps_ifne (off := 6) (by decide +kernel) (by decide +kernel),
  ps_bipush (n := -2) (by decide +kernel) (by decide +kernel),
  ps_iret (by decide +kernel) rfl rfl rfl,
  ps_aln (kf := 0) (by decide +kernel) rfl,
  ps_dup (by decide +kernel),
  ps_get cl_9 (k := 2) (by decide) wd_675 (by decide +kernel),
  ps_iconst (n := 1) (by decide +kernel) (by decide +kernel),
  ps_isub (by decide +kernel),
  ps_put cl_9 (k := 2) (by decide) wd_675 rfl rfl (by decide +kernel),
  ps_iconst (n := 0) (by decide +kernel) (by decide +kernel),
  ps_isn (kf := 1) (by decide +kernel) rfl (by decide +kernel),
  ps_mark,
  ps_iln (kf := 1) (by decide +kernel) rfl,
  ps_bipush (n := 108) (by decide +kernel) (by decide +kernel),
  ps_icge (off := 29) (by decide +kernel) (by decide +kernel),
  ps_aln (kf := 0) (by decide +kernel) rfl,
  ps_get cl_9 (k := 0) (by decide) wd_673 (by decide +kernel),
  ps_iln (kf := 1) (by decide +kernel) rfl,
  ps_aln (kf := 0) (by decide +kernel) rfl,
  ps_get cl_9 (k := 1) (by decide) wd_674 (by decide +kernel),
  ps_bipush (n := 108) (by decide +kernel) (by decide +kernel),
  ps_aln (kf := 0) (by decide +kernel) rfl,
  ps_get cl_9 (k := 2) (by decide) wd_675 (by decide +kernel),
  ps_imul (by decide +kernel),
  ps_iln (kf := 1) (by decide +kernel) rfl,
  ps_iadd (by decide +kernel),
  ps_lald (by decide +kernel),
  ps_last (by decide +kernel),
  ps_iinc (n := 1) (by decide +kernel) (by decide +kernel) (by decide +kernel),
  ps_goto (off := -29) (by decide +kernel) (by decide +kernel),
  ps_aln (kf := 0) (by decide +kernel) rfl,
  ps_get cl_9 (k := 2) (by decide) wd_675 (by decide +kernel),
  ps_iret (by decide +kernel) rfl rfl rfl, trivial⟩
def tX9_isMaster : pm_Cd := [(0, po_il 0), (1, po_i2l), (2, po_lc (0)), (3, po_lc (5)), (6, po_callS 89 3 6), (9, po_zret .boolean)]
set_option maxRecDepth 100000 in
theorem aX9_isMaster (E : pm_E) : pm_All E 106 (tX9_isMaster) :=
  ⟨ps_iln (kf := 0) (by decide +kernel) rfl,
  ps_i2l (by decide +kernel),
  ps_lconst (n := 0) (by decide +kernel) (by decide +kernel),
  ps_ldc2 (n := 101) (by decide +kernel) wd_762,
  ps_callS ce_X9_within wd_726 wd_725 ⟨by decide +kernel, by decide +kernel⟩ rfl rfl rfl (by decide +kernel),
  ps_zret (by decide +kernel) rfl rfl rfl, trivial⟩
def tX9_isStruck : pm_Cd := [(0, po_al 0), (1, po_get 9 0), (4, po_ic (2)), (5, po_lald), (6, po_il 1), (7, po_lshr), (8, po_lc (1)), (9, po_land), (10, po_lc (1)), (11, po_lcne 19), (15, po_ic (1)), (16, po_goto 20), (19, po_ic (0)), (20, po_zret .boolean)]
set_option maxRecDepth 100000 in
theorem aX9_isStruck (E : pm_E) : pm_All E 107 (tX9_isStruck) :=
  ⟨ps_aln (kf := 0) (by decide +kernel) rfl,
  ps_get cl_9 (k := 0) (by decide) wd_673 (by decide +kernel),
  ps_iconst (n := 2) (by decide +kernel) (by decide +kernel),
  ps_lald (by decide +kernel),
  ps_iln (kf := 1) (by decide +kernel) rfl,
  ps_lshr (by decide +kernel),
  ps_lconst (n := 1) (by decide +kernel) (by decide +kernel),
  ps_land (by decide +kernel),
  ps_lconst (n := 1) (by decide +kernel) (by decide +kernel),
  ps_lcne (off := 7) (by decide +kernel) (by decide +kernel) (by decide +kernel),
  ps_iconst (n := 1) (by decide +kernel) (by decide +kernel),
  ps_goto (off := 4) (by decide +kernel) (by decide +kernel),
  ps_iconst (n := 0) (by decide +kernel) (by decide +kernel),
  ps_zret (by decide +kernel) rfl rfl rfl, trivial⟩
def tX9_isHeard : pm_Cd := [(0, po_al 0), (1, po_get 9 0), (4, po_ic (4)), (5, po_ic (4)), (6, po_il 1), (7, po_imul), (8, po_iadd), (9, po_lald), (10, po_lc (1)), (11, po_lcne 27), (15, po_al 0), (16, po_il 1), (17, po_callV 9 107 1 2), (20, po_ifne 27), (23, po_ic (1)), (24, po_goto 28), (27, po_ic (0)), (28, po_zret .boolean)]
set_option maxRecDepth 100000 in
theorem aX9_isHeard (E : pm_E) : pm_All E 108 (tX9_isHeard) :=
  ⟨ps_aln (kf := 0) (by decide +kernel) rfl,
  ps_get cl_9 (k := 0) (by decide) wd_673 (by decide +kernel),
  ps_iconst (n := 4) (by decide +kernel) (by decide +kernel),
  ps_iconst (n := 4) (by decide +kernel) (by decide +kernel),
  ps_iln (kf := 1) (by decide +kernel) rfl,
  ps_imul (by decide +kernel),
  ps_iadd (by decide +kernel),
  ps_lald (by decide +kernel),
  ps_lconst (n := 1) (by decide +kernel) (by decide +kernel),
  ps_lcne (off := 15) (by decide +kernel) (by decide +kernel) (by decide +kernel),
  ps_aln (kf := 0) (by decide +kernel) rfl,
  ps_iln (kf := 1) (by decide +kernel) rfl,
  ps_callV cl_9 rfl ce_X9_isStruck wd_783 wp_23 wd_781 ⟨by decide +kernel, by decide +kernel⟩ rfl rfl rfl (by decide +kernel),
  ps_ifne (off := 7) (by decide +kernel) (by decide +kernel),
  ps_iconst (n := 1) (by decide +kernel) (by decide +kernel),
  ps_goto (off := 4) (by decide +kernel) (by decide +kernel),
  ps_iconst (n := 0) (by decide +kernel) (by decide +kernel),
  ps_zret (by decide +kernel) rfl rfl rfl, trivial⟩
def tX9_heardMany : pm_Cd := [(0, po_ic (0)), (1, po_is 1), (2, po_ic (0)), (3, po_is 2), (4, po_mark), (4, po_il 2), (5, po_ic (6)), (7, po_icge 32), (10, po_il 1), (11, po_al 0), (12, po_il 2), (13, po_callV 9 108 1 2), (16, po_ifeq 23), (19, po_ic (1)), (20, po_goto 24), (23, po_ic (0)), (24, po_iadd), (25, po_is 1), (26, po_iinc 2 (1)), (29, po_goto 4), (32, po_il 1), (33, po_iret)]
set_option maxRecDepth 100000 in
theorem aX9_heardMany (E : pm_E) : pm_All E 109 (tX9_heardMany) :=
  ⟨ps_iconst (n := 0) (by decide +kernel) (by decide +kernel),
  ps_isn (kf := 1) (by decide +kernel) rfl (by decide +kernel),
  ps_iconst (n := 0) (by decide +kernel) (by decide +kernel),
  ps_isn (kf := 2) (by decide +kernel) rfl (by decide +kernel),
  ps_mark,
  ps_iln (kf := 2) (by decide +kernel) rfl,
  ps_bipush (n := 6) (by decide +kernel) (by decide +kernel),
  ps_icge (off := 25) (by decide +kernel) (by decide +kernel),
  ps_iln (kf := 1) (by decide +kernel) rfl,
  ps_aln (kf := 0) (by decide +kernel) rfl,
  ps_iln (kf := 2) (by decide +kernel) rfl,
  ps_callV cl_9 rfl ce_X9_isHeard wd_779 wp_22 wd_777 ⟨by decide +kernel, by decide +kernel⟩ rfl rfl rfl (by decide +kernel),
  ps_ifeq (off := 7) (by decide +kernel) (by decide +kernel),
  ps_iconst (n := 1) (by decide +kernel) (by decide +kernel),
  ps_goto (off := 4) (by decide +kernel) (by decide +kernel),
  ps_iconst (n := 0) (by decide +kernel) (by decide +kernel),
  ps_iadd (by decide +kernel),
  ps_isn (kf := 1) (by decide +kernel) rfl (by decide +kernel),
  ps_iinc (n := 1) (by decide +kernel) (by decide +kernel) (by decide +kernel),
  ps_goto (off := -25) (by decide +kernel) (by decide +kernel),
  ps_iln (kf := 1) (by decide +kernel) rfl,
  ps_iret (by decide +kernel) rfl rfl rfl, trivial⟩
def tX9_tell : pm_Cd := [(0, po_il 1), (1, po_callS 106 1 1), (4, po_ifeq 30), (7, po_ll 2), (8, po_lc (0)), (9, po_lc (1000000000000)), (12, po_callS 89 3 6), (15, po_ifeq 30), (18, po_ll 4), (20, po_ll 2), (21, po_lc (1000000000000)), (24, po_callS 89 3 6), (27, po_ifne 32), (30, po_ic (-1)), (31, po_iret), (32, po_al 0), (33, po_callV 9 104 0 2), (36, po_al 0), (37, po_get 9 0), (40, po_ic (4)), (41, po_ic (4)), (42, po_il 1), (43, po_imul), (44, po_iadd), (45, po_lc (1)), (46, po_last), (47, po_al 0), (48, po_get 9 0), (51, po_ic (4)), (52, po_ic (4)), (53, po_il 1), (54, po_imul), (55, po_iadd), (56, po_ic (1)), (57, po_iadd), (58, po_ll 2), (59, po_last), (60, po_al 0), (61, po_get 9 0), (64, po_ic (4)), (65, po_ic (4)), (66, po_il 1), (67, po_imul), (68, po_iadd), (69, po_ic (2)), (70, po_iadd), (71, po_ll 4), (73, po_last), (74, po_al 0), (75, po_get 9 0), (78, po_ic (4)), (79, po_ic (4)), (80, po_il 1), (81, po_imul), (82, po_iadd), (83, po_ic (3)), (84, po_iadd), (85, po_al 0), (86, po_get 9 0), (89, po_ic (0)), (90, po_lald), (91, po_last), (92, po_al 0), (93, po_callV 9 109 0 3), (96, po_iret)]
set_option maxRecDepth 100000 in
theorem aX9_tell (E : pm_E) : pm_All E 110 (tX9_tell) :=
  ⟨ps_iln (kf := 1) (by decide +kernel) rfl,
  ps_callS ce_X9_isMaster wd_794 wd_793 ⟨by decide +kernel, by decide +kernel⟩ rfl rfl rfl (by decide +kernel),
  ps_ifeq (off := 26) (by decide +kernel) (by decide +kernel),
  ps_lln (kf := 2) (by decide +kernel) rfl,
  ps_lconst (n := 0) (by decide +kernel) (by decide +kernel),
  ps_ldc2 (n := 103) (by decide +kernel) wd_763,
  ps_callS ce_X9_within wd_726 wd_725 ⟨by decide +kernel, by decide +kernel⟩ rfl rfl rfl (by decide +kernel),
  ps_ifeq (off := 15) (by decide +kernel) (by decide +kernel),
  ps_ll (by decide +kernel),
  ps_lln (kf := 2) (by decide +kernel) rfl,
  ps_ldc2 (n := 103) (by decide +kernel) wd_763,
  ps_callS ce_X9_within wd_726 wd_725 ⟨by decide +kernel, by decide +kernel⟩ rfl rfl rfl (by decide +kernel),
  ps_ifne (off := 5) (by decide +kernel) (by decide +kernel),
  ps_iconst (n := -1) (by decide +kernel) (by decide +kernel),
  ps_iret (by decide +kernel) rfl rfl rfl,
  ps_aln (kf := 0) (by decide +kernel) rfl,
  ps_callV cl_9 rfl ce_X9_note wd_798 wp_24 wd_796 ⟨by decide +kernel, by decide +kernel⟩ rfl rfl rfl (by decide +kernel),
  ps_aln (kf := 0) (by decide +kernel) rfl,
  ps_get cl_9 (k := 0) (by decide) wd_673 (by decide +kernel),
  ps_iconst (n := 4) (by decide +kernel) (by decide +kernel),
  ps_iconst (n := 4) (by decide +kernel) (by decide +kernel),
  ps_iln (kf := 1) (by decide +kernel) rfl,
  ps_imul (by decide +kernel),
  ps_iadd (by decide +kernel),
  ps_lconst (n := 1) (by decide +kernel) (by decide +kernel),
  ps_last (by decide +kernel),
  ps_aln (kf := 0) (by decide +kernel) rfl,
  ps_get cl_9 (k := 0) (by decide) wd_673 (by decide +kernel),
  ps_iconst (n := 4) (by decide +kernel) (by decide +kernel),
  ps_iconst (n := 4) (by decide +kernel) (by decide +kernel),
  ps_iln (kf := 1) (by decide +kernel) rfl,
  ps_imul (by decide +kernel),
  ps_iadd (by decide +kernel),
  ps_iconst (n := 1) (by decide +kernel) (by decide +kernel),
  ps_iadd (by decide +kernel),
  ps_lln (kf := 2) (by decide +kernel) rfl,
  ps_last (by decide +kernel),
  ps_aln (kf := 0) (by decide +kernel) rfl,
  ps_get cl_9 (k := 0) (by decide) wd_673 (by decide +kernel),
  ps_iconst (n := 4) (by decide +kernel) (by decide +kernel),
  ps_iconst (n := 4) (by decide +kernel) (by decide +kernel),
  ps_iln (kf := 1) (by decide +kernel) rfl,
  ps_imul (by decide +kernel),
  ps_iadd (by decide +kernel),
  ps_iconst (n := 2) (by decide +kernel) (by decide +kernel),
  ps_iadd (by decide +kernel),
  ps_ll (by decide +kernel),
  ps_last (by decide +kernel),
  ps_aln (kf := 0) (by decide +kernel) rfl,
  ps_get cl_9 (k := 0) (by decide) wd_673 (by decide +kernel),
  ps_iconst (n := 4) (by decide +kernel) (by decide +kernel),
  ps_iconst (n := 4) (by decide +kernel) (by decide +kernel),
  ps_iln (kf := 1) (by decide +kernel) rfl,
  ps_imul (by decide +kernel),
  ps_iadd (by decide +kernel),
  ps_iconst (n := 3) (by decide +kernel) (by decide +kernel),
  ps_iadd (by decide +kernel),
  ps_aln (kf := 0) (by decide +kernel) rfl,
  ps_get cl_9 (k := 0) (by decide) wd_673 (by decide +kernel),
  ps_iconst (n := 0) (by decide +kernel) (by decide +kernel),
  ps_lald (by decide +kernel),
  ps_last (by decide +kernel),
  ps_aln (kf := 0) (by decide +kernel) rfl,
  ps_callV cl_9 rfl ce_X9_heardMany wd_775 wp_21 wd_773 ⟨by decide +kernel, by decide +kernel⟩ rfl rfl rfl (by decide +kernel),
  ps_iret (by decide +kernel) rfl rfl rfl, trivial⟩
def tX9_strike : pm_Cd := [(0, po_il 1), (1, po_callS 106 1 1), (4, po_ifeq 17), (7, po_il 2), (8, po_i2l), (9, po_lc (0)), (10, po_lc (1)), (11, po_callS 89 3 6), (14, po_ifne 19), (17, po_ic (-1)), (18, po_iret), (19, po_al 0), (20, po_il 1), (21, po_callV 9 107 1 2), (24, po_il 2), (25, po_ic (1)), (26, po_icne 33), (29, po_ic (1)), (30, po_goto 34), (33, po_ic (0)), (34, po_icne 40), (37, po_ic (-2)), (39, po_iret), (40, po_al 0), (41, po_callV 9 104 0 2), (44, po_al 0), (45, po_get 9 0), (48, po_ic (2)), (49, po_dup2), (50, po_lald), (51, po_lc (1)), (52, po_il 1), (53, po_lshl), (54, po_lxor), (55, po_last), (56, po_al 0), (57, po_callV 9 109 0 3), (60, po_iret)]
set_option maxRecDepth 100000 in
theorem aX9_strike (E : pm_E) : pm_All E 111 (tX9_strike) :=
  ⟨ps_iln (kf := 1) (by decide +kernel) rfl,
  ps_callS ce_X9_isMaster wd_794 wd_793 ⟨by decide +kernel, by decide +kernel⟩ rfl rfl rfl (by decide +kernel),
  ps_ifeq (off := 13) (by decide +kernel) (by decide +kernel),
  ps_iln (kf := 2) (by decide +kernel) rfl,
  ps_i2l (by decide +kernel),
  ps_lconst (n := 0) (by decide +kernel) (by decide +kernel),
  ps_lconst (n := 1) (by decide +kernel) (by decide +kernel),
  ps_callS ce_X9_within wd_726 wd_725 ⟨by decide +kernel, by decide +kernel⟩ rfl rfl rfl (by decide +kernel),
  ps_ifne (off := 5) (by decide +kernel) (by decide +kernel),
  ps_iconst (n := -1) (by decide +kernel) (by decide +kernel),
  ps_iret (by decide +kernel) rfl rfl rfl,
  ps_aln (kf := 0) (by decide +kernel) rfl,
  ps_iln (kf := 1) (by decide +kernel) rfl,
  ps_callV cl_9 rfl ce_X9_isStruck wd_783 wp_23 wd_781 ⟨by decide +kernel, by decide +kernel⟩ rfl rfl rfl (by decide +kernel),
  ps_iln (kf := 2) (by decide +kernel) rfl,
  ps_iconst (n := 1) (by decide +kernel) (by decide +kernel),
  ps_icne (off := 7) (by decide +kernel) (by decide +kernel),
  ps_iconst (n := 1) (by decide +kernel) (by decide +kernel),
  ps_goto (off := 4) (by decide +kernel) (by decide +kernel),
  ps_iconst (n := 0) (by decide +kernel) (by decide +kernel),
  ps_icne (off := 6) (by decide +kernel) (by decide +kernel),
  ps_bipush (n := -2) (by decide +kernel) (by decide +kernel),
  ps_iret (by decide +kernel) rfl rfl rfl,
  ps_aln (kf := 0) (by decide +kernel) rfl,
  ps_callV cl_9 rfl ce_X9_note wd_798 wp_24 wd_796 ⟨by decide +kernel, by decide +kernel⟩ rfl rfl rfl (by decide +kernel),
  ps_aln (kf := 0) (by decide +kernel) rfl,
  ps_get cl_9 (k := 0) (by decide) wd_673 (by decide +kernel),
  ps_iconst (n := 2) (by decide +kernel) (by decide +kernel),
  ps_dup2 (by decide +kernel),
  ps_lald (by decide +kernel),
  ps_lconst (n := 1) (by decide +kernel) (by decide +kernel),
  ps_iln (kf := 1) (by decide +kernel) rfl,
  ps_lshl (by decide +kernel),
  ps_lxor (by decide +kernel),
  ps_last (by decide +kernel),
  ps_aln (kf := 0) (by decide +kernel) rfl,
  ps_callV cl_9 rfl ce_X9_heardMany wd_775 wp_21 wd_773 ⟨by decide +kernel, by decide +kernel⟩ rfl rfl rfl (by decide +kernel),
  ps_iret (by decide +kernel) rfl rfl rfl, trivial⟩
def tX9_strikeLiars : pm_Cd := [(0, po_al 0), (1, po_callV 9 125 0 4), (4, po_is 1), (5, po_il 1), (6, po_ifne 12), (9, po_ic (-2)), (11, po_iret), (12, po_al 0), (13, po_callV 9 104 0 2), (16, po_al 0), (17, po_get 9 0), (20, po_ic (2)), (21, po_dup2), (22, po_lald), (23, po_il 1), (24, po_i2l), (25, po_lor), (26, po_last), (27, po_il 1), (28, po_callS 127 1 3), (31, po_iret)]
set_option maxRecDepth 100000 in
theorem aX9_strikeLiars (E : pm_E) : pm_All E 112 (tX9_strikeLiars) :=
  ⟨ps_aln (kf := 0) (by decide +kernel) rfl,
  ps_callV cl_9 rfl ce_X9_liarsNow wd_810 wp_25 wd_808 ⟨by decide +kernel, by decide +kernel⟩ rfl rfl rfl (by decide +kernel),
  ps_isn (kf := 1) (by decide +kernel) rfl (by decide +kernel),
  ps_iln (kf := 1) (by decide +kernel) rfl,
  ps_ifne (off := 6) (by decide +kernel) (by decide +kernel),
  ps_bipush (n := -2) (by decide +kernel) (by decide +kernel),
  ps_iret (by decide +kernel) rfl rfl rfl,
  ps_aln (kf := 0) (by decide +kernel) rfl,
  ps_callV cl_9 rfl ce_X9_note wd_798 wp_24 wd_796 ⟨by decide +kernel, by decide +kernel⟩ rfl rfl rfl (by decide +kernel),
  ps_aln (kf := 0) (by decide +kernel) rfl,
  ps_get cl_9 (k := 0) (by decide) wd_673 (by decide +kernel),
  ps_iconst (n := 2) (by decide +kernel) (by decide +kernel),
  ps_dup2 (by decide +kernel),
  ps_lald (by decide +kernel),
  ps_iln (kf := 1) (by decide +kernel) rfl,
  ps_i2l (by decide +kernel),
  ps_lor (by decide +kernel),
  ps_last (by decide +kernel),
  ps_iln (kf := 1) (by decide +kernel) rfl,
  ps_callS ce_X9_ones wd_830 wd_829 ⟨by decide +kernel, by decide +kernel⟩ rfl rfl rfl (by decide +kernel),
  ps_iret (by decide +kernel) rfl rfl rfl, trivial⟩
def tX9_drift : pm_Cd := [(0, po_il 1), (1, po_i2l), (2, po_lc (0)), (3, po_lc (999999)), (6, po_callS 89 3 6), (9, po_ifne 14), (12, po_ic (-1)), (13, po_iret), (14, po_al 0), (15, po_get 9 0), (18, po_ic (1)), (19, po_lald), (20, po_il 1), (21, po_i2l), (22, po_lcne 29), (26, po_ic (-2)), (28, po_iret), (29, po_al 0), (30, po_callV 9 104 0 2), (33, po_al 0), (34, po_get 9 0), (37, po_ic (1)), (38, po_lald), (39, po_l2i), (40, po_is 2), (41, po_al 0), (42, po_get 9 0), (45, po_ic (1)), (46, po_il 1), (47, po_i2l), (48, po_last), (49, po_il 2), (50, po_iret)]
set_option maxRecDepth 100000 in
theorem aX9_drift (E : pm_E) : pm_All E 113 (tX9_drift) :=
  ⟨ps_iln (kf := 1) (by decide +kernel) rfl,
  ps_i2l (by decide +kernel),
  ps_lconst (n := 0) (by decide +kernel) (by decide +kernel),
  ps_ldc2 (n := 107) (by decide +kernel) wd_753,
  ps_callS ce_X9_within wd_726 wd_725 ⟨by decide +kernel, by decide +kernel⟩ rfl rfl rfl (by decide +kernel),
  ps_ifne (off := 5) (by decide +kernel) (by decide +kernel),
  ps_iconst (n := -1) (by decide +kernel) (by decide +kernel),
  ps_iret (by decide +kernel) rfl rfl rfl,
  ps_aln (kf := 0) (by decide +kernel) rfl,
  ps_get cl_9 (k := 0) (by decide) wd_673 (by decide +kernel),
  ps_iconst (n := 1) (by decide +kernel) (by decide +kernel),
  ps_lald (by decide +kernel),
  ps_iln (kf := 1) (by decide +kernel) rfl,
  ps_i2l (by decide +kernel),
  ps_lcne (off := 6) (by decide +kernel) (by decide +kernel) (by decide +kernel),
  ps_bipush (n := -2) (by decide +kernel) (by decide +kernel),
  ps_iret (by decide +kernel) rfl rfl rfl,
  ps_aln (kf := 0) (by decide +kernel) rfl,
  ps_callV cl_9 rfl ce_X9_note wd_798 wp_24 wd_796 ⟨by decide +kernel, by decide +kernel⟩ rfl rfl rfl (by decide +kernel),
  ps_aln (kf := 0) (by decide +kernel) rfl,
  ps_get cl_9 (k := 0) (by decide) wd_673 (by decide +kernel),
  ps_iconst (n := 1) (by decide +kernel) (by decide +kernel),
  ps_lald (by decide +kernel),
  ps_l2i (by decide +kernel),
  ps_isn (kf := 2) (by decide +kernel) rfl (by decide +kernel),
  ps_aln (kf := 0) (by decide +kernel) rfl,
  ps_get cl_9 (k := 0) (by decide) wd_673 (by decide +kernel),
  ps_iconst (n := 1) (by decide +kernel) (by decide +kernel),
  ps_iln (kf := 1) (by decide +kernel) rfl,
  ps_i2l (by decide +kernel),
  ps_last (by decide +kernel),
  ps_iln (kf := 2) (by decide +kernel) rfl,
  ps_iret (by decide +kernel) rfl rfl rfl, trivial⟩
def tX9_go : pm_Cd := [(0, po_il 1), (1, po_i2l), (2, po_lc (1)), (3, po_lc (5000)), (6, po_callS 89 3 6), (9, po_ifne 14), (12, po_ic (-1)), (13, po_iret), (14, po_al 0), (15, po_callV 9 104 0 2), (18, po_ic (0)), (19, po_is 2), (20, po_ic (0)), (21, po_is 3), (22, po_mark), (22, po_il 3), (23, po_il 1), (24, po_icge 50), (27, po_al 0), (28, po_get 9 0), (31, po_ic (0)), (32, po_dup2), (33, po_lald), (34, po_lc (1)), (35, po_ladd), (36, po_last), (37, po_il 2), (38, po_al 0), (39, po_callV 9 115 0 5), (42, po_iadd), (43, po_is 2), (44, po_iinc 3 (1)), (47, po_goto 22), (50, po_il 2), (51, po_iret)]
set_option maxRecDepth 100000 in
theorem aX9_go (E : pm_E) : pm_All E 114 (tX9_go) :=
  ⟨ps_iln (kf := 1) (by decide +kernel) rfl,
  ps_i2l (by decide +kernel),
  ps_lconst (n := 1) (by decide +kernel) (by decide +kernel),
  ps_ldc2 (n := 149) (by decide +kernel) wd_840,
  ps_callS ce_X9_within wd_726 wd_725 ⟨by decide +kernel, by decide +kernel⟩ rfl rfl rfl (by decide +kernel),
  ps_ifne (off := 5) (by decide +kernel) (by decide +kernel),
  ps_iconst (n := -1) (by decide +kernel) (by decide +kernel),
  ps_iret (by decide +kernel) rfl rfl rfl,
  ps_aln (kf := 0) (by decide +kernel) rfl,
  ps_callV cl_9 rfl ce_X9_note wd_798 wp_24 wd_796 ⟨by decide +kernel, by decide +kernel⟩ rfl rfl rfl (by decide +kernel),
  ps_iconst (n := 0) (by decide +kernel) (by decide +kernel),
  ps_isn (kf := 2) (by decide +kernel) rfl (by decide +kernel),
  ps_iconst (n := 0) (by decide +kernel) (by decide +kernel),
  ps_isn (kf := 3) (by decide +kernel) rfl (by decide +kernel),
  ps_mark,
  ps_iln (kf := 3) (by decide +kernel) rfl,
  ps_iln (kf := 1) (by decide +kernel) rfl,
  ps_icge (off := 26) (by decide +kernel) (by decide +kernel),
  ps_aln (kf := 0) (by decide +kernel) rfl,
  ps_get cl_9 (k := 0) (by decide) wd_673 (by decide +kernel),
  ps_iconst (n := 0) (by decide +kernel) (by decide +kernel),
  ps_dup2 (by decide +kernel),
  ps_lald (by decide +kernel),
  ps_lconst (n := 1) (by decide +kernel) (by decide +kernel),
  ps_ladd (by decide +kernel),
  ps_last (by decide +kernel),
  ps_iln (kf := 2) (by decide +kernel) rfl,
  ps_aln (kf := 0) (by decide +kernel) rfl,
  ps_callV cl_9 rfl ce_X9_closeOpen wd_843 wp_30 wd_841 ⟨by decide +kernel, by decide +kernel⟩ rfl rfl rfl (by decide +kernel),
  ps_iadd (by decide +kernel),
  ps_isn (kf := 2) (by decide +kernel) rfl (by decide +kernel),
  ps_iinc (n := 1) (by decide +kernel) (by decide +kernel) (by decide +kernel),
  ps_goto (off := -25) (by decide +kernel) (by decide +kernel),
  ps_iln (kf := 2) (by decide +kernel) rfl,
  ps_iret (by decide +kernel) rfl rfl rfl, trivial⟩
def tX9_closeOpen : pm_Cd := [(0, po_al 0), (1, po_callV 9 128 0 3), (4, po_ifne 9), (7, po_ic (0)), (8, po_iret), (9, po_al 0), (10, po_al 0), (11, po_get 9 0), (14, po_ic (0)), (15, po_lald), (16, po_callV 9 119 1 6), (19, po_ic (0)), (20, po_is 1), (21, po_ic (0)), (22, po_is 2), (23, po_mark), (23, po_il 2), (24, po_i2l), (25, po_al 0), (26, po_get 9 0), (29, po_ic (3)), (30, po_lald), (31, po_lcge 136), (35, po_ic (28)), (37, po_ic (5)), (38, po_il 2), (39, po_imul), (40, po_iadd), (41, po_is 3), (42, po_al 0), (43, po_get 9 0), (46, po_il 3), (47, po_ic (4)), (48, po_iadd), (49, po_lald), (50, po_lc (-4)), (53, po_lcne 84), (57, po_al 0), (58, po_callV 9 120 0 1), (61, po_ifeq 84), (64, po_al 0), (65, po_get 9 13), (68, po_al 0), (69, po_get 9 0), (72, po_il 3), (73, po_ic (2)), (74, po_iadd), (75, po_lald), (76, po_lcle 84), (80, po_ic (1)), (81, po_goto 85), (84, po_ic (0)), (85, po_is 4), (87, po_al 0), (88, po_get 9 0), (91, po_il 3), (92, po_ic (4)), (93, po_iadd), (94, po_il 4), (96, po_ifeq 108), (99, po_al 0), (100, po_get 9 0), (103, po_ic (0)), (104, po_lald), (105, po_goto 116), (108, po_al 0), (109, po_get 9 0), (112, po_il 3), (113, po_ic (4)), (114, po_iadd), (115, po_lald), (116, po_last), (117, po_il 1), (118, po_il 4), (120, po_ifeq 127), (123, po_ic (1)), (124, po_goto 128), (127, po_ic (0)), (128, po_iadd), (129, po_is 1), (130, po_iinc 2 (1)), (133, po_goto 23), (136, po_il 1), (137, po_iret)]
set_option maxRecDepth 100000 in
theorem aX9_closeOpen (E : pm_E) : pm_All E 115 (tX9_closeOpen) :=
  ⟨ps_aln (kf := 0) (by decide +kernel) rfl,
  ps_callV cl_9 rfl ce_X9_openMany wd_847 wp_31 wd_845 ⟨by decide +kernel, by decide +kernel⟩ rfl rfl rfl (by decide +kernel),
  ps_ifne (off := 5) (by decide +kernel) (by decide +kernel),
  ps_iconst (n := 0) (by decide +kernel) (by decide +kernel),
  ps_iret (by decide +kernel) rfl rfl rfl,
  ps_aln (kf := 0) (by decide +kernel) rfl,
  ps_aln (kf := 0) (by decide +kernel) rfl,
  ps_get cl_9 (k := 0) (by decide) wd_673 (by decide +kernel),
  ps_iconst (n := 0) (by decide +kernel) (by decide +kernel),
  ps_lald (by decide +kernel),
  ps_callV cl_9 rfl ce_X9_find wd_814 wp_26 wd_812 ⟨by decide +kernel, by decide +kernel⟩ rfl rfl rfl (by decide +kernel),
  ps_iconst (n := 0) (by decide +kernel) (by decide +kernel),
  ps_isn (kf := 1) (by decide +kernel) rfl (by decide +kernel),
  ps_iconst (n := 0) (by decide +kernel) (by decide +kernel),
  ps_isn (kf := 2) (by decide +kernel) rfl (by decide +kernel),
  ps_mark,
  ps_iln (kf := 2) (by decide +kernel) rfl,
  ps_i2l (by decide +kernel),
  ps_aln (kf := 0) (by decide +kernel) rfl,
  ps_get cl_9 (k := 0) (by decide) wd_673 (by decide +kernel),
  ps_iconst (n := 3) (by decide +kernel) (by decide +kernel),
  ps_lald (by decide +kernel),
  ps_lcge (off := 104) (by decide +kernel) (by decide +kernel) (by decide +kernel),
  ps_bipush (n := 28) (by decide +kernel) (by decide +kernel),
  ps_iconst (n := 5) (by decide +kernel) (by decide +kernel),
  ps_iln (kf := 2) (by decide +kernel) rfl,
  ps_imul (by decide +kernel),
  ps_iadd (by decide +kernel),
  ps_isn (kf := 3) (by decide +kernel) rfl (by decide +kernel),
  ps_aln (kf := 0) (by decide +kernel) rfl,
  ps_get cl_9 (k := 0) (by decide) wd_673 (by decide +kernel),
  ps_iln (kf := 3) (by decide +kernel) rfl,
  ps_iconst (n := 4) (by decide +kernel) (by decide +kernel),
  ps_iadd (by decide +kernel),
  ps_lald (by decide +kernel),
  ps_ldc2 (n := 161) (by decide +kernel) wd_849,
  ps_lcne (off := 30) (by decide +kernel) (by decide +kernel) (by decide +kernel),
  ps_aln (kf := 0) (by decide +kernel) rfl,
  ps_callV cl_9 rfl ce_X9_isGood wd_852 wp_32 wd_850 ⟨by decide +kernel, by decide +kernel⟩ rfl rfl rfl (by decide +kernel),
  ps_ifeq (off := 23) (by decide +kernel) (by decide +kernel),
  ps_aln (kf := 0) (by decide +kernel) rfl,
  ps_get cl_9 (k := 13) (by decide) wd_686 (by decide +kernel),
  ps_aln (kf := 0) (by decide +kernel) rfl,
  ps_get cl_9 (k := 0) (by decide) wd_673 (by decide +kernel),
  ps_iln (kf := 3) (by decide +kernel) rfl,
  ps_iconst (n := 2) (by decide +kernel) (by decide +kernel),
  ps_iadd (by decide +kernel),
  ps_lald (by decide +kernel),
  ps_lcle (off := 7) (by decide +kernel) (by decide +kernel) (by decide +kernel),
  ps_iconst (n := 1) (by decide +kernel) (by decide +kernel),
  ps_goto (off := 4) (by decide +kernel) (by decide +kernel),
  ps_iconst (n := 0) (by decide +kernel) (by decide +kernel),
  ps_is (by decide +kernel) (by decide +kernel),
  ps_aln (kf := 0) (by decide +kernel) rfl,
  ps_get cl_9 (k := 0) (by decide) wd_673 (by decide +kernel),
  ps_iln (kf := 3) (by decide +kernel) rfl,
  ps_iconst (n := 4) (by decide +kernel) (by decide +kernel),
  ps_iadd (by decide +kernel),
  ps_il (by decide +kernel),
  ps_ifeq (off := 12) (by decide +kernel) (by decide +kernel),
  ps_aln (kf := 0) (by decide +kernel) rfl,
  ps_get cl_9 (k := 0) (by decide) wd_673 (by decide +kernel),
  ps_iconst (n := 0) (by decide +kernel) (by decide +kernel),
  ps_lald (by decide +kernel),
  ps_goto (off := 11) (by decide +kernel) (by decide +kernel),
  ps_aln (kf := 0) (by decide +kernel) rfl,
  ps_get cl_9 (k := 0) (by decide) wd_673 (by decide +kernel),
  ps_iln (kf := 3) (by decide +kernel) rfl,
  ps_iconst (n := 4) (by decide +kernel) (by decide +kernel),
  ps_iadd (by decide +kernel),
  ps_lald (by decide +kernel),
  ps_last (by decide +kernel),
  ps_iln (kf := 1) (by decide +kernel) rfl,
  ps_il (by decide +kernel),
  ps_ifeq (off := 7) (by decide +kernel) (by decide +kernel),
  ps_iconst (n := 1) (by decide +kernel) (by decide +kernel),
  ps_goto (off := 4) (by decide +kernel) (by decide +kernel),
  ps_iconst (n := 0) (by decide +kernel) (by decide +kernel),
  ps_iadd (by decide +kernel),
  ps_isn (kf := 1) (by decide +kernel) rfl (by decide +kernel),
  ps_iinc (n := 1) (by decide +kernel) (by decide +kernel) (by decide +kernel),
  ps_goto (off := -110) (by decide +kernel) (by decide +kernel),
  ps_iln (kf := 1) (by decide +kernel) rfl,
  ps_iret (by decide +kernel) rfl rfl rfl, trivial⟩
def tX9_spanOf : pm_Cd := [(0, po_ic (4)), (1, po_ic (4)), (2, po_il 1), (3, po_imul), (4, po_iadd), (5, po_is 5), (7, po_ll 3), (8, po_al 0), (9, po_get 9 0), (12, po_il 5), (14, po_ic (3)), (15, po_iadd), (16, po_lald), (17, po_lsub), (18, po_ls 6), (20, po_ll 6), (22, po_al 0), (23, po_get 9 0), (26, po_ic (1)), (27, po_lald), (28, po_lmul), (29, po_lc (999999)), (32, po_ladd), (33, po_lc (1000000)), (36, po_ldiv), (37, po_ls 8), (39, po_il 2), (40, po_ifne 61), (43, po_al 0), (44, po_get 9 0), (47, po_il 5), (49, po_ic (1)), (50, po_iadd), (51, po_lald), (52, po_ll 6), (54, po_ladd), (55, po_ll 8), (57, po_lsub), (58, po_goto 76), (61, po_al 0), (62, po_get 9 0), (65, po_il 5), (67, po_ic (2)), (68, po_iadd), (69, po_lald), (70, po_ll 6), (72, po_ladd), (73, po_ll 8), (75, po_ladd), (76, po_lret)]
set_option maxRecDepth 100000 in
theorem aX9_spanOf (E : pm_E) : pm_All E 116 (tX9_spanOf) :=
  ⟨ps_iconst (n := 4) (by decide +kernel) (by decide +kernel),
  ps_iconst (n := 4) (by decide +kernel) (by decide +kernel),
  ps_iln (kf := 1) (by decide +kernel) rfl,
  ps_imul (by decide +kernel),
  ps_iadd (by decide +kernel),
  ps_is (by decide +kernel) (by decide +kernel),
  ps_lln (kf := 3) (by decide +kernel) rfl,
  ps_aln (kf := 0) (by decide +kernel) rfl,
  ps_get cl_9 (k := 0) (by decide) wd_673 (by decide +kernel),
  ps_il (by decide +kernel),
  ps_iconst (n := 3) (by decide +kernel) (by decide +kernel),
  ps_iadd (by decide +kernel),
  ps_lald (by decide +kernel),
  ps_lsub (by decide +kernel),
  ps_ls (by decide +kernel) (by decide +kernel),
  ps_ll (by decide +kernel),
  ps_aln (kf := 0) (by decide +kernel) rfl,
  ps_get cl_9 (k := 0) (by decide) wd_673 (by decide +kernel),
  ps_iconst (n := 1) (by decide +kernel) (by decide +kernel),
  ps_lald (by decide +kernel),
  ps_lmul (by decide +kernel),
  ps_ldc2 (n := 107) (by decide +kernel) wd_753,
  ps_ladd (by decide +kernel),
  ps_ldc2 (n := 170) (by decide +kernel) wd_820,
  ps_ldiv (by decide +kernel),
  ps_ls (by decide +kernel) (by decide +kernel),
  ps_iln (kf := 2) (by decide +kernel) rfl,
  ps_ifne (off := 21) (by decide +kernel) (by decide +kernel),
  ps_aln (kf := 0) (by decide +kernel) rfl,
  ps_get cl_9 (k := 0) (by decide) wd_673 (by decide +kernel),
  ps_il (by decide +kernel),
  ps_iconst (n := 1) (by decide +kernel) (by decide +kernel),
  ps_iadd (by decide +kernel),
  ps_lald (by decide +kernel),
  ps_ll (by decide +kernel),
  ps_ladd (by decide +kernel),
  ps_ll (by decide +kernel),
  ps_lsub (by decide +kernel),
  ps_goto (off := 18) (by decide +kernel) (by decide +kernel),
  ps_aln (kf := 0) (by decide +kernel) rfl,
  ps_get cl_9 (k := 0) (by decide) wd_673 (by decide +kernel),
  ps_il (by decide +kernel),
  ps_iconst (n := 2) (by decide +kernel) (by decide +kernel),
  ps_iadd (by decide +kernel),
  ps_lald (by decide +kernel),
  ps_ll (by decide +kernel),
  ps_ladd (by decide +kernel),
  ps_ll (by decide +kernel),
  ps_ladd (by decide +kernel),
  ps_lret (by decide +kernel) rfl rfl rfl, trivial⟩
def tX9_manyAt : pm_Cd := [(0, po_ic (0)), (1, po_is 3), (2, po_ic (0)), (3, po_is 4), (5, po_mark), (5, po_il 4), (7, po_al 0), (8, po_get 9 11), (11, po_icge 49), (14, po_il 3), (15, po_ll 1), (16, po_al 0), (17, po_get 9 9), (20, po_il 4), (22, po_lald), (23, po_al 0), (24, po_get 9 10), (27, po_il 4), (29, po_lald), (30, po_callS 89 3 6), (33, po_ifeq 40), (36, po_ic (1)), (37, po_goto 41), (40, po_ic (0)), (41, po_iadd), (42, po_is 3), (43, po_iinc 4 (1)), (46, po_goto 5), (49, po_il 3), (50, po_iret)]
set_option maxRecDepth 100000 in
theorem aX9_manyAt (E : pm_E) : pm_All E 117 (tX9_manyAt) :=
  ⟨ps_iconst (n := 0) (by decide +kernel) (by decide +kernel),
  ps_isn (kf := 3) (by decide +kernel) rfl (by decide +kernel),
  ps_iconst (n := 0) (by decide +kernel) (by decide +kernel),
  ps_is (by decide +kernel) (by decide +kernel),
  ps_mark,
  ps_il (by decide +kernel),
  ps_aln (kf := 0) (by decide +kernel) rfl,
  ps_get cl_9 (k := 11) (by decide) wd_684 (by decide +kernel),
  ps_icge (off := 38) (by decide +kernel) (by decide +kernel),
  ps_iln (kf := 3) (by decide +kernel) rfl,
  ps_lln (kf := 1) (by decide +kernel) rfl,
  ps_aln (kf := 0) (by decide +kernel) rfl,
  ps_get cl_9 (k := 9) (by decide) wd_682 (by decide +kernel),
  ps_il (by decide +kernel),
  ps_lald (by decide +kernel),
  ps_aln (kf := 0) (by decide +kernel) rfl,
  ps_get cl_9 (k := 10) (by decide) wd_683 (by decide +kernel),
  ps_il (by decide +kernel),
  ps_lald (by decide +kernel),
  ps_callS ce_X9_within wd_726 wd_725 ⟨by decide +kernel, by decide +kernel⟩ rfl rfl rfl (by decide +kernel),
  ps_ifeq (off := 7) (by decide +kernel) (by decide +kernel),
  ps_iconst (n := 1) (by decide +kernel) (by decide +kernel),
  ps_goto (off := 4) (by decide +kernel) (by decide +kernel),
  ps_iconst (n := 0) (by decide +kernel) (by decide +kernel),
  ps_iadd (by decide +kernel),
  ps_isn (kf := 3) (by decide +kernel) rfl (by decide +kernel),
  ps_iinc (n := 1) (by decide +kernel) (by decide +kernel) (by decide +kernel),
  ps_goto (off := -41) (by decide +kernel) (by decide +kernel),
  ps_iln (kf := 3) (by decide +kernel) rfl,
  ps_iret (by decide +kernel) rfl rfl rfl, trivial⟩
def tX9_sameTo : pm_Cd := [(0, po_lc (9223372036854775807)), (3, po_ls 3), (4, po_ic (0)), (5, po_is 5), (7, po_mark), (7, po_il 5), (9, po_al 0), (10, po_get 9 11), (13, po_icge 87), (16, po_ll 1), (17, po_al 0), (18, po_get 9 9), (21, po_il 5), (23, po_lald), (24, po_lcge 40), (28, po_al 0), (29, po_get 9 9), (32, po_il 5), (34, po_lald), (35, po_lc (1)), (36, po_lsub), (37, po_goto 65), (40, po_ll 1), (41, po_al 0), (42, po_get 9 10), (45, po_il 5), (47, po_lald), (48, po_lcgt 62), (52, po_al 0), (53, po_get 9 10), (56, po_il 5), (58, po_lald), (59, po_goto 65), (62, po_lc (9223372036854775807)), (65, po_ls 6), (67, po_ll 6), (69, po_ll 3), (70, po_lcge 79), (74, po_ll 6), (76, po_goto 80), (79, po_ll 3), (80, po_ls 3), (81, po_iinc 5 (1)), (84, po_goto 7), (87, po_ll 3), (88, po_lret)]
set_option maxRecDepth 100000 in
theorem aX9_sameTo (E : pm_E) : pm_All E 118 (tX9_sameTo) :=
  ⟨ps_ldc2 (n := 87) (by decide +kernel) wd_750,
  ps_lsn (kf := 3) (by decide +kernel) rfl (by decide +kernel),
  ps_iconst (n := 0) (by decide +kernel) (by decide +kernel),
  ps_is (by decide +kernel) (by decide +kernel),
  ps_mark,
  ps_il (by decide +kernel),
  ps_aln (kf := 0) (by decide +kernel) rfl,
  ps_get cl_9 (k := 11) (by decide) wd_684 (by decide +kernel),
  ps_icge (off := 74) (by decide +kernel) (by decide +kernel),
  ps_lln (kf := 1) (by decide +kernel) rfl,
  ps_aln (kf := 0) (by decide +kernel) rfl,
  ps_get cl_9 (k := 9) (by decide) wd_682 (by decide +kernel),
  ps_il (by decide +kernel),
  ps_lald (by decide +kernel),
  ps_lcge (off := 15) (by decide +kernel) (by decide +kernel) (by decide +kernel),
  ps_aln (kf := 0) (by decide +kernel) rfl,
  ps_get cl_9 (k := 9) (by decide) wd_682 (by decide +kernel),
  ps_il (by decide +kernel),
  ps_lald (by decide +kernel),
  ps_lconst (n := 1) (by decide +kernel) (by decide +kernel),
  ps_lsub (by decide +kernel),
  ps_goto (off := 28) (by decide +kernel) (by decide +kernel),
  ps_lln (kf := 1) (by decide +kernel) rfl,
  ps_aln (kf := 0) (by decide +kernel) rfl,
  ps_get cl_9 (k := 10) (by decide) wd_683 (by decide +kernel),
  ps_il (by decide +kernel),
  ps_lald (by decide +kernel),
  ps_lcgt (off := 13) (by decide +kernel) (by decide +kernel) (by decide +kernel),
  ps_aln (kf := 0) (by decide +kernel) rfl,
  ps_get cl_9 (k := 10) (by decide) wd_683 (by decide +kernel),
  ps_il (by decide +kernel),
  ps_lald (by decide +kernel),
  ps_goto (off := 6) (by decide +kernel) (by decide +kernel),
  ps_ldc2 (n := 87) (by decide +kernel) wd_750,
  ps_ls (by decide +kernel) (by decide +kernel),
  ps_ll (by decide +kernel),
  ps_lln (kf := 3) (by decide +kernel) rfl,
  ps_lcge (off := 8) (by decide +kernel) (by decide +kernel) (by decide +kernel),
  ps_ll (by decide +kernel),
  ps_goto (off := 4) (by decide +kernel) (by decide +kernel),
  ps_lln (kf := 3) (by decide +kernel) rfl,
  ps_lsn (kf := 3) (by decide +kernel) rfl (by decide +kernel),
  ps_iinc (n := 1) (by decide +kernel) (by decide +kernel) (by decide +kernel),
  ps_goto (off := -77) (by decide +kernel) (by decide +kernel),
  ps_lln (kf := 3) (by decide +kernel) rfl,
  ps_lret (by decide +kernel) rfl rfl rfl, trivial⟩
def tX9_find : pm_Cd := [(0, po_al 0), (1, po_ic (0)), (2, po_put 9 11 .int), (5, po_ic (0)), (6, po_is 3), (7, po_mark), (7, po_il 3), (8, po_ic (6)), (10, po_icge 69), (13, po_al 0), (14, po_il 3), (15, po_callV 9 108 1 2), (18, po_ifeq 63), (21, po_al 0), (22, po_get 9 9), (25, po_al 0), (26, po_get 9 11), (29, po_al 0), (30, po_il 3), (31, po_ic (0)), (32, po_ll 1), (33, po_callV 9 116 3 10), (36, po_last), (37, po_al 0), (38, po_get 9 10), (41, po_al 0), (42, po_get 9 11), (45, po_al 0), (46, po_il 3), (47, po_ic (1)), (48, po_ll 1), (49, po_callV 9 116 3 10), (52, po_last), (53, po_al 0), (54, po_dup), (55, po_get 9 11), (58, po_ic (1)), (59, po_iadd), (60, po_put 9 11 .int), (63, po_iinc 3 (1)), (66, po_goto 7), (69, po_al 0), (70, po_ic (0)), (71, po_put 9 12 .int), (74, po_ic (0)), (75, po_is 3), (76, po_mark), (76, po_il 3), (77, po_al 0), (78, po_get 9 11), (81, po_icge 185), (84, po_al 0), (85, po_al 0), (86, po_get 9 9), (89, po_il 3), (90, po_lald), (91, po_callV 9 117 1 5), (94, po_is 4), (96, po_il 4), (98, po_al 0), (99, po_get 9 12), (102, po_icgt 128), (105, po_il 4), (107, po_al 0), (108, po_get 9 12), (111, po_icne 132), (114, po_al 0), (115, po_get 9 9), (118, po_il 3), (119, po_lald), (120, po_al 0), (121, po_get 9 13), (124, po_lcge 132), (128, po_ic (1)), (129, po_goto 133), (132, po_ic (0)), (133, po_is 5), (135, po_al 0), (136, po_il 5), (138, po_ifeq 150), (141, po_al 0), (142, po_get 9 9), (145, po_il 3), (146, po_lald), (147, po_goto 154), (150, po_al 0), (151, po_get 9 13), (154, po_put 9 13 .long), (157, po_al 0), (158, po_il 4), (160, po_al 0), (161, po_get 9 12), (164, po_icle 172), (167, po_il 4), (169, po_goto 176), (172, po_al 0), (173, po_get 9 12), (176, po_put 9 12 .int), (179, po_iinc 3 (1)), (182, po_goto 76), (185, po_al 0), (186, po_get 9 11), (189, po_ifne 193), (192, po_vret), (193, po_al 0), (194, po_al 0), (195, po_al 0), (196, po_get 9 13), (199, po_callV 9 118 1 8), (202, po_put 9 14 .long), (205, po_mark), (205, po_al 0), (206, po_al 0), (207, po_get 9 14), (210, po_lc (1)), (211, po_ladd), (212, po_callV 9 117 1 5), (215, po_al 0), (216, po_get 9 12), (219, po_icne 239), (222, po_al 0), (223, po_al 0), (224, po_al 0), (225, po_get 9 14), (228, po_lc (1)), (229, po_ladd), (230, po_callV 9 118 1 8), (233, po_put 9 14 .long), (236, po_goto 205), (239, po_vret)]
set_option maxRecDepth 100000 in
theorem aX9_find (E : pm_E) : pm_All E 119 (tX9_find) :=
  ⟨ps_aln (kf := 0) (by decide +kernel) rfl,
  ps_iconst (n := 0) (by decide +kernel) (by decide +kernel),
  ps_put cl_9 (k := 11) (by decide) wd_684 rfl rfl (by decide +kernel),
  ps_iconst (n := 0) (by decide +kernel) (by decide +kernel),
  ps_isn (kf := 3) (by decide +kernel) rfl (by decide +kernel),
  ps_mark,
  ps_iln (kf := 3) (by decide +kernel) rfl,
  ps_bipush (n := 6) (by decide +kernel) (by decide +kernel),
  ps_icge (off := 59) (by decide +kernel) (by decide +kernel),
  ps_aln (kf := 0) (by decide +kernel) rfl,
  ps_iln (kf := 3) (by decide +kernel) rfl,
  ps_callV cl_9 rfl ce_X9_isHeard wd_779 wp_22 wd_777 ⟨by decide +kernel, by decide +kernel⟩ rfl rfl rfl (by decide +kernel),
  ps_ifeq (off := 45) (by decide +kernel) (by decide +kernel),
  ps_aln (kf := 0) (by decide +kernel) rfl,
  ps_get cl_9 (k := 9) (by decide) wd_682 (by decide +kernel),
  ps_aln (kf := 0) (by decide +kernel) rfl,
  ps_get cl_9 (k := 11) (by decide) wd_684 (by decide +kernel),
  ps_aln (kf := 0) (by decide +kernel) rfl,
  ps_iln (kf := 3) (by decide +kernel) rfl,
  ps_iconst (n := 0) (by decide +kernel) (by decide +kernel),
  ps_lln (kf := 1) (by decide +kernel) rfl,
  ps_callV cl_9 rfl ce_X9_spanOf wd_818 wp_27 wd_816 ⟨by decide +kernel, by decide +kernel⟩ rfl rfl rfl (by decide +kernel),
  ps_last (by decide +kernel),
  ps_aln (kf := 0) (by decide +kernel) rfl,
  ps_get cl_9 (k := 10) (by decide) wd_683 (by decide +kernel),
  ps_aln (kf := 0) (by decide +kernel) rfl,
  ps_get cl_9 (k := 11) (by decide) wd_684 (by decide +kernel),
  ps_aln (kf := 0) (by decide +kernel) rfl,
  ps_iln (kf := 3) (by decide +kernel) rfl,
  ps_iconst (n := 1) (by decide +kernel) (by decide +kernel),
  ps_lln (kf := 1) (by decide +kernel) rfl,
  ps_callV cl_9 rfl ce_X9_spanOf wd_818 wp_27 wd_816 ⟨by decide +kernel, by decide +kernel⟩ rfl rfl rfl (by decide +kernel),
  ps_last (by decide +kernel),
  ps_aln (kf := 0) (by decide +kernel) rfl,
  ps_dup (by decide +kernel),
  ps_get cl_9 (k := 11) (by decide) wd_684 (by decide +kernel),
  ps_iconst (n := 1) (by decide +kernel) (by decide +kernel),
  ps_iadd (by decide +kernel),
  ps_put cl_9 (k := 11) (by decide) wd_684 rfl rfl (by decide +kernel),
  ps_iinc (n := 1) (by decide +kernel) (by decide +kernel) (by decide +kernel),
  ps_goto (off := -59) (by decide +kernel) (by decide +kernel),
  ps_aln (kf := 0) (by decide +kernel) rfl,
  ps_iconst (n := 0) (by decide +kernel) (by decide +kernel),
  ps_put cl_9 (k := 12) (by decide) wd_685 rfl rfl (by decide +kernel),
  ps_iconst (n := 0) (by decide +kernel) (by decide +kernel),
  ps_isn (kf := 3) (by decide +kernel) rfl (by decide +kernel),
  ps_mark,
  ps_iln (kf := 3) (by decide +kernel) rfl,
  ps_aln (kf := 0) (by decide +kernel) rfl,
  ps_get cl_9 (k := 11) (by decide) wd_684 (by decide +kernel),
  ps_icge (off := 104) (by decide +kernel) (by decide +kernel),
  ps_aln (kf := 0) (by decide +kernel) rfl,
  ps_aln (kf := 0) (by decide +kernel) rfl,
  ps_get cl_9 (k := 9) (by decide) wd_682 (by decide +kernel),
  ps_iln (kf := 3) (by decide +kernel) rfl,
  ps_lald (by decide +kernel),
  ps_callV cl_9 rfl ce_X9_manyAt wd_823 wp_28 wd_821 ⟨by decide +kernel, by decide +kernel⟩ rfl rfl rfl (by decide +kernel),
  ps_is (by decide +kernel) (by decide +kernel),
  ps_il (by decide +kernel),
  ps_aln (kf := 0) (by decide +kernel) rfl,
  ps_get cl_9 (k := 12) (by decide) wd_685 (by decide +kernel),
  ps_icgt (off := 26) (by decide +kernel) (by decide +kernel),
  ps_il (by decide +kernel),
  ps_aln (kf := 0) (by decide +kernel) rfl,
  ps_get cl_9 (k := 12) (by decide) wd_685 (by decide +kernel),
  ps_icne (off := 21) (by decide +kernel) (by decide +kernel),
  ps_aln (kf := 0) (by decide +kernel) rfl,
  ps_get cl_9 (k := 9) (by decide) wd_682 (by decide +kernel),
  ps_iln (kf := 3) (by decide +kernel) rfl,
  ps_lald (by decide +kernel),
  ps_aln (kf := 0) (by decide +kernel) rfl,
  ps_get cl_9 (k := 13) (by decide) wd_686 (by decide +kernel),
  ps_lcge (off := 7) (by decide +kernel) (by decide +kernel) (by decide +kernel),
  ps_iconst (n := 1) (by decide +kernel) (by decide +kernel),
  ps_goto (off := 4) (by decide +kernel) (by decide +kernel),
  ps_iconst (n := 0) (by decide +kernel) (by decide +kernel),
  ps_is (by decide +kernel) (by decide +kernel),
  ps_aln (kf := 0) (by decide +kernel) rfl,
  ps_il (by decide +kernel),
  ps_ifeq (off := 12) (by decide +kernel) (by decide +kernel),
  ps_aln (kf := 0) (by decide +kernel) rfl,
  ps_get cl_9 (k := 9) (by decide) wd_682 (by decide +kernel),
  ps_iln (kf := 3) (by decide +kernel) rfl,
  ps_lald (by decide +kernel),
  ps_goto (off := 7) (by decide +kernel) (by decide +kernel),
  ps_aln (kf := 0) (by decide +kernel) rfl,
  ps_get cl_9 (k := 13) (by decide) wd_686 (by decide +kernel),
  ps_put cl_9 (k := 13) (by decide) wd_686 rfl rfl (by decide +kernel),
  ps_aln (kf := 0) (by decide +kernel) rfl,
  ps_il (by decide +kernel),
  ps_aln (kf := 0) (by decide +kernel) rfl,
  ps_get cl_9 (k := 12) (by decide) wd_685 (by decide +kernel),
  ps_icle (off := 8) (by decide +kernel) (by decide +kernel),
  ps_il (by decide +kernel),
  ps_goto (off := 7) (by decide +kernel) (by decide +kernel),
  ps_aln (kf := 0) (by decide +kernel) rfl,
  ps_get cl_9 (k := 12) (by decide) wd_685 (by decide +kernel),
  ps_put cl_9 (k := 12) (by decide) wd_685 rfl rfl (by decide +kernel),
  ps_iinc (n := 1) (by decide +kernel) (by decide +kernel) (by decide +kernel),
  ps_goto (off := -106) (by decide +kernel) (by decide +kernel),
  ps_aln (kf := 0) (by decide +kernel) rfl,
  ps_get cl_9 (k := 11) (by decide) wd_684 (by decide +kernel),
  ps_ifne (off := 4) (by decide +kernel) (by decide +kernel),
  ps_vret (by decide +kernel) rfl rfl rfl,
  ps_aln (kf := 0) (by decide +kernel) rfl,
  ps_aln (kf := 0) (by decide +kernel) rfl,
  ps_aln (kf := 0) (by decide +kernel) rfl,
  ps_get cl_9 (k := 13) (by decide) wd_686 (by decide +kernel),
  ps_callV cl_9 rfl ce_X9_sameTo wd_827 wp_29 wd_825 ⟨by decide +kernel, by decide +kernel⟩ rfl rfl rfl (by decide +kernel),
  ps_put cl_9 (k := 14) (by decide) wd_687 rfl rfl (by decide +kernel),
  ps_mark,
  ps_aln (kf := 0) (by decide +kernel) rfl,
  ps_aln (kf := 0) (by decide +kernel) rfl,
  ps_get cl_9 (k := 14) (by decide) wd_687 (by decide +kernel),
  ps_lconst (n := 1) (by decide +kernel) (by decide +kernel),
  ps_ladd (by decide +kernel),
  ps_callV cl_9 rfl ce_X9_manyAt wd_823 wp_28 wd_821 ⟨by decide +kernel, by decide +kernel⟩ rfl rfl rfl (by decide +kernel),
  ps_aln (kf := 0) (by decide +kernel) rfl,
  ps_get cl_9 (k := 12) (by decide) wd_685 (by decide +kernel),
  ps_icne (off := 20) (by decide +kernel) (by decide +kernel),
  ps_aln (kf := 0) (by decide +kernel) rfl,
  ps_aln (kf := 0) (by decide +kernel) rfl,
  ps_aln (kf := 0) (by decide +kernel) rfl,
  ps_get cl_9 (k := 14) (by decide) wd_687 (by decide +kernel),
  ps_lconst (n := 1) (by decide +kernel) (by decide +kernel),
  ps_ladd (by decide +kernel),
  ps_callV cl_9 rfl ce_X9_sameTo wd_827 wp_29 wd_825 ⟨by decide +kernel, by decide +kernel⟩ rfl rfl rfl (by decide +kernel),
  ps_put cl_9 (k := 14) (by decide) wd_687 rfl rfl (by decide +kernel),
  ps_goto (off := -31) (by decide +kernel) (by decide +kernel),
  ps_vret (by decide +kernel) rfl rfl rfl, trivial⟩
def tX9_isGood : pm_Cd := [(0, po_ic (2)), (1, po_al 0), (2, po_get 9 12), (5, po_imul), (6, po_al 0), (7, po_get 9 11), (10, po_icle 17), (13, po_ic (1)), (14, po_goto 18), (17, po_ic (0)), (18, po_zret .boolean)]
set_option maxRecDepth 100000 in
theorem aX9_isGood (E : pm_E) : pm_All E 120 (tX9_isGood) :=
  ⟨ps_iconst (n := 2) (by decide +kernel) (by decide +kernel),
  ps_aln (kf := 0) (by decide +kernel) rfl,
  ps_get cl_9 (k := 12) (by decide) wd_685 (by decide +kernel),
  ps_imul (by decide +kernel),
  ps_aln (kf := 0) (by decide +kernel) rfl,
  ps_get cl_9 (k := 11) (by decide) wd_684 (by decide +kernel),
  ps_icle (off := 7) (by decide +kernel) (by decide +kernel),
  ps_iconst (n := 1) (by decide +kernel) (by decide +kernel),
  ps_goto (off := 4) (by decide +kernel) (by decide +kernel),
  ps_iconst (n := 0) (by decide +kernel) (by decide +kernel),
  ps_zret (by decide +kernel) rfl rfl rfl, trivial⟩
def tX9_span : pm_Cd := [(0, po_il 1), (1, po_callS 106 1 1), (4, po_ifeq 17), (7, po_il 2), (8, po_i2l), (9, po_lc (0)), (10, po_lc (1)), (11, po_callS 89 3 6), (14, po_ifne 21), (17, po_lc (-2000000000000)), (20, po_lret), (21, po_al 0), (22, po_get 9 0), (25, po_ic (4)), (26, po_ic (4)), (27, po_il 1), (28, po_imul), (29, po_iadd), (30, po_lald), (31, po_lc (1)), (32, po_lcne 51), (36, po_al 0), (37, po_il 1), (38, po_il 2), (39, po_al 0), (40, po_get 9 0), (43, po_ic (0)), (44, po_lald), (45, po_callV 9 116 3 10), (48, po_goto 54), (51, po_lc (-2000000000001)), (54, po_lret)]
set_option maxRecDepth 100000 in
theorem aX9_span (E : pm_E) : pm_All E 121 (tX9_span) :=
  ⟨ps_iln (kf := 1) (by decide +kernel) rfl,
  ps_callS ce_X9_isMaster wd_794 wd_793 ⟨by decide +kernel, by decide +kernel⟩ rfl rfl rfl (by decide +kernel),
  ps_ifeq (off := 13) (by decide +kernel) (by decide +kernel),
  ps_iln (kf := 2) (by decide +kernel) rfl,
  ps_i2l (by decide +kernel),
  ps_lconst (n := 0) (by decide +kernel) (by decide +kernel),
  ps_lconst (n := 1) (by decide +kernel) (by decide +kernel),
  ps_callS ce_X9_within wd_726 wd_725 ⟨by decide +kernel, by decide +kernel⟩ rfl rfl rfl (by decide +kernel),
  ps_ifne (off := 7) (by decide +kernel) (by decide +kernel),
  ps_ldc2 (n := 193) (by decide +kernel) wd_858,
  ps_lret (by decide +kernel) rfl rfl rfl,
  ps_aln (kf := 0) (by decide +kernel) rfl,
  ps_get cl_9 (k := 0) (by decide) wd_673 (by decide +kernel),
  ps_iconst (n := 4) (by decide +kernel) (by decide +kernel),
  ps_iconst (n := 4) (by decide +kernel) (by decide +kernel),
  ps_iln (kf := 1) (by decide +kernel) rfl,
  ps_imul (by decide +kernel),
  ps_iadd (by decide +kernel),
  ps_lald (by decide +kernel),
  ps_lconst (n := 1) (by decide +kernel) (by decide +kernel),
  ps_lcne (off := 18) (by decide +kernel) (by decide +kernel) (by decide +kernel),
  ps_aln (kf := 0) (by decide +kernel) rfl,
  ps_iln (kf := 1) (by decide +kernel) rfl,
  ps_iln (kf := 2) (by decide +kernel) rfl,
  ps_aln (kf := 0) (by decide +kernel) rfl,
  ps_get cl_9 (k := 0) (by decide) wd_673 (by decide +kernel),
  ps_iconst (n := 0) (by decide +kernel) (by decide +kernel),
  ps_lald (by decide +kernel),
  ps_callV cl_9 rfl ce_X9_spanOf wd_818 wp_27 wd_816 ⟨by decide +kernel, by decide +kernel⟩ rfl rfl rfl (by decide +kernel),
  ps_goto (off := 6) (by decide +kernel) (by decide +kernel),
  ps_ldc2 (n := 195) (by decide +kernel) wd_859,
  ps_lret (by decide +kernel) rfl rfl rfl, trivial⟩
def tX9_agreed : pm_Cd := [(0, po_il 1), (1, po_i2l), (2, po_lc (0)), (3, po_lc (1)), (4, po_callS 89 3 6), (7, po_ifne 14), (10, po_lc (-2000000000000)), (13, po_lret), (14, po_al 0), (15, po_al 0), (16, po_get 9 0), (19, po_ic (0)), (20, po_lald), (21, po_callV 9 119 1 6), (24, po_al 0), (25, po_get 9 11), (28, po_ifne 37), (31, po_lc (-2000000000001)), (34, po_goto 52), (37, po_il 1), (38, po_ifne 48), (41, po_al 0), (42, po_get 9 13), (45, po_goto 52), (48, po_al 0), (49, po_get 9 14), (52, po_lret)]
set_option maxRecDepth 100000 in
theorem aX9_agreed (E : pm_E) : pm_All E 122 (tX9_agreed) :=
  ⟨ps_iln (kf := 1) (by decide +kernel) rfl,
  ps_i2l (by decide +kernel),
  ps_lconst (n := 0) (by decide +kernel) (by decide +kernel),
  ps_lconst (n := 1) (by decide +kernel) (by decide +kernel),
  ps_callS ce_X9_within wd_726 wd_725 ⟨by decide +kernel, by decide +kernel⟩ rfl rfl rfl (by decide +kernel),
  ps_ifne (off := 7) (by decide +kernel) (by decide +kernel),
  ps_ldc2 (n := 193) (by decide +kernel) wd_858,
  ps_lret (by decide +kernel) rfl rfl rfl,
  ps_aln (kf := 0) (by decide +kernel) rfl,
  ps_aln (kf := 0) (by decide +kernel) rfl,
  ps_get cl_9 (k := 0) (by decide) wd_673 (by decide +kernel),
  ps_iconst (n := 0) (by decide +kernel) (by decide +kernel),
  ps_lald (by decide +kernel),
  ps_callV cl_9 rfl ce_X9_find wd_814 wp_26 wd_812 ⟨by decide +kernel, by decide +kernel⟩ rfl rfl rfl (by decide +kernel),
  ps_aln (kf := 0) (by decide +kernel) rfl,
  ps_get cl_9 (k := 11) (by decide) wd_684 (by decide +kernel),
  ps_ifne (off := 9) (by decide +kernel) (by decide +kernel),
  ps_ldc2 (n := 195) (by decide +kernel) wd_859,
  ps_goto (off := 18) (by decide +kernel) (by decide +kernel),
  ps_iln (kf := 1) (by decide +kernel) rfl,
  ps_ifne (off := 10) (by decide +kernel) (by decide +kernel),
  ps_aln (kf := 0) (by decide +kernel) rfl,
  ps_get cl_9 (k := 13) (by decide) wd_686 (by decide +kernel),
  ps_goto (off := 7) (by decide +kernel) (by decide +kernel),
  ps_aln (kf := 0) (by decide +kernel) rfl,
  ps_get cl_9 (k := 14) (by decide) wd_687 (by decide +kernel),
  ps_lret (by decide +kernel) rfl rfl rfl, trivial⟩
def tX9_good : pm_Cd := [(0, po_al 0), (1, po_al 0), (2, po_get 9 0), (5, po_ic (0)), (6, po_lald), (7, po_callV 9 119 1 6), (10, po_al 0), (11, po_callV 9 120 0 1), (14, po_ifeq 21), (17, po_ic (1)), (18, po_goto 22), (21, po_ic (0)), (22, po_iret)]
set_option maxRecDepth 100000 in
theorem aX9_good (E : pm_E) : pm_All E 123 (tX9_good) :=
  ⟨ps_aln (kf := 0) (by decide +kernel) rfl,
  ps_aln (kf := 0) (by decide +kernel) rfl,
  ps_get cl_9 (k := 0) (by decide) wd_673 (by decide +kernel),
  ps_iconst (n := 0) (by decide +kernel) (by decide +kernel),
  ps_lald (by decide +kernel),
  ps_callV cl_9 rfl ce_X9_find wd_814 wp_26 wd_812 ⟨by decide +kernel, by decide +kernel⟩ rfl rfl rfl (by decide +kernel),
  ps_aln (kf := 0) (by decide +kernel) rfl,
  ps_callV cl_9 rfl ce_X9_isGood wd_852 wp_32 wd_850 ⟨by decide +kernel, by decide +kernel⟩ rfl rfl rfl (by decide +kernel),
  ps_ifeq (off := 7) (by decide +kernel) (by decide +kernel),
  ps_iconst (n := 1) (by decide +kernel) (by decide +kernel),
  ps_goto (off := 4) (by decide +kernel) (by decide +kernel),
  ps_iconst (n := 0) (by decide +kernel) (by decide +kernel),
  ps_iret (by decide +kernel) rfl rfl rfl, trivial⟩
def tX9_in : pm_Cd := [(0, po_ll 1), (1, po_lc (0)), (2, po_lc (2000000000000)), (5, po_callS 89 3 6), (8, po_ifne 13), (11, po_ic (-1)), (12, po_iret), (13, po_al 0), (14, po_al 0), (15, po_get 9 0), (18, po_ic (0)), (19, po_lald), (20, po_callV 9 119 1 6), (23, po_al 0), (24, po_ll 1), (25, po_callV 9 117 1 5), (28, po_iret)]
set_option maxRecDepth 100000 in
theorem aX9_in (E : pm_E) : pm_All E 124 (tX9_in) :=
  ⟨ps_lln (kf := 1) (by decide +kernel) rfl,
  ps_lconst (n := 0) (by decide +kernel) (by decide +kernel),
  ps_ldc2 (n := 197) (by decide +kernel) wd_872,
  ps_callS ce_X9_within wd_726 wd_725 ⟨by decide +kernel, by decide +kernel⟩ rfl rfl rfl (by decide +kernel),
  ps_ifne (off := 5) (by decide +kernel) (by decide +kernel),
  ps_iconst (n := -1) (by decide +kernel) (by decide +kernel),
  ps_iret (by decide +kernel) rfl rfl rfl,
  ps_aln (kf := 0) (by decide +kernel) rfl,
  ps_aln (kf := 0) (by decide +kernel) rfl,
  ps_get cl_9 (k := 0) (by decide) wd_673 (by decide +kernel),
  ps_iconst (n := 0) (by decide +kernel) (by decide +kernel),
  ps_lald (by decide +kernel),
  ps_callV cl_9 rfl ce_X9_find wd_814 wp_26 wd_812 ⟨by decide +kernel, by decide +kernel⟩ rfl rfl rfl (by decide +kernel),
  ps_aln (kf := 0) (by decide +kernel) rfl,
  ps_lln (kf := 1) (by decide +kernel) rfl,
  ps_callV cl_9 rfl ce_X9_manyAt wd_823 wp_28 wd_821 ⟨by decide +kernel, by decide +kernel⟩ rfl rfl rfl (by decide +kernel),
  ps_iret (by decide +kernel) rfl rfl rfl, trivial⟩
def tX9_liarsNow : pm_Cd := [(0, po_al 0), (1, po_al 0), (2, po_get 9 0), (5, po_ic (0)), (6, po_lald), (7, po_callV 9 119 1 6), (10, po_ic (0)), (11, po_is 1), (12, po_ic (0)), (13, po_is 2), (14, po_mark), (14, po_il 2), (15, po_ic (6)), (17, po_icge 94), (20, po_al 0), (21, po_il 2), (22, po_callV 9 108 1 2), (25, po_ifeq 72), (28, po_al 0), (29, po_il 2), (30, po_ic (1)), (31, po_al 0), (32, po_get 9 0), (35, po_ic (0)), (36, po_lald), (37, po_callV 9 116 3 10), (40, po_al 0), (41, po_get 9 13), (44, po_lclt 68), (48, po_al 0), (49, po_il 2), (50, po_ic (0)), (51, po_al 0), (52, po_get 9 0), (55, po_ic (0)), (56, po_lald), (57, po_callV 9 116 3 10), (60, po_al 0), (61, po_get 9 14), (64, po_lcle 72), (68, po_ic (1)), (69, po_goto 73), (72, po_ic (0)), (73, po_is 3), (74, po_il 1), (75, po_il 3), (76, po_ifeq 85), (79, po_ic (1)), (80, po_il 2), (81, po_ishl), (82, po_goto 86), (85, po_ic (0)), (86, po_ior), (87, po_is 1), (88, po_iinc 2 (1)), (91, po_goto 14), (94, po_il 1), (95, po_iret)]
set_option maxRecDepth 100000 in
theorem aX9_liarsNow (E : pm_E) : pm_All E 125 (tX9_liarsNow) :=
  ⟨ps_aln (kf := 0) (by decide +kernel) rfl,
  ps_aln (kf := 0) (by decide +kernel) rfl,
  ps_get cl_9 (k := 0) (by decide) wd_673 (by decide +kernel),
  ps_iconst (n := 0) (by decide +kernel) (by decide +kernel),
  ps_lald (by decide +kernel),
  ps_callV cl_9 rfl ce_X9_find wd_814 wp_26 wd_812 ⟨by decide +kernel, by decide +kernel⟩ rfl rfl rfl (by decide +kernel),
  ps_iconst (n := 0) (by decide +kernel) (by decide +kernel),
  ps_isn (kf := 1) (by decide +kernel) rfl (by decide +kernel),
  ps_iconst (n := 0) (by decide +kernel) (by decide +kernel),
  ps_isn (kf := 2) (by decide +kernel) rfl (by decide +kernel),
  ps_mark,
  ps_iln (kf := 2) (by decide +kernel) rfl,
  ps_bipush (n := 6) (by decide +kernel) (by decide +kernel),
  ps_icge (off := 77) (by decide +kernel) (by decide +kernel),
  ps_aln (kf := 0) (by decide +kernel) rfl,
  ps_iln (kf := 2) (by decide +kernel) rfl,
  ps_callV cl_9 rfl ce_X9_isHeard wd_779 wp_22 wd_777 ⟨by decide +kernel, by decide +kernel⟩ rfl rfl rfl (by decide +kernel),
  ps_ifeq (off := 47) (by decide +kernel) (by decide +kernel),
  ps_aln (kf := 0) (by decide +kernel) rfl,
  ps_iln (kf := 2) (by decide +kernel) rfl,
  ps_iconst (n := 1) (by decide +kernel) (by decide +kernel),
  ps_aln (kf := 0) (by decide +kernel) rfl,
  ps_get cl_9 (k := 0) (by decide) wd_673 (by decide +kernel),
  ps_iconst (n := 0) (by decide +kernel) (by decide +kernel),
  ps_lald (by decide +kernel),
  ps_callV cl_9 rfl ce_X9_spanOf wd_818 wp_27 wd_816 ⟨by decide +kernel, by decide +kernel⟩ rfl rfl rfl (by decide +kernel),
  ps_aln (kf := 0) (by decide +kernel) rfl,
  ps_get cl_9 (k := 13) (by decide) wd_686 (by decide +kernel),
  ps_lclt (off := 23) (by decide +kernel) (by decide +kernel) (by decide +kernel),
  ps_aln (kf := 0) (by decide +kernel) rfl,
  ps_iln (kf := 2) (by decide +kernel) rfl,
  ps_iconst (n := 0) (by decide +kernel) (by decide +kernel),
  ps_aln (kf := 0) (by decide +kernel) rfl,
  ps_get cl_9 (k := 0) (by decide) wd_673 (by decide +kernel),
  ps_iconst (n := 0) (by decide +kernel) (by decide +kernel),
  ps_lald (by decide +kernel),
  ps_callV cl_9 rfl ce_X9_spanOf wd_818 wp_27 wd_816 ⟨by decide +kernel, by decide +kernel⟩ rfl rfl rfl (by decide +kernel),
  ps_aln (kf := 0) (by decide +kernel) rfl,
  ps_get cl_9 (k := 14) (by decide) wd_687 (by decide +kernel),
  ps_lcle (off := 7) (by decide +kernel) (by decide +kernel) (by decide +kernel),
  ps_iconst (n := 1) (by decide +kernel) (by decide +kernel),
  ps_goto (off := 4) (by decide +kernel) (by decide +kernel),
  ps_iconst (n := 0) (by decide +kernel) (by decide +kernel),
  ps_isn (kf := 3) (by decide +kernel) rfl (by decide +kernel),
  ps_iln (kf := 1) (by decide +kernel) rfl,
  ps_iln (kf := 3) (by decide +kernel) rfl,
  ps_ifeq (off := 9) (by decide +kernel) (by decide +kernel),
  ps_iconst (n := 1) (by decide +kernel) (by decide +kernel),
  ps_iln (kf := 2) (by decide +kernel) rfl,
  ps_ishl (by decide +kernel),
  ps_goto (off := 4) (by decide +kernel) (by decide +kernel),
  ps_iconst (n := 0) (by decide +kernel) (by decide +kernel),
  ps_ior (by decide +kernel),
  ps_isn (kf := 1) (by decide +kernel) rfl (by decide +kernel),
  ps_iinc (n := 1) (by decide +kernel) (by decide +kernel) (by decide +kernel),
  ps_goto (off := -77) (by decide +kernel) (by decide +kernel),
  ps_iln (kf := 1) (by decide +kernel) rfl,
  ps_iret (by decide +kernel) rfl rfl rfl, trivial⟩
def tX9_liars : pm_Cd := [(0, po_al 0), (1, po_callV 9 125 0 4), (4, po_iret)]
set_option maxRecDepth 100000 in
theorem aX9_liars (E : pm_E) : pm_All E 126 (tX9_liars) :=
  ⟨ps_aln (kf := 0) (by decide +kernel) rfl,
  ps_callV cl_9 rfl ce_X9_liarsNow wd_810 wp_25 wd_808 ⟨by decide +kernel, by decide +kernel⟩ rfl rfl rfl (by decide +kernel),
  ps_iret (by decide +kernel) rfl rfl rfl, trivial⟩
def tX9_ones : pm_Cd := [(0, po_ic (0)), (1, po_is 1), (2, po_ic (0)), (3, po_is 2), (4, po_mark), (4, po_il 2), (5, po_ic (6)), (7, po_icge 24), (10, po_il 1), (11, po_il 0), (12, po_il 2), (13, po_ishr), (14, po_ic (1)), (15, po_iand), (16, po_iadd), (17, po_is 1), (18, po_iinc 2 (1)), (21, po_goto 4), (24, po_il 1), (25, po_iret)]
set_option maxRecDepth 100000 in
theorem aX9_ones (E : pm_E) : pm_All E 127 (tX9_ones) :=
  ⟨ps_iconst (n := 0) (by decide +kernel) (by decide +kernel),
  ps_isn (kf := 1) (by decide +kernel) rfl (by decide +kernel),
  ps_iconst (n := 0) (by decide +kernel) (by decide +kernel),
  ps_isn (kf := 2) (by decide +kernel) rfl (by decide +kernel),
  ps_mark,
  ps_iln (kf := 2) (by decide +kernel) rfl,
  ps_bipush (n := 6) (by decide +kernel) (by decide +kernel),
  ps_icge (off := 17) (by decide +kernel) (by decide +kernel),
  ps_iln (kf := 1) (by decide +kernel) rfl,
  ps_iln (kf := 0) (by decide +kernel) rfl,
  ps_iln (kf := 2) (by decide +kernel) rfl,
  ps_ishr (by decide +kernel),
  ps_iconst (n := 1) (by decide +kernel) (by decide +kernel),
  ps_iand (by decide +kernel),
  ps_iadd (by decide +kernel),
  ps_isn (kf := 1) (by decide +kernel) rfl (by decide +kernel),
  ps_iinc (n := 1) (by decide +kernel) (by decide +kernel) (by decide +kernel),
  ps_goto (off := -17) (by decide +kernel) (by decide +kernel),
  ps_iln (kf := 1) (by decide +kernel) rfl,
  ps_iret (by decide +kernel) rfl rfl rfl, trivial⟩
def tX9_openMany : pm_Cd := [(0, po_ic (0)), (1, po_is 1), (2, po_ic (0)), (3, po_is 2), (4, po_mark), (4, po_il 2), (5, po_i2l), (6, po_al 0), (7, po_get 9 0), (10, po_ic (3)), (11, po_lald), (12, po_lcge 50), (16, po_il 1), (17, po_al 0), (18, po_get 9 0), (21, po_ic (28)), (23, po_ic (5)), (24, po_il 2), (25, po_imul), (26, po_iadd), (27, po_ic (4)), (28, po_iadd), (29, po_lald), (30, po_lc (-4)), (33, po_lcne 41), (37, po_ic (1)), (38, po_goto 42), (41, po_ic (0)), (42, po_iadd), (43, po_is 1), (44, po_iinc 2 (1)), (47, po_goto 4), (50, po_il 1), (51, po_iret)]
set_option maxRecDepth 100000 in
theorem aX9_openMany (E : pm_E) : pm_All E 128 (tX9_openMany) :=
  ⟨ps_iconst (n := 0) (by decide +kernel) (by decide +kernel),
  ps_isn (kf := 1) (by decide +kernel) rfl (by decide +kernel),
  ps_iconst (n := 0) (by decide +kernel) (by decide +kernel),
  ps_isn (kf := 2) (by decide +kernel) rfl (by decide +kernel),
  ps_mark,
  ps_iln (kf := 2) (by decide +kernel) rfl,
  ps_i2l (by decide +kernel),
  ps_aln (kf := 0) (by decide +kernel) rfl,
  ps_get cl_9 (k := 0) (by decide) wd_673 (by decide +kernel),
  ps_iconst (n := 3) (by decide +kernel) (by decide +kernel),
  ps_lald (by decide +kernel),
  ps_lcge (off := 37) (by decide +kernel) (by decide +kernel) (by decide +kernel),
  ps_iln (kf := 1) (by decide +kernel) rfl,
  ps_aln (kf := 0) (by decide +kernel) rfl,
  ps_get cl_9 (k := 0) (by decide) wd_673 (by decide +kernel),
  ps_bipush (n := 28) (by decide +kernel) (by decide +kernel),
  ps_iconst (n := 5) (by decide +kernel) (by decide +kernel),
  ps_iln (kf := 2) (by decide +kernel) rfl,
  ps_imul (by decide +kernel),
  ps_iadd (by decide +kernel),
  ps_iconst (n := 4) (by decide +kernel) (by decide +kernel),
  ps_iadd (by decide +kernel),
  ps_lald (by decide +kernel),
  ps_ldc2 (n := 161) (by decide +kernel) wd_849,
  ps_lcne (off := 7) (by decide +kernel) (by decide +kernel) (by decide +kernel),
  ps_iconst (n := 1) (by decide +kernel) (by decide +kernel),
  ps_goto (off := 4) (by decide +kernel) (by decide +kernel),
  ps_iconst (n := 0) (by decide +kernel) (by decide +kernel),
  ps_iadd (by decide +kernel),
  ps_isn (kf := 1) (by decide +kernel) rfl (by decide +kernel),
  ps_iinc (n := 1) (by decide +kernel) (by decide +kernel) (by decide +kernel),
  ps_goto (off := -43) (by decide +kernel) (by decide +kernel),
  ps_iln (kf := 1) (by decide +kernel) rfl,
  ps_iret (by decide +kernel) rfl rfl rfl, trivial⟩
def tX9_latest : pm_Cd := [(0, po_al 0), (1, po_get 9 0), (4, po_ic (3)), (5, po_lald), (6, po_lc (0)), (7, po_lcne 17), (11, po_lc (-2000000000000)), (14, po_goto 36), (17, po_al 0), (18, po_get 9 0), (21, po_ic (28)), (23, po_ic (5)), (24, po_al 0), (25, po_get 9 0), (28, po_ic (3)), (29, po_lald), (30, po_l2i), (31, po_imul), (32, po_iadd), (33, po_ic (3)), (34, po_isub), (35, po_lald), (36, po_lret)]
set_option maxRecDepth 100000 in
theorem aX9_latest (E : pm_E) : pm_All E 129 (tX9_latest) :=
  ⟨ps_aln (kf := 0) (by decide +kernel) rfl,
  ps_get cl_9 (k := 0) (by decide) wd_673 (by decide +kernel),
  ps_iconst (n := 3) (by decide +kernel) (by decide +kernel),
  ps_lald (by decide +kernel),
  ps_lconst (n := 0) (by decide +kernel) (by decide +kernel),
  ps_lcne (off := 9) (by decide +kernel) (by decide +kernel) (by decide +kernel),
  ps_ldc2 (n := 193) (by decide +kernel) wd_858,
  ps_goto (off := 22) (by decide +kernel) (by decide +kernel),
  ps_aln (kf := 0) (by decide +kernel) rfl,
  ps_get cl_9 (k := 0) (by decide) wd_673 (by decide +kernel),
  ps_bipush (n := 28) (by decide +kernel) (by decide +kernel),
  ps_iconst (n := 5) (by decide +kernel) (by decide +kernel),
  ps_aln (kf := 0) (by decide +kernel) rfl,
  ps_get cl_9 (k := 0) (by decide) wd_673 (by decide +kernel),
  ps_iconst (n := 3) (by decide +kernel) (by decide +kernel),
  ps_lald (by decide +kernel),
  ps_l2i (by decide +kernel),
  ps_imul (by decide +kernel),
  ps_iadd (by decide +kernel),
  ps_iconst (n := 3) (by decide +kernel) (by decide +kernel),
  ps_isub (by decide +kernel),
  ps_lald (by decide +kernel),
  ps_lret (by decide +kernel) rfl rfl rfl, trivial⟩
def tX9_commit : pm_Cd := [(0, po_il 1), (1, po_i2l), (2, po_lc (0)), (3, po_lc (5)), (6, po_callS 89 3 6), (9, po_ifeq 24), (12, po_il 2), (13, po_i2l), (14, po_lc (0)), (15, po_lc (999999)), (18, po_callS 89 3 6), (21, po_ifne 26), (24, po_ic (-1)), (25, po_iret), (26, po_al 0), (27, po_al 0), (28, po_get 9 0), (31, po_ic (0)), (32, po_lald), (33, po_callV 9 119 1 6), (36, po_al 0), (37, po_callV 9 120 0 1), (40, po_ifne 46), (43, po_ic (-2)), (45, po_iret), (46, po_al 0), (47, po_get 9 0), (50, po_ic (3)), (51, po_lald), (52, po_lc (16)), (55, po_lcne 62), (59, po_ic (-3)), (61, po_iret), (62, po_al 0), (63, po_callV 9 104 0 2), (66, po_al 0), (67, po_get 9 0), (70, po_ic (3)), (71, po_lald), (72, po_l2i), (73, po_is 3), (74, po_al 0), (75, po_callV 9 129 0 1), (78, po_lc (1)), (79, po_ladd), (80, po_ls 4), (82, po_ic (28)), (84, po_ic (5)), (85, po_il 3), (86, po_imul), (87, po_iadd), (88, po_is 6), (90, po_al 0), (91, po_get 9 0), (94, po_il 6), (96, po_il 1), (97, po_i2l), (98, po_last), (99, po_al 0), (100, po_get 9 0), (103, po_il 6), (105, po_ic (1)), (106, po_iadd), (107, po_il 2), (108, po_i2l), (109, po_last), (110, po_al 0), (111, po_get 9 0), (114, po_il 6), (116, po_ic (2)), (117, po_iadd), (118, po_il 3), (119, po_ifle 137), (122, po_ll 4), (124, po_al 0), (125, po_get 9 14), (128, po_lcle 137), (132, po_ll 4), (134, po_goto 141), (137, po_al 0), (138, po_get 9 14), (141, po_last), (142, po_al 0), (143, po_get 9 0), (146, po_il 6), (148, po_ic (3)), (149, po_iadd), (150, po_al 0), (151, po_get 9 0), (154, po_ic (0)), (155, po_lald), (156, po_last), (157, po_al 0), (158, po_get 9 0), (161, po_il 6), (163, po_ic (4)), (164, po_iadd), (165, po_lc (-4)), (168, po_last), (169, po_al 0), (170, po_get 9 0), (173, po_ic (3)), (174, po_dup2), (175, po_lald), (176, po_lc (1)), (177, po_ladd), (178, po_last), (179, po_il 3), (180, po_iret)]
set_option maxRecDepth 100000 in
theorem aX9_commit (E : pm_E) : pm_All E 130 (tX9_commit) :=
  ⟨ps_iln (kf := 1) (by decide +kernel) rfl,
  ps_i2l (by decide +kernel),
  ps_lconst (n := 0) (by decide +kernel) (by decide +kernel),
  ps_ldc2 (n := 101) (by decide +kernel) wd_762,
  ps_callS ce_X9_within wd_726 wd_725 ⟨by decide +kernel, by decide +kernel⟩ rfl rfl rfl (by decide +kernel),
  ps_ifeq (off := 15) (by decide +kernel) (by decide +kernel),
  ps_iln (kf := 2) (by decide +kernel) rfl,
  ps_i2l (by decide +kernel),
  ps_lconst (n := 0) (by decide +kernel) (by decide +kernel),
  ps_ldc2 (n := 107) (by decide +kernel) wd_753,
  ps_callS ce_X9_within wd_726 wd_725 ⟨by decide +kernel, by decide +kernel⟩ rfl rfl rfl (by decide +kernel),
  ps_ifne (off := 5) (by decide +kernel) (by decide +kernel),
  ps_iconst (n := -1) (by decide +kernel) (by decide +kernel),
  ps_iret (by decide +kernel) rfl rfl rfl,
  ps_aln (kf := 0) (by decide +kernel) rfl,
  ps_aln (kf := 0) (by decide +kernel) rfl,
  ps_get cl_9 (k := 0) (by decide) wd_673 (by decide +kernel),
  ps_iconst (n := 0) (by decide +kernel) (by decide +kernel),
  ps_lald (by decide +kernel),
  ps_callV cl_9 rfl ce_X9_find wd_814 wp_26 wd_812 ⟨by decide +kernel, by decide +kernel⟩ rfl rfl rfl (by decide +kernel),
  ps_aln (kf := 0) (by decide +kernel) rfl,
  ps_callV cl_9 rfl ce_X9_isGood wd_852 wp_32 wd_850 ⟨by decide +kernel, by decide +kernel⟩ rfl rfl rfl (by decide +kernel),
  ps_ifne (off := 6) (by decide +kernel) (by decide +kernel),
  ps_bipush (n := -2) (by decide +kernel) (by decide +kernel),
  ps_iret (by decide +kernel) rfl rfl rfl,
  ps_aln (kf := 0) (by decide +kernel) rfl,
  ps_get cl_9 (k := 0) (by decide) wd_673 (by decide +kernel),
  ps_iconst (n := 3) (by decide +kernel) (by decide +kernel),
  ps_lald (by decide +kernel),
  ps_ldc2 (n := 199) (by decide +kernel) wd_881,
  ps_lcne (off := 6) (by decide +kernel) (by decide +kernel) (by decide +kernel),
  ps_bipush (n := -3) (by decide +kernel) (by decide +kernel),
  ps_iret (by decide +kernel) rfl rfl rfl,
  ps_aln (kf := 0) (by decide +kernel) rfl,
  ps_callV cl_9 rfl ce_X9_note wd_798 wp_24 wd_796 ⟨by decide +kernel, by decide +kernel⟩ rfl rfl rfl (by decide +kernel),
  ps_aln (kf := 0) (by decide +kernel) rfl,
  ps_get cl_9 (k := 0) (by decide) wd_673 (by decide +kernel),
  ps_iconst (n := 3) (by decide +kernel) (by decide +kernel),
  ps_lald (by decide +kernel),
  ps_l2i (by decide +kernel),
  ps_isn (kf := 3) (by decide +kernel) rfl (by decide +kernel),
  ps_aln (kf := 0) (by decide +kernel) rfl,
  ps_callV cl_9 rfl ce_X9_latest wd_884 wp_33 wd_882 ⟨by decide +kernel, by decide +kernel⟩ rfl rfl rfl (by decide +kernel),
  ps_lconst (n := 1) (by decide +kernel) (by decide +kernel),
  ps_ladd (by decide +kernel),
  ps_ls (by decide +kernel) (by decide +kernel),
  ps_bipush (n := 28) (by decide +kernel) (by decide +kernel),
  ps_iconst (n := 5) (by decide +kernel) (by decide +kernel),
  ps_iln (kf := 3) (by decide +kernel) rfl,
  ps_imul (by decide +kernel),
  ps_iadd (by decide +kernel),
  ps_is (by decide +kernel) (by decide +kernel),
  ps_aln (kf := 0) (by decide +kernel) rfl,
  ps_get cl_9 (k := 0) (by decide) wd_673 (by decide +kernel),
  ps_il (by decide +kernel),
  ps_iln (kf := 1) (by decide +kernel) rfl,
  ps_i2l (by decide +kernel),
  ps_last (by decide +kernel),
  ps_aln (kf := 0) (by decide +kernel) rfl,
  ps_get cl_9 (k := 0) (by decide) wd_673 (by decide +kernel),
  ps_il (by decide +kernel),
  ps_iconst (n := 1) (by decide +kernel) (by decide +kernel),
  ps_iadd (by decide +kernel),
  ps_iln (kf := 2) (by decide +kernel) rfl,
  ps_i2l (by decide +kernel),
  ps_last (by decide +kernel),
  ps_aln (kf := 0) (by decide +kernel) rfl,
  ps_get cl_9 (k := 0) (by decide) wd_673 (by decide +kernel),
  ps_il (by decide +kernel),
  ps_iconst (n := 2) (by decide +kernel) (by decide +kernel),
  ps_iadd (by decide +kernel),
  ps_iln (kf := 3) (by decide +kernel) rfl,
  ps_ifle (off := 18) (by decide +kernel) (by decide +kernel),
  ps_ll (by decide +kernel),
  ps_aln (kf := 0) (by decide +kernel) rfl,
  ps_get cl_9 (k := 14) (by decide) wd_687 (by decide +kernel),
  ps_lcle (off := 8) (by decide +kernel) (by decide +kernel) (by decide +kernel),
  ps_ll (by decide +kernel),
  ps_goto (off := 7) (by decide +kernel) (by decide +kernel),
  ps_aln (kf := 0) (by decide +kernel) rfl,
  ps_get cl_9 (k := 14) (by decide) wd_687 (by decide +kernel),
  ps_last (by decide +kernel),
  ps_aln (kf := 0) (by decide +kernel) rfl,
  ps_get cl_9 (k := 0) (by decide) wd_673 (by decide +kernel),
  ps_il (by decide +kernel),
  ps_iconst (n := 3) (by decide +kernel) (by decide +kernel),
  ps_iadd (by decide +kernel),
  ps_aln (kf := 0) (by decide +kernel) rfl,
  ps_get cl_9 (k := 0) (by decide) wd_673 (by decide +kernel),
  ps_iconst (n := 0) (by decide +kernel) (by decide +kernel),
  ps_lald (by decide +kernel),
  ps_last (by decide +kernel),
  ps_aln (kf := 0) (by decide +kernel) rfl,
  ps_get cl_9 (k := 0) (by decide) wd_673 (by decide +kernel),
  ps_il (by decide +kernel),
  ps_iconst (n := 4) (by decide +kernel) (by decide +kernel),
  ps_iadd (by decide +kernel),
  ps_ldc2 (n := 161) (by decide +kernel) wd_849,
  ps_last (by decide +kernel),
  ps_aln (kf := 0) (by decide +kernel) rfl,
  ps_get cl_9 (k := 0) (by decide) wd_673 (by decide +kernel),
  ps_iconst (n := 3) (by decide +kernel) (by decide +kernel),
  ps_dup2 (by decide +kernel),
  ps_lald (by decide +kernel),
  ps_lconst (n := 1) (by decide +kernel) (by decide +kernel),
  ps_ladd (by decide +kernel),
  ps_last (by decide +kernel),
  ps_iln (kf := 3) (by decide +kernel) rfl,
  ps_iret (by decide +kernel) rfl rfl rfl, trivial⟩
def tX9_isCommit : pm_Cd := [(0, po_il 1), (1, po_i2l), (2, po_lc (0)), (3, po_al 0), (4, po_get 9 0), (7, po_ic (3)), (8, po_lald), (9, po_lc (1)), (10, po_lsub), (11, po_callS 89 3 6), (14, po_zret .boolean)]
set_option maxRecDepth 100000 in
theorem aX9_isCommit (E : pm_E) : pm_All E 131 (tX9_isCommit) :=
  ⟨ps_iln (kf := 1) (by decide +kernel) rfl,
  ps_i2l (by decide +kernel),
  ps_lconst (n := 0) (by decide +kernel) (by decide +kernel),
  ps_aln (kf := 0) (by decide +kernel) rfl,
  ps_get cl_9 (k := 0) (by decide) wd_673 (by decide +kernel),
  ps_iconst (n := 3) (by decide +kernel) (by decide +kernel),
  ps_lald (by decide +kernel),
  ps_lconst (n := 1) (by decide +kernel) (by decide +kernel),
  ps_lsub (by decide +kernel),
  ps_callS ce_X9_within wd_726 wd_725 ⟨by decide +kernel, by decide +kernel⟩ rfl rfl rfl (by decide +kernel),
  ps_zret (by decide +kernel) rfl rfl rfl, trivial⟩
def tX9_commitOf : pm_Cd := [(0, po_al 0), (1, po_il 1), (2, po_callV 9 131 1 2), (5, po_ifeq 36), (8, po_il 2), (9, po_i2l), (10, po_lc (0)), (11, po_lc (4)), (14, po_callS 89 3 6), (17, po_ifeq 36), (20, po_al 0), (21, po_get 9 0), (24, po_ic (28)), (26, po_ic (5)), (27, po_il 1), (28, po_imul), (29, po_iadd), (30, po_il 2), (31, po_iadd), (32, po_lald), (33, po_goto 39), (36, po_lc (-1)), (39, po_lret)]
set_option maxRecDepth 100000 in
theorem aX9_commitOf (E : pm_E) : pm_All E 132 (tX9_commitOf) :=
  ⟨ps_aln (kf := 0) (by decide +kernel) rfl,
  ps_iln (kf := 1) (by decide +kernel) rfl,
  ps_callV cl_9 rfl ce_X9_isCommit wd_892 wp_34 wd_890 ⟨by decide +kernel, by decide +kernel⟩ rfl rfl rfl (by decide +kernel),
  ps_ifeq (off := 31) (by decide +kernel) (by decide +kernel),
  ps_iln (kf := 2) (by decide +kernel) rfl,
  ps_i2l (by decide +kernel),
  ps_lconst (n := 0) (by decide +kernel) (by decide +kernel),
  ps_ldc2 (n := 207) (by decide +kernel) wd_894,
  ps_callS ce_X9_within wd_726 wd_725 ⟨by decide +kernel, by decide +kernel⟩ rfl rfl rfl (by decide +kernel),
  ps_ifeq (off := 19) (by decide +kernel) (by decide +kernel),
  ps_aln (kf := 0) (by decide +kernel) rfl,
  ps_get cl_9 (k := 0) (by decide) wd_673 (by decide +kernel),
  ps_bipush (n := 28) (by decide +kernel) (by decide +kernel),
  ps_iconst (n := 5) (by decide +kernel) (by decide +kernel),
  ps_iln (kf := 1) (by decide +kernel) rfl,
  ps_imul (by decide +kernel),
  ps_iadd (by decide +kernel),
  ps_iln (kf := 2) (by decide +kernel) rfl,
  ps_iadd (by decide +kernel),
  ps_lald (by decide +kernel),
  ps_goto (off := 6) (by decide +kernel) (by decide +kernel),
  ps_ldc2 (n := 91) (by decide +kernel) wd_752,
  ps_lret (by decide +kernel) rfl rfl rfl, trivial⟩
def tX9_waiting : pm_Cd := [(0, po_al 0), (1, po_il 1), (2, po_callV 9 131 1 2), (5, po_ifne 10), (8, po_ic (-1)), (9, po_iret), (10, po_al 0), (11, po_get 9 0), (14, po_ic (28)), (16, po_ic (5)), (17, po_il 1), (18, po_imul), (19, po_iadd), (20, po_ic (4)), (21, po_iadd), (22, po_lald), (23, po_lc (-4)), (26, po_lceq 33), (30, po_ic (-2)), (32, po_iret), (33, po_ic (0)), (34, po_is 2), (35, po_mark), (35, po_il 2), (36, po_ic (2000)), (39, po_icgt 91), (42, po_al 0), (43, po_al 0), (44, po_get 9 0), (47, po_ic (0)), (48, po_lald), (49, po_il 2), (50, po_i2l), (51, po_ladd), (52, po_callV 9 119 1 6), (55, po_al 0), (56, po_callV 9 120 0 1), (59, po_ifeq 85), (62, po_al 0), (63, po_get 9 13), (66, po_al 0), (67, po_get 9 0), (70, po_ic (28)), (72, po_ic (5)), (73, po_il 1), (74, po_imul), (75, po_iadd), (76, po_ic (2)), (77, po_iadd), (78, po_lald), (79, po_lcle 85), (83, po_il 2), (84, po_iret), (85, po_iinc 2 (1)), (88, po_goto 35), (91, po_ic (-4)), (93, po_iret)]
set_option maxRecDepth 100000 in
theorem aX9_waiting (E : pm_E) : pm_All E 133 (tX9_waiting) :=
  ⟨ps_aln (kf := 0) (by decide +kernel) rfl,
  ps_iln (kf := 1) (by decide +kernel) rfl,
  ps_callV cl_9 rfl ce_X9_isCommit wd_892 wp_34 wd_890 ⟨by decide +kernel, by decide +kernel⟩ rfl rfl rfl (by decide +kernel),
  ps_ifne (off := 5) (by decide +kernel) (by decide +kernel),
  ps_iconst (n := -1) (by decide +kernel) (by decide +kernel),
  ps_iret (by decide +kernel) rfl rfl rfl,
  ps_aln (kf := 0) (by decide +kernel) rfl,
  ps_get cl_9 (k := 0) (by decide) wd_673 (by decide +kernel),
  ps_bipush (n := 28) (by decide +kernel) (by decide +kernel),
  ps_iconst (n := 5) (by decide +kernel) (by decide +kernel),
  ps_iln (kf := 1) (by decide +kernel) rfl,
  ps_imul (by decide +kernel),
  ps_iadd (by decide +kernel),
  ps_iconst (n := 4) (by decide +kernel) (by decide +kernel),
  ps_iadd (by decide +kernel),
  ps_lald (by decide +kernel),
  ps_ldc2 (n := 161) (by decide +kernel) wd_849,
  ps_lceq (off := 6) (by decide +kernel) (by decide +kernel) (by decide +kernel),
  ps_bipush (n := -2) (by decide +kernel) (by decide +kernel),
  ps_iret (by decide +kernel) rfl rfl rfl,
  ps_iconst (n := 0) (by decide +kernel) (by decide +kernel),
  ps_isn (kf := 2) (by decide +kernel) rfl (by decide +kernel),
  ps_mark,
  ps_iln (kf := 2) (by decide +kernel) rfl,
  ps_sipush (n := 2000) (by decide +kernel) (by decide +kernel),
  ps_icgt (off := 52) (by decide +kernel) (by decide +kernel),
  ps_aln (kf := 0) (by decide +kernel) rfl,
  ps_aln (kf := 0) (by decide +kernel) rfl,
  ps_get cl_9 (k := 0) (by decide) wd_673 (by decide +kernel),
  ps_iconst (n := 0) (by decide +kernel) (by decide +kernel),
  ps_lald (by decide +kernel),
  ps_iln (kf := 2) (by decide +kernel) rfl,
  ps_i2l (by decide +kernel),
  ps_ladd (by decide +kernel),
  ps_callV cl_9 rfl ce_X9_find wd_814 wp_26 wd_812 ⟨by decide +kernel, by decide +kernel⟩ rfl rfl rfl (by decide +kernel),
  ps_aln (kf := 0) (by decide +kernel) rfl,
  ps_callV cl_9 rfl ce_X9_isGood wd_852 wp_32 wd_850 ⟨by decide +kernel, by decide +kernel⟩ rfl rfl rfl (by decide +kernel),
  ps_ifeq (off := 26) (by decide +kernel) (by decide +kernel),
  ps_aln (kf := 0) (by decide +kernel) rfl,
  ps_get cl_9 (k := 13) (by decide) wd_686 (by decide +kernel),
  ps_aln (kf := 0) (by decide +kernel) rfl,
  ps_get cl_9 (k := 0) (by decide) wd_673 (by decide +kernel),
  ps_bipush (n := 28) (by decide +kernel) (by decide +kernel),
  ps_iconst (n := 5) (by decide +kernel) (by decide +kernel),
  ps_iln (kf := 1) (by decide +kernel) rfl,
  ps_imul (by decide +kernel),
  ps_iadd (by decide +kernel),
  ps_iconst (n := 2) (by decide +kernel) (by decide +kernel),
  ps_iadd (by decide +kernel),
  ps_lald (by decide +kernel),
  ps_lcle (off := 5) (by decide +kernel) (by decide +kernel) (by decide +kernel),
  ps_iln (kf := 2) (by decide +kernel) rfl,
  ps_iret (by decide +kernel) rfl rfl rfl,
  ps_iinc (n := 1) (by decide +kernel) (by decide +kernel) (by decide +kernel),
  ps_goto (off := -53) (by decide +kernel) (by decide +kernel),
  ps_bipush (n := -4) (by decide +kernel) (by decide +kernel),
  ps_iret (by decide +kernel) rfl rfl rfl, trivial⟩
def tX9_safeNow : pm_Cd := [(0, po_lc (8000000000000)), (3, po_ls 1), (4, po_ic (0)), (5, po_is 3), (6, po_mark), (6, po_il 3), (7, po_i2l), (8, po_al 0), (9, po_get 9 0), (12, po_ic (3)), (13, po_lald), (14, po_lcge 76), (18, po_ic (28)), (20, po_ic (5)), (21, po_il 3), (22, po_imul), (23, po_iadd), (24, po_is 4), (26, po_al 0), (27, po_get 9 0), (30, po_il 4), (32, po_ic (4)), (33, po_iadd), (34, po_lald), (35, po_lc (-4)), (38, po_lcne 68), (42, po_al 0), (43, po_get 9 0), (46, po_il 4), (48, po_ic (2)), (49, po_iadd), (50, po_lald), (51, po_ll 1), (52, po_lcge 68), (56, po_al 0), (57, po_get 9 0), (60, po_il 4), (62, po_ic (2)), (63, po_iadd), (64, po_lald), (65, po_goto 69), (68, po_ll 1), (69, po_ls 1), (70, po_iinc 3 (1)), (73, po_goto 6), (76, po_al 0), (77, po_callV 9 128 0 3), (80, po_ifle 87), (83, po_ll 1), (84, po_lc (1)), (85, po_lsub), (86, po_lret), (87, po_al 0), (88, po_al 0), (89, po_get 9 0), (92, po_ic (0)), (93, po_lald), (94, po_callV 9 119 1 6), (97, po_al 0), (98, po_callV 9 129 0 1), (101, po_ls 3), (102, po_al 0), (103, po_callV 9 120 0 1), (106, po_ifeq 129), (109, po_al 0), (110, po_get 9 13), (113, po_lc (1)), (114, po_lsub), (115, po_ll 3), (116, po_lcle 129), (120, po_al 0), (121, po_get 9 13), (124, po_lc (1)), (125, po_lsub), (126, po_goto 130), (129, po_ll 3), (130, po_lret)]
set_option maxRecDepth 100000 in
theorem aX9_safeNow (E : pm_E) : pm_All E 134 (tX9_safeNow) :=
  ⟨ps_ldc2 (n := 209) (by decide +kernel) wd_907,
  ps_lsn (kf := 1) (by decide +kernel) rfl (by decide +kernel),
  ps_iconst (n := 0) (by decide +kernel) (by decide +kernel),
  ps_isn (kf := 3) (by decide +kernel) rfl (by decide +kernel),
  ps_mark,
  ps_iln (kf := 3) (by decide +kernel) rfl,
  ps_i2l (by decide +kernel),
  ps_aln (kf := 0) (by decide +kernel) rfl,
  ps_get cl_9 (k := 0) (by decide) wd_673 (by decide +kernel),
  ps_iconst (n := 3) (by decide +kernel) (by decide +kernel),
  ps_lald (by decide +kernel),
  ps_lcge (off := 61) (by decide +kernel) (by decide +kernel) (by decide +kernel),
  ps_bipush (n := 28) (by decide +kernel) (by decide +kernel),
  ps_iconst (n := 5) (by decide +kernel) (by decide +kernel),
  ps_iln (kf := 3) (by decide +kernel) rfl,
  ps_imul (by decide +kernel),
  ps_iadd (by decide +kernel),
  ps_is (by decide +kernel) (by decide +kernel),
  ps_aln (kf := 0) (by decide +kernel) rfl,
  ps_get cl_9 (k := 0) (by decide) wd_673 (by decide +kernel),
  ps_il (by decide +kernel),
  ps_iconst (n := 4) (by decide +kernel) (by decide +kernel),
  ps_iadd (by decide +kernel),
  ps_lald (by decide +kernel),
  ps_ldc2 (n := 161) (by decide +kernel) wd_849,
  ps_lcne (off := 29) (by decide +kernel) (by decide +kernel) (by decide +kernel),
  ps_aln (kf := 0) (by decide +kernel) rfl,
  ps_get cl_9 (k := 0) (by decide) wd_673 (by decide +kernel),
  ps_il (by decide +kernel),
  ps_iconst (n := 2) (by decide +kernel) (by decide +kernel),
  ps_iadd (by decide +kernel),
  ps_lald (by decide +kernel),
  ps_lln (kf := 1) (by decide +kernel) rfl,
  ps_lcge (off := 15) (by decide +kernel) (by decide +kernel) (by decide +kernel),
  ps_aln (kf := 0) (by decide +kernel) rfl,
  ps_get cl_9 (k := 0) (by decide) wd_673 (by decide +kernel),
  ps_il (by decide +kernel),
  ps_iconst (n := 2) (by decide +kernel) (by decide +kernel),
  ps_iadd (by decide +kernel),
  ps_lald (by decide +kernel),
  ps_goto (off := 4) (by decide +kernel) (by decide +kernel),
  ps_lln (kf := 1) (by decide +kernel) rfl,
  ps_lsn (kf := 1) (by decide +kernel) rfl (by decide +kernel),
  ps_iinc (n := 1) (by decide +kernel) (by decide +kernel) (by decide +kernel),
  ps_goto (off := -67) (by decide +kernel) (by decide +kernel),
  ps_aln (kf := 0) (by decide +kernel) rfl,
  ps_callV cl_9 rfl ce_X9_openMany wd_847 wp_31 wd_845 ⟨by decide +kernel, by decide +kernel⟩ rfl rfl rfl (by decide +kernel),
  ps_ifle (off := 7) (by decide +kernel) (by decide +kernel),
  ps_lln (kf := 1) (by decide +kernel) rfl,
  ps_lconst (n := 1) (by decide +kernel) (by decide +kernel),
  ps_lsub (by decide +kernel),
  ps_lret (by decide +kernel) rfl rfl rfl,
  ps_aln (kf := 0) (by decide +kernel) rfl,
  ps_aln (kf := 0) (by decide +kernel) rfl,
  ps_get cl_9 (k := 0) (by decide) wd_673 (by decide +kernel),
  ps_iconst (n := 0) (by decide +kernel) (by decide +kernel),
  ps_lald (by decide +kernel),
  ps_callV cl_9 rfl ce_X9_find wd_814 wp_26 wd_812 ⟨by decide +kernel, by decide +kernel⟩ rfl rfl rfl (by decide +kernel),
  ps_aln (kf := 0) (by decide +kernel) rfl,
  ps_callV cl_9 rfl ce_X9_latest wd_884 wp_33 wd_882 ⟨by decide +kernel, by decide +kernel⟩ rfl rfl rfl (by decide +kernel),
  ps_lsn (kf := 3) (by decide +kernel) rfl (by decide +kernel),
  ps_aln (kf := 0) (by decide +kernel) rfl,
  ps_callV cl_9 rfl ce_X9_isGood wd_852 wp_32 wd_850 ⟨by decide +kernel, by decide +kernel⟩ rfl rfl rfl (by decide +kernel),
  ps_ifeq (off := 23) (by decide +kernel) (by decide +kernel),
  ps_aln (kf := 0) (by decide +kernel) rfl,
  ps_get cl_9 (k := 13) (by decide) wd_686 (by decide +kernel),
  ps_lconst (n := 1) (by decide +kernel) (by decide +kernel),
  ps_lsub (by decide +kernel),
  ps_lln (kf := 3) (by decide +kernel) rfl,
  ps_lcle (off := 12) (by decide +kernel) (by decide +kernel) (by decide +kernel),
  ps_aln (kf := 0) (by decide +kernel) rfl,
  ps_get cl_9 (k := 13) (by decide) wd_686 (by decide +kernel),
  ps_lconst (n := 1) (by decide +kernel) (by decide +kernel),
  ps_lsub (by decide +kernel),
  ps_goto (off := 4) (by decide +kernel) (by decide +kernel),
  ps_lln (kf := 3) (by decide +kernel) rfl,
  ps_lret (by decide +kernel) rfl rfl rfl, trivial⟩
def tX9_safe : pm_Cd := [(0, po_al 0), (1, po_callV 9 134 0 5), (4, po_lret)]
set_option maxRecDepth 100000 in
theorem aX9_safe (E : pm_E) : pm_All E 135 (tX9_safe) :=
  ⟨ps_aln (kf := 0) (by decide +kernel) rfl,
  ps_callV cl_9 rfl ce_X9_safeNow wd_905 wp_35 wd_903 ⟨by decide +kernel, by decide +kernel⟩ rfl rfl rfl (by decide +kernel),
  ps_lret (by decide +kernel) rfl rfl rfl, trivial⟩
def tX9_read : pm_Cd := [(0, po_il 1), (1, po_i2l), (2, po_lc (0)), (3, po_lc (5)), (6, po_callS 89 3 6), (9, po_ifeq 23), (12, po_ll 2), (13, po_lc (0)), (14, po_lc (2000000000000)), (17, po_callS 89 3 6), (20, po_ifne 25), (23, po_ic (-1)), (24, po_iret), (25, po_ll 2), (26, po_al 0), (27, po_callV 9 134 0 5), (30, po_lcle 37), (34, po_ic (-2)), (36, po_iret), (37, po_ic (-4)), (39, po_is 4), (41, po_ic (0)), (42, po_is 5), (44, po_mark), (44, po_il 5), (46, po_i2l), (47, po_al 0), (48, po_get 9 0), (51, po_ic (3)), (52, po_lald), (53, po_lcge 116), (57, po_ic (28)), (59, po_ic (5)), (60, po_il 5), (62, po_imul), (63, po_iadd), (64, po_is 6), (66, po_al 0), (67, po_get 9 0), (70, po_il 6), (72, po_lald), (73, po_il 1), (74, po_i2l), (75, po_lcne 106), (79, po_al 0), (80, po_get 9 0), (83, po_il 6), (85, po_ic (2)), (86, po_iadd), (87, po_lald), (88, po_ll 2), (89, po_lcgt 106), (93, po_al 0), (94, po_get 9 0), (97, po_il 6), (99, po_ic (1)), (100, po_iadd), (101, po_lald), (102, po_l2i), (103, po_goto 108), (106, po_il 4), (108, po_is 4), (110, po_iinc 5 (1)), (113, po_goto 44), (116, po_il 4), (118, po_iret)]
set_option maxRecDepth 100000 in
theorem aX9_read (E : pm_E) : pm_All E 136 (tX9_read) :=
  ⟨ps_iln (kf := 1) (by decide +kernel) rfl,
  ps_i2l (by decide +kernel),
  ps_lconst (n := 0) (by decide +kernel) (by decide +kernel),
  ps_ldc2 (n := 101) (by decide +kernel) wd_762,
  ps_callS ce_X9_within wd_726 wd_725 ⟨by decide +kernel, by decide +kernel⟩ rfl rfl rfl (by decide +kernel),
  ps_ifeq (off := 14) (by decide +kernel) (by decide +kernel),
  ps_lln (kf := 2) (by decide +kernel) rfl,
  ps_lconst (n := 0) (by decide +kernel) (by decide +kernel),
  ps_ldc2 (n := 197) (by decide +kernel) wd_872,
  ps_callS ce_X9_within wd_726 wd_725 ⟨by decide +kernel, by decide +kernel⟩ rfl rfl rfl (by decide +kernel),
  ps_ifne (off := 5) (by decide +kernel) (by decide +kernel),
  ps_iconst (n := -1) (by decide +kernel) (by decide +kernel),
  ps_iret (by decide +kernel) rfl rfl rfl,
  ps_lln (kf := 2) (by decide +kernel) rfl,
  ps_aln (kf := 0) (by decide +kernel) rfl,
  ps_callV cl_9 rfl ce_X9_safeNow wd_905 wp_35 wd_903 ⟨by decide +kernel, by decide +kernel⟩ rfl rfl rfl (by decide +kernel),
  ps_lcle (off := 6) (by decide +kernel) (by decide +kernel) (by decide +kernel),
  ps_bipush (n := -2) (by decide +kernel) (by decide +kernel),
  ps_iret (by decide +kernel) rfl rfl rfl,
  ps_bipush (n := -4) (by decide +kernel) (by decide +kernel),
  ps_is (by decide +kernel) (by decide +kernel),
  ps_iconst (n := 0) (by decide +kernel) (by decide +kernel),
  ps_is (by decide +kernel) (by decide +kernel),
  ps_mark,
  ps_il (by decide +kernel),
  ps_i2l (by decide +kernel),
  ps_aln (kf := 0) (by decide +kernel) rfl,
  ps_get cl_9 (k := 0) (by decide) wd_673 (by decide +kernel),
  ps_iconst (n := 3) (by decide +kernel) (by decide +kernel),
  ps_lald (by decide +kernel),
  ps_lcge (off := 62) (by decide +kernel) (by decide +kernel) (by decide +kernel),
  ps_bipush (n := 28) (by decide +kernel) (by decide +kernel),
  ps_iconst (n := 5) (by decide +kernel) (by decide +kernel),
  ps_il (by decide +kernel),
  ps_imul (by decide +kernel),
  ps_iadd (by decide +kernel),
  ps_is (by decide +kernel) (by decide +kernel),
  ps_aln (kf := 0) (by decide +kernel) rfl,
  ps_get cl_9 (k := 0) (by decide) wd_673 (by decide +kernel),
  ps_il (by decide +kernel),
  ps_lald (by decide +kernel),
  ps_iln (kf := 1) (by decide +kernel) rfl,
  ps_i2l (by decide +kernel),
  ps_lcne (off := 30) (by decide +kernel) (by decide +kernel) (by decide +kernel),
  ps_aln (kf := 0) (by decide +kernel) rfl,
  ps_get cl_9 (k := 0) (by decide) wd_673 (by decide +kernel),
  ps_il (by decide +kernel),
  ps_iconst (n := 2) (by decide +kernel) (by decide +kernel),
  ps_iadd (by decide +kernel),
  ps_lald (by decide +kernel),
  ps_lln (kf := 2) (by decide +kernel) rfl,
  ps_lcgt (off := 16) (by decide +kernel) (by decide +kernel) (by decide +kernel),
  ps_aln (kf := 0) (by decide +kernel) rfl,
  ps_get cl_9 (k := 0) (by decide) wd_673 (by decide +kernel),
  ps_il (by decide +kernel),
  ps_iconst (n := 1) (by decide +kernel) (by decide +kernel),
  ps_iadd (by decide +kernel),
  ps_lald (by decide +kernel),
  ps_l2i (by decide +kernel),
  ps_goto (off := 5) (by decide +kernel) (by decide +kernel),
  ps_il (by decide +kernel),
  ps_is (by decide +kernel) (by decide +kernel),
  ps_iinc (n := 1) (by decide +kernel) (by decide +kernel) (by decide +kernel),
  ps_goto (off := -69) (by decide +kernel) (by decide +kernel),
  ps_il (by decide +kernel),
  ps_iret (by decide +kernel) rfl rfl rfl, trivial⟩
def tX9_between : pm_Cd := [(0, po_il 1), (1, po_i2l), (2, po_lc (-1)), (5, po_lc (5)), (8, po_callS 89 3 6), (11, po_ifeq 37), (14, po_ll 2), (15, po_lc (0)), (16, po_lc (2000000000000)), (19, po_callS 89 3 6), (22, po_ifeq 37), (25, po_ll 4), (27, po_ll 2), (28, po_lc (2000000000000)), (31, po_callS 89 3 6), (34, po_ifne 39), (37, po_ic (-1)), (38, po_iret), (39, po_ic (0)), (40, po_is 6), (42, po_ic (0)), (43, po_is 7), (45, po_mark), (45, po_il 7), (47, po_i2l), (48, po_al 0), (49, po_get 9 0), (52, po_ic (3)), (53, po_lald), (54, po_lcge 119), (58, po_ic (28)), (60, po_ic (5)), (61, po_il 7), (63, po_imul), (64, po_iadd), (65, po_is 8), (67, po_il 6), (69, po_il 1), (70, po_ic (-1)), (71, po_iceq 87), (74, po_al 0), (75, po_get 9 0), (78, po_il 8), (80, po_lald), (81, po_il 1), (82, po_i2l), (83, po_lcne 109), (87, po_al 0), (88, po_get 9 0), (91, po_il 8), (93, po_ic (2)), (94, po_iadd), (95, po_lald), (96, po_ll 2), (97, po_ll 4), (99, po_callS 89 3 6), (102, po_ifeq 109), (105, po_ic (1)), (106, po_goto 110), (109, po_ic (0)), (110, po_iadd), (111, po_is 6), (113, po_iinc 7 (1)), (116, po_goto 45), (119, po_il 6), (121, po_iret)]
set_option maxRecDepth 100000 in
theorem aX9_between (E : pm_E) : pm_All E 137 (tX9_between) :=
  ⟨ps_iln (kf := 1) (by decide +kernel) rfl,
  ps_i2l (by decide +kernel),
  ps_ldc2 (n := 91) (by decide +kernel) wd_752,
  ps_ldc2 (n := 101) (by decide +kernel) wd_762,
  ps_callS ce_X9_within wd_726 wd_725 ⟨by decide +kernel, by decide +kernel⟩ rfl rfl rfl (by decide +kernel),
  ps_ifeq (off := 26) (by decide +kernel) (by decide +kernel),
  ps_lln (kf := 2) (by decide +kernel) rfl,
  ps_lconst (n := 0) (by decide +kernel) (by decide +kernel),
  ps_ldc2 (n := 197) (by decide +kernel) wd_872,
  ps_callS ce_X9_within wd_726 wd_725 ⟨by decide +kernel, by decide +kernel⟩ rfl rfl rfl (by decide +kernel),
  ps_ifeq (off := 15) (by decide +kernel) (by decide +kernel),
  ps_ll (by decide +kernel),
  ps_lln (kf := 2) (by decide +kernel) rfl,
  ps_ldc2 (n := 197) (by decide +kernel) wd_872,
  ps_callS ce_X9_within wd_726 wd_725 ⟨by decide +kernel, by decide +kernel⟩ rfl rfl rfl (by decide +kernel),
  ps_ifne (off := 5) (by decide +kernel) (by decide +kernel),
  ps_iconst (n := -1) (by decide +kernel) (by decide +kernel),
  ps_iret (by decide +kernel) rfl rfl rfl,
  ps_iconst (n := 0) (by decide +kernel) (by decide +kernel),
  ps_is (by decide +kernel) (by decide +kernel),
  ps_iconst (n := 0) (by decide +kernel) (by decide +kernel),
  ps_is (by decide +kernel) (by decide +kernel),
  ps_mark,
  ps_il (by decide +kernel),
  ps_i2l (by decide +kernel),
  ps_aln (kf := 0) (by decide +kernel) rfl,
  ps_get cl_9 (k := 0) (by decide) wd_673 (by decide +kernel),
  ps_iconst (n := 3) (by decide +kernel) (by decide +kernel),
  ps_lald (by decide +kernel),
  ps_lcge (off := 64) (by decide +kernel) (by decide +kernel) (by decide +kernel),
  ps_bipush (n := 28) (by decide +kernel) (by decide +kernel),
  ps_iconst (n := 5) (by decide +kernel) (by decide +kernel),
  ps_il (by decide +kernel),
  ps_imul (by decide +kernel),
  ps_iadd (by decide +kernel),
  ps_is (by decide +kernel) (by decide +kernel),
  ps_il (by decide +kernel),
  ps_iln (kf := 1) (by decide +kernel) rfl,
  ps_iconst (n := -1) (by decide +kernel) (by decide +kernel),
  ps_iceq (off := 16) (by decide +kernel) (by decide +kernel),
  ps_aln (kf := 0) (by decide +kernel) rfl,
  ps_get cl_9 (k := 0) (by decide) wd_673 (by decide +kernel),
  ps_il (by decide +kernel),
  ps_lald (by decide +kernel),
  ps_iln (kf := 1) (by decide +kernel) rfl,
  ps_i2l (by decide +kernel),
  ps_lcne (off := 25) (by decide +kernel) (by decide +kernel) (by decide +kernel),
  ps_aln (kf := 0) (by decide +kernel) rfl,
  ps_get cl_9 (k := 0) (by decide) wd_673 (by decide +kernel),
  ps_il (by decide +kernel),
  ps_iconst (n := 2) (by decide +kernel) (by decide +kernel),
  ps_iadd (by decide +kernel),
  ps_lald (by decide +kernel),
  ps_lln (kf := 2) (by decide +kernel) rfl,
  ps_ll (by decide +kernel),
  ps_callS ce_X9_within wd_726 wd_725 ⟨by decide +kernel, by decide +kernel⟩ rfl rfl rfl (by decide +kernel),
  ps_ifeq (off := 7) (by decide +kernel) (by decide +kernel),
  ps_iconst (n := 1) (by decide +kernel) (by decide +kernel),
  ps_goto (off := 4) (by decide +kernel) (by decide +kernel),
  ps_iconst (n := 0) (by decide +kernel) (by decide +kernel),
  ps_iadd (by decide +kernel),
  ps_is (by decide +kernel) (by decide +kernel),
  ps_iinc (n := 1) (by decide +kernel) (by decide +kernel) (by decide +kernel),
  ps_goto (off := -71) (by decide +kernel) (by decide +kernel),
  ps_il (by decide +kernel),
  ps_iret (by decide +kernel) rfl rfl rfl, trivial⟩
def tX9_leap : pm_Cd := [(0, po_il 1), (1, po_i2l), (2, po_lc (0)), (3, po_lc (3)), (6, po_callS 89 3 6), (9, po_ifeq 21), (12, po_al 0), (13, po_get 9 8), (16, po_il 1), (17, po_lald), (18, po_goto 24), (21, po_lc (-1)), (24, po_lret)]
set_option maxRecDepth 100000 in
theorem aX9_leap (E : pm_E) : pm_All E 138 (tX9_leap) :=
  ⟨ps_iln (kf := 1) (by decide +kernel) rfl,
  ps_i2l (by decide +kernel),
  ps_lconst (n := 0) (by decide +kernel) (by decide +kernel),
  ps_ldc2 (n := 214) (by decide +kernel) wd_920,
  ps_callS ce_X9_within wd_726 wd_725 ⟨by decide +kernel, by decide +kernel⟩ rfl rfl rfl (by decide +kernel),
  ps_ifeq (off := 12) (by decide +kernel) (by decide +kernel),
  ps_aln (kf := 0) (by decide +kernel) rfl,
  ps_get cl_9 (k := 8) (by decide) wd_681 (by decide +kernel),
  ps_iln (kf := 1) (by decide +kernel) rfl,
  ps_lald (by decide +kernel),
  ps_goto (off := 6) (by decide +kernel) (by decide +kernel),
  ps_ldc2 (n := 91) (by decide +kernel) wd_752,
  ps_lret (by decide +kernel) rfl rfl rfl, trivial⟩
def tX9_smear : pm_Cd := [(0, po_ll 1), (1, po_al 0), (2, po_get 9 8), (5, po_ic (0)), (6, po_lald), (7, po_lsub), (8, po_ls 3), (9, po_ll 3), (10, po_lc (0)), (11, po_lcgt 19), (15, po_lc (0)), (16, po_goto 54), (19, po_ll 3), (20, po_al 0), (21, po_get 9 8), (24, po_ic (2)), (25, po_lald), (26, po_lclt 39), (30, po_al 0), (31, po_get 9 8), (34, po_ic (1)), (35, po_lald), (36, po_goto 54), (39, po_al 0), (40, po_get 9 8), (43, po_ic (1)), (44, po_lald), (45, po_ll 3), (46, po_lmul), (47, po_al 0), (48, po_get 9 8), (51, po_ic (2)), (52, po_lald), (53, po_ldiv), (54, po_ls 5), (56, po_al 0), (57, po_get 9 8), (60, po_ic (3)), (61, po_lald), (62, po_lc (0)), (63, po_lcne 74), (67, po_ll 1), (68, po_ll 5), (70, po_ladd), (71, po_goto 78), (74, po_ll 1), (75, po_ll 5), (77, po_lsub), (78, po_lret)]
set_option maxRecDepth 100000 in
theorem aX9_smear (E : pm_E) : pm_All E 139 (tX9_smear) :=
  ⟨ps_lln (kf := 1) (by decide +kernel) rfl,
  ps_aln (kf := 0) (by decide +kernel) rfl,
  ps_get cl_9 (k := 8) (by decide) wd_681 (by decide +kernel),
  ps_iconst (n := 0) (by decide +kernel) (by decide +kernel),
  ps_lald (by decide +kernel),
  ps_lsub (by decide +kernel),
  ps_lsn (kf := 3) (by decide +kernel) rfl (by decide +kernel),
  ps_lln (kf := 3) (by decide +kernel) rfl,
  ps_lconst (n := 0) (by decide +kernel) (by decide +kernel),
  ps_lcgt (off := 7) (by decide +kernel) (by decide +kernel) (by decide +kernel),
  ps_lconst (n := 0) (by decide +kernel) (by decide +kernel),
  ps_goto (off := 38) (by decide +kernel) (by decide +kernel),
  ps_lln (kf := 3) (by decide +kernel) rfl,
  ps_aln (kf := 0) (by decide +kernel) rfl,
  ps_get cl_9 (k := 8) (by decide) wd_681 (by decide +kernel),
  ps_iconst (n := 2) (by decide +kernel) (by decide +kernel),
  ps_lald (by decide +kernel),
  ps_lclt (off := 12) (by decide +kernel) (by decide +kernel) (by decide +kernel),
  ps_aln (kf := 0) (by decide +kernel) rfl,
  ps_get cl_9 (k := 8) (by decide) wd_681 (by decide +kernel),
  ps_iconst (n := 1) (by decide +kernel) (by decide +kernel),
  ps_lald (by decide +kernel),
  ps_goto (off := 18) (by decide +kernel) (by decide +kernel),
  ps_aln (kf := 0) (by decide +kernel) rfl,
  ps_get cl_9 (k := 8) (by decide) wd_681 (by decide +kernel),
  ps_iconst (n := 1) (by decide +kernel) (by decide +kernel),
  ps_lald (by decide +kernel),
  ps_lln (kf := 3) (by decide +kernel) rfl,
  ps_lmul (by decide +kernel),
  ps_aln (kf := 0) (by decide +kernel) rfl,
  ps_get cl_9 (k := 8) (by decide) wd_681 (by decide +kernel),
  ps_iconst (n := 2) (by decide +kernel) (by decide +kernel),
  ps_lald (by decide +kernel),
  ps_ldiv (by decide +kernel),
  ps_ls (by decide +kernel) (by decide +kernel),
  ps_aln (kf := 0) (by decide +kernel) rfl,
  ps_get cl_9 (k := 8) (by decide) wd_681 (by decide +kernel),
  ps_iconst (n := 3) (by decide +kernel) (by decide +kernel),
  ps_lald (by decide +kernel),
  ps_lconst (n := 0) (by decide +kernel) (by decide +kernel),
  ps_lcne (off := 10) (by decide +kernel) (by decide +kernel) (by decide +kernel),
  ps_lln (kf := 1) (by decide +kernel) rfl,
  ps_ll (by decide +kernel),
  ps_ladd (by decide +kernel),
  ps_goto (off := 7) (by decide +kernel) (by decide +kernel),
  ps_lln (kf := 1) (by decide +kernel) rfl,
  ps_ll (by decide +kernel),
  ps_lsub (by decide +kernel),
  ps_lret (by decide +kernel) rfl rfl rfl, trivial⟩
def tX9_smeared : pm_Cd := [(0, po_ll 1), (1, po_lc (0)), (2, po_lc (2000000000000)), (5, po_callS 89 3 6), (8, po_ifeq 19), (11, po_al 0), (12, po_ll 1), (13, po_callV 9 139 1 7), (16, po_goto 22), (19, po_lc (-2000000000000)), (22, po_lret)]
set_option maxRecDepth 100000 in
theorem aX9_smeared (E : pm_E) : pm_All E 140 (tX9_smeared) :=
  ⟨ps_lln (kf := 1) (by decide +kernel) rfl,
  ps_lconst (n := 0) (by decide +kernel) (by decide +kernel),
  ps_ldc2 (n := 197) (by decide +kernel) wd_872,
  ps_callS ce_X9_within wd_726 wd_725 ⟨by decide +kernel, by decide +kernel⟩ rfl rfl rfl (by decide +kernel),
  ps_ifeq (off := 11) (by decide +kernel) (by decide +kernel),
  ps_aln (kf := 0) (by decide +kernel) rfl,
  ps_lln (kf := 1) (by decide +kernel) rfl,
  ps_callV cl_9 rfl ce_X9_smear wd_927 wp_36 wd_925 ⟨by decide +kernel, by decide +kernel⟩ rfl rfl rfl (by decide +kernel),
  ps_goto (off := 6) (by decide +kernel) (by decide +kernel),
  ps_ldc2 (n := 193) (by decide +kernel) wd_858,
  ps_lret (by decide +kernel) rfl rfl rfl, trivial⟩
def tX9_back : pm_Cd := [(0, po_ll 1), (1, po_lc (0)), (2, po_lc (2000000000000)), (5, po_callS 89 3 6), (8, po_ifne 15), (11, po_lc (-1)), (14, po_lret), (15, po_lc (0)), (16, po_ls 3), (17, po_ll 1), (18, po_lc (1000)), (21, po_ladd), (22, po_ls 5), (24, po_mark), (24, po_ll 3), (25, po_ll 5), (27, po_lcge 67), (31, po_ll 3), (32, po_ll 5), (34, po_ladd), (35, po_lc (2)), (38, po_ldiv), (39, po_ls 7), (41, po_al 0), (42, po_ll 7), (44, po_callV 9 139 1 7), (47, po_ll 1), (48, po_lclt 59), (52, po_ll 7), (54, po_ls 5), (56, po_goto 64), (59, po_ll 7), (61, po_lc (1)), (62, po_ladd), (63, po_ls 3), (64, po_goto 24), (67, po_ll 3), (68, po_lret)]
set_option maxRecDepth 100000 in
theorem aX9_back (E : pm_E) : pm_All E 141 (tX9_back) :=
  ⟨ps_lln (kf := 1) (by decide +kernel) rfl,
  ps_lconst (n := 0) (by decide +kernel) (by decide +kernel),
  ps_ldc2 (n := 197) (by decide +kernel) wd_872,
  ps_callS ce_X9_within wd_726 wd_725 ⟨by decide +kernel, by decide +kernel⟩ rfl rfl rfl (by decide +kernel),
  ps_ifne (off := 7) (by decide +kernel) (by decide +kernel),
  ps_ldc2 (n := 91) (by decide +kernel) wd_752,
  ps_lret (by decide +kernel) rfl rfl rfl,
  ps_lconst (n := 0) (by decide +kernel) (by decide +kernel),
  ps_lsn (kf := 3) (by decide +kernel) rfl (by decide +kernel),
  ps_lln (kf := 1) (by decide +kernel) rfl,
  ps_ldc2 (n := 46) (by decide +kernel) wd_651,
  ps_ladd (by decide +kernel),
  ps_ls (by decide +kernel) (by decide +kernel),
  ps_mark,
  ps_lln (kf := 3) (by decide +kernel) rfl,
  ps_ll (by decide +kernel),
  ps_lcge (off := 39) (by decide +kernel) (by decide +kernel) (by decide +kernel),
  ps_lln (kf := 3) (by decide +kernel) rfl,
  ps_ll (by decide +kernel),
  ps_ladd (by decide +kernel),
  ps_ldc2 (n := 219) (by decide +kernel) wd_933,
  ps_ldiv (by decide +kernel),
  ps_ls (by decide +kernel) (by decide +kernel),
  ps_aln (kf := 0) (by decide +kernel) rfl,
  ps_ll (by decide +kernel),
  ps_callV cl_9 rfl ce_X9_smear wd_927 wp_36 wd_925 ⟨by decide +kernel, by decide +kernel⟩ rfl rfl rfl (by decide +kernel),
  ps_lln (kf := 1) (by decide +kernel) rfl,
  ps_lclt (off := 10) (by decide +kernel) (by decide +kernel) (by decide +kernel),
  ps_ll (by decide +kernel),
  ps_ls (by decide +kernel) (by decide +kernel),
  ps_goto (off := 8) (by decide +kernel) (by decide +kernel),
  ps_ll (by decide +kernel),
  ps_lconst (n := 1) (by decide +kernel) (by decide +kernel),
  ps_ladd (by decide +kernel),
  ps_lsn (kf := 3) (by decide +kernel) rfl (by decide +kernel),
  ps_goto (off := -40) (by decide +kernel) (by decide +kernel),
  ps_lln (kf := 3) (by decide +kernel) rfl,
  ps_lret (by decide +kernel) rfl rfl rfl, trivial⟩
def tX9_count : pm_Cd := [(0, po_il 1), (1, po_tsw [48, 56, 64, 69, 80, 88, 93, 98] 103), (48, po_al 0), (49, po_get 9 0), (52, po_ic (0)), (53, po_lald), (54, po_l2i), (55, po_iret), (56, po_al 0), (57, po_get 9 0), (60, po_ic (1)), (61, po_lald), (62, po_l2i), (63, po_iret), (64, po_al 0), (65, po_callV 9 109 0 3), (68, po_iret), (69, po_al 0), (70, po_get 9 0), (73, po_ic (2)), (74, po_lald), (75, po_l2i), (76, po_callS 127 1 3), (79, po_iret), (80, po_al 0), (81, po_get 9 0), (84, po_ic (3)), (85, po_lald), (86, po_l2i), (87, po_iret), (88, po_al 0), (89, po_callV 9 128 0 3), (92, po_iret), (93, po_al 0), (94, po_get 9 2), (97, po_iret), (98, po_al 0), (99, po_get 9 4), (102, po_iret), (103, po_ic (-1)), (104, po_iret)]
set_option maxRecDepth 100000 in
theorem aX9_count (E : pm_E) : pm_All E 142 (tX9_count) :=
  ⟨ps_iln (kf := 1) (by decide +kernel) rfl,
  ps_tsw (dflt := 102) (hi := 7) (offs := #[47, 55, 63, 68, 79, 87, 92, 97]) (len := 47) (by decide +kernel) (by decide +kernel) (by decide +kernel) (by decide +kernel) (by decide +kernel),
  ps_aln (kf := 0) (by decide +kernel) rfl,
  ps_get cl_9 (k := 0) (by decide) wd_673 (by decide +kernel),
  ps_iconst (n := 0) (by decide +kernel) (by decide +kernel),
  ps_lald (by decide +kernel),
  ps_l2i (by decide +kernel),
  ps_iret (by decide +kernel) rfl rfl rfl,
  ps_aln (kf := 0) (by decide +kernel) rfl,
  ps_get cl_9 (k := 0) (by decide) wd_673 (by decide +kernel),
  ps_iconst (n := 1) (by decide +kernel) (by decide +kernel),
  ps_lald (by decide +kernel),
  ps_l2i (by decide +kernel),
  ps_iret (by decide +kernel) rfl rfl rfl,
  ps_aln (kf := 0) (by decide +kernel) rfl,
  ps_callV cl_9 rfl ce_X9_heardMany wd_775 wp_21 wd_773 ⟨by decide +kernel, by decide +kernel⟩ rfl rfl rfl (by decide +kernel),
  ps_iret (by decide +kernel) rfl rfl rfl,
  ps_aln (kf := 0) (by decide +kernel) rfl,
  ps_get cl_9 (k := 0) (by decide) wd_673 (by decide +kernel),
  ps_iconst (n := 2) (by decide +kernel) (by decide +kernel),
  ps_lald (by decide +kernel),
  ps_l2i (by decide +kernel),
  ps_callS ce_X9_ones wd_830 wd_829 ⟨by decide +kernel, by decide +kernel⟩ rfl rfl rfl (by decide +kernel),
  ps_iret (by decide +kernel) rfl rfl rfl,
  ps_aln (kf := 0) (by decide +kernel) rfl,
  ps_get cl_9 (k := 0) (by decide) wd_673 (by decide +kernel),
  ps_iconst (n := 3) (by decide +kernel) (by decide +kernel),
  ps_lald (by decide +kernel),
  ps_l2i (by decide +kernel),
  ps_iret (by decide +kernel) rfl rfl rfl,
  ps_aln (kf := 0) (by decide +kernel) rfl,
  ps_callV cl_9 rfl ce_X9_openMany wd_847 wp_31 wd_845 ⟨by decide +kernel, by decide +kernel⟩ rfl rfl rfl (by decide +kernel),
  ps_iret (by decide +kernel) rfl rfl rfl,
  ps_aln (kf := 0) (by decide +kernel) rfl,
  ps_get cl_9 (k := 2) (by decide) wd_675 (by decide +kernel),
  ps_iret (by decide +kernel) rfl rfl rfl,
  ps_aln (kf := 0) (by decide +kernel) rfl,
  ps_get cl_9 (k := 4) (by decide) wd_677 (by decide +kernel),
  ps_iret (by decide +kernel) rfl rfl rfl,
  ps_iconst (n := -1) (by decide +kernel) (by decide +kernel),
  ps_iret (by decide +kernel) rfl rfl rfl, trivial⟩
end
section
def tL_law (E : pm_E) : pm_Cd := [(0, po_new 8 6 600000 7302250 [.null, .null, .null, .null, .null, .null]), (3, po_dup), (4, po_callI 52 0 1 87 1037 600000 7302250), (7, po_as 1), (8, po_new 9 15 600000 7302250 [.null, .null, .int 0, .null, .int 0, .int 0, .null, .null, .null, .null, .null, .int 0, .int 0, .long 0, .long 0]), (11, po_dup), (12, po_callI 88 0 1 8 1084 600000 7302250), (15, po_as 2), (16, po_ic (0)), (17, po_is 3), (18, po_mark), (18, po_il 3), (19, po_al 0), (20, po_slen (pm_L E)), (21, po_ic (6)), (23, po_isub), (24, po_icgt 986), (27, po_al 0), (28, po_il 3), (29, po_sld (pm_L E) (pm_xs E)), (30, po_ic (31)), (32, po_iand), (33, po_tsw [148, 171, 184, 197, 210, 313, 346, 359, 382, 405, 418, 452, 476, 489, 542, 555, 588, 622, 645, 659, 722, 825, 849, 903, 957] 980), (148, po_al 1), (149, po_al 0), (150, po_il 3), (151, po_ic (1)), (152, po_iadd), (153, po_sld (pm_L E) (pm_xs E)), (154, po_callV 8 53 1 2), (157, po_al 2), (158, po_al 0), (159, po_il 3), (160, po_ic (1)), (161, po_iadd), (162, po_sld (pm_L E) (pm_xs E)), (163, po_callV 9 100 1 2), (166, po_iceq 980), (169, po_ic (0)), (170, po_zret .boolean), (171, po_al 1), (172, po_callV 8 54 0 2), (175, po_al 2), (176, po_callV 9 101 0 2), (179, po_iceq 980), (182, po_ic (0)), (183, po_zret .boolean), (184, po_al 1), (185, po_callV 8 55 0 3), (188, po_al 2), (189, po_callV 9 102 0 1), (192, po_iceq 980), (195, po_ic (0)), (196, po_zret .boolean), (197, po_al 1), (198, po_callV 8 56 0 1), (201, po_al 2), (202, po_callV 9 103 0 1), (205, po_iceq 980), (208, po_ic (0)), (209, po_zret .boolean), (210, po_al 1), (211, po_al 0), (212, po_il 3), (213, po_ic (1)), (214, po_iadd), (215, po_sld (pm_L E) (pm_xs E)), (216, po_al 0), (217, po_il 3), (218, po_ic (2)), (219, po_iadd), (220, po_sld (pm_L E) (pm_xs E)), (221, po_i2l), (222, po_ic (32)), (224, po_lshl), (225, po_al 0), (226, po_il 3), (227, po_ic (3)), (228, po_iadd), (229, po_sld (pm_L E) (pm_xs E)), (230, po_i2l), (231, po_lc (4294967295)), (234, po_land), (235, po_lor), (236, po_al 0), (237, po_il 3), (238, po_ic (4)), (239, po_iadd), (240, po_sld (pm_L E) (pm_xs E)), (241, po_i2l), (242, po_ic (32)), (244, po_lshl), (245, po_al 0), (246, po_il 3), (247, po_ic (5)), (248, po_iadd), (249, po_sld (pm_L E) (pm_xs E)), (250, po_i2l), (251, po_lc (4294967295)), (254, po_land), (255, po_lor), (256, po_callV 8 59 3 6), (259, po_al 2), (260, po_al 0), (261, po_il 3), (262, po_ic (1)), (263, po_iadd), (264, po_sld (pm_L E) (pm_xs E)), (265, po_al 0), (266, po_il 3), (267, po_ic (2)), (268, po_iadd), (269, po_sld (pm_L E) (pm_xs E)), (270, po_i2l), (271, po_ic (32)), (273, po_lshl), (274, po_al 0), (275, po_il 3), (276, po_ic (3)), (277, po_iadd), (278, po_sld (pm_L E) (pm_xs E)), (279, po_i2l), (280, po_lc (4294967295)), (283, po_land), (284, po_lor), (285, po_al 0), (286, po_il 3), (287, po_ic (4)), (288, po_iadd), (289, po_sld (pm_L E) (pm_xs E)), (290, po_i2l), (291, po_ic (32)), (293, po_lshl), (294, po_al 0), (295, po_il 3), (296, po_ic (5)), (297, po_iadd), (298, po_sld (pm_L E) (pm_xs E)), (299, po_i2l), (300, po_lc (4294967295)), (303, po_land), (304, po_lor), (305, po_callV 9 110 3 6), (308, po_iceq 980), (311, po_ic (0)), (312, po_zret .boolean), (313, po_al 1), (314, po_al 0), (315, po_il 3), (316, po_ic (1)), (317, po_iadd), (318, po_sld (pm_L E) (pm_xs E)), (319, po_al 0), (320, po_il 3), (321, po_ic (2)), (322, po_iadd), (323, po_sld (pm_L E) (pm_xs E)), (324, po_callV 8 60 2 3), (327, po_al 2), (328, po_al 0), (329, po_il 3), (330, po_ic (1)), (331, po_iadd), (332, po_sld (pm_L E) (pm_xs E)), (333, po_al 0), (334, po_il 3), (335, po_ic (2)), (336, po_iadd), (337, po_sld (pm_L E) (pm_xs E)), (338, po_callV 9 111 2 3), (341, po_iceq 980), (344, po_ic (0)), (345, po_zret .boolean), (346, po_al 1), (347, po_callV 8 61 0 2), (350, po_al 2), (351, po_callV 9 112 0 2), (354, po_iceq 980), (357, po_ic (0)), (358, po_zret .boolean), (359, po_al 1), (360, po_al 0), (361, po_il 3), (362, po_ic (1)), (363, po_iadd), (364, po_sld (pm_L E) (pm_xs E)), (365, po_callV 8 62 1 3), (368, po_al 2), (369, po_al 0), (370, po_il 3), (371, po_ic (1)), (372, po_iadd), (373, po_sld (pm_L E) (pm_xs E)), (374, po_callV 9 113 1 3), (377, po_iceq 980), (380, po_ic (0)), (381, po_zret .boolean), (382, po_al 1), (383, po_al 0), (384, po_il 3), (385, po_ic (1)), (386, po_iadd), (387, po_sld (pm_L E) (pm_xs E)), (388, po_callV 8 63 1 4), (391, po_al 2), (392, po_al 0), (393, po_il 3), (394, po_ic (1)), (395, po_iadd), (396, po_sld (pm_L E) (pm_xs E)), (397, po_callV 9 114 1 4), (400, po_iceq 980), (403, po_ic (0)), (404, po_zret .boolean), (405, po_al 1), (406, po_callV 8 65 0 1), (409, po_al 2), (410, po_callV 9 105 0 2), (413, po_iceq 980), (416, po_ic (0)), (417, po_zret .boolean), (418, po_al 1), (419, po_al 0), (420, po_il 3), (421, po_ic (1)), (422, po_iadd), (423, po_sld (pm_L E) (pm_xs E)), (424, po_al 0), (425, po_il 3), (426, po_ic (2)), (427, po_iadd), (428, po_sld (pm_L E) (pm_xs E)), (429, po_callV 8 66 2 3), (432, po_al 2), (433, po_al 0), (434, po_il 3), (435, po_ic (1)), (436, po_iadd), (437, po_sld (pm_L E) (pm_xs E)), (438, po_al 0), (439, po_il 3), (440, po_ic (2)), (441, po_iadd), (442, po_sld (pm_L E) (pm_xs E)), (443, po_callV 9 121 2 3), (446, po_lceq 980), (450, po_ic (0)), (451, po_zret .boolean), (452, po_al 1), (453, po_al 0), (454, po_il 3), (455, po_ic (1)), (456, po_iadd), (457, po_sld (pm_L E) (pm_xs E)), (458, po_callV 8 67 1 2), (461, po_al 2), (462, po_al 0), (463, po_il 3), (464, po_ic (1)), (465, po_iadd), (466, po_sld (pm_L E) (pm_xs E)), (467, po_callV 9 122 1 2), (470, po_lceq 980), (474, po_ic (0)), (475, po_zret .boolean), (476, po_al 1), (477, po_callV 8 68 0 1), (480, po_al 2), (481, po_callV 9 123 0 1), (484, po_iceq 980), (487, po_ic (0)), (488, po_zret .boolean), (489, po_al 1), (490, po_al 0), (491, po_il 3), (492, po_ic (1)), (493, po_iadd), (494, po_sld (pm_L E) (pm_xs E)), (495, po_i2l), (496, po_ic (32)), (498, po_lshl), (499, po_al 0), (500, po_il 3), (501, po_ic (2)), (502, po_iadd), (503, po_sld (pm_L E) (pm_xs E)), (504, po_i2l), (505, po_lc (4294967295)), (508, po_land), (509, po_lor), (510, po_callV 8 69 1 3), (513, po_al 2), (514, po_al 0), (515, po_il 3), (516, po_ic (1)), (517, po_iadd), (518, po_sld (pm_L E) (pm_xs E)), (519, po_i2l), (520, po_ic (32)), (522, po_lshl), (523, po_al 0), (524, po_il 3), (525, po_ic (2)), (526, po_iadd), (527, po_sld (pm_L E) (pm_xs E)), (528, po_i2l), (529, po_lc (4294967295)), (532, po_land), (533, po_lor), (534, po_callV 9 124 1 3), (537, po_iceq 980), (540, po_ic (0)), (541, po_zret .boolean), (542, po_al 1), (543, po_callV 8 70 0 7), (546, po_al 2), (547, po_callV 9 126 0 1), (550, po_iceq 980), (553, po_ic (0)), (554, po_zret .boolean), (555, po_al 1), (556, po_al 0), (557, po_il 3), (558, po_ic (1)), (559, po_iadd), (560, po_sld (pm_L E) (pm_xs E)), (561, po_al 0), (562, po_il 3), (563, po_ic (2)), (564, po_iadd), (565, po_sld (pm_L E) (pm_xs E)), (566, po_callV 8 72 2 3), (569, po_al 2), (570, po_al 0), (571, po_il 3), (572, po_ic (1)), (573, po_iadd), (574, po_sld (pm_L E) (pm_xs E)), (575, po_al 0), (576, po_il 3), (577, po_ic (2)), (578, po_iadd), (579, po_sld (pm_L E) (pm_xs E)), (580, po_callV 9 130 2 7), (583, po_iceq 980), (586, po_ic (0)), (587, po_zret .boolean), (588, po_al 1), (589, po_al 0), (590, po_il 3), (591, po_ic (1)), (592, po_iadd), (593, po_sld (pm_L E) (pm_xs E)), (594, po_al 0), (595, po_il 3), (596, po_ic (2)), (597, po_iadd), (598, po_sld (pm_L E) (pm_xs E)), (599, po_callV 8 73 2 3), (602, po_al 2), (603, po_al 0), (604, po_il 3), (605, po_ic (1)), (606, po_iadd), (607, po_sld (pm_L E) (pm_xs E)), (608, po_al 0), (609, po_il 3), (610, po_ic (2)), (611, po_iadd), (612, po_sld (pm_L E) (pm_xs E)), (613, po_callV 9 132 2 3), (616, po_lceq 980), (620, po_ic (0)), (621, po_zret .boolean), (622, po_al 1), (623, po_al 0), (624, po_il 3), (625, po_ic (1)), (626, po_iadd), (627, po_sld (pm_L E) (pm_xs E)), (628, po_callV 8 74 1 5), (631, po_al 2), (632, po_al 0), (633, po_il 3), (634, po_ic (1)), (635, po_iadd), (636, po_sld (pm_L E) (pm_xs E)), (637, po_callV 9 133 1 3), (640, po_iceq 980), (643, po_ic (0)), (644, po_zret .boolean), (645, po_al 1), (646, po_callV 8 75 0 4), (649, po_al 2), (650, po_callV 9 135 0 1), (653, po_lceq 980), (657, po_ic (0)), (658, po_zret .boolean), (659, po_al 1), (660, po_al 0), (661, po_il 3), (662, po_ic (1)), (663, po_iadd), (664, po_sld (pm_L E) (pm_xs E)), (665, po_al 0), (666, po_il 3), (667, po_ic (2)), (668, po_iadd), (669, po_sld (pm_L E) (pm_xs E)), (670, po_i2l), (671, po_ic (32)), (673, po_lshl), (674, po_al 0), (675, po_il 3), (676, po_ic (3)), (677, po_iadd), (678, po_sld (pm_L E) (pm_xs E)), (679, po_i2l), (680, po_lc (4294967295)), (683, po_land), (684, po_lor), (685, po_callV 8 76 2 4), (688, po_al 2), (689, po_al 0), (690, po_il 3), (691, po_ic (1)), (692, po_iadd), (693, po_sld (pm_L E) (pm_xs E)), (694, po_al 0), (695, po_il 3), (696, po_ic (2)), (697, po_iadd), (698, po_sld (pm_L E) (pm_xs E)), (699, po_i2l), (700, po_ic (32)), (702, po_lshl), (703, po_al 0), (704, po_il 3), (705, po_ic (3)), (706, po_iadd), (707, po_sld (pm_L E) (pm_xs E)), (708, po_i2l), (709, po_lc (4294967295)), (712, po_land), (713, po_lor), (714, po_callV 9 136 2 7), (717, po_iceq 980), (720, po_ic (0)), (721, po_zret .boolean), (722, po_al 1), (723, po_al 0), (724, po_il 3), (725, po_ic (1)), (726, po_iadd), (727, po_sld (pm_L E) (pm_xs E)), (728, po_al 0), (729, po_il 3), (730, po_ic (2)), (731, po_iadd), (732, po_sld (pm_L E) (pm_xs E)), (733, po_i2l), (734, po_ic (32)), (736, po_lshl), (737, po_al 0), (738, po_il 3), (739, po_ic (3)), (740, po_iadd), (741, po_sld (pm_L E) (pm_xs E)), (742, po_i2l), (743, po_lc (4294967295)), (746, po_land), (747, po_lor), (748, po_al 0), (749, po_il 3), (750, po_ic (4)), (751, po_iadd), (752, po_sld (pm_L E) (pm_xs E)), (753, po_i2l), (754, po_ic (32)), (756, po_lshl), (757, po_al 0), (758, po_il 3), (759, po_ic (5)), (760, po_iadd), (761, po_sld (pm_L E) (pm_xs E)), (762, po_i2l), (763, po_lc (4294967295)), (766, po_land), (767, po_lor), (768, po_callV 8 77 3 6), (771, po_al 2), (772, po_al 0), (773, po_il 3), (774, po_ic (1)), (775, po_iadd), (776, po_sld (pm_L E) (pm_xs E)), (777, po_al 0), (778, po_il 3), (779, po_ic (2)), (780, po_iadd), (781, po_sld (pm_L E) (pm_xs E)), (782, po_i2l), (783, po_ic (32)), (785, po_lshl), (786, po_al 0), (787, po_il 3), (788, po_ic (3)), (789, po_iadd), (790, po_sld (pm_L E) (pm_xs E)), (791, po_i2l), (792, po_lc (4294967295)), (795, po_land), (796, po_lor), (797, po_al 0), (798, po_il 3), (799, po_ic (4)), (800, po_iadd), (801, po_sld (pm_L E) (pm_xs E)), (802, po_i2l), (803, po_ic (32)), (805, po_lshl), (806, po_al 0), (807, po_il 3), (808, po_ic (5)), (809, po_iadd), (810, po_sld (pm_L E) (pm_xs E)), (811, po_i2l), (812, po_lc (4294967295)), (815, po_land), (816, po_lor), (817, po_callV 9 137 3 9), (820, po_iceq 980), (823, po_ic (0)), (824, po_zret .boolean), (825, po_al 1), (826, po_al 0), (827, po_il 3), (828, po_ic (1)), (829, po_iadd), (830, po_sld (pm_L E) (pm_xs E)), (831, po_callV 8 78 1 2), (834, po_al 2), (835, po_al 0), (836, po_il 3), (837, po_ic (1)), (838, po_iadd), (839, po_sld (pm_L E) (pm_xs E)), (840, po_callV 9 138 1 2), (843, po_lceq 980), (847, po_ic (0)), (848, po_zret .boolean), (849, po_al 1), (850, po_al 0), (851, po_il 3), (852, po_ic (1)), (853, po_iadd), (854, po_sld (pm_L E) (pm_xs E)), (855, po_i2l), (856, po_ic (32)), (858, po_lshl), (859, po_al 0), (860, po_il 3), (861, po_ic (2)), (862, po_iadd), (863, po_sld (pm_L E) (pm_xs E)), (864, po_i2l), (865, po_lc (4294967295)), (868, po_land), (869, po_lor), (870, po_callV 8 79 1 3), (873, po_al 2), (874, po_al 0), (875, po_il 3), (876, po_ic (1)), (877, po_iadd), (878, po_sld (pm_L E) (pm_xs E)), (879, po_i2l), (880, po_ic (32)), (882, po_lshl), (883, po_al 0), (884, po_il 3), (885, po_ic (2)), (886, po_iadd), (887, po_sld (pm_L E) (pm_xs E)), (888, po_i2l), (889, po_lc (4294967295)), (892, po_land), (893, po_lor), (894, po_callV 9 140 1 3), (897, po_lceq 980), (901, po_ic (0)), (902, po_zret .boolean), (903, po_al 1), (904, po_al 0), (905, po_il 3), (906, po_ic (1)), (907, po_iadd), (908, po_sld (pm_L E) (pm_xs E)), (909, po_i2l), (910, po_ic (32)), (912, po_lshl), (913, po_al 0), (914, po_il 3), (915, po_ic (2)), (916, po_iadd), (917, po_sld (pm_L E) (pm_xs E)), (918, po_i2l), (919, po_lc (4294967295)), (922, po_land), (923, po_lor), (924, po_callV 8 80 1 3), (927, po_al 2), (928, po_al 0), (929, po_il 3), (930, po_ic (1)), (931, po_iadd), (932, po_sld (pm_L E) (pm_xs E)), (933, po_i2l), (934, po_ic (32)), (936, po_lshl), (937, po_al 0), (938, po_il 3), (939, po_ic (2)), (940, po_iadd), (941, po_sld (pm_L E) (pm_xs E)), (942, po_i2l), (943, po_lc (4294967295)), (946, po_land), (947, po_lor), (948, po_callV 9 141 1 9), (951, po_lceq 980), (955, po_ic (0)), (956, po_zret .boolean), (957, po_al 1), (958, po_al 0), (959, po_il 3), (960, po_ic (1)), (961, po_iadd), (962, po_sld (pm_L E) (pm_xs E)), (963, po_callV 8 81 1 2), (966, po_al 2), (967, po_al 0), (968, po_il 3), (969, po_ic (1)), (970, po_iadd), (971, po_sld (pm_L E) (pm_xs E)), (972, po_callV 9 142 1 2), (975, po_iceq 980), (978, po_ic (0)), (979, po_zret .boolean), (980, po_mark), (980, po_iinc 3 (6)), (983, po_goto 18), (986, po_ic (1)), (987, po_zret .boolean)]
set_option maxRecDepth 100000 in
theorem aL_law (E : pm_E) : pm_All E 0 (tL_law E) :=
  ⟨ps_new cl_8 wd_18 wd_19 wd_1 (by decide +kernel) (fun _ => rfl) (by decide +kernel) (by decide +kernel) (by decide +kernel),
  ps_dup (by decide +kernel),
  ps_callI ce_X8_init rfl rfl wd_21 wd_20 ⟨by decide +kernel, by decide +kernel⟩ rfl rfl rfl (by decide +kernel) (by decide +kernel) (by decide +kernel),
  ps_asn (kf := 1) (by decide +kernel) rfl (by decide +kernel),
  ps_new cl_9 wd_641 wd_642 wd_14 (by decide +kernel) (fun _ => rfl) (by decide +kernel) (by decide +kernel) (by decide +kernel),
  ps_dup (by decide +kernel),
  ps_callI ce_X9_init rfl rfl wd_644 wd_643 ⟨by decide +kernel, by decide +kernel⟩ rfl rfl rfl (by decide +kernel) (by decide +kernel) (by decide +kernel),
  ps_asn (kf := 2) (by decide +kernel) rfl (by decide +kernel),
  ps_iconst (n := 0) (by decide +kernel) (by decide +kernel),
  ps_isn (kf := 3) (by decide +kernel) rfl (by decide +kernel),
  ps_mark,
  ps_iln (kf := 3) (by decide +kernel) rfl,
  ps_aln (kf := 0) (by decide +kernel) rfl,
  ps_slen (by decide +kernel),
  ps_bipush (n := 6) (by decide +kernel) (by decide +kernel),
  ps_isub (by decide +kernel),
  ps_icgt (off := 962) (by decide +kernel) (by decide +kernel),
  ps_aln (kf := 0) (by decide +kernel) rfl,
  ps_iln (kf := 3) (by decide +kernel) rfl,
  ps_sld (by decide +kernel),
  ps_bipush (n := 31) (by decide +kernel) (by decide +kernel),
  ps_iand (by decide +kernel),
  ps_tsw (dflt := 947) (hi := 24) (offs := #[115, 138, 151, 164, 177, 280, 313, 326, 349, 372, 385, 419, 443, 456, 509, 522, 555, 589, 612, 626, 689, 792, 816, 870, 924]) (len := 115) (by decide +kernel) (by decide +kernel) (by decide +kernel) (by decide +kernel) (by decide +kernel),
  ps_aln (kf := 1) (by decide +kernel) rfl,
  ps_aln (kf := 0) (by decide +kernel) rfl,
  ps_iln (kf := 3) (by decide +kernel) rfl,
  ps_iconst (n := 1) (by decide +kernel) (by decide +kernel),
  ps_iadd (by decide +kernel),
  ps_sld (by decide +kernel),
  ps_callV cl_8 rfl ce_X8_write wd_362 wd_363 wd_361 ⟨by decide +kernel, by decide +kernel⟩ rfl rfl rfl (by decide +kernel),
  ps_aln (kf := 2) (by decide +kernel) rfl,
  ps_aln (kf := 0) (by decide +kernel) rfl,
  ps_iln (kf := 3) (by decide +kernel) rfl,
  ps_iconst (n := 1) (by decide +kernel) (by decide +kernel),
  ps_iadd (by decide +kernel),
  ps_sld (by decide +kernel),
  ps_callV cl_9 rfl ce_X9_write wd_720 wd_721 wd_719 ⟨by decide +kernel, by decide +kernel⟩ rfl rfl rfl (by decide +kernel),
  ps_iceq (off := 814) (by decide +kernel) (by decide +kernel),
  ps_iconst (n := 0) (by decide +kernel) (by decide +kernel),
  ps_zretL (by decide +kernel),
  ps_aln (kf := 1) (by decide +kernel) rfl,
  ps_callV cl_8 rfl ce_X8_wipe wd_367 wd_368 wd_366 ⟨by decide +kernel, by decide +kernel⟩ rfl rfl rfl (by decide +kernel),
  ps_aln (kf := 2) (by decide +kernel) rfl,
  ps_callV cl_9 rfl ce_X9_wipe wd_729 wd_730 wd_728 ⟨by decide +kernel, by decide +kernel⟩ rfl rfl rfl (by decide +kernel),
  ps_iceq (off := 801) (by decide +kernel) (by decide +kernel),
  ps_iconst (n := 0) (by decide +kernel) (by decide +kernel),
  ps_zretL (by decide +kernel),
  ps_aln (kf := 1) (by decide +kernel) rfl,
  ps_callV cl_8 rfl ce_X8_fault wd_371 wd_372 wd_370 ⟨by decide +kernel, by decide +kernel⟩ rfl rfl rfl (by decide +kernel),
  ps_aln (kf := 2) (by decide +kernel) rfl,
  ps_callV cl_9 rfl ce_X9_fault wd_733 wd_734 wd_732 ⟨by decide +kernel, by decide +kernel⟩ rfl rfl rfl (by decide +kernel),
  ps_iceq (off := 788) (by decide +kernel) (by decide +kernel),
  ps_iconst (n := 0) (by decide +kernel) (by decide +kernel),
  ps_zretL (by decide +kernel),
  ps_aln (kf := 1) (by decide +kernel) rfl,
  ps_callV cl_8 rfl ce_X8_lay wd_375 wd_376 wd_374 ⟨by decide +kernel, by decide +kernel⟩ rfl rfl rfl (by decide +kernel),
  ps_aln (kf := 2) (by decide +kernel) rfl,
  ps_callV cl_9 rfl ce_X9_lay wd_770 wd_771 wd_769 ⟨by decide +kernel, by decide +kernel⟩ rfl rfl rfl (by decide +kernel),
  ps_iceq (off := 775) (by decide +kernel) (by decide +kernel),
  ps_iconst (n := 0) (by decide +kernel) (by decide +kernel),
  ps_zretL (by decide +kernel),
  ps_aln (kf := 1) (by decide +kernel) rfl,
  ps_aln (kf := 0) (by decide +kernel) rfl,
  ps_iln (kf := 3) (by decide +kernel) rfl,
  ps_iconst (n := 1) (by decide +kernel) (by decide +kernel),
  ps_iadd (by decide +kernel),
  ps_sld (by decide +kernel),
  ps_aln (kf := 0) (by decide +kernel) rfl,
  ps_iln (kf := 3) (by decide +kernel) rfl,
  ps_iconst (n := 2) (by decide +kernel) (by decide +kernel),
  ps_iadd (by decide +kernel),
  ps_sld (by decide +kernel),
  ps_i2l (by decide +kernel),
  ps_bipush (n := 32) (by decide +kernel) (by decide +kernel),
  ps_lshl (by decide +kernel),
  ps_aln (kf := 0) (by decide +kernel) rfl,
  ps_iln (kf := 3) (by decide +kernel) rfl,
  ps_iconst (n := 3) (by decide +kernel) (by decide +kernel),
  ps_iadd (by decide +kernel),
  ps_sld (by decide +kernel),
  ps_i2l (by decide +kernel),
  ps_ldc2 (n := 31) (by decide +kernel) wd_938,
  ps_land (by decide +kernel),
  ps_lor (by decide +kernel),
  ps_aln (kf := 0) (by decide +kernel) rfl,
  ps_iln (kf := 3) (by decide +kernel) rfl,
  ps_iconst (n := 4) (by decide +kernel) (by decide +kernel),
  ps_iadd (by decide +kernel),
  ps_sld (by decide +kernel),
  ps_i2l (by decide +kernel),
  ps_bipush (n := 32) (by decide +kernel) (by decide +kernel),
  ps_lshl (by decide +kernel),
  ps_aln (kf := 0) (by decide +kernel) rfl,
  ps_iln (kf := 3) (by decide +kernel) rfl,
  ps_iconst (n := 5) (by decide +kernel) (by decide +kernel),
  ps_iadd (by decide +kernel),
  ps_sld (by decide +kernel),
  ps_i2l (by decide +kernel),
  ps_ldc2 (n := 31) (by decide +kernel) wd_938,
  ps_land (by decide +kernel),
  ps_lor (by decide +kernel),
  ps_callV cl_8 rfl ce_X8_tell wd_390 wd_391 wd_389 ⟨by decide +kernel, by decide +kernel⟩ rfl rfl rfl (by decide +kernel),
  ps_aln (kf := 2) (by decide +kernel) rfl,
  ps_aln (kf := 0) (by decide +kernel) rfl,
  ps_iln (kf := 3) (by decide +kernel) rfl,
  ps_iconst (n := 1) (by decide +kernel) (by decide +kernel),
  ps_iadd (by decide +kernel),
  ps_sld (by decide +kernel),
  ps_aln (kf := 0) (by decide +kernel) rfl,
  ps_iln (kf := 3) (by decide +kernel) rfl,
  ps_iconst (n := 2) (by decide +kernel) (by decide +kernel),
  ps_iadd (by decide +kernel),
  ps_sld (by decide +kernel),
  ps_i2l (by decide +kernel),
  ps_bipush (n := 32) (by decide +kernel) (by decide +kernel),
  ps_lshl (by decide +kernel),
  ps_aln (kf := 0) (by decide +kernel) rfl,
  ps_iln (kf := 3) (by decide +kernel) rfl,
  ps_iconst (n := 3) (by decide +kernel) (by decide +kernel),
  ps_iadd (by decide +kernel),
  ps_sld (by decide +kernel),
  ps_i2l (by decide +kernel),
  ps_ldc2 (n := 31) (by decide +kernel) wd_938,
  ps_land (by decide +kernel),
  ps_lor (by decide +kernel),
  ps_aln (kf := 0) (by decide +kernel) rfl,
  ps_iln (kf := 3) (by decide +kernel) rfl,
  ps_iconst (n := 4) (by decide +kernel) (by decide +kernel),
  ps_iadd (by decide +kernel),
  ps_sld (by decide +kernel),
  ps_i2l (by decide +kernel),
  ps_bipush (n := 32) (by decide +kernel) (by decide +kernel),
  ps_lshl (by decide +kernel),
  ps_aln (kf := 0) (by decide +kernel) rfl,
  ps_iln (kf := 3) (by decide +kernel) rfl,
  ps_iconst (n := 5) (by decide +kernel) (by decide +kernel),
  ps_iadd (by decide +kernel),
  ps_sld (by decide +kernel),
  ps_i2l (by decide +kernel),
  ps_ldc2 (n := 31) (by decide +kernel) wd_938,
  ps_land (by decide +kernel),
  ps_lor (by decide +kernel),
  ps_callV cl_9 rfl ce_X9_tell wd_790 wd_791 wd_789 ⟨by decide +kernel, by decide +kernel⟩ rfl rfl rfl (by decide +kernel),
  ps_iceq (off := 672) (by decide +kernel) (by decide +kernel),
  ps_iconst (n := 0) (by decide +kernel) (by decide +kernel),
  ps_zretL (by decide +kernel),
  ps_aln (kf := 1) (by decide +kernel) rfl,
  ps_aln (kf := 0) (by decide +kernel) rfl,
  ps_iln (kf := 3) (by decide +kernel) rfl,
  ps_iconst (n := 1) (by decide +kernel) (by decide +kernel),
  ps_iadd (by decide +kernel),
  ps_sld (by decide +kernel),
  ps_aln (kf := 0) (by decide +kernel) rfl,
  ps_iln (kf := 3) (by decide +kernel) rfl,
  ps_iconst (n := 2) (by decide +kernel) (by decide +kernel),
  ps_iadd (by decide +kernel),
  ps_sld (by decide +kernel),
  ps_callV cl_8 rfl ce_X8_strike wd_419 wd_420 wd_418 ⟨by decide +kernel, by decide +kernel⟩ rfl rfl rfl (by decide +kernel),
  ps_aln (kf := 2) (by decide +kernel) rfl,
  ps_aln (kf := 0) (by decide +kernel) rfl,
  ps_iln (kf := 3) (by decide +kernel) rfl,
  ps_iconst (n := 1) (by decide +kernel) (by decide +kernel),
  ps_iadd (by decide +kernel),
  ps_sld (by decide +kernel),
  ps_aln (kf := 0) (by decide +kernel) rfl,
  ps_iln (kf := 3) (by decide +kernel) rfl,
  ps_iconst (n := 2) (by decide +kernel) (by decide +kernel),
  ps_iadd (by decide +kernel),
  ps_sld (by decide +kernel),
  ps_callV cl_9 rfl ce_X9_strike wd_801 wd_802 wd_800 ⟨by decide +kernel, by decide +kernel⟩ rfl rfl rfl (by decide +kernel),
  ps_iceq (off := 639) (by decide +kernel) (by decide +kernel),
  ps_iconst (n := 0) (by decide +kernel) (by decide +kernel),
  ps_zretL (by decide +kernel),
  ps_aln (kf := 1) (by decide +kernel) rfl,
  ps_callV cl_8 rfl ce_X8_strikeLiars wd_423 wd_424 wd_422 ⟨by decide +kernel, by decide +kernel⟩ rfl rfl rfl (by decide +kernel),
  ps_aln (kf := 2) (by decide +kernel) rfl,
  ps_callV cl_9 rfl ce_X9_strikeLiars wd_805 wd_806 wd_804 ⟨by decide +kernel, by decide +kernel⟩ rfl rfl rfl (by decide +kernel),
  ps_iceq (off := 626) (by decide +kernel) (by decide +kernel),
  ps_iconst (n := 0) (by decide +kernel) (by decide +kernel),
  ps_zretL (by decide +kernel),
  ps_aln (kf := 1) (by decide +kernel) rfl,
  ps_aln (kf := 0) (by decide +kernel) rfl,
  ps_iln (kf := 3) (by decide +kernel) rfl,
  ps_iconst (n := 1) (by decide +kernel) (by decide +kernel),
  ps_iadd (by decide +kernel),
  ps_sld (by decide +kernel),
  ps_callV cl_8 rfl ce_X8_drift wd_484 wd_485 wd_483 ⟨by decide +kernel, by decide +kernel⟩ rfl rfl rfl (by decide +kernel),
  ps_aln (kf := 2) (by decide +kernel) rfl,
  ps_aln (kf := 0) (by decide +kernel) rfl,
  ps_iln (kf := 3) (by decide +kernel) rfl,
  ps_iconst (n := 1) (by decide +kernel) (by decide +kernel),
  ps_iadd (by decide +kernel),
  ps_sld (by decide +kernel),
  ps_callV cl_9 rfl ce_X9_drift wd_833 wd_834 wd_832 ⟨by decide +kernel, by decide +kernel⟩ rfl rfl rfl (by decide +kernel),
  ps_iceq (off := 603) (by decide +kernel) (by decide +kernel),
  ps_iconst (n := 0) (by decide +kernel) (by decide +kernel),
  ps_zretL (by decide +kernel),
  ps_aln (kf := 1) (by decide +kernel) rfl,
  ps_aln (kf := 0) (by decide +kernel) rfl,
  ps_iln (kf := 3) (by decide +kernel) rfl,
  ps_iconst (n := 1) (by decide +kernel) (by decide +kernel),
  ps_iadd (by decide +kernel),
  ps_sld (by decide +kernel),
  ps_callV cl_8 rfl ce_X8_go wd_489 wd_490 wd_488 ⟨by decide +kernel, by decide +kernel⟩ rfl rfl rfl (by decide +kernel),
  ps_aln (kf := 2) (by decide +kernel) rfl,
  ps_aln (kf := 0) (by decide +kernel) rfl,
  ps_iln (kf := 3) (by decide +kernel) rfl,
  ps_iconst (n := 1) (by decide +kernel) (by decide +kernel),
  ps_iadd (by decide +kernel),
  ps_sld (by decide +kernel),
  ps_callV cl_9 rfl ce_X9_go wd_837 wd_838 wd_836 ⟨by decide +kernel, by decide +kernel⟩ rfl rfl rfl (by decide +kernel),
  ps_iceq (off := 580) (by decide +kernel) (by decide +kernel),
  ps_iconst (n := 0) (by decide +kernel) (by decide +kernel),
  ps_zretL (by decide +kernel),
  ps_aln (kf := 1) (by decide +kernel) rfl,
  ps_callV cl_8 rfl ce_X8_undo wd_509 wd_510 wd_508 ⟨by decide +kernel, by decide +kernel⟩ rfl rfl rfl (by decide +kernel),
  ps_aln (kf := 2) (by decide +kernel) rfl,
  ps_callV cl_9 rfl ce_X9_undo wd_786 wd_787 wd_785 ⟨by decide +kernel, by decide +kernel⟩ rfl rfl rfl (by decide +kernel),
  ps_iceq (off := 567) (by decide +kernel) (by decide +kernel),
  ps_iconst (n := 0) (by decide +kernel) (by decide +kernel),
  ps_zretL (by decide +kernel),
  ps_aln (kf := 1) (by decide +kernel) rfl,
  ps_aln (kf := 0) (by decide +kernel) rfl,
  ps_iln (kf := 3) (by decide +kernel) rfl,
  ps_iconst (n := 1) (by decide +kernel) (by decide +kernel),
  ps_iadd (by decide +kernel),
  ps_sld (by decide +kernel),
  ps_aln (kf := 0) (by decide +kernel) rfl,
  ps_iln (kf := 3) (by decide +kernel) rfl,
  ps_iconst (n := 2) (by decide +kernel) (by decide +kernel),
  ps_iadd (by decide +kernel),
  ps_sld (by decide +kernel),
  ps_callV cl_8 rfl ce_X8_span wd_517 wd_518 wd_516 ⟨by decide +kernel, by decide +kernel⟩ rfl rfl rfl (by decide +kernel),
  ps_aln (kf := 2) (by decide +kernel) rfl,
  ps_aln (kf := 0) (by decide +kernel) rfl,
  ps_iln (kf := 3) (by decide +kernel) rfl,
  ps_iconst (n := 1) (by decide +kernel) (by decide +kernel),
  ps_iadd (by decide +kernel),
  ps_sld (by decide +kernel),
  ps_aln (kf := 0) (by decide +kernel) rfl,
  ps_iln (kf := 3) (by decide +kernel) rfl,
  ps_iconst (n := 2) (by decide +kernel) (by decide +kernel),
  ps_iadd (by decide +kernel),
  ps_sld (by decide +kernel),
  ps_callV cl_9 rfl ce_X9_span wd_855 wd_856 wd_854 ⟨by decide +kernel, by decide +kernel⟩ rfl rfl rfl (by decide +kernel),
  ps_lceq (off := 533) (by decide +kernel) (by decide +kernel) (by decide +kernel),
  ps_iconst (n := 0) (by decide +kernel) (by decide +kernel),
  ps_zretL (by decide +kernel),
  ps_aln (kf := 1) (by decide +kernel) rfl,
  ps_aln (kf := 0) (by decide +kernel) rfl,
  ps_iln (kf := 3) (by decide +kernel) rfl,
  ps_iconst (n := 1) (by decide +kernel) (by decide +kernel),
  ps_iadd (by decide +kernel),
  ps_sld (by decide +kernel),
  ps_callV cl_8 rfl ce_X8_agreed wd_529 wd_530 wd_528 ⟨by decide +kernel, by decide +kernel⟩ rfl rfl rfl (by decide +kernel),
  ps_aln (kf := 2) (by decide +kernel) rfl,
  ps_aln (kf := 0) (by decide +kernel) rfl,
  ps_iln (kf := 3) (by decide +kernel) rfl,
  ps_iconst (n := 1) (by decide +kernel) (by decide +kernel),
  ps_iadd (by decide +kernel),
  ps_sld (by decide +kernel),
  ps_callV cl_9 rfl ce_X9_agreed wd_861 wd_862 wd_860 ⟨by decide +kernel, by decide +kernel⟩ rfl rfl rfl (by decide +kernel),
  ps_lceq (off := 509) (by decide +kernel) (by decide +kernel) (by decide +kernel),
  ps_iconst (n := 0) (by decide +kernel) (by decide +kernel),
  ps_zretL (by decide +kernel),
  ps_aln (kf := 1) (by decide +kernel) rfl,
  ps_callV cl_8 rfl ce_X8_good wd_533 wd_534 wd_532 ⟨by decide +kernel, by decide +kernel⟩ rfl rfl rfl (by decide +kernel),
  ps_aln (kf := 2) (by decide +kernel) rfl,
  ps_callV cl_9 rfl ce_X9_good wd_865 wd_866 wd_864 ⟨by decide +kernel, by decide +kernel⟩ rfl rfl rfl (by decide +kernel),
  ps_iceq (off := 496) (by decide +kernel) (by decide +kernel),
  ps_iconst (n := 0) (by decide +kernel) (by decide +kernel),
  ps_zretL (by decide +kernel),
  ps_aln (kf := 1) (by decide +kernel) rfl,
  ps_aln (kf := 0) (by decide +kernel) rfl,
  ps_iln (kf := 3) (by decide +kernel) rfl,
  ps_iconst (n := 1) (by decide +kernel) (by decide +kernel),
  ps_iadd (by decide +kernel),
  ps_sld (by decide +kernel),
  ps_i2l (by decide +kernel),
  ps_bipush (n := 32) (by decide +kernel) (by decide +kernel),
  ps_lshl (by decide +kernel),
  ps_aln (kf := 0) (by decide +kernel) rfl,
  ps_iln (kf := 3) (by decide +kernel) rfl,
  ps_iconst (n := 2) (by decide +kernel) (by decide +kernel),
  ps_iadd (by decide +kernel),
  ps_sld (by decide +kernel),
  ps_i2l (by decide +kernel),
  ps_ldc2 (n := 31) (by decide +kernel) wd_938,
  ps_land (by decide +kernel),
  ps_lor (by decide +kernel),
  ps_callV cl_8 rfl ce_X8_in wd_537 wd_538 wd_536 ⟨by decide +kernel, by decide +kernel⟩ rfl rfl rfl (by decide +kernel),
  ps_aln (kf := 2) (by decide +kernel) rfl,
  ps_aln (kf := 0) (by decide +kernel) rfl,
  ps_iln (kf := 3) (by decide +kernel) rfl,
  ps_iconst (n := 1) (by decide +kernel) (by decide +kernel),
  ps_iadd (by decide +kernel),
  ps_sld (by decide +kernel),
  ps_i2l (by decide +kernel),
  ps_bipush (n := 32) (by decide +kernel) (by decide +kernel),
  ps_lshl (by decide +kernel),
  ps_aln (kf := 0) (by decide +kernel) rfl,
  ps_iln (kf := 3) (by decide +kernel) rfl,
  ps_iconst (n := 2) (by decide +kernel) (by decide +kernel),
  ps_iadd (by decide +kernel),
  ps_sld (by decide +kernel),
  ps_i2l (by decide +kernel),
  ps_ldc2 (n := 31) (by decide +kernel) wd_938,
  ps_land (by decide +kernel),
  ps_lor (by decide +kernel),
  ps_callV cl_9 rfl ce_X9_in wd_869 wd_870 wd_868 ⟨by decide +kernel, by decide +kernel⟩ rfl rfl rfl (by decide +kernel),
  ps_iceq (off := 443) (by decide +kernel) (by decide +kernel),
  ps_iconst (n := 0) (by decide +kernel) (by decide +kernel),
  ps_zretL (by decide +kernel),
  ps_aln (kf := 1) (by decide +kernel) rfl,
  ps_callV cl_8 rfl ce_X8_liars wd_427 wd_428 wd_545 ⟨by decide +kernel, by decide +kernel⟩ rfl rfl rfl (by decide +kernel),
  ps_aln (kf := 2) (by decide +kernel) rfl,
  ps_callV cl_9 rfl ce_X9_liars wd_874 wd_875 wd_873 ⟨by decide +kernel, by decide +kernel⟩ rfl rfl rfl (by decide +kernel),
  ps_iceq (off := 430) (by decide +kernel) (by decide +kernel),
  ps_iconst (n := 0) (by decide +kernel) (by decide +kernel),
  ps_zretL (by decide +kernel),
  ps_aln (kf := 1) (by decide +kernel) rfl,
  ps_aln (kf := 0) (by decide +kernel) rfl,
  ps_iln (kf := 3) (by decide +kernel) rfl,
  ps_iconst (n := 1) (by decide +kernel) (by decide +kernel),
  ps_iadd (by decide +kernel),
  ps_sld (by decide +kernel),
  ps_aln (kf := 0) (by decide +kernel) rfl,
  ps_iln (kf := 3) (by decide +kernel) rfl,
  ps_iconst (n := 2) (by decide +kernel) (by decide +kernel),
  ps_iadd (by decide +kernel),
  ps_sld (by decide +kernel),
  ps_callV cl_8 rfl ce_X8_commit wd_547 wd_548 wd_546 ⟨by decide +kernel, by decide +kernel⟩ rfl rfl rfl (by decide +kernel),
  ps_aln (kf := 2) (by decide +kernel) rfl,
  ps_aln (kf := 0) (by decide +kernel) rfl,
  ps_iln (kf := 3) (by decide +kernel) rfl,
  ps_iconst (n := 1) (by decide +kernel) (by decide +kernel),
  ps_iadd (by decide +kernel),
  ps_sld (by decide +kernel),
  ps_aln (kf := 0) (by decide +kernel) rfl,
  ps_iln (kf := 3) (by decide +kernel) rfl,
  ps_iconst (n := 2) (by decide +kernel) (by decide +kernel),
  ps_iadd (by decide +kernel),
  ps_sld (by decide +kernel),
  ps_callV cl_9 rfl ce_X9_commit wd_878 wd_879 wd_877 ⟨by decide +kernel, by decide +kernel⟩ rfl rfl rfl (by decide +kernel),
  ps_iceq (off := 397) (by decide +kernel) (by decide +kernel),
  ps_iconst (n := 0) (by decide +kernel) (by decide +kernel),
  ps_zretL (by decide +kernel),
  ps_aln (kf := 1) (by decide +kernel) rfl,
  ps_aln (kf := 0) (by decide +kernel) rfl,
  ps_iln (kf := 3) (by decide +kernel) rfl,
  ps_iconst (n := 1) (by decide +kernel) (by decide +kernel),
  ps_iadd (by decide +kernel),
  ps_sld (by decide +kernel),
  ps_aln (kf := 0) (by decide +kernel) rfl,
  ps_iln (kf := 3) (by decide +kernel) rfl,
  ps_iconst (n := 2) (by decide +kernel) (by decide +kernel),
  ps_iadd (by decide +kernel),
  ps_sld (by decide +kernel),
  ps_callV cl_8 rfl ce_X8_commitOf wd_566 wd_567 wd_565 ⟨by decide +kernel, by decide +kernel⟩ rfl rfl rfl (by decide +kernel),
  ps_aln (kf := 2) (by decide +kernel) rfl,
  ps_aln (kf := 0) (by decide +kernel) rfl,
  ps_iln (kf := 3) (by decide +kernel) rfl,
  ps_iconst (n := 1) (by decide +kernel) (by decide +kernel),
  ps_iadd (by decide +kernel),
  ps_sld (by decide +kernel),
  ps_aln (kf := 0) (by decide +kernel) rfl,
  ps_iln (kf := 3) (by decide +kernel) rfl,
  ps_iconst (n := 2) (by decide +kernel) (by decide +kernel),
  ps_iadd (by decide +kernel),
  ps_sld (by decide +kernel),
  ps_callV cl_9 rfl ce_X9_commitOf wd_887 wd_888 wd_886 ⟨by decide +kernel, by decide +kernel⟩ rfl rfl rfl (by decide +kernel),
  ps_lceq (off := 363) (by decide +kernel) (by decide +kernel) (by decide +kernel),
  ps_iconst (n := 0) (by decide +kernel) (by decide +kernel),
  ps_zretL (by decide +kernel),
  ps_aln (kf := 1) (by decide +kernel) rfl,
  ps_aln (kf := 0) (by decide +kernel) rfl,
  ps_iln (kf := 3) (by decide +kernel) rfl,
  ps_iconst (n := 1) (by decide +kernel) (by decide +kernel),
  ps_iadd (by decide +kernel),
  ps_sld (by decide +kernel),
  ps_callV cl_8 rfl ce_X8_waiting wd_580 wd_581 wd_579 ⟨by decide +kernel, by decide +kernel⟩ rfl rfl rfl (by decide +kernel),
  ps_aln (kf := 2) (by decide +kernel) rfl,
  ps_aln (kf := 0) (by decide +kernel) rfl,
  ps_iln (kf := 3) (by decide +kernel) rfl,
  ps_iconst (n := 1) (by decide +kernel) (by decide +kernel),
  ps_iadd (by decide +kernel),
  ps_sld (by decide +kernel),
  ps_callV cl_9 rfl ce_X9_waiting wd_896 wd_897 wd_895 ⟨by decide +kernel, by decide +kernel⟩ rfl rfl rfl (by decide +kernel),
  ps_iceq (off := 340) (by decide +kernel) (by decide +kernel),
  ps_iconst (n := 0) (by decide +kernel) (by decide +kernel),
  ps_zretL (by decide +kernel),
  ps_aln (kf := 1) (by decide +kernel) rfl,
  ps_callV cl_8 rfl ce_X8_safe wd_584 wd_585 wd_583 ⟨by decide +kernel, by decide +kernel⟩ rfl rfl rfl (by decide +kernel),
  ps_aln (kf := 2) (by decide +kernel) rfl,
  ps_callV cl_9 rfl ce_X9_safe wd_900 wd_901 wd_899 ⟨by decide +kernel, by decide +kernel⟩ rfl rfl rfl (by decide +kernel),
  ps_lceq (off := 326) (by decide +kernel) (by decide +kernel) (by decide +kernel),
  ps_iconst (n := 0) (by decide +kernel) (by decide +kernel),
  ps_zretL (by decide +kernel),
  ps_aln (kf := 1) (by decide +kernel) rfl,
  ps_aln (kf := 0) (by decide +kernel) rfl,
  ps_iln (kf := 3) (by decide +kernel) rfl,
  ps_iconst (n := 1) (by decide +kernel) (by decide +kernel),
  ps_iadd (by decide +kernel),
  ps_sld (by decide +kernel),
  ps_aln (kf := 0) (by decide +kernel) rfl,
  ps_iln (kf := 3) (by decide +kernel) rfl,
  ps_iconst (n := 2) (by decide +kernel) (by decide +kernel),
  ps_iadd (by decide +kernel),
  ps_sld (by decide +kernel),
  ps_i2l (by decide +kernel),
  ps_bipush (n := 32) (by decide +kernel) (by decide +kernel),
  ps_lshl (by decide +kernel),
  ps_aln (kf := 0) (by decide +kernel) rfl,
  ps_iln (kf := 3) (by decide +kernel) rfl,
  ps_iconst (n := 3) (by decide +kernel) (by decide +kernel),
  ps_iadd (by decide +kernel),
  ps_sld (by decide +kernel),
  ps_i2l (by decide +kernel),
  ps_ldc2 (n := 31) (by decide +kernel) wd_938,
  ps_land (by decide +kernel),
  ps_lor (by decide +kernel),
  ps_callV cl_8 rfl ce_X8_read wd_594 wd_595 wd_593 ⟨by decide +kernel, by decide +kernel⟩ rfl rfl rfl (by decide +kernel),
  ps_aln (kf := 2) (by decide +kernel) rfl,
  ps_aln (kf := 0) (by decide +kernel) rfl,
  ps_iln (kf := 3) (by decide +kernel) rfl,
  ps_iconst (n := 1) (by decide +kernel) (by decide +kernel),
  ps_iadd (by decide +kernel),
  ps_sld (by decide +kernel),
  ps_aln (kf := 0) (by decide +kernel) rfl,
  ps_iln (kf := 3) (by decide +kernel) rfl,
  ps_iconst (n := 2) (by decide +kernel) (by decide +kernel),
  ps_iadd (by decide +kernel),
  ps_sld (by decide +kernel),
  ps_i2l (by decide +kernel),
  ps_bipush (n := 32) (by decide +kernel) (by decide +kernel),
  ps_lshl (by decide +kernel),
  ps_aln (kf := 0) (by decide +kernel) rfl,
  ps_iln (kf := 3) (by decide +kernel) rfl,
  ps_iconst (n := 3) (by decide +kernel) (by decide +kernel),
  ps_iadd (by decide +kernel),
  ps_sld (by decide +kernel),
  ps_i2l (by decide +kernel),
  ps_ldc2 (n := 31) (by decide +kernel) wd_938,
  ps_land (by decide +kernel),
  ps_lor (by decide +kernel),
  ps_callV cl_9 rfl ce_X9_read wd_909 wd_910 wd_908 ⟨by decide +kernel, by decide +kernel⟩ rfl rfl rfl (by decide +kernel),
  ps_iceq (off := 263) (by decide +kernel) (by decide +kernel),
  ps_iconst (n := 0) (by decide +kernel) (by decide +kernel),
  ps_zretL (by decide +kernel),
  ps_aln (kf := 1) (by decide +kernel) rfl,
  ps_aln (kf := 0) (by decide +kernel) rfl,
  ps_iln (kf := 3) (by decide +kernel) rfl,
  ps_iconst (n := 1) (by decide +kernel) (by decide +kernel),
  ps_iadd (by decide +kernel),
  ps_sld (by decide +kernel),
  ps_aln (kf := 0) (by decide +kernel) rfl,
  ps_iln (kf := 3) (by decide +kernel) rfl,
  ps_iconst (n := 2) (by decide +kernel) (by decide +kernel),
  ps_iadd (by decide +kernel),
  ps_sld (by decide +kernel),
  ps_i2l (by decide +kernel),
  ps_bipush (n := 32) (by decide +kernel) (by decide +kernel),
  ps_lshl (by decide +kernel),
  ps_aln (kf := 0) (by decide +kernel) rfl,
  ps_iln (kf := 3) (by decide +kernel) rfl,
  ps_iconst (n := 3) (by decide +kernel) (by decide +kernel),
  ps_iadd (by decide +kernel),
  ps_sld (by decide +kernel),
  ps_i2l (by decide +kernel),
  ps_ldc2 (n := 31) (by decide +kernel) wd_938,
  ps_land (by decide +kernel),
  ps_lor (by decide +kernel),
  ps_aln (kf := 0) (by decide +kernel) rfl,
  ps_iln (kf := 3) (by decide +kernel) rfl,
  ps_iconst (n := 4) (by decide +kernel) (by decide +kernel),
  ps_iadd (by decide +kernel),
  ps_sld (by decide +kernel),
  ps_i2l (by decide +kernel),
  ps_bipush (n := 32) (by decide +kernel) (by decide +kernel),
  ps_lshl (by decide +kernel),
  ps_aln (kf := 0) (by decide +kernel) rfl,
  ps_iln (kf := 3) (by decide +kernel) rfl,
  ps_iconst (n := 5) (by decide +kernel) (by decide +kernel),
  ps_iadd (by decide +kernel),
  ps_sld (by decide +kernel),
  ps_i2l (by decide +kernel),
  ps_ldc2 (n := 31) (by decide +kernel) wd_938,
  ps_land (by decide +kernel),
  ps_lor (by decide +kernel),
  ps_callV cl_8 rfl ce_X8_between wd_603 wd_604 wd_602 ⟨by decide +kernel, by decide +kernel⟩ rfl rfl rfl (by decide +kernel),
  ps_aln (kf := 2) (by decide +kernel) rfl,
  ps_aln (kf := 0) (by decide +kernel) rfl,
  ps_iln (kf := 3) (by decide +kernel) rfl,
  ps_iconst (n := 1) (by decide +kernel) (by decide +kernel),
  ps_iadd (by decide +kernel),
  ps_sld (by decide +kernel),
  ps_aln (kf := 0) (by decide +kernel) rfl,
  ps_iln (kf := 3) (by decide +kernel) rfl,
  ps_iconst (n := 2) (by decide +kernel) (by decide +kernel),
  ps_iadd (by decide +kernel),
  ps_sld (by decide +kernel),
  ps_i2l (by decide +kernel),
  ps_bipush (n := 32) (by decide +kernel) (by decide +kernel),
  ps_lshl (by decide +kernel),
  ps_aln (kf := 0) (by decide +kernel) rfl,
  ps_iln (kf := 3) (by decide +kernel) rfl,
  ps_iconst (n := 3) (by decide +kernel) (by decide +kernel),
  ps_iadd (by decide +kernel),
  ps_sld (by decide +kernel),
  ps_i2l (by decide +kernel),
  ps_ldc2 (n := 31) (by decide +kernel) wd_938,
  ps_land (by decide +kernel),
  ps_lor (by decide +kernel),
  ps_aln (kf := 0) (by decide +kernel) rfl,
  ps_iln (kf := 3) (by decide +kernel) rfl,
  ps_iconst (n := 4) (by decide +kernel) (by decide +kernel),
  ps_iadd (by decide +kernel),
  ps_sld (by decide +kernel),
  ps_i2l (by decide +kernel),
  ps_bipush (n := 32) (by decide +kernel) (by decide +kernel),
  ps_lshl (by decide +kernel),
  ps_aln (kf := 0) (by decide +kernel) rfl,
  ps_iln (kf := 3) (by decide +kernel) rfl,
  ps_iconst (n := 5) (by decide +kernel) (by decide +kernel),
  ps_iadd (by decide +kernel),
  ps_sld (by decide +kernel),
  ps_i2l (by decide +kernel),
  ps_ldc2 (n := 31) (by decide +kernel) wd_938,
  ps_land (by decide +kernel),
  ps_lor (by decide +kernel),
  ps_callV cl_9 rfl ce_X9_between wd_913 wd_914 wd_912 ⟨by decide +kernel, by decide +kernel⟩ rfl rfl rfl (by decide +kernel),
  ps_iceq (off := 160) (by decide +kernel) (by decide +kernel),
  ps_iconst (n := 0) (by decide +kernel) (by decide +kernel),
  ps_zretL (by decide +kernel),
  ps_aln (kf := 1) (by decide +kernel) rfl,
  ps_aln (kf := 0) (by decide +kernel) rfl,
  ps_iln (kf := 3) (by decide +kernel) rfl,
  ps_iconst (n := 1) (by decide +kernel) (by decide +kernel),
  ps_iadd (by decide +kernel),
  ps_sld (by decide +kernel),
  ps_callV cl_8 rfl ce_X8_leap wd_611 wd_612 wd_610 ⟨by decide +kernel, by decide +kernel⟩ rfl rfl rfl (by decide +kernel),
  ps_aln (kf := 2) (by decide +kernel) rfl,
  ps_aln (kf := 0) (by decide +kernel) rfl,
  ps_iln (kf := 3) (by decide +kernel) rfl,
  ps_iconst (n := 1) (by decide +kernel) (by decide +kernel),
  ps_iadd (by decide +kernel),
  ps_sld (by decide +kernel),
  ps_callV cl_9 rfl ce_X9_leap wd_917 wd_918 wd_916 ⟨by decide +kernel, by decide +kernel⟩ rfl rfl rfl (by decide +kernel),
  ps_lceq (off := 136) (by decide +kernel) (by decide +kernel) (by decide +kernel),
  ps_iconst (n := 0) (by decide +kernel) (by decide +kernel),
  ps_zretL (by decide +kernel),
  ps_aln (kf := 1) (by decide +kernel) rfl,
  ps_aln (kf := 0) (by decide +kernel) rfl,
  ps_iln (kf := 3) (by decide +kernel) rfl,
  ps_iconst (n := 1) (by decide +kernel) (by decide +kernel),
  ps_iadd (by decide +kernel),
  ps_sld (by decide +kernel),
  ps_i2l (by decide +kernel),
  ps_bipush (n := 32) (by decide +kernel) (by decide +kernel),
  ps_lshl (by decide +kernel),
  ps_aln (kf := 0) (by decide +kernel) rfl,
  ps_iln (kf := 3) (by decide +kernel) rfl,
  ps_iconst (n := 2) (by decide +kernel) (by decide +kernel),
  ps_iadd (by decide +kernel),
  ps_sld (by decide +kernel),
  ps_i2l (by decide +kernel),
  ps_ldc2 (n := 31) (by decide +kernel) wd_938,
  ps_land (by decide +kernel),
  ps_lor (by decide +kernel),
  ps_callV cl_8 rfl ce_X8_smeared wd_615 wd_616 wd_614 ⟨by decide +kernel, by decide +kernel⟩ rfl rfl rfl (by decide +kernel),
  ps_aln (kf := 2) (by decide +kernel) rfl,
  ps_aln (kf := 0) (by decide +kernel) rfl,
  ps_iln (kf := 3) (by decide +kernel) rfl,
  ps_iconst (n := 1) (by decide +kernel) (by decide +kernel),
  ps_iadd (by decide +kernel),
  ps_sld (by decide +kernel),
  ps_i2l (by decide +kernel),
  ps_bipush (n := 32) (by decide +kernel) (by decide +kernel),
  ps_lshl (by decide +kernel),
  ps_aln (kf := 0) (by decide +kernel) rfl,
  ps_iln (kf := 3) (by decide +kernel) rfl,
  ps_iconst (n := 2) (by decide +kernel) (by decide +kernel),
  ps_iadd (by decide +kernel),
  ps_sld (by decide +kernel),
  ps_i2l (by decide +kernel),
  ps_ldc2 (n := 31) (by decide +kernel) wd_938,
  ps_land (by decide +kernel),
  ps_lor (by decide +kernel),
  ps_callV cl_9 rfl ce_X9_smeared wd_922 wd_923 wd_921 ⟨by decide +kernel, by decide +kernel⟩ rfl rfl rfl (by decide +kernel),
  ps_lceq (off := 82) (by decide +kernel) (by decide +kernel) (by decide +kernel),
  ps_iconst (n := 0) (by decide +kernel) (by decide +kernel),
  ps_zretL (by decide +kernel),
  ps_aln (kf := 1) (by decide +kernel) rfl,
  ps_aln (kf := 0) (by decide +kernel) rfl,
  ps_iln (kf := 3) (by decide +kernel) rfl,
  ps_iconst (n := 1) (by decide +kernel) (by decide +kernel),
  ps_iadd (by decide +kernel),
  ps_sld (by decide +kernel),
  ps_i2l (by decide +kernel),
  ps_bipush (n := 32) (by decide +kernel) (by decide +kernel),
  ps_lshl (by decide +kernel),
  ps_aln (kf := 0) (by decide +kernel) rfl,
  ps_iln (kf := 3) (by decide +kernel) rfl,
  ps_iconst (n := 2) (by decide +kernel) (by decide +kernel),
  ps_iadd (by decide +kernel),
  ps_sld (by decide +kernel),
  ps_i2l (by decide +kernel),
  ps_ldc2 (n := 31) (by decide +kernel) wd_938,
  ps_land (by decide +kernel),
  ps_lor (by decide +kernel),
  ps_callV cl_8 rfl ce_X8_back wd_627 wd_628 wd_626 ⟨by decide +kernel, by decide +kernel⟩ rfl rfl rfl (by decide +kernel),
  ps_aln (kf := 2) (by decide +kernel) rfl,
  ps_aln (kf := 0) (by decide +kernel) rfl,
  ps_iln (kf := 3) (by decide +kernel) rfl,
  ps_iconst (n := 1) (by decide +kernel) (by decide +kernel),
  ps_iadd (by decide +kernel),
  ps_sld (by decide +kernel),
  ps_i2l (by decide +kernel),
  ps_bipush (n := 32) (by decide +kernel) (by decide +kernel),
  ps_lshl (by decide +kernel),
  ps_aln (kf := 0) (by decide +kernel) rfl,
  ps_iln (kf := 3) (by decide +kernel) rfl,
  ps_iconst (n := 2) (by decide +kernel) (by decide +kernel),
  ps_iadd (by decide +kernel),
  ps_sld (by decide +kernel),
  ps_i2l (by decide +kernel),
  ps_ldc2 (n := 31) (by decide +kernel) wd_938,
  ps_land (by decide +kernel),
  ps_lor (by decide +kernel),
  ps_callV cl_9 rfl ce_X9_back wd_930 wd_931 wd_929 ⟨by decide +kernel, by decide +kernel⟩ rfl rfl rfl (by decide +kernel),
  ps_lceq (off := 28) (by decide +kernel) (by decide +kernel) (by decide +kernel),
  ps_iconst (n := 0) (by decide +kernel) (by decide +kernel),
  ps_zretL (by decide +kernel),
  ps_aln (kf := 1) (by decide +kernel) rfl,
  ps_aln (kf := 0) (by decide +kernel) rfl,
  ps_iln (kf := 3) (by decide +kernel) rfl,
  ps_iconst (n := 1) (by decide +kernel) (by decide +kernel),
  ps_iadd (by decide +kernel),
  ps_sld (by decide +kernel),
  ps_callV cl_8 rfl ce_X8_count wd_638 wd_639 wd_637 ⟨by decide +kernel, by decide +kernel⟩ rfl rfl rfl (by decide +kernel),
  ps_aln (kf := 2) (by decide +kernel) rfl,
  ps_aln (kf := 0) (by decide +kernel) rfl,
  ps_iln (kf := 3) (by decide +kernel) rfl,
  ps_iconst (n := 1) (by decide +kernel) (by decide +kernel),
  ps_iadd (by decide +kernel),
  ps_sld (by decide +kernel),
  ps_callV cl_9 rfl ce_X9_count wd_935 wd_936 wd_934 ⟨by decide +kernel, by decide +kernel⟩ rfl rfl rfl (by decide +kernel),
  ps_iceq (off := 5) (by decide +kernel) (by decide +kernel),
  ps_iconst (n := 0) (by decide +kernel) (by decide +kernel),
  ps_zretL (by decide +kernel),
  ps_mark,
  ps_iinc (n := 6) (by decide +kernel) (by decide +kernel) (by decide +kernel),
  ps_goto (off := -965) (by decide +kernel) (by decide +kernel),
  ps_iconst (n := 1) (by decide +kernel) (by decide +kernel),
  ps_zretL (by decide +kernel), trivial⟩
end
section
/-! ===== the cells of the class and of the reference, by their places ===== -/
abbrev zM : Type := (Nat → Int64) × (Nat → Int64) × (Nat → Int32) × Int32 × Int32 × Int32
abbrev zC : Type := (Nat → Int32) × (Nat → Int32) × (Nat → Int64) × (Nat → Int32) × (Nat → Int32) × Int32 × Int32
abbrev zS : Type := zM × zC × Int32
abbrev zT : Type := (Nat → Int32) × Int32
abbrev zI : Type := (Nat → Int64) × Int32 × Int32
abbrev zP : Type := (Nat → zS) × Int32 × Int32
abbrev zA : Type := (Nat → Int64) × (Nat → Int64) × Int32 × Int32 × Int64
abbrev zL : Type := Int64 × Int64 × Int64 × Int64
abbrev zD : Type := zT × zI × zS × zP × zA × zL
abbrev zN : Type := (Nat → Int64) × (Nat → Int64) × Int32 × (Nat → Int32) × Int32 × Int32 × (Nat → Int64) × (Nat → Int64) × (Nat → Int64) × (Nat → Int64) × (Nat → Int64) × Int32 × Int32 × Int64 × Int64
abbrev eI (n : Nat) (f : Nat → Int32) : va_E := .inl (1, n, .inl f)
abbrev eC (n : Nat) (f : Nat → Int32) : va_E := .inl (0, n, .inl f)
abbrev eL (n : Nat) (f : Nat → Int64) : va_E := .inl (2, n, .inr (.inl f))
/-- the eleven cells of a state, the first of which is named by r -/
def hS (r : Nat) (s : zS) (k : List va_E) : List va_E :=
  .inr (6, [.ref (r + 1), .ref (r + 5), .int s.2.2]) ::
  .inr (4, [.ref (r + 2), .ref (r + 3), .ref (r + 4), .int s.1.2.2.2.1, .int s.1.2.2.2.2.1, .int s.1.2.2.2.2.2]) :: eL 6 s.1.1 :: eL 6 s.1.2.1 :: eI 6 s.1.2.2.1 ::
  .inr (1, [.ref (r + 6), .ref (r + 7), .ref (r + 8), .ref (r + 9), .ref (r + 10), .int s.2.1.2.2.2.2.2.1, .int s.2.1.2.2.2.2.2.2]) :: eI 16 s.2.1.1 :: eI 16 s.2.1.2.1 :: eL 16 s.2.1.2.2.1 :: eI 16 s.2.1.2.2.2.1 :: eI 16 s.2.1.2.2.2.2.1 :: k
def hM (m : zN) : List va_E :=
  [.inr (9, [.ref 93, .ref 94, .int m.2.2.1, .ref 95, .int m.2.2.2.2.1, .int m.2.2.2.2.2.1, .ref 96, .ref 97, .ref 98, .ref 99, .ref 100, .int m.2.2.2.2.2.2.2.2.2.2.2.1, .int m.2.2.2.2.2.2.2.2.2.2.2.2.1, .long m.2.2.2.2.2.2.2.2.2.2.2.2.2.1, .long m.2.2.2.2.2.2.2.2.2.2.2.2.2.2]),
   eL 108 m.1, eL 648 m.2.1, eI 200 m.2.2.2.1, eL 108 m.2.2.2.2.2.2.1, eL 4 m.2.2.2.2.2.2.2.1, eL 4 m.2.2.2.2.2.2.2.2.1, eL 6 m.2.2.2.2.2.2.2.2.2.1, eL 6 m.2.2.2.2.2.2.2.2.2.2.1]
def hR (j : Nat) : Option Nat := if j < 6 then some (18 + 11 * j + 4) else none
/-- all cells -/
def mkH (x : zD) (m : zN) : List va_E :=
  .inr (8, [.ref 5, .ref 7, .ref 9, .ref 20, .ref 88, .ref 91]) ::
  .inr (7, [.ref 6, .int x.1.2]) :: eC 200 x.1.1 ::
  .inr (2, [.ref 8, .int x.2.1.2.1, .int x.2.1.2.2]) :: eL 4 x.2.1.1 ::
  hS 9 x.2.2.1 (
  .inr (5, [.ref 21, .int x.2.2.2.1.2.1, .int x.2.2.2.1.2.2]) :: .inl (3, 6, .inr (.inr (.inr (.inr hR)))) ::
  hS 22 (x.2.2.2.1.1 0) (hS 33 (x.2.2.2.1.1 1) (hS 44 (x.2.2.2.1.1 2) (hS 55 (x.2.2.2.1.1 3) (hS 66 (x.2.2.2.1.1 4) (hS 77 (x.2.2.2.1.1 5) (
  .inr (0, [.ref 89, .ref 90, .int x.2.2.2.2.1.2.2.1, .int x.2.2.2.2.1.2.2.2.1, .long x.2.2.2.2.1.2.2.2.2]) :: eL 6 x.2.2.2.2.1.1 :: eL 6 x.2.2.2.2.1.2.1 ::
  .inr (3, [.long x.2.2.2.2.2.1, .long x.2.2.2.2.2.2.1, .long x.2.2.2.2.2.2.2.1, .long x.2.2.2.2.2.2.2.2]) :: hM m)))))))
end
section
-- places in the class's cells
abbrev xT (x : zD) : zT := x.1
abbrev xI (x : zD) : zI := x.2.1
abbrev xS (x : zD) : zS := x.2.2.1
abbrev xP (x : zD) : zP := x.2.2.2.1
abbrev xA (x : zD) : zA := x.2.2.2.2.1
abbrev xL (x : zD) : zL := x.2.2.2.2.2
def sT (x : zD) (t : zT) : zD := (t, x.2)
def sI (x : zD) (t : zI) : zD := (x.1, t, x.2.2)
def sS (x : zD) (t : zS) : zD := (x.1, x.2.1, t, x.2.2.2)
def sP (x : zD) (t : zP) : zD := (x.1, x.2.1, x.2.2.1, t, x.2.2.2.2)
def sA (x : zD) (t : zA) : zD := (x.1, x.2.1, x.2.2.1, x.2.2.2.1, t, x.2.2.2.2.2)
def sL (x : zD) (t : zL) : zD := (x.1, x.2.1, x.2.2.1, x.2.2.2.1, x.2.2.2.2.1, t)
/-- a master's span at a local time -/
def fG (M : zM) (i : Int32) (t : Int32) : Int64 := t.toInt64 - (M.2.2.1 i.toNatClampNeg).toInt64
def fW (M : zM) (g : Int64) : Int64 := (g * M.2.2.2.2.2.toInt64 + 1000000 - 1) / 1000000
def fB (M : zM) (i t : Int32) : Int64 := M.1 i.toNatClampNeg + fG M i t - fW M (fG M i t)
def fE (M : zM) (i t : Int32) : Int64 := M.2.1 i.toNatClampNeg + fG M i t + fW M (fG M i t)
abbrev hB (M : zM) (i : Int32) : Prop := ((M.2.2.2.1 &&& (M.2.2.2.2.1 ^^^ (-1))) >>> (i &&& 31)) &&& 1 = 1
theorem c_wid {E : pm_E} {Q : pm_Q} {x : zD} {m : zN} {g : Int64} (h : Q (some (.long (fW (xS x).1 g))) (mkH x m)) : Sm E n_X4_widening 0 (pl_entry 3 [.ref 10, .long g], [], mkH x m, 0, 0) Q := by
  refine pm_go (aX4_widening E) 100 rfl ?_
  conv => whnf
  refine ⟨by decide, ?_⟩
  conv => whnf
  exact ⟨trivial, h⟩
theorem c_begin {E : pm_E} {Q : pm_Q} {x : zD} {m : zN} {i t : Int32} (hi : vp_in i 6) (h : Q (some (.long (fB (xS x).1 i t))) (mkH x m)) : Sm E n_X4_beginOf 0 (pl_entry 5 [.ref 10, .int i, .int t], [], mkH x m, 0, 0) Q := by
  refine pm_go (aX4_beginOf E) 100 rfl ?_
  conv => whnf
  refine ⟨hi, ?_⟩
  conv => whnf
  refine ⟨hi, ?_⟩
  conv => whnf
  refine ⟨trivial, ?_⟩
  refine c_wid ?_
  conv => whnf
  exact ⟨trivial, h⟩
theorem c_end {E : pm_E} {Q : pm_Q} {x : zD} {m : zN} {i t : Int32} (hi : vp_in i 6) (h : Q (some (.long (fE (xS x).1 i t))) (mkH x m)) : Sm E n_X4_endOf 0 (pl_entry 5 [.ref 10, .int i, .int t], [], mkH x m, 0, 0) Q := by
  refine pm_go (aX4_endOf E) 100 rfl ?_
  conv => whnf
  refine ⟨hi, ?_⟩
  conv => whnf
  refine ⟨hi, ?_⟩
  conv => whnf
  refine ⟨trivial, ?_⟩
  refine c_wid ?_
  conv => whnf
  exact ⟨trivial, h⟩
theorem c_isHeard {E : pm_E} {Q : pm_Q} {x : zD} {m : zN} {i : Int32} (h1 : hB (xS x).1 i → Q (some (.int 1)) (mkH x m)) (h0 : ¬ hB (xS x).1 i → Q (some (.int 0)) (mkH x m)) : Sm E n_X4_isHeard 0 (pl_entry 2 [.ref 10, .int i], [], mkH x m, 0, 0) Q := by
  refine pm_go (aX4_isHeard E) 100 rfl ?_
  conv => whnf
  refine ⟨fun q => ?_, fun q => ?_⟩
  · conv => whnf
    exact ⟨rfl, h0 q⟩
  · conv => whnf
    exact ⟨rfl, h1 q⟩
theorem c_meets {E : pm_E} {Q : pm_Q} {x : zD} {m : zN} {i t : Int32} {b e : Int64} (hi : vp_in i 6) (h1 : fB (xS x).1 i t ≤ e ∧ b ≤ fE (xS x).1 i t → Q (some (.int 1)) (mkH x m)) (h0 : ¬ (fB (xS x).1 i t ≤ e ∧ b ≤ fE (xS x).1 i t) → Q (some (.int 0)) (mkH x m)) : Sm E n_X4_meets 0 (pl_entry 7 [.ref 10, .int i, .int t, .long b, .long e], [], mkH x m, 0, 0) Q := by
  refine pm_go (aX4_meets E) 100 rfl ?_
  conv => whnf
  refine ⟨trivial, c_begin hi ?_⟩
  conv => whnf
  refine ⟨fun q => ?_, fun q => ?_⟩
  · conv => whnf
    exact ⟨rfl, h0 (fun z => Int64.not_lt.mpr z.1 q)⟩
  · conv => whnf
    refine ⟨trivial, c_end hi ?_⟩
    conv => whnf
    refine ⟨fun q2 => ?_, fun q2 => ?_⟩
    · conv => whnf
      exact ⟨rfl, h0 (fun z => Int64.not_lt.mpr z.2 q2)⟩
    · conv => whnf
      exact ⟨rfl, h1 ⟨Int64.not_lt.mp q, Int64.not_lt.mp q2⟩⟩
/-! the spans at hand: a list of pairs; how many of them hold a tick -/
abbrev zR : Type := List (Int64 × Int64)
def hold (t : Int64) (q : Int64 × Int64) : Bool := decide (q.1 ≤ t) && decide (t ≤ q.2)
def cnt (l : zR) (t : Int64) : Nat := l.countP (hold t)
def AR (A : zA) (l : zR) : Prop := A.2.2.1 = nI l.length ∧ l.length ≤ 6 ∧ ∀ (j : Nat) (q : Int64 × Int64), l[j]? = some q → A.1 j = q.1 ∧ A.2.1 j = q.2
theorem AR.lt {A : zA} {l : zR} (h : AR A l) {j : Nat} (hj : j < l.length) : vp_in (nI j) 6 := vp_in_nI (by have := h.2.1; omega) (by decide)
theorem cnt_f {l : zR} {q : Int64 × Int64} {t : Int64} (h : hold t q = false) : cnt (q :: l) t = cnt l t := by simp [cnt, h]
theorem cnt_t {l : zR} {q : Int64 × Int64} {t : Int64} (h : hold t q = true) : cnt (q :: l) t = cnt l t + 1 := by simp [cnt, h]
theorem drop_at {α : Type} {l : List α} {i : Nat} (h : i < l.length) : l.drop i = l[i] :: l.drop (i + 1) := (List.getElem_cons_drop h).symm
theorem l_hold {E : pm_E} {Q : pm_Q} {x : zD} {m : zN} {t : Int64} {l : zR} (hl : AR (xA x) l) : ∀ (n i c : Nat), i + n = l.length → Q (some (.int (nI (c + cnt (l.drop i) t)))) (mkH x m) → Sm E n_X0_howManyHold 5 ([some (.ref 88), some (.long t), none, some (.int (nI c)), some (.int (nI i))], [], mkH x m, 0, 0) Q := by
  intro n
  induction n with
  | zero =>
    intro i c hi h
    refine pm_lp (aX0_howManyHold E) 100 5 rfl ?_
    conv => whnf
    have hlen := hl.2.1
    refine ⟨fun q => ?_, fun q => absurd (show (xA x).2.2.1 ≤ nI i by rw [hl.1]; exact nI_le (by omega) (by omega)) q⟩
    conv => whnf
    refine ⟨trivial, ?_⟩
    rw [List.drop_eq_nil_of_le (by omega)] at h
    exact h
  | succ n ih =>
    intro i c hi h
    have hlt : i < l.length := by omega
    have hlen := hl.2.1
    obtain ⟨e1, e2⟩ := hl.2.2 i _ (List.getElem?_eq_getElem hlt)
    have hcl : (nI i).toNatClampNeg = i := nI_clamp (by omega)
    rw [drop_at hlt] at h
    refine pm_lp (aX0_howManyHold E) 100 5 rfl ?_
    conv => whnf
    refine ⟨fun q => absurd (show (xA x).2.2.1 ≤ nI i from q) (by rw [hl.1]; exact nI_ge hlt (by omega)), fun _ => ?_⟩
    conv => whnf
    refine ⟨hl.lt hlt, ?_⟩
    conv => whnf
    refine ⟨fun q => ?_, fun q => ?_⟩
    · conv => whnf
      refine ⟨trivial, ?_⟩
      have q' : t < l[i].1 := by rw [← e1, ← hcl]; exact q
      have hh : hold t l[i] = false := by simp [hold, Int64.not_le.mpr q']
      have hc : cnt (l[i] :: l.drop (i + 1)) t = cnt (l.drop (i + 1)) t := cnt_f hh
      rw [hc] at h
      have := ih (i + 1) c (by omega) h
      rw [nI_succ] at this
      exact this
    · conv => whnf
      refine ⟨hl.lt hlt, ?_⟩
      conv => whnf
      have q' : ¬ t < l[i].1 := by rw [← e1, ← hcl]; exact q
      refine ⟨fun q2 => ?_, fun q2 => ?_⟩
      · conv => whnf
        refine ⟨trivial, ?_⟩
        have q2' : l[i].2 < t := by rw [← e2, ← hcl]; exact q2
        have hh : hold t l[i] = false := by simp [hold, Int64.not_le.mpr q2']
        have hc : cnt (l[i] :: l.drop (i + 1)) t = cnt (l.drop (i + 1)) t := cnt_f hh
        rw [hc] at h
        have := ih (i + 1) c (by omega) h
        rw [nI_succ] at this
        exact this
      · conv => whnf
        refine ⟨trivial, ?_⟩
        have q2' : ¬ l[i].2 < t := by rw [← e2, ← hcl]; exact q2
        have hh : hold t l[i] = true := by simp [hold, Int64.not_lt.mp q', Int64.not_lt.mp q2']
        have hc : cnt (l[i] :: l.drop (i + 1)) t = cnt (l.drop (i + 1)) t + 1 := cnt_t hh
        rw [hc, show c + (cnt (l.drop (i + 1)) t + 1) = (c + 1) + cnt (l.drop (i + 1)) t by omega] at h
        have := ih (i + 1) (c + 1) (by omega) h
        rw [nI_succ, nI_succ] at this
        exact this
theorem c_hold {E : pm_E} {Q : pm_Q} {x : zD} {m : zN} {t : Int64} {l : zR} (hl : AR (xA x) l) (h : Q (some (.int (nI (cnt l t)))) (mkH x m)) : Sm E n_X0_howManyHold 0 (pl_entry 5 [.ref 88, .long t], [], mkH x m, 0, 0) Q := by
  refine pm_go (aX0_howManyHold E) 100 rfl ?_
  conv => whnf
  refine ⟨trivial, ?_⟩
  have := l_hold (E := E) (Q := Q) (m := m) (t := t) hl l.length 0 0 (by omega) (by rw [Nat.zero_add]; exact h)
  exact this
end
section
/-! the least end of those that hold a tick; the first tick of the most; the row's end -/
def lE (t : Int64) : Int64 → zR → Int64
  | acc, [] => acc
  | acc, q :: l => lE t (if hold t q = true then (if q.2 < acc then q.2 else acc) else acc) l
theorem l_least {E : pm_E} {Q : pm_Q} {x : zD} {m : zN} {t : Int64} {l : zR} (hl : AR (xA x) l) : ∀ (n i : Nat) (c : Int64), i + n = l.length → Q (some (.long (lE t c (l.drop i)))) (mkH x m) → Sm E n_X0_leastEndOver 7 ([some (.ref 88), some (.long t), none, some (.long c), none, some (.int (nI i))], [], mkH x m, 0, 0) Q := by
  intro n
  induction n with
  | zero =>
    intro i c hi h
    refine pm_lp (aX0_leastEndOver E) 100 7 rfl ?_
    conv => whnf
    have hlen := hl.2.1
    refine ⟨fun q => ?_, fun q => absurd (show (xA x).2.2.1 ≤ nI i by rw [hl.1]; exact nI_le (by omega) (by omega)) q⟩
    conv => whnf
    refine ⟨trivial, ?_⟩
    rw [List.drop_eq_nil_of_le (by omega)] at h
    exact h
  | succ n ih =>
    intro i c hi h
    have hlt : i < l.length := by omega
    have hlen := hl.2.1
    obtain ⟨e1, e2⟩ := hl.2.2 i _ (List.getElem?_eq_getElem hlt)
    have hcl : (nI i).toNatClampNeg = i := nI_clamp (by omega)
    rw [drop_at hlt, lE] at h
    refine pm_lp (aX0_leastEndOver E) 100 7 rfl ?_
    conv => whnf
    refine ⟨fun q => absurd (show (xA x).2.2.1 ≤ nI i from q) (by rw [hl.1]; exact nI_ge hlt (by omega)), fun _ => ?_⟩
    conv => whnf
    refine ⟨hl.lt hlt, ?_⟩
    conv => whnf
    refine ⟨fun q => ?_, fun q => ?_⟩
    · conv => whnf
      refine ⟨trivial, ?_⟩
      have q' : t < l[i].1 := by rw [← e1, ← hcl]; exact q
      have hh : hold t l[i] = false := by simp [hold, Int64.not_le.mpr q']
      rw [if_neg (by rw [hh]; decide)] at h
      have := ih (i + 1) c (by omega) h
      rw [nI_succ] at this
      exact this
    · conv => whnf
      refine ⟨hl.lt hlt, ?_⟩
      conv => whnf
      have q' : ¬ t < l[i].1 := by rw [← e1, ← hcl]; exact q
      refine ⟨fun q2 => ?_, fun q2 => ?_⟩
      · conv => whnf
        refine ⟨trivial, ?_⟩
        have q2' : l[i].2 < t := by rw [← e2, ← hcl]; exact q2
        have hh : hold t l[i] = false := by simp [hold, Int64.not_le.mpr q2']
        rw [if_neg (by rw [hh]; decide)] at h
        have := ih (i + 1) c (by omega) h
        rw [nI_succ] at this
        exact this
      · conv => whnf
        refine ⟨hl.lt hlt, ?_⟩
        conv => whnf
        refine ⟨trivial, ?_⟩
        have q2' : ¬ l[i].2 < t := by rw [← e2, ← hcl]; exact q2
        have hh : hold t l[i] = true := by simp [hold, Int64.not_lt.mp q', Int64.not_lt.mp q2']
        rw [if_pos hh] at h
        have := ih (i + 1) (if l[i].2 < c then l[i].2 else c) (by omega) h
        have e2' : (xA x).2.1 (nI i).toNatClampNeg = l[i].2 := by rw [hcl]; exact e2
        rw [nI_succ, ← e2'] at this
        exact this
theorem c_least {E : pm_E} {Q : pm_Q} {x : zD} {m : zN} {t : Int64} {l : zR} (hl : AR (xA x) l) (h : Q (some (.long (lE t 9223372036854775807 l))) (mkH x m)) : Sm E n_X0_leastEndOver 0 (pl_entry 6 [.ref 88, .long t], [], mkH x m, 0, 0) Q := by
  refine pm_go (aX0_leastEndOver E) 100 rfl ?_
  conv => whnf
  refine ⟨trivial, ?_⟩
  exact l_least (E := E) (Q := Q) (m := m) (t := t) hl l.length 0 9223372036854775807 (by omega) h
def fnd (L : zR) : Nat × Int64 → zR → Nat × Int64
  | a, [] => a
  | a, q :: l => fnd L (if a.1 < cnt L q.1 ∨ (cnt L q.1 = a.1 ∧ q.1 < a.2) then (cnt L q.1, q.1) else a) l
theorem cnt_le (l : zR) (t : Int64) : cnt l t ≤ l.length := List.countP_le_length
def aMB (A : zA) (mo : Nat) (be : Int64) : zA := (A.1, A.2.1, A.2.2.1, nI mo, be)
theorem l_find {E : pm_E} {Q : pm_Q} {x : zD} {m : zN} {l : zR} (hl : AR (xA x) l) : ∀ (n i mo : Nat) (be : Int64) (o2 : Option Value), i + n = l.length → mo ≤ 6 → Q none (mkH (sA x (aMB (xA x) (fnd l (mo, be) (l.drop i)).1 (fnd l (mo, be) (l.drop i)).2)) m) → Sm E n_X0_findBegin 12 ([some (.ref 88), some (.int (nI i)), o2], [], mkH (sA x (aMB (xA x) mo be)) m, 0, 0) Q := by
  intro n
  induction n with
  | zero =>
    intro i mo be o2 hi hmo h
    refine pm_lp (aX0_findBegin E) 100 12 rfl ?_
    conv => whnf
    have hlen := hl.2.1
    refine ⟨fun q => ?_, fun q => absurd (show (xA x).2.2.1 ≤ nI i by rw [hl.1]; exact nI_le (by omega) (by omega)) q⟩
    conv => whnf
    refine ⟨trivial, ?_⟩
    rw [List.drop_eq_nil_of_le (by omega)] at h
    exact h
  | succ n ih =>
    intro i mo be o2 hi hmo h
    have hlt : i < l.length := by omega
    have hlen := hl.2.1
    obtain ⟨e1, e2⟩ := hl.2.2 i _ (List.getElem?_eq_getElem hlt)
    have hcl : (nI i).toNatClampNeg = i := nI_clamp (by omega)
    have hl2 : AR (xA (sA x (aMB (xA x) mo be))) l := hl
    have hc6 := cnt_le l l[i].1
    rw [drop_at hlt, fnd] at h
    refine pm_lp (aX0_findBegin E) 100 12 rfl ?_
    conv => whnf
    refine ⟨fun q => absurd (show (xA x).2.2.1 ≤ nI i from q) (by rw [hl.1]; exact nI_ge hlt (by omega)), fun _ => ?_⟩
    conv => whnf
    refine ⟨hl.lt hlt, ?_⟩
    conv => whnf
    refine ⟨trivial, c_hold (l := l) (t := (xA x).1 (nI i).toNatClampNeg) hl2 ?_⟩
    rw [hcl, e1]
    have eb : (xA x).1 (nI i).toNatClampNeg = l[i].1 := by rw [hcl]; exact e1
    conv => whnf
    have take : (mo < cnt l l[i].1 ∨ (cnt l l[i].1 = mo ∧ l[i].1 < be)) → ∀ o2 : Option Value, Sm E n_X0_findBegin 12 ([some (.ref 88), some (.int (nI i + 1)), o2], [], mkH (sA x (aMB (xA x) (cnt l l[i].1) l[i].1)) m, 0, 0) Q := by
      intro hc o2
      rw [if_pos hc] at h
      have := ih (i + 1) (cnt l l[i].1) l[i].1 o2 (by omega) (by omega) h
      rw [nI_succ] at this
      exact this
    have leave : ¬ (mo < cnt l l[i].1 ∨ (cnt l l[i].1 = mo ∧ l[i].1 < be)) → ∀ o2 : Option Value, Sm E n_X0_findBegin 12 ([some (.ref 88), some (.int (nI i + 1)), o2], [], mkH (sA x (aMB (xA x) mo be)) m, 0, 0) Q := by
      intro hc o2
      rw [if_neg hc] at h
      have := ih (i + 1) mo be o2 (by omega) hmo h
      rw [nI_succ] at this
      exact this
    refine ⟨fun q => ?_, fun q => ?_⟩
    · have hc : mo < cnt l l[i].1 := (nI_ltI (by omega) (by omega)).mp q
      conv => whnf
      refine ⟨hl.lt hlt, ?_⟩
      conv => whnf
      refine ⟨trivial, ?_⟩
      have := take (Or.inl hc) (some (.int (nI (cnt l l[i].1))))
      conv at this => rw [show mkH (sA x (aMB (xA x) (cnt l l[i].1) l[i].1)) m = mkH (sA x (aMB (xA x) (cnt l l[i].1) ((xA x).1 (nI i).toNatClampNeg))) m by rw [eb]]
      exact this
    · have hn : ¬ mo < cnt l l[i].1 := fun z => q ((nI_ltI (by omega) (by omega)).mpr z)
      conv => whnf
      refine ⟨fun q2 => ?_, fun q2 => ?_⟩
      · conv => whnf
        refine ⟨trivial, leave (fun z => ?_) _⟩
        rcases z with z | z
        · exact hn z
        · exact q2 (by rw [z.1]; rfl)
      · have he : cnt l l[i].1 = mo := (nI_eq (by omega) (by omega)).mp q2
        conv => whnf
        refine ⟨hl.lt hlt, ?_⟩
        conv => whnf
        refine ⟨fun q3 => ?_, fun q3 => ?_⟩
        · conv => whnf
          refine ⟨trivial, leave (fun z => ?_) _⟩
          rcases z with z | z
          · exact hn z
          · have q3' : be ≤ l[i].1 := by rw [← eb]; exact q3
            exact Int64.not_lt.mpr q3' z.2
        · have q3' : l[i].1 < be := by rw [← eb]; exact Int64.not_le.mp q3
          conv => whnf
          refine ⟨hl.lt hlt, ?_⟩
          conv => whnf
          refine ⟨trivial, ?_⟩
          have := take (Or.inr ⟨he, q3'⟩) (some (.int (nI (cnt l l[i].1))))
          conv at this => rw [show mkH (sA x (aMB (xA x) (cnt l l[i].1) l[i].1)) m = mkH (sA x (aMB (xA x) (cnt l l[i].1) ((xA x).1 (nI i).toNatClampNeg))) m by rw [eb]]
          exact this
theorem c_find {E : pm_E} {Q : pm_Q} {x : zD} {m : zN} {l : zR} (hl : AR (xA x) l) (h : Q none (mkH (sA x (aMB (xA x) (fnd l (0, 0) l).1 (fnd l (0, 0) l).2)) m)) : Sm E n_X0_findBegin 0 (pl_entry 3 [.ref 88], [], mkH x m, 0, 0) Q := by
  refine pm_go (aX0_findBegin E) 100 rfl ?_
  conv => whnf
  refine ⟨trivial, ?_⟩
  exact l_find (E := E) (Q := Q) (m := m) hl l.length 0 0 0 none (by omega) (by omega) h

/-- the row's end, gone along from end to end -/
def eor (l : zR) (mo : Nat) : Nat → Int64 → Int64
  | 0, e => e
  | n + 1, e => if cnt l (e + 1) = mo then eor l mo n (lE (e + 1) 9223372036854775807 l) else e
theorem l_row {E : pm_E} {Q : pm_Q} {x : zD} {m : zN} {l : zR} {mo : Nat} (hl : AR (xA x) l) (hmo : (xA x).2.2.2.1 = nI mo) (hm6 : mo ≤ 6) : ∀ (n i : Nat) (e : Int64), i + n = l.length → Q (some (.long (eor l mo n e))) (mkH x m) → Sm E n_X0_endOfRow 7 ([some (.ref 88), some (.long e), none, some (.int (nI i))], [], mkH x m, 0, 0) Q := by
  intro n
  induction n with
  | zero =>
    intro i e hi h
    refine pm_lp (aX0_endOfRow E) 100 7 rfl ?_
    conv => whnf
    have hlen := hl.2.1
    refine ⟨fun q => ?_, fun q => absurd (show (xA x).2.2.1 ≤ nI i by rw [hl.1]; exact nI_le (by omega) (by omega)) q⟩
    conv => whnf
    exact ⟨trivial, h⟩
  | succ n ih =>
    intro i e hi h
    have hlt : i < l.length := by omega
    have hlen := hl.2.1
    have hc6 := cnt_le l (e + 1)
    refine pm_lp (aX0_endOfRow E) 100 7 rfl ?_
    conv => whnf
    refine ⟨fun q => absurd (show (xA x).2.2.1 ≤ nI i from q) (by rw [hl.1]; exact nI_ge hlt (by omega)), fun _ => ?_⟩
    conv => whnf
    refine ⟨trivial, c_hold (l := l) hl ?_⟩
    conv => whnf
    rw [eor] at h
    refine ⟨fun q => ?_, fun q => ?_⟩
    · rw [if_neg (fun z => q (by rw [z]; exact hmo.symm))] at h
      conv => whnf
      exact ⟨trivial, h⟩
    · rw [if_pos ((nI_eq (by omega) (by omega)).mp (q.trans hmo))] at h
      conv => whnf
      refine ⟨trivial, c_least (l := l) hl ?_⟩
      conv => whnf
      refine ⟨trivial, ?_⟩
      have := ih (i + 1) _ (by omega) h
      rw [nI_succ] at this
      exact this
theorem c_row {E : pm_E} {Q : pm_Q} {x : zD} {m : zN} {l : zR} {mo : Nat} (hl : AR (xA x) l) (hmo : (xA x).2.2.2.1 = nI mo) (hm6 : mo ≤ 6) (h : Q (some (.long (eor l mo l.length (xA x).2.2.2.2))) (mkH x m)) : Sm E n_X0_endOfRow 0 (pl_entry 4 [.ref 88], [], mkH x m, 0, 0) Q := by
  refine pm_go (aX0_endOfRow E) 100 rfl ?_
  conv => whnf
  refine ⟨trivial, ?_⟩
  exact l_row (E := E) (Q := Q) (m := m) hl hmo hm6 l.length 0 _ (by omega) h
/-! all that are heard -/
def spL (M : zM) (t : Int32) : Nat → zR
  | 0 => []
  | i + 1 => if hB M (nI i) then spL M t i ++ [(fB M (nI i) t, fE M (nI i) t)] else spL M t i
theorem spL_len (M : zM) (t : Int32) : ∀ i, (spL M t i).length ≤ i
  | 0 => Nat.le_refl 0
  | i + 1 => by
    have := spL_len M t i
    unfold spL
    split
    · rw [List.length_append]; simp; omega
    · omega
/-- what the agreement holds behind 'look' -/
def AF (A : zA) (l : zR) : Prop := AR A l ∧ A.2.2.2.1 = nI (fnd l (0, 0) l).1 ∧ A.2.2.2.2 = (fnd l (0, 0) l).2
theorem AR.push {A : zA} {l : zR} (h : AR A l) (h5 : l.length ≤ 5) (b e : Int64) : AR (vp_updL A.1 A.2.2.1.toNatClampNeg b, vp_updL A.2.1 A.2.2.1.toNatClampNeg e, A.2.2.1 + 1, A.2.2.2.1, A.2.2.2.2) (l ++ [(b, e)]) := by
  obtain ⟨h1, h2, h3⟩ := h
  have hc : A.2.2.1.toNatClampNeg = l.length := by rw [h1]; exact nI_clamp (by omega)
  refine ⟨?_, ?_, ?_⟩
  · show A.2.2.1 + 1 = _
    rw [h1, List.length_append]
    exact (nI_succ _).symm
  · rw [List.length_append]; simp; omega
  · intro j q hq
    show vp_updL A.1 _ b j = _ ∧ vp_updL A.2.1 _ e j = _
    rw [hc]
    unfold vp_updL
    by_cases hj : j = l.length
    · subst hj
      rw [List.getElem?_append_right (Nat.le_refl _)] at hq
      simp at hq
      subst hq
      simp
    · rw [if_neg hj, if_neg hj]
      refine h3 j q ?_
      by_cases hlt : j < l.length
      · rwa [List.getElem?_append_left hlt] at hq
      · rw [List.getElem?_eq_none (by rw [List.length_append]; simp; omega)] at hq
        cases hq
theorem l_look {E : pm_E} {Q : pm_Q} {x : zD} {m : zN} {t : Int32} : ∀ (n i : Nat) (A : zA), i + n = 6 → AR A (spL (xS x).1 t i) → (∀ A', AF A' (spL (xS x).1 t 6) → Q none (mkH (sA x A') m)) → Sm E n_X0_look 7 ([some (.ref 88), some (.ref 10), some (.int t), some (.int (nI i))], [], mkH (sA x A) m, 0, 0) Q := by
  intro n
  induction n with
  | zero =>
    intro i A hi hA h
    obtain rfl : i = 6 := by omega
    refine pm_lp (aX0_look E) 100 7 rfl ?_
    conv => whnf
    refine ⟨fun q => ?_, fun q => absurd (show (6 : Int32) ≤ nI 6 by decide) q⟩
    conv => whnf
    refine ⟨trivial, c_find (x := sA x A) hA ?_⟩
    conv => whnf
    exact ⟨trivial, h _ ⟨hA, rfl, rfl⟩⟩
  | succ n ih =>
    intro i A hi hA h
    have h6 : vp_in (nI i) 6 := vp_in_nI (by omega) (by decide)
    have hlen := spL_len (xS x).1 t i
    have hin : vp_in A.2.2.1 6 := by rw [hA.1]; exact vp_in_nI (by omega) (by decide)
    refine pm_lp (aX0_look E) 100 7 rfl ?_
    conv => whnf
    refine ⟨fun q => absurd (show nI 6 ≤ nI i from q) (nI_ge (by omega) (by omega)), fun _ => ?_⟩
    conv => whnf
    refine ⟨trivial, c_isHeard (x := sA x A) (fun hb => ?_) (fun hb => ?_)⟩
    · have hb : hB (xS x).1 (nI i) := hb
      conv => whnf
      refine ⟨fun q => absurd q (by decide), fun _ => ?_⟩
      conv => whnf
      refine ⟨trivial, c_begin (x := sA x A) h6 ?_⟩
      conv => whnf
      refine ⟨hin, ?_⟩
      conv => whnf
      refine ⟨trivial, c_end (x := sA x (vp_updL A.1 A.2.2.1.toNatClampNeg (fB (xS x).1 (nI i) t), A.2)) h6 ?_⟩
      conv => whnf
      refine ⟨hin, ?_⟩
      conv => whnf
      refine ⟨trivial, ?_⟩
      have hp := hA.push (by omega) (fB (xS x).1 (nI i) t) (fE (xS x).1 (nI i) t)
      have := ih (i + 1) _ (by omega) (by rw [spL, if_pos hb]; exact hp) h
      rw [nI_succ] at this
      exact this
    · have hb : ¬ hB (xS x).1 (nI i) := hb
      conv => whnf
      refine ⟨fun _ => ?_, fun q => absurd rfl q⟩
      conv => whnf
      refine ⟨trivial, ?_⟩
      have := ih (i + 1) A (by omega) (by rw [spL, if_neg hb]; exact hA) h
      rw [nI_succ] at this
      exact this
theorem c_look {E : pm_E} {Q : pm_Q} {x : zD} {m : zN} {t : Int32} (h : ∀ A', AF A' (spL (xS x).1 t 6) → Q none (mkH (sA x A') m)) : Sm E n_X0_look 0 (pl_entry 4 [.ref 88, .ref 10, .int t], [], mkH x m, 0, 0) Q := by
  refine pm_go (aX0_look E) 100 rfl ?_
  conv => whnf
  refine ⟨trivial, ?_⟩
  exact l_look (E := E) (Q := Q) (x := x) (m := m) (t := t) 6 0 ((xA x).1, (xA x).2.1, 0, (xA x).2.2.2.1, (xA x).2.2.2.2) (by omega) ⟨rfl, Nat.zero_le _, fun j q hq => by simp [spL] at hq⟩ h
theorem c_good {E : pm_E} {Q : pm_Q} {x : zD} {m : zN} (h1 : (xA x).2.2.1 < 2 * (xA x).2.2.2.1 → Q (some (.int 1)) (mkH x m)) (h0 : ¬ (xA x).2.2.1 < 2 * (xA x).2.2.2.1 → Q (some (.int 0)) (mkH x m)) : Sm E n_X0_isGood 0 (pl_entry 1 [.ref 88], [], mkH x m, 0, 0) Q := by
  refine pm_go (aX0_isGood E) 100 rfl ?_
  conv => whnf
  refine ⟨fun q => ?_, fun q => ?_⟩
  · conv => whnf
    exact ⟨rfl, h0 (Int32.not_lt.mpr q)⟩
  · conv => whnf
    exact ⟨rfl, h1 (Int32.not_le.mp q)⟩
end
section
/-! ===== states copied: the past kept and given back (printed by gen18.py) ===== -/
def upS (f : Nat → zS) (i : Nat) (s : zS) : Nat → zS := fun j => if j = i then s else f j
theorem c_mcK0 {E : pm_E} {Q : pm_Q} {x : zD} {m : zN} (h : Q none (mkH (sP x (upS (xP x).1 0 ((xS x).1, ((xP x).1 0).2), (xP x).2)) m)) : Sm E n_X4_copyFrom 0 (pl_entry 2 [.ref 23, .ref 10], [], mkH x m, 0, 0) Q := by
  refine pm_go (aX4_copyFrom E) 100 rfl ?_
  conv => whnf
  refine ⟨⟨rfl, rfl⟩, ?_⟩
  conv => whnf
  refine ⟨⟨rfl, rfl, by decide⟩, ?_⟩
  conv => whnf
  refine ⟨⟨rfl, rfl⟩, ?_⟩
  conv => whnf
  refine ⟨⟨rfl, rfl, by decide⟩, ?_⟩
  conv => whnf
  refine ⟨⟨rfl, rfl⟩, ?_⟩
  conv => whnf
  refine ⟨⟨rfl, rfl, by decide⟩, ?_⟩
  conv => whnf
  exact ⟨trivial, h⟩
theorem c_ccK0 {E : pm_E} {Q : pm_Q} {x : zD} {m : zN} (h : Q none (mkH (sP x (upS (xP x).1 0 (((xP x).1 0).1, (xS x).2.1, ((xP x).1 0).2.2), (xP x).2)) m)) : Sm E n_X1_copyFrom 0 (pl_entry 2 [.ref 27, .ref 14], [], mkH x m, 0, 0) Q := by
  refine pm_go (aX1_copyFrom E) 100 rfl ?_
  conv => whnf
  refine ⟨⟨rfl, rfl⟩, ?_⟩
  conv => whnf
  refine ⟨⟨rfl, rfl, by decide⟩, ?_⟩
  conv => whnf
  refine ⟨⟨rfl, rfl⟩, ?_⟩
  conv => whnf
  refine ⟨⟨rfl, rfl, by decide⟩, ?_⟩
  conv => whnf
  refine ⟨⟨rfl, rfl⟩, ?_⟩
  conv => whnf
  refine ⟨⟨rfl, rfl, by decide⟩, ?_⟩
  conv => whnf
  refine ⟨⟨rfl, rfl⟩, ?_⟩
  conv => whnf
  refine ⟨⟨rfl, rfl, by decide⟩, ?_⟩
  conv => whnf
  refine ⟨⟨rfl, rfl⟩, ?_⟩
  conv => whnf
  refine ⟨⟨rfl, rfl, by decide⟩, ?_⟩
  conv => whnf
  exact ⟨trivial, h⟩
theorem c_scK0 {E : pm_E} {Q : pm_Q} {x : zD} {m : zN} (h : Q none (mkH (sP x (upS (xP x).1 0 (xS x), (xP x).2)) m)) : Sm E n_X6_copyFrom 0 (pl_entry 2 [.ref 22, .ref 9], [], mkH x m, 0, 0) Q := by
  refine pm_go (aX6_copyFrom E) 100 rfl ?_
  conv => whnf
  refine ⟨trivial, c_mcK0 ?_⟩
  conv => whnf
  refine ⟨trivial, c_ccK0 ?_⟩
  conv => whnf
  exact ⟨trivial, h⟩
theorem c_mcG0 {E : pm_E} {Q : pm_Q} {x : zD} {m : zN} (h : Q none (mkH (sS x (((xP x).1 0).1, (xS x).2)) m)) : Sm E n_X4_copyFrom 0 (pl_entry 2 [.ref 10, .ref 23], [], mkH x m, 0, 0) Q := by
  refine pm_go (aX4_copyFrom E) 100 rfl ?_
  conv => whnf
  refine ⟨⟨rfl, rfl⟩, ?_⟩
  conv => whnf
  refine ⟨⟨rfl, rfl, by decide⟩, ?_⟩
  conv => whnf
  refine ⟨⟨rfl, rfl⟩, ?_⟩
  conv => whnf
  refine ⟨⟨rfl, rfl, by decide⟩, ?_⟩
  conv => whnf
  refine ⟨⟨rfl, rfl⟩, ?_⟩
  conv => whnf
  refine ⟨⟨rfl, rfl, by decide⟩, ?_⟩
  conv => whnf
  exact ⟨trivial, h⟩
theorem c_ccG0 {E : pm_E} {Q : pm_Q} {x : zD} {m : zN} (h : Q none (mkH (sS x ((xS x).1, ((xP x).1 0).2.1, (xS x).2.2)) m)) : Sm E n_X1_copyFrom 0 (pl_entry 2 [.ref 14, .ref 27], [], mkH x m, 0, 0) Q := by
  refine pm_go (aX1_copyFrom E) 100 rfl ?_
  conv => whnf
  refine ⟨⟨rfl, rfl⟩, ?_⟩
  conv => whnf
  refine ⟨⟨rfl, rfl, by decide⟩, ?_⟩
  conv => whnf
  refine ⟨⟨rfl, rfl⟩, ?_⟩
  conv => whnf
  refine ⟨⟨rfl, rfl, by decide⟩, ?_⟩
  conv => whnf
  refine ⟨⟨rfl, rfl⟩, ?_⟩
  conv => whnf
  refine ⟨⟨rfl, rfl, by decide⟩, ?_⟩
  conv => whnf
  refine ⟨⟨rfl, rfl⟩, ?_⟩
  conv => whnf
  refine ⟨⟨rfl, rfl, by decide⟩, ?_⟩
  conv => whnf
  refine ⟨⟨rfl, rfl⟩, ?_⟩
  conv => whnf
  refine ⟨⟨rfl, rfl, by decide⟩, ?_⟩
  conv => whnf
  exact ⟨trivial, h⟩
theorem c_scG0 {E : pm_E} {Q : pm_Q} {x : zD} {m : zN} (h : Q none (mkH (sS x ((xP x).1 0)) m)) : Sm E n_X6_copyFrom 0 (pl_entry 2 [.ref 9, .ref 22], [], mkH x m, 0, 0) Q := by
  refine pm_go (aX6_copyFrom E) 100 rfl ?_
  conv => whnf
  refine ⟨trivial, c_mcG0 ?_⟩
  conv => whnf
  refine ⟨trivial, c_ccG0 ?_⟩
  conv => whnf
  exact ⟨trivial, h⟩
theorem c_mcK1 {E : pm_E} {Q : pm_Q} {x : zD} {m : zN} (h : Q none (mkH (sP x (upS (xP x).1 1 ((xS x).1, ((xP x).1 1).2), (xP x).2)) m)) : Sm E n_X4_copyFrom 0 (pl_entry 2 [.ref 34, .ref 10], [], mkH x m, 0, 0) Q := by
  refine pm_go (aX4_copyFrom E) 100 rfl ?_
  conv => whnf
  refine ⟨⟨rfl, rfl⟩, ?_⟩
  conv => whnf
  refine ⟨⟨rfl, rfl, by decide⟩, ?_⟩
  conv => whnf
  refine ⟨⟨rfl, rfl⟩, ?_⟩
  conv => whnf
  refine ⟨⟨rfl, rfl, by decide⟩, ?_⟩
  conv => whnf
  refine ⟨⟨rfl, rfl⟩, ?_⟩
  conv => whnf
  refine ⟨⟨rfl, rfl, by decide⟩, ?_⟩
  conv => whnf
  exact ⟨trivial, h⟩
theorem c_ccK1 {E : pm_E} {Q : pm_Q} {x : zD} {m : zN} (h : Q none (mkH (sP x (upS (xP x).1 1 (((xP x).1 1).1, (xS x).2.1, ((xP x).1 1).2.2), (xP x).2)) m)) : Sm E n_X1_copyFrom 0 (pl_entry 2 [.ref 38, .ref 14], [], mkH x m, 0, 0) Q := by
  refine pm_go (aX1_copyFrom E) 100 rfl ?_
  conv => whnf
  refine ⟨⟨rfl, rfl⟩, ?_⟩
  conv => whnf
  refine ⟨⟨rfl, rfl, by decide⟩, ?_⟩
  conv => whnf
  refine ⟨⟨rfl, rfl⟩, ?_⟩
  conv => whnf
  refine ⟨⟨rfl, rfl, by decide⟩, ?_⟩
  conv => whnf
  refine ⟨⟨rfl, rfl⟩, ?_⟩
  conv => whnf
  refine ⟨⟨rfl, rfl, by decide⟩, ?_⟩
  conv => whnf
  refine ⟨⟨rfl, rfl⟩, ?_⟩
  conv => whnf
  refine ⟨⟨rfl, rfl, by decide⟩, ?_⟩
  conv => whnf
  refine ⟨⟨rfl, rfl⟩, ?_⟩
  conv => whnf
  refine ⟨⟨rfl, rfl, by decide⟩, ?_⟩
  conv => whnf
  exact ⟨trivial, h⟩
theorem c_scK1 {E : pm_E} {Q : pm_Q} {x : zD} {m : zN} (h : Q none (mkH (sP x (upS (xP x).1 1 (xS x), (xP x).2)) m)) : Sm E n_X6_copyFrom 0 (pl_entry 2 [.ref 33, .ref 9], [], mkH x m, 0, 0) Q := by
  refine pm_go (aX6_copyFrom E) 100 rfl ?_
  conv => whnf
  refine ⟨trivial, c_mcK1 ?_⟩
  conv => whnf
  refine ⟨trivial, c_ccK1 ?_⟩
  conv => whnf
  exact ⟨trivial, h⟩
theorem c_mcG1 {E : pm_E} {Q : pm_Q} {x : zD} {m : zN} (h : Q none (mkH (sS x (((xP x).1 1).1, (xS x).2)) m)) : Sm E n_X4_copyFrom 0 (pl_entry 2 [.ref 10, .ref 34], [], mkH x m, 0, 0) Q := by
  refine pm_go (aX4_copyFrom E) 100 rfl ?_
  conv => whnf
  refine ⟨⟨rfl, rfl⟩, ?_⟩
  conv => whnf
  refine ⟨⟨rfl, rfl, by decide⟩, ?_⟩
  conv => whnf
  refine ⟨⟨rfl, rfl⟩, ?_⟩
  conv => whnf
  refine ⟨⟨rfl, rfl, by decide⟩, ?_⟩
  conv => whnf
  refine ⟨⟨rfl, rfl⟩, ?_⟩
  conv => whnf
  refine ⟨⟨rfl, rfl, by decide⟩, ?_⟩
  conv => whnf
  exact ⟨trivial, h⟩
theorem c_ccG1 {E : pm_E} {Q : pm_Q} {x : zD} {m : zN} (h : Q none (mkH (sS x ((xS x).1, ((xP x).1 1).2.1, (xS x).2.2)) m)) : Sm E n_X1_copyFrom 0 (pl_entry 2 [.ref 14, .ref 38], [], mkH x m, 0, 0) Q := by
  refine pm_go (aX1_copyFrom E) 100 rfl ?_
  conv => whnf
  refine ⟨⟨rfl, rfl⟩, ?_⟩
  conv => whnf
  refine ⟨⟨rfl, rfl, by decide⟩, ?_⟩
  conv => whnf
  refine ⟨⟨rfl, rfl⟩, ?_⟩
  conv => whnf
  refine ⟨⟨rfl, rfl, by decide⟩, ?_⟩
  conv => whnf
  refine ⟨⟨rfl, rfl⟩, ?_⟩
  conv => whnf
  refine ⟨⟨rfl, rfl, by decide⟩, ?_⟩
  conv => whnf
  refine ⟨⟨rfl, rfl⟩, ?_⟩
  conv => whnf
  refine ⟨⟨rfl, rfl, by decide⟩, ?_⟩
  conv => whnf
  refine ⟨⟨rfl, rfl⟩, ?_⟩
  conv => whnf
  refine ⟨⟨rfl, rfl, by decide⟩, ?_⟩
  conv => whnf
  exact ⟨trivial, h⟩
theorem c_scG1 {E : pm_E} {Q : pm_Q} {x : zD} {m : zN} (h : Q none (mkH (sS x ((xP x).1 1)) m)) : Sm E n_X6_copyFrom 0 (pl_entry 2 [.ref 9, .ref 33], [], mkH x m, 0, 0) Q := by
  refine pm_go (aX6_copyFrom E) 100 rfl ?_
  conv => whnf
  refine ⟨trivial, c_mcG1 ?_⟩
  conv => whnf
  refine ⟨trivial, c_ccG1 ?_⟩
  conv => whnf
  exact ⟨trivial, h⟩
theorem c_mcK2 {E : pm_E} {Q : pm_Q} {x : zD} {m : zN} (h : Q none (mkH (sP x (upS (xP x).1 2 ((xS x).1, ((xP x).1 2).2), (xP x).2)) m)) : Sm E n_X4_copyFrom 0 (pl_entry 2 [.ref 45, .ref 10], [], mkH x m, 0, 0) Q := by
  refine pm_go (aX4_copyFrom E) 100 rfl ?_
  conv => whnf
  refine ⟨⟨rfl, rfl⟩, ?_⟩
  conv => whnf
  refine ⟨⟨rfl, rfl, by decide⟩, ?_⟩
  conv => whnf
  refine ⟨⟨rfl, rfl⟩, ?_⟩
  conv => whnf
  refine ⟨⟨rfl, rfl, by decide⟩, ?_⟩
  conv => whnf
  refine ⟨⟨rfl, rfl⟩, ?_⟩
  conv => whnf
  refine ⟨⟨rfl, rfl, by decide⟩, ?_⟩
  conv => whnf
  exact ⟨trivial, h⟩
theorem c_ccK2 {E : pm_E} {Q : pm_Q} {x : zD} {m : zN} (h : Q none (mkH (sP x (upS (xP x).1 2 (((xP x).1 2).1, (xS x).2.1, ((xP x).1 2).2.2), (xP x).2)) m)) : Sm E n_X1_copyFrom 0 (pl_entry 2 [.ref 49, .ref 14], [], mkH x m, 0, 0) Q := by
  refine pm_go (aX1_copyFrom E) 100 rfl ?_
  conv => whnf
  refine ⟨⟨rfl, rfl⟩, ?_⟩
  conv => whnf
  refine ⟨⟨rfl, rfl, by decide⟩, ?_⟩
  conv => whnf
  refine ⟨⟨rfl, rfl⟩, ?_⟩
  conv => whnf
  refine ⟨⟨rfl, rfl, by decide⟩, ?_⟩
  conv => whnf
  refine ⟨⟨rfl, rfl⟩, ?_⟩
  conv => whnf
  refine ⟨⟨rfl, rfl, by decide⟩, ?_⟩
  conv => whnf
  refine ⟨⟨rfl, rfl⟩, ?_⟩
  conv => whnf
  refine ⟨⟨rfl, rfl, by decide⟩, ?_⟩
  conv => whnf
  refine ⟨⟨rfl, rfl⟩, ?_⟩
  conv => whnf
  refine ⟨⟨rfl, rfl, by decide⟩, ?_⟩
  conv => whnf
  exact ⟨trivial, h⟩
theorem c_scK2 {E : pm_E} {Q : pm_Q} {x : zD} {m : zN} (h : Q none (mkH (sP x (upS (xP x).1 2 (xS x), (xP x).2)) m)) : Sm E n_X6_copyFrom 0 (pl_entry 2 [.ref 44, .ref 9], [], mkH x m, 0, 0) Q := by
  refine pm_go (aX6_copyFrom E) 100 rfl ?_
  conv => whnf
  refine ⟨trivial, c_mcK2 ?_⟩
  conv => whnf
  refine ⟨trivial, c_ccK2 ?_⟩
  conv => whnf
  exact ⟨trivial, h⟩
theorem c_mcG2 {E : pm_E} {Q : pm_Q} {x : zD} {m : zN} (h : Q none (mkH (sS x (((xP x).1 2).1, (xS x).2)) m)) : Sm E n_X4_copyFrom 0 (pl_entry 2 [.ref 10, .ref 45], [], mkH x m, 0, 0) Q := by
  refine pm_go (aX4_copyFrom E) 100 rfl ?_
  conv => whnf
  refine ⟨⟨rfl, rfl⟩, ?_⟩
  conv => whnf
  refine ⟨⟨rfl, rfl, by decide⟩, ?_⟩
  conv => whnf
  refine ⟨⟨rfl, rfl⟩, ?_⟩
  conv => whnf
  refine ⟨⟨rfl, rfl, by decide⟩, ?_⟩
  conv => whnf
  refine ⟨⟨rfl, rfl⟩, ?_⟩
  conv => whnf
  refine ⟨⟨rfl, rfl, by decide⟩, ?_⟩
  conv => whnf
  exact ⟨trivial, h⟩
theorem c_ccG2 {E : pm_E} {Q : pm_Q} {x : zD} {m : zN} (h : Q none (mkH (sS x ((xS x).1, ((xP x).1 2).2.1, (xS x).2.2)) m)) : Sm E n_X1_copyFrom 0 (pl_entry 2 [.ref 14, .ref 49], [], mkH x m, 0, 0) Q := by
  refine pm_go (aX1_copyFrom E) 100 rfl ?_
  conv => whnf
  refine ⟨⟨rfl, rfl⟩, ?_⟩
  conv => whnf
  refine ⟨⟨rfl, rfl, by decide⟩, ?_⟩
  conv => whnf
  refine ⟨⟨rfl, rfl⟩, ?_⟩
  conv => whnf
  refine ⟨⟨rfl, rfl, by decide⟩, ?_⟩
  conv => whnf
  refine ⟨⟨rfl, rfl⟩, ?_⟩
  conv => whnf
  refine ⟨⟨rfl, rfl, by decide⟩, ?_⟩
  conv => whnf
  refine ⟨⟨rfl, rfl⟩, ?_⟩
  conv => whnf
  refine ⟨⟨rfl, rfl, by decide⟩, ?_⟩
  conv => whnf
  refine ⟨⟨rfl, rfl⟩, ?_⟩
  conv => whnf
  refine ⟨⟨rfl, rfl, by decide⟩, ?_⟩
  conv => whnf
  exact ⟨trivial, h⟩
theorem c_scG2 {E : pm_E} {Q : pm_Q} {x : zD} {m : zN} (h : Q none (mkH (sS x ((xP x).1 2)) m)) : Sm E n_X6_copyFrom 0 (pl_entry 2 [.ref 9, .ref 44], [], mkH x m, 0, 0) Q := by
  refine pm_go (aX6_copyFrom E) 100 rfl ?_
  conv => whnf
  refine ⟨trivial, c_mcG2 ?_⟩
  conv => whnf
  refine ⟨trivial, c_ccG2 ?_⟩
  conv => whnf
  exact ⟨trivial, h⟩
theorem c_mcK3 {E : pm_E} {Q : pm_Q} {x : zD} {m : zN} (h : Q none (mkH (sP x (upS (xP x).1 3 ((xS x).1, ((xP x).1 3).2), (xP x).2)) m)) : Sm E n_X4_copyFrom 0 (pl_entry 2 [.ref 56, .ref 10], [], mkH x m, 0, 0) Q := by
  refine pm_go (aX4_copyFrom E) 100 rfl ?_
  conv => whnf
  refine ⟨⟨rfl, rfl⟩, ?_⟩
  conv => whnf
  refine ⟨⟨rfl, rfl, by decide⟩, ?_⟩
  conv => whnf
  refine ⟨⟨rfl, rfl⟩, ?_⟩
  conv => whnf
  refine ⟨⟨rfl, rfl, by decide⟩, ?_⟩
  conv => whnf
  refine ⟨⟨rfl, rfl⟩, ?_⟩
  conv => whnf
  refine ⟨⟨rfl, rfl, by decide⟩, ?_⟩
  conv => whnf
  exact ⟨trivial, h⟩
theorem c_ccK3 {E : pm_E} {Q : pm_Q} {x : zD} {m : zN} (h : Q none (mkH (sP x (upS (xP x).1 3 (((xP x).1 3).1, (xS x).2.1, ((xP x).1 3).2.2), (xP x).2)) m)) : Sm E n_X1_copyFrom 0 (pl_entry 2 [.ref 60, .ref 14], [], mkH x m, 0, 0) Q := by
  refine pm_go (aX1_copyFrom E) 100 rfl ?_
  conv => whnf
  refine ⟨⟨rfl, rfl⟩, ?_⟩
  conv => whnf
  refine ⟨⟨rfl, rfl, by decide⟩, ?_⟩
  conv => whnf
  refine ⟨⟨rfl, rfl⟩, ?_⟩
  conv => whnf
  refine ⟨⟨rfl, rfl, by decide⟩, ?_⟩
  conv => whnf
  refine ⟨⟨rfl, rfl⟩, ?_⟩
  conv => whnf
  refine ⟨⟨rfl, rfl, by decide⟩, ?_⟩
  conv => whnf
  refine ⟨⟨rfl, rfl⟩, ?_⟩
  conv => whnf
  refine ⟨⟨rfl, rfl, by decide⟩, ?_⟩
  conv => whnf
  refine ⟨⟨rfl, rfl⟩, ?_⟩
  conv => whnf
  refine ⟨⟨rfl, rfl, by decide⟩, ?_⟩
  conv => whnf
  exact ⟨trivial, h⟩
theorem c_scK3 {E : pm_E} {Q : pm_Q} {x : zD} {m : zN} (h : Q none (mkH (sP x (upS (xP x).1 3 (xS x), (xP x).2)) m)) : Sm E n_X6_copyFrom 0 (pl_entry 2 [.ref 55, .ref 9], [], mkH x m, 0, 0) Q := by
  refine pm_go (aX6_copyFrom E) 100 rfl ?_
  conv => whnf
  refine ⟨trivial, c_mcK3 ?_⟩
  conv => whnf
  refine ⟨trivial, c_ccK3 ?_⟩
  conv => whnf
  exact ⟨trivial, h⟩
theorem c_mcG3 {E : pm_E} {Q : pm_Q} {x : zD} {m : zN} (h : Q none (mkH (sS x (((xP x).1 3).1, (xS x).2)) m)) : Sm E n_X4_copyFrom 0 (pl_entry 2 [.ref 10, .ref 56], [], mkH x m, 0, 0) Q := by
  refine pm_go (aX4_copyFrom E) 100 rfl ?_
  conv => whnf
  refine ⟨⟨rfl, rfl⟩, ?_⟩
  conv => whnf
  refine ⟨⟨rfl, rfl, by decide⟩, ?_⟩
  conv => whnf
  refine ⟨⟨rfl, rfl⟩, ?_⟩
  conv => whnf
  refine ⟨⟨rfl, rfl, by decide⟩, ?_⟩
  conv => whnf
  refine ⟨⟨rfl, rfl⟩, ?_⟩
  conv => whnf
  refine ⟨⟨rfl, rfl, by decide⟩, ?_⟩
  conv => whnf
  exact ⟨trivial, h⟩
theorem c_ccG3 {E : pm_E} {Q : pm_Q} {x : zD} {m : zN} (h : Q none (mkH (sS x ((xS x).1, ((xP x).1 3).2.1, (xS x).2.2)) m)) : Sm E n_X1_copyFrom 0 (pl_entry 2 [.ref 14, .ref 60], [], mkH x m, 0, 0) Q := by
  refine pm_go (aX1_copyFrom E) 100 rfl ?_
  conv => whnf
  refine ⟨⟨rfl, rfl⟩, ?_⟩
  conv => whnf
  refine ⟨⟨rfl, rfl, by decide⟩, ?_⟩
  conv => whnf
  refine ⟨⟨rfl, rfl⟩, ?_⟩
  conv => whnf
  refine ⟨⟨rfl, rfl, by decide⟩, ?_⟩
  conv => whnf
  refine ⟨⟨rfl, rfl⟩, ?_⟩
  conv => whnf
  refine ⟨⟨rfl, rfl, by decide⟩, ?_⟩
  conv => whnf
  refine ⟨⟨rfl, rfl⟩, ?_⟩
  conv => whnf
  refine ⟨⟨rfl, rfl, by decide⟩, ?_⟩
  conv => whnf
  refine ⟨⟨rfl, rfl⟩, ?_⟩
  conv => whnf
  refine ⟨⟨rfl, rfl, by decide⟩, ?_⟩
  conv => whnf
  exact ⟨trivial, h⟩
theorem c_scG3 {E : pm_E} {Q : pm_Q} {x : zD} {m : zN} (h : Q none (mkH (sS x ((xP x).1 3)) m)) : Sm E n_X6_copyFrom 0 (pl_entry 2 [.ref 9, .ref 55], [], mkH x m, 0, 0) Q := by
  refine pm_go (aX6_copyFrom E) 100 rfl ?_
  conv => whnf
  refine ⟨trivial, c_mcG3 ?_⟩
  conv => whnf
  refine ⟨trivial, c_ccG3 ?_⟩
  conv => whnf
  exact ⟨trivial, h⟩
theorem c_mcK4 {E : pm_E} {Q : pm_Q} {x : zD} {m : zN} (h : Q none (mkH (sP x (upS (xP x).1 4 ((xS x).1, ((xP x).1 4).2), (xP x).2)) m)) : Sm E n_X4_copyFrom 0 (pl_entry 2 [.ref 67, .ref 10], [], mkH x m, 0, 0) Q := by
  refine pm_go (aX4_copyFrom E) 100 rfl ?_
  conv => whnf
  refine ⟨⟨rfl, rfl⟩, ?_⟩
  conv => whnf
  refine ⟨⟨rfl, rfl, by decide⟩, ?_⟩
  conv => whnf
  refine ⟨⟨rfl, rfl⟩, ?_⟩
  conv => whnf
  refine ⟨⟨rfl, rfl, by decide⟩, ?_⟩
  conv => whnf
  refine ⟨⟨rfl, rfl⟩, ?_⟩
  conv => whnf
  refine ⟨⟨rfl, rfl, by decide⟩, ?_⟩
  conv => whnf
  exact ⟨trivial, h⟩
theorem c_ccK4 {E : pm_E} {Q : pm_Q} {x : zD} {m : zN} (h : Q none (mkH (sP x (upS (xP x).1 4 (((xP x).1 4).1, (xS x).2.1, ((xP x).1 4).2.2), (xP x).2)) m)) : Sm E n_X1_copyFrom 0 (pl_entry 2 [.ref 71, .ref 14], [], mkH x m, 0, 0) Q := by
  refine pm_go (aX1_copyFrom E) 100 rfl ?_
  conv => whnf
  refine ⟨⟨rfl, rfl⟩, ?_⟩
  conv => whnf
  refine ⟨⟨rfl, rfl, by decide⟩, ?_⟩
  conv => whnf
  refine ⟨⟨rfl, rfl⟩, ?_⟩
  conv => whnf
  refine ⟨⟨rfl, rfl, by decide⟩, ?_⟩
  conv => whnf
  refine ⟨⟨rfl, rfl⟩, ?_⟩
  conv => whnf
  refine ⟨⟨rfl, rfl, by decide⟩, ?_⟩
  conv => whnf
  refine ⟨⟨rfl, rfl⟩, ?_⟩
  conv => whnf
  refine ⟨⟨rfl, rfl, by decide⟩, ?_⟩
  conv => whnf
  refine ⟨⟨rfl, rfl⟩, ?_⟩
  conv => whnf
  refine ⟨⟨rfl, rfl, by decide⟩, ?_⟩
  conv => whnf
  exact ⟨trivial, h⟩
theorem c_scK4 {E : pm_E} {Q : pm_Q} {x : zD} {m : zN} (h : Q none (mkH (sP x (upS (xP x).1 4 (xS x), (xP x).2)) m)) : Sm E n_X6_copyFrom 0 (pl_entry 2 [.ref 66, .ref 9], [], mkH x m, 0, 0) Q := by
  refine pm_go (aX6_copyFrom E) 100 rfl ?_
  conv => whnf
  refine ⟨trivial, c_mcK4 ?_⟩
  conv => whnf
  refine ⟨trivial, c_ccK4 ?_⟩
  conv => whnf
  exact ⟨trivial, h⟩
theorem c_mcG4 {E : pm_E} {Q : pm_Q} {x : zD} {m : zN} (h : Q none (mkH (sS x (((xP x).1 4).1, (xS x).2)) m)) : Sm E n_X4_copyFrom 0 (pl_entry 2 [.ref 10, .ref 67], [], mkH x m, 0, 0) Q := by
  refine pm_go (aX4_copyFrom E) 100 rfl ?_
  conv => whnf
  refine ⟨⟨rfl, rfl⟩, ?_⟩
  conv => whnf
  refine ⟨⟨rfl, rfl, by decide⟩, ?_⟩
  conv => whnf
  refine ⟨⟨rfl, rfl⟩, ?_⟩
  conv => whnf
  refine ⟨⟨rfl, rfl, by decide⟩, ?_⟩
  conv => whnf
  refine ⟨⟨rfl, rfl⟩, ?_⟩
  conv => whnf
  refine ⟨⟨rfl, rfl, by decide⟩, ?_⟩
  conv => whnf
  exact ⟨trivial, h⟩
theorem c_ccG4 {E : pm_E} {Q : pm_Q} {x : zD} {m : zN} (h : Q none (mkH (sS x ((xS x).1, ((xP x).1 4).2.1, (xS x).2.2)) m)) : Sm E n_X1_copyFrom 0 (pl_entry 2 [.ref 14, .ref 71], [], mkH x m, 0, 0) Q := by
  refine pm_go (aX1_copyFrom E) 100 rfl ?_
  conv => whnf
  refine ⟨⟨rfl, rfl⟩, ?_⟩
  conv => whnf
  refine ⟨⟨rfl, rfl, by decide⟩, ?_⟩
  conv => whnf
  refine ⟨⟨rfl, rfl⟩, ?_⟩
  conv => whnf
  refine ⟨⟨rfl, rfl, by decide⟩, ?_⟩
  conv => whnf
  refine ⟨⟨rfl, rfl⟩, ?_⟩
  conv => whnf
  refine ⟨⟨rfl, rfl, by decide⟩, ?_⟩
  conv => whnf
  refine ⟨⟨rfl, rfl⟩, ?_⟩
  conv => whnf
  refine ⟨⟨rfl, rfl, by decide⟩, ?_⟩
  conv => whnf
  refine ⟨⟨rfl, rfl⟩, ?_⟩
  conv => whnf
  refine ⟨⟨rfl, rfl, by decide⟩, ?_⟩
  conv => whnf
  exact ⟨trivial, h⟩
theorem c_scG4 {E : pm_E} {Q : pm_Q} {x : zD} {m : zN} (h : Q none (mkH (sS x ((xP x).1 4)) m)) : Sm E n_X6_copyFrom 0 (pl_entry 2 [.ref 9, .ref 66], [], mkH x m, 0, 0) Q := by
  refine pm_go (aX6_copyFrom E) 100 rfl ?_
  conv => whnf
  refine ⟨trivial, c_mcG4 ?_⟩
  conv => whnf
  refine ⟨trivial, c_ccG4 ?_⟩
  conv => whnf
  exact ⟨trivial, h⟩
theorem c_mcK5 {E : pm_E} {Q : pm_Q} {x : zD} {m : zN} (h : Q none (mkH (sP x (upS (xP x).1 5 ((xS x).1, ((xP x).1 5).2), (xP x).2)) m)) : Sm E n_X4_copyFrom 0 (pl_entry 2 [.ref 78, .ref 10], [], mkH x m, 0, 0) Q := by
  refine pm_go (aX4_copyFrom E) 100 rfl ?_
  conv => whnf
  refine ⟨⟨rfl, rfl⟩, ?_⟩
  conv => whnf
  refine ⟨⟨rfl, rfl, by decide⟩, ?_⟩
  conv => whnf
  refine ⟨⟨rfl, rfl⟩, ?_⟩
  conv => whnf
  refine ⟨⟨rfl, rfl, by decide⟩, ?_⟩
  conv => whnf
  refine ⟨⟨rfl, rfl⟩, ?_⟩
  conv => whnf
  refine ⟨⟨rfl, rfl, by decide⟩, ?_⟩
  conv => whnf
  exact ⟨trivial, h⟩
theorem c_ccK5 {E : pm_E} {Q : pm_Q} {x : zD} {m : zN} (h : Q none (mkH (sP x (upS (xP x).1 5 (((xP x).1 5).1, (xS x).2.1, ((xP x).1 5).2.2), (xP x).2)) m)) : Sm E n_X1_copyFrom 0 (pl_entry 2 [.ref 82, .ref 14], [], mkH x m, 0, 0) Q := by
  refine pm_go (aX1_copyFrom E) 100 rfl ?_
  conv => whnf
  refine ⟨⟨rfl, rfl⟩, ?_⟩
  conv => whnf
  refine ⟨⟨rfl, rfl, by decide⟩, ?_⟩
  conv => whnf
  refine ⟨⟨rfl, rfl⟩, ?_⟩
  conv => whnf
  refine ⟨⟨rfl, rfl, by decide⟩, ?_⟩
  conv => whnf
  refine ⟨⟨rfl, rfl⟩, ?_⟩
  conv => whnf
  refine ⟨⟨rfl, rfl, by decide⟩, ?_⟩
  conv => whnf
  refine ⟨⟨rfl, rfl⟩, ?_⟩
  conv => whnf
  refine ⟨⟨rfl, rfl, by decide⟩, ?_⟩
  conv => whnf
  refine ⟨⟨rfl, rfl⟩, ?_⟩
  conv => whnf
  refine ⟨⟨rfl, rfl, by decide⟩, ?_⟩
  conv => whnf
  exact ⟨trivial, h⟩
theorem c_scK5 {E : pm_E} {Q : pm_Q} {x : zD} {m : zN} (h : Q none (mkH (sP x (upS (xP x).1 5 (xS x), (xP x).2)) m)) : Sm E n_X6_copyFrom 0 (pl_entry 2 [.ref 77, .ref 9], [], mkH x m, 0, 0) Q := by
  refine pm_go (aX6_copyFrom E) 100 rfl ?_
  conv => whnf
  refine ⟨trivial, c_mcK5 ?_⟩
  conv => whnf
  refine ⟨trivial, c_ccK5 ?_⟩
  conv => whnf
  exact ⟨trivial, h⟩
theorem c_mcG5 {E : pm_E} {Q : pm_Q} {x : zD} {m : zN} (h : Q none (mkH (sS x (((xP x).1 5).1, (xS x).2)) m)) : Sm E n_X4_copyFrom 0 (pl_entry 2 [.ref 10, .ref 78], [], mkH x m, 0, 0) Q := by
  refine pm_go (aX4_copyFrom E) 100 rfl ?_
  conv => whnf
  refine ⟨⟨rfl, rfl⟩, ?_⟩
  conv => whnf
  refine ⟨⟨rfl, rfl, by decide⟩, ?_⟩
  conv => whnf
  refine ⟨⟨rfl, rfl⟩, ?_⟩
  conv => whnf
  refine ⟨⟨rfl, rfl, by decide⟩, ?_⟩
  conv => whnf
  refine ⟨⟨rfl, rfl⟩, ?_⟩
  conv => whnf
  refine ⟨⟨rfl, rfl, by decide⟩, ?_⟩
  conv => whnf
  exact ⟨trivial, h⟩
theorem c_ccG5 {E : pm_E} {Q : pm_Q} {x : zD} {m : zN} (h : Q none (mkH (sS x ((xS x).1, ((xP x).1 5).2.1, (xS x).2.2)) m)) : Sm E n_X1_copyFrom 0 (pl_entry 2 [.ref 14, .ref 82], [], mkH x m, 0, 0) Q := by
  refine pm_go (aX1_copyFrom E) 100 rfl ?_
  conv => whnf
  refine ⟨⟨rfl, rfl⟩, ?_⟩
  conv => whnf
  refine ⟨⟨rfl, rfl, by decide⟩, ?_⟩
  conv => whnf
  refine ⟨⟨rfl, rfl⟩, ?_⟩
  conv => whnf
  refine ⟨⟨rfl, rfl, by decide⟩, ?_⟩
  conv => whnf
  refine ⟨⟨rfl, rfl⟩, ?_⟩
  conv => whnf
  refine ⟨⟨rfl, rfl, by decide⟩, ?_⟩
  conv => whnf
  refine ⟨⟨rfl, rfl⟩, ?_⟩
  conv => whnf
  refine ⟨⟨rfl, rfl, by decide⟩, ?_⟩
  conv => whnf
  refine ⟨⟨rfl, rfl⟩, ?_⟩
  conv => whnf
  refine ⟨⟨rfl, rfl, by decide⟩, ?_⟩
  conv => whnf
  exact ⟨trivial, h⟩
theorem c_scG5 {E : pm_E} {Q : pm_Q} {x : zD} {m : zN} (h : Q none (mkH (sS x ((xP x).1 5)) m)) : Sm E n_X6_copyFrom 0 (pl_entry 2 [.ref 9, .ref 77], [], mkH x m, 0, 0) Q := by
  refine pm_go (aX6_copyFrom E) 100 rfl ?_
  conv => whnf
  refine ⟨trivial, c_mcG5 ?_⟩
  conv => whnf
  refine ⟨trivial, c_ccG5 ?_⟩
  conv => whnf
  exact ⟨trivial, h⟩
end
section
/-! ===== the class's own methods: checks, bits, the past, commits, the leap ===== -/
def bc (v : Int32) : Int32 :=
  let u : Int32 → Int32 → Int32 := fun a b => (a.toUInt32 >>> (b.toUInt32 &&& Int32.toUInt32 31)).toInt32
  let a := v - (u v 1 &&& 1431655765)
  let b := (a &&& 858993459) + (u a 2 &&& 858993459)
  let c := (b + u b 4) &&& 252645135
  let d := c + u c 8
  (d + u d 16) &&& 63
theorem c_bc {E : pm_E} {Q : pm_Q} {h : List va_E} {v : Int32} (hq : Q (some (.int (bc v))) h) : Sm E n_J6_bitCount 0 (pl_entry 1 [.int v], [], h, 0, 0) Q := by
  refine pm_go (aJ6_bitCount_0f7a4 E) 100 rfl ?_
  conv => whnf
  exact ⟨trivial, hq⟩
abbrev nHd (M : zM) : Int32 := bc (M.2.2.2.1 &&& (M.2.2.2.2.1 ^^^ (-1)))
theorem c_many {E : pm_E} {Q : pm_Q} {x : zD} {m : zN} (h : Q (some (.int (nHd (xS x).1))) (mkH x m)) : Sm E n_X4_howManyHeard 0 (pl_entry 1 [.ref 10], [], mkH x m, 0, 0) Q := by
  refine pm_go (aX4_howManyHeard E) 100 rfl ?_
  conv => whnf
  refine ⟨trivial, c_bc ?_⟩
  conv => whnf
  exact ⟨trivial, h⟩
theorem c_hasTold {E : pm_E} {Q : pm_Q} {x : zD} {m : zN} {i : Int32} (h1 : ((xS x).1.2.2.2.1 >>> (i &&& 31)) &&& 1 = 1 → Q (some (.int 1)) (mkH x m)) (h0 : ¬ ((xS x).1.2.2.2.1 >>> (i &&& 31)) &&& 1 = 1 → Q (some (.int 0)) (mkH x m)) : Sm E n_X4_hasTold 0 (pl_entry 2 [.ref 10, .int i], [], mkH x m, 0, 0) Q := by
  refine pm_go (aX4_hasTold E) 100 rfl ?_
  conv => whnf
  refine ⟨fun q => ?_, fun q => ?_⟩
  · conv => whnf
    exact ⟨rfl, h0 q⟩
  · conv => whnf
    exact ⟨rfl, h1 q⟩
def dHear (M : zM) (i : Int32) (a b : Int64) (t : Int32) : zM := (vp_updL M.1 i.toNatClampNeg a, vp_updL M.2.1 i.toNatClampNeg b, upd M.2.2.1 i.toNatClampNeg t, M.2.2.2.1 ||| (1 <<< (i &&& 31)), M.2.2.2.2)
theorem c_hear {E : pm_E} {Q : pm_Q} {x : zD} {m : zN} {i t : Int32} {a b : Int64} (hi : vp_in i 6) (h : Q none (mkH (sS x (dHear (xS x).1 i a b t, (xS x).2)) m)) : Sm E n_X4_hear 0 (pl_entry 7 [.ref 10, .int i, .long a, .long b, .int t], [], mkH x m, 0, 0) Q := by
  refine pm_go (aX4_hear E) 100 rfl ?_
  conv => whnf
  refine ⟨hi, ?_⟩
  conv => whnf
  refine ⟨hi, ?_⟩
  conv => whnf
  refine ⟨hi, ?_⟩
  conv => whnf
  exact ⟨trivial, h⟩
-- checks
theorem c_isMaster {E : pm_E} {Q : pm_Q} {h : List va_E} {v : Int64} (h1 : 0 ≤ v ∧ v < 6 → Q (some (.int 1)) h) (h0 : ¬ (0 ≤ v ∧ v < 6) → Q (some (.int 0)) h) : Sm E n_X8_isMaster 0 (pl_entry 2 [.long v], [], h, 0, 0) Q := by
  refine pm_go (aX8_isMaster E) 100 rfl ?_
  conv => whnf
  refine ⟨fun q => ?_, fun q => ?_⟩
  · conv => whnf
    exact ⟨rfl, h0 (fun z => Int64.not_lt.mpr z.1 q)⟩
  · conv => whnf
    refine ⟨fun q2 => ?_, fun q2 => ?_⟩
    · conv => whnf
      exact ⟨rfl, h0 (fun z => Int64.not_lt.mpr q2 z.2)⟩
    · conv => whnf
      exact ⟨rfl, h1 ⟨Int64.not_lt.mp q, Int64.not_le.mp q2⟩⟩
theorem c_isKey {E : pm_E} {Q : pm_Q} {h : List va_E} {v : Int32} (h1 : 0 ≤ v ∧ v < 6 → Q (some (.int 1)) h) (h0 : ¬ (0 ≤ v ∧ v < 6) → Q (some (.int 0)) h) : Sm E n_X8_isKey 0 (pl_entry 1 [.int v], [], h, 0, 0) Q := by
  refine pm_go (aX8_isKey E) 100 rfl ?_
  conv => whnf
  refine ⟨fun q => ?_, fun q => ?_⟩
  · conv => whnf
    exact ⟨rfl, h0 (fun z => Int32.not_lt.mpr z.1 q)⟩
  · conv => whnf
    refine ⟨fun q2 => ?_, fun q2 => ?_⟩
    · conv => whnf
      exact ⟨rfl, h0 (fun z => Int32.not_lt.mpr q2 z.2)⟩
    · conv => whnf
      exact ⟨rfl, h1 ⟨Int32.not_lt.mp q, Int32.not_le.mp q2⟩⟩
theorem c_isDrift {E : pm_E} {Q : pm_Q} {h : List va_E} {v : Int64} (h1 : 0 ≤ v ∧ v ≤ 999999 → Q (some (.int 1)) h) (h0 : ¬ (0 ≤ v ∧ v ≤ 999999) → Q (some (.int 0)) h) : Sm E n_X8_isDrift 0 (pl_entry 2 [.long v], [], h, 0, 0) Q := by
  refine pm_go (aX8_isDrift E) 100 rfl ?_
  conv => whnf
  refine ⟨fun q => ?_, fun q => ?_⟩
  · conv => whnf
    exact ⟨rfl, h0 (fun z => Int64.not_lt.mpr z.1 q)⟩
  · conv => whnf
    refine ⟨fun q2 => ?_, fun q2 => ?_⟩
    · conv => whnf
      exact ⟨rfl, h0 (fun z => Int64.not_lt.mpr z.2 q2)⟩
    · conv => whnf
      exact ⟨rfl, h1 ⟨Int64.not_lt.mp q, Int64.not_lt.mp q2⟩⟩
theorem c_isAsked {E : pm_E} {Q : pm_Q} {h : List va_E} {v : Int64} (h1 : 0 ≤ v ∧ v ≤ 2000000000000 → Q (some (.int 1)) h) (h0 : ¬ (0 ≤ v ∧ v ≤ 2000000000000) → Q (some (.int 0)) h) : Sm E n_X8_isAsked 0 (pl_entry 2 [.long v], [], h, 0, 0) Q := by
  refine pm_go (aX8_isAsked E) 100 rfl ?_
  conv => whnf
  refine ⟨fun q => ?_, fun q => ?_⟩
  · conv => whnf
    exact ⟨rfl, h0 (fun z => Int64.not_lt.mpr z.1 q)⟩
  · conv => whnf
    refine ⟨fun q2 => ?_, fun q2 => ?_⟩
    · conv => whnf
      exact ⟨rfl, h0 (fun z => Int64.not_lt.mpr z.2 q2)⟩
    · conv => whnf
      exact ⟨rfl, h1 ⟨Int64.not_lt.mp q, Int64.not_lt.mp q2⟩⟩
abbrev okSpan (a b : Int64) : Prop := 0 ≤ a ∧ a ≤ b ∧ b ≤ 1000000000000
theorem c_isTold {E : pm_E} {Q : pm_Q} {h : List va_E} {a b : Int64} (h1 : okSpan a b → Q (some (.int 1)) h) (h0 : ¬ okSpan a b → Q (some (.int 0)) h) : Sm E n_X8_isToldSpan 0 (pl_entry 4 [.long a, .long b], [], h, 0, 0) Q := by
  refine pm_go (aX8_isToldSpan E) 100 rfl ?_
  conv => whnf
  refine ⟨fun q => ?_, fun q => ?_⟩
  · conv => whnf
    exact ⟨rfl, h0 (fun z => Int64.not_lt.mpr z.1 q)⟩
  · conv => whnf
    refine ⟨fun q2 => ?_, fun q2 => ?_⟩
    · conv => whnf
      exact ⟨rfl, h0 (fun z => Int64.not_lt.mpr z.2.1 q2)⟩
    · conv => whnf
      refine ⟨fun q3 => ?_, fun q3 => ?_⟩
      · conv => whnf
        exact ⟨rfl, h0 (fun z => Int64.not_lt.mpr z.2.2 q3)⟩
      · conv => whnf
        exact ⟨rfl, h1 ⟨Int64.not_lt.mp q, Int64.not_lt.mp q2, Int64.not_lt.mp q3⟩⟩
abbrev okLeap (a b c d : Int64) : Prop := (0 ≤ a ∧ a ≤ 1000000000000) ∧ (1 ≤ b ∧ b ≤ 1000) ∧ (b < c ∧ c ≤ 1000000000) ∧ (0 ≤ d ∧ d ≤ 1)
theorem c_isLeap {E : pm_E} {Q : pm_Q} {h : List va_E} {a b c d : Int64} (h1 : okLeap a b c d → Q (some (.int 1)) h) (h0 : ¬ okLeap a b c d → Q (some (.int 0)) h) : Sm E n_X8_isLeap 0 (pl_entry 8 [.long a, .long b, .long c, .long d], [], h, 0, 0) Q := by
  refine pm_go (aX8_isLeap E) 100 rfl ?_
  conv => whnf
  refine ⟨fun q => ?_, fun q => ?_⟩
  · conv => whnf
    exact ⟨rfl, h0 (fun z => Int64.not_lt.mpr z.1.1 q)⟩
  conv => whnf
  refine ⟨fun q2 => ?_, fun q2 => ?_⟩
  · conv => whnf
    exact ⟨rfl, h0 (fun z => Int64.not_lt.mpr z.1.2 q2)⟩
  conv => whnf
  refine ⟨fun q3 => ?_, fun q3 => ?_⟩
  · conv => whnf
    exact ⟨rfl, h0 (fun z => Int64.not_lt.mpr z.2.1.1 q3)⟩
  conv => whnf
  refine ⟨fun q4 => ?_, fun q4 => ?_⟩
  · conv => whnf
    exact ⟨rfl, h0 (fun z => Int64.not_lt.mpr z.2.1.2 q4)⟩
  conv => whnf
  refine ⟨fun q5 => ?_, fun q5 => ?_⟩
  · conv => whnf
    exact ⟨rfl, h0 (fun z => Int64.not_lt.mpr q5 z.2.2.1.1)⟩
  conv => whnf
  refine ⟨fun q6 => ?_, fun q6 => ?_⟩
  · conv => whnf
    exact ⟨rfl, h0 (fun z => Int64.not_lt.mpr z.2.2.1.2 q6)⟩
  conv => whnf
  refine ⟨fun q7 => ?_, fun q7 => ?_⟩
  · conv => whnf
    exact ⟨rfl, h0 (fun z => Int64.not_lt.mpr z.2.2.2.1 q7)⟩
  conv => whnf
  refine ⟨fun q8 => ?_, fun q8 => ?_⟩
  · conv => whnf
    exact ⟨rfl, h0 (fun z => Int64.not_lt.mpr z.2.2.2.2 q8)⟩
  conv => whnf
  exact ⟨rfl, h1 ⟨⟨Int64.not_lt.mp q, Int64.not_lt.mp q2⟩, ⟨Int64.not_lt.mp q3, Int64.not_lt.mp q4⟩, ⟨Int64.not_le.mp q5, Int64.not_lt.mp q6⟩, ⟨Int64.not_lt.mp q7, Int64.not_lt.mp q8⟩⟩⟩
-- the past
def dKeep (P : zP) (S : zS) : zP := (upS P.1 P.2.1.toNatClampNeg S, P.2.1 + 1 - (P.2.1 + 1) / 6 * 6, if 6 < P.2.2 + 1 then 6 else P.2.2 + 1)
theorem hR_at {i : Nat} (h : i < 6) : hR (nI i).toNatClampNeg = some (18 + 11 * i + 4) := by
  rw [nI_clamp (by omega)]
  unfold hR
  rw [if_pos h]
theorem c_keep0 {E : pm_E} {Q : pm_Q} {x : zD} {m : zN} {sz : Int32} {f : Nat → zS} (hx : xP x = (f, nI 0, sz)) (h : Q none (mkH (sP x (upS f 0 (xS x), nI 0 + 1 - (nI 0 + 1) / 6 * 6, if 6 < sz + 1 then 6 else sz + 1)) m)) : Sm E n_X5_keep 0 (pl_entry 2 [.ref 20, .ref 9], [], mkH x m, 0, 0) Q := by
  obtain ⟨x1, x2, x3, x4, x5, x6⟩ := x
  subst hx
  refine pm_go (aX5_keep E) 100 rfl ?_
  conv => whnf
  refine ⟨vp_in_nI (n := 0) (N := 6) (by decide) (by decide), 18, hR_at (i := 0) (by decide), ?_⟩
  conv => whnf
  refine ⟨trivial, c_scK0 ?_⟩
  conv => whnf
  refine ⟨by decide, ?_⟩
  conv => whnf
  exact ⟨trivial, h⟩
theorem c_give0 {E : pm_E} {Q : pm_Q} {x : zD} {m : zN} {nx sz : Int32} {f : Nat → zS} (hx : xP x = (f, nx, sz)) (hn : nx + 6 - 1 - (nx + 6 - 1) / 6 * 6 = nI 0) (h : Q none (mkH (sS (sP x (f, nI 0, sz - 1)) (f 0)) m)) : Sm E n_X5_giveBack 0 (pl_entry 2 [.ref 20, .ref 9], [], mkH x m, 0, 0) Q := by
  obtain ⟨x1, x2, x3, x4, x5, x6⟩ := x
  subst hx
  refine pm_go (aX5_giveBack E) 100 rfl ?_
  conv => whnf
  refine ⟨by decide, ?_⟩
  rw [hn]
  conv => whnf
  refine ⟨vp_in_nI (n := 0) (N := 6) (by decide) (by decide), 18, hR_at (i := 0) (by decide), ?_⟩
  conv => whnf
  refine ⟨trivial, c_scG0 (x := (x1, x2, x3, (f, nI 0, sz - 1), x5, x6)) ?_⟩
  conv => whnf
  exact ⟨trivial, h⟩
theorem c_keep1 {E : pm_E} {Q : pm_Q} {x : zD} {m : zN} {sz : Int32} {f : Nat → zS} (hx : xP x = (f, nI 1, sz)) (h : Q none (mkH (sP x (upS f 1 (xS x), nI 1 + 1 - (nI 1 + 1) / 6 * 6, if 6 < sz + 1 then 6 else sz + 1)) m)) : Sm E n_X5_keep 0 (pl_entry 2 [.ref 20, .ref 9], [], mkH x m, 0, 0) Q := by
  obtain ⟨x1, x2, x3, x4, x5, x6⟩ := x
  subst hx
  refine pm_go (aX5_keep E) 100 rfl ?_
  conv => whnf
  refine ⟨vp_in_nI (n := 1) (N := 6) (by decide) (by decide), 29, hR_at (i := 1) (by decide), ?_⟩
  conv => whnf
  refine ⟨trivial, c_scK1 ?_⟩
  conv => whnf
  refine ⟨by decide, ?_⟩
  conv => whnf
  exact ⟨trivial, h⟩
theorem c_give1 {E : pm_E} {Q : pm_Q} {x : zD} {m : zN} {nx sz : Int32} {f : Nat → zS} (hx : xP x = (f, nx, sz)) (hn : nx + 6 - 1 - (nx + 6 - 1) / 6 * 6 = nI 1) (h : Q none (mkH (sS (sP x (f, nI 1, sz - 1)) (f 1)) m)) : Sm E n_X5_giveBack 0 (pl_entry 2 [.ref 20, .ref 9], [], mkH x m, 0, 0) Q := by
  obtain ⟨x1, x2, x3, x4, x5, x6⟩ := x
  subst hx
  refine pm_go (aX5_giveBack E) 100 rfl ?_
  conv => whnf
  refine ⟨by decide, ?_⟩
  rw [hn]
  conv => whnf
  refine ⟨vp_in_nI (n := 1) (N := 6) (by decide) (by decide), 29, hR_at (i := 1) (by decide), ?_⟩
  conv => whnf
  refine ⟨trivial, c_scG1 (x := (x1, x2, x3, (f, nI 1, sz - 1), x5, x6)) ?_⟩
  conv => whnf
  exact ⟨trivial, h⟩
theorem c_keep2 {E : pm_E} {Q : pm_Q} {x : zD} {m : zN} {sz : Int32} {f : Nat → zS} (hx : xP x = (f, nI 2, sz)) (h : Q none (mkH (sP x (upS f 2 (xS x), nI 2 + 1 - (nI 2 + 1) / 6 * 6, if 6 < sz + 1 then 6 else sz + 1)) m)) : Sm E n_X5_keep 0 (pl_entry 2 [.ref 20, .ref 9], [], mkH x m, 0, 0) Q := by
  obtain ⟨x1, x2, x3, x4, x5, x6⟩ := x
  subst hx
  refine pm_go (aX5_keep E) 100 rfl ?_
  conv => whnf
  refine ⟨vp_in_nI (n := 2) (N := 6) (by decide) (by decide), 40, hR_at (i := 2) (by decide), ?_⟩
  conv => whnf
  refine ⟨trivial, c_scK2 ?_⟩
  conv => whnf
  refine ⟨by decide, ?_⟩
  conv => whnf
  exact ⟨trivial, h⟩
theorem c_give2 {E : pm_E} {Q : pm_Q} {x : zD} {m : zN} {nx sz : Int32} {f : Nat → zS} (hx : xP x = (f, nx, sz)) (hn : nx + 6 - 1 - (nx + 6 - 1) / 6 * 6 = nI 2) (h : Q none (mkH (sS (sP x (f, nI 2, sz - 1)) (f 2)) m)) : Sm E n_X5_giveBack 0 (pl_entry 2 [.ref 20, .ref 9], [], mkH x m, 0, 0) Q := by
  obtain ⟨x1, x2, x3, x4, x5, x6⟩ := x
  subst hx
  refine pm_go (aX5_giveBack E) 100 rfl ?_
  conv => whnf
  refine ⟨by decide, ?_⟩
  rw [hn]
  conv => whnf
  refine ⟨vp_in_nI (n := 2) (N := 6) (by decide) (by decide), 40, hR_at (i := 2) (by decide), ?_⟩
  conv => whnf
  refine ⟨trivial, c_scG2 (x := (x1, x2, x3, (f, nI 2, sz - 1), x5, x6)) ?_⟩
  conv => whnf
  exact ⟨trivial, h⟩
theorem c_keep3 {E : pm_E} {Q : pm_Q} {x : zD} {m : zN} {sz : Int32} {f : Nat → zS} (hx : xP x = (f, nI 3, sz)) (h : Q none (mkH (sP x (upS f 3 (xS x), nI 3 + 1 - (nI 3 + 1) / 6 * 6, if 6 < sz + 1 then 6 else sz + 1)) m)) : Sm E n_X5_keep 0 (pl_entry 2 [.ref 20, .ref 9], [], mkH x m, 0, 0) Q := by
  obtain ⟨x1, x2, x3, x4, x5, x6⟩ := x
  subst hx
  refine pm_go (aX5_keep E) 100 rfl ?_
  conv => whnf
  refine ⟨vp_in_nI (n := 3) (N := 6) (by decide) (by decide), 51, hR_at (i := 3) (by decide), ?_⟩
  conv => whnf
  refine ⟨trivial, c_scK3 ?_⟩
  conv => whnf
  refine ⟨by decide, ?_⟩
  conv => whnf
  exact ⟨trivial, h⟩
theorem c_give3 {E : pm_E} {Q : pm_Q} {x : zD} {m : zN} {nx sz : Int32} {f : Nat → zS} (hx : xP x = (f, nx, sz)) (hn : nx + 6 - 1 - (nx + 6 - 1) / 6 * 6 = nI 3) (h : Q none (mkH (sS (sP x (f, nI 3, sz - 1)) (f 3)) m)) : Sm E n_X5_giveBack 0 (pl_entry 2 [.ref 20, .ref 9], [], mkH x m, 0, 0) Q := by
  obtain ⟨x1, x2, x3, x4, x5, x6⟩ := x
  subst hx
  refine pm_go (aX5_giveBack E) 100 rfl ?_
  conv => whnf
  refine ⟨by decide, ?_⟩
  rw [hn]
  conv => whnf
  refine ⟨vp_in_nI (n := 3) (N := 6) (by decide) (by decide), 51, hR_at (i := 3) (by decide), ?_⟩
  conv => whnf
  refine ⟨trivial, c_scG3 (x := (x1, x2, x3, (f, nI 3, sz - 1), x5, x6)) ?_⟩
  conv => whnf
  exact ⟨trivial, h⟩
theorem c_keep4 {E : pm_E} {Q : pm_Q} {x : zD} {m : zN} {sz : Int32} {f : Nat → zS} (hx : xP x = (f, nI 4, sz)) (h : Q none (mkH (sP x (upS f 4 (xS x), nI 4 + 1 - (nI 4 + 1) / 6 * 6, if 6 < sz + 1 then 6 else sz + 1)) m)) : Sm E n_X5_keep 0 (pl_entry 2 [.ref 20, .ref 9], [], mkH x m, 0, 0) Q := by
  obtain ⟨x1, x2, x3, x4, x5, x6⟩ := x
  subst hx
  refine pm_go (aX5_keep E) 100 rfl ?_
  conv => whnf
  refine ⟨vp_in_nI (n := 4) (N := 6) (by decide) (by decide), 62, hR_at (i := 4) (by decide), ?_⟩
  conv => whnf
  refine ⟨trivial, c_scK4 ?_⟩
  conv => whnf
  refine ⟨by decide, ?_⟩
  conv => whnf
  exact ⟨trivial, h⟩
theorem c_give4 {E : pm_E} {Q : pm_Q} {x : zD} {m : zN} {nx sz : Int32} {f : Nat → zS} (hx : xP x = (f, nx, sz)) (hn : nx + 6 - 1 - (nx + 6 - 1) / 6 * 6 = nI 4) (h : Q none (mkH (sS (sP x (f, nI 4, sz - 1)) (f 4)) m)) : Sm E n_X5_giveBack 0 (pl_entry 2 [.ref 20, .ref 9], [], mkH x m, 0, 0) Q := by
  obtain ⟨x1, x2, x3, x4, x5, x6⟩ := x
  subst hx
  refine pm_go (aX5_giveBack E) 100 rfl ?_
  conv => whnf
  refine ⟨by decide, ?_⟩
  rw [hn]
  conv => whnf
  refine ⟨vp_in_nI (n := 4) (N := 6) (by decide) (by decide), 62, hR_at (i := 4) (by decide), ?_⟩
  conv => whnf
  refine ⟨trivial, c_scG4 (x := (x1, x2, x3, (f, nI 4, sz - 1), x5, x6)) ?_⟩
  conv => whnf
  exact ⟨trivial, h⟩
theorem c_keep5 {E : pm_E} {Q : pm_Q} {x : zD} {m : zN} {sz : Int32} {f : Nat → zS} (hx : xP x = (f, nI 5, sz)) (h : Q none (mkH (sP x (upS f 5 (xS x), nI 5 + 1 - (nI 5 + 1) / 6 * 6, if 6 < sz + 1 then 6 else sz + 1)) m)) : Sm E n_X5_keep 0 (pl_entry 2 [.ref 20, .ref 9], [], mkH x m, 0, 0) Q := by
  obtain ⟨x1, x2, x3, x4, x5, x6⟩ := x
  subst hx
  refine pm_go (aX5_keep E) 100 rfl ?_
  conv => whnf
  refine ⟨vp_in_nI (n := 5) (N := 6) (by decide) (by decide), 73, hR_at (i := 5) (by decide), ?_⟩
  conv => whnf
  refine ⟨trivial, c_scK5 ?_⟩
  conv => whnf
  refine ⟨by decide, ?_⟩
  conv => whnf
  exact ⟨trivial, h⟩
theorem c_give5 {E : pm_E} {Q : pm_Q} {x : zD} {m : zN} {nx sz : Int32} {f : Nat → zS} (hx : xP x = (f, nx, sz)) (hn : nx + 6 - 1 - (nx + 6 - 1) / 6 * 6 = nI 5) (h : Q none (mkH (sS (sP x (f, nI 5, sz - 1)) (f 5)) m)) : Sm E n_X5_giveBack 0 (pl_entry 2 [.ref 20, .ref 9], [], mkH x m, 0, 0) Q := by
  obtain ⟨x1, x2, x3, x4, x5, x6⟩ := x
  subst hx
  refine pm_go (aX5_giveBack E) 100 rfl ?_
  conv => whnf
  refine ⟨by decide, ?_⟩
  rw [hn]
  conv => whnf
  refine ⟨vp_in_nI (n := 5) (N := 6) (by decide) (by decide), 73, hR_at (i := 5) (by decide), ?_⟩
  conv => whnf
  refine ⟨trivial, c_scG5 (x := (x1, x2, x3, (f, nI 5, sz - 1), x5, x6)) ?_⟩
  conv => whnf
  exact ⟨trivial, h⟩

/-- the ring's place goes on by one, and back -/
theorem ring_next : ∀ i, i < 6 → nI i + 1 - (nI i + 1) / 6 * 6 = nI ((i + 1) % 6) := by decide +kernel
theorem ring_back : ∀ i, i < 6 → nI i + 6 - 1 - (nI i + 6 - 1) / 6 * 6 = nI ((i + 5) % 6) := by decide +kernel
theorem c_keep {E : pm_E} {Q : pm_Q} {x : zD} {m : zN} {i : Nat} {sz : Int32} {f : Nat → zS} (hx : xP x = (f, nI i, sz)) (hi : i < 6) (h : Q none (mkH (sP x (upS f i (xS x), nI ((i + 1) % 6), if 6 < sz + 1 then 6 else sz + 1)) m)) : Sm E n_X5_keep 0 (pl_entry 2 [.ref 20, .ref 9], [], mkH x m, 0, 0) Q := by
  rw [← ring_next i hi] at h
  match i, hi, hx, h with
  | 0, _, hx, h => exact c_keep0 hx h
  | 1, _, hx, h => exact c_keep1 hx h
  | 2, _, hx, h => exact c_keep2 hx h
  | 3, _, hx, h => exact c_keep3 hx h
  | 4, _, hx, h => exact c_keep4 hx h
  | 5, _, hx, h => exact c_keep5 hx h
theorem c_give {E : pm_E} {Q : pm_Q} {x : zD} {m : zN} {i : Nat} {sz : Int32} {f : Nat → zS} (hx : xP x = (f, nI i, sz)) (hi : i < 6) (h : Q none (mkH (sS (sP x (f, nI ((i + 5) % 6), sz - 1)) (f ((i + 5) % 6))) m)) : Sm E n_X5_giveBack 0 (pl_entry 2 [.ref 20, .ref 9], [], mkH x m, 0, 0) Q := by
  match i, hi, hx, h with
  | 0, _, hx, h => exact c_give5 hx (by decide) h
  | 1, _, hx, h => exact c_give0 hx (by decide) h
  | 2, _, hx, h => exact c_give1 hx (by decide) h
  | 3, _, hx, h => exact c_give2 hx (by decide) h
  | 4, _, hx, h => exact c_give3 hx (by decide) h
  | 5, _, hx, h => exact c_give4 hx (by decide) h
end
section
/-! ===== commits ===== -/
abbrev xC (x : zD) : zC := (xS x).2.1
def sC (x : zD) (c : zC) : zD := sS x ((xS x).1, c, (xS x).2.2)
abbrev cSz (C : zC) : Int32 := C.2.2.2.2.2.1
abbrev cDn (C : zC) : Int32 := C.2.2.2.2.2.2
theorem c_has {E : pm_E} {Q : pm_Q} {x : zD} {m : zN} {c : Int32} (h1 : 0 ≤ c ∧ c < cSz (xC x) → Q (some (.int 1)) (mkH x m)) (h0 : ¬ (0 ≤ c ∧ c < cSz (xC x)) → Q (some (.int 0)) (mkH x m)) : Sm E n_X1_has 0 (pl_entry 2 [.ref 14, .int c], [], mkH x m, 0, 0) Q := by
  refine pm_go (aX1_has E) 100 rfl ?_
  conv => whnf
  refine ⟨fun q => ?_, fun q => ?_⟩
  · conv => whnf
    exact ⟨rfl, h0 (fun z => Int32.not_lt.mpr z.1 q)⟩
  conv => whnf
  refine ⟨fun q2 => ?_, fun q2 => ?_⟩
  · conv => whnf
    exact ⟨rfl, h0 (fun z => Int32.not_lt.mpr q2 z.2)⟩
  conv => whnf
  exact ⟨rfl, h1 ⟨Int32.not_lt.mp q, Int32.not_le.mp q2⟩⟩
theorem c_isOpen {E : pm_E} {Q : pm_Q} {x : zD} {m : zN} {c : Int32} (h1 : ¬ c < cDn (xC x) → Q (some (.int 1)) (mkH x m)) (h0 : c < cDn (xC x) → Q (some (.int 0)) (mkH x m)) : Sm E n_X1_isOpen 0 (pl_entry 2 [.ref 14, .int c], [], mkH x m, 0, 0) Q := by
  refine pm_go (aX1_isOpen E) 100 rfl ?_
  conv => whnf
  refine ⟨fun q => ?_, fun q => ?_⟩
  · conv => whnf
    exact ⟨rfl, h0 q⟩
  conv => whnf
  exact ⟨rfl, h1 q⟩
theorem c_open {E : pm_E} {Q : pm_Q} {x : zD} {m : zN} (h : Q (some (.int (cSz (xC x) - cDn (xC x)))) (mkH x m)) : Sm E n_X1_howManyOpen 0 (pl_entry 1 [.ref 14], [], mkH x m, 0, 0) Q := by
  refine pm_go (aX1_howManyOpen E) 100 rfl ?_
  conv => whnf
  exact ⟨trivial, h⟩
theorem c_latest {E : pm_E} {Q : pm_Q} {x : zD} {m : zN} (hi : vp_in (cSz (xC x) - 1) 16) (h : Q (some (.long ((xC x).2.2.1 (cSz (xC x) - 1).toNatClampNeg))) (mkH x m)) : Sm E n_X1_latestStamp 0 (pl_entry 1 [.ref 14], [], mkH x m, 0, 0) Q := by
  refine pm_go (aX1_latestStamp E) 100 rfl ?_
  conv => whnf
  refine ⟨hi, ?_⟩
  conv => whnf
  exact ⟨trivial, h⟩
theorem c_leastOpen {E : pm_E} {Q : pm_Q} {x : zD} {m : zN} (hi : vp_in (cDn (xC x)) 16) (h : Q (some (.long ((xC x).2.2.1 (cDn (xC x)).toNatClampNeg))) (mkH x m)) : Sm E n_X1_leastOpenStamp 0 (pl_entry 1 [.ref 14], [], mkH x m, 0, 0) Q := by
  refine pm_go (aX1_leastOpenStamp E) 100 rfl ?_
  conv => whnf
  refine ⟨hi, ?_⟩
  conv => whnf
  exact ⟨trivial, h⟩
/-- the stamp of the next commit -/
def dStamp (C : zC) (a : Int64) : Int64 := if cSz C ≤ 0 then a else (if C.2.2.1 (cSz C - 1).toNatClampNeg + 1 < a then a else C.2.2.1 (cSz C - 1).toNatClampNeg + 1)
def dMake (C : zC) (k v : Int32) (a : Int64) (t : Int32) : zC := (upd C.1 (cSz C).toNatClampNeg k, upd C.2.1 (cSz C).toNatClampNeg v, vp_updL C.2.2.1 (cSz C).toNatClampNeg (dStamp C a), upd C.2.2.2.1 (cSz C).toNatClampNeg t, C.2.2.2.2.1, cSz C + 1, cDn C)
theorem c_make {E : pm_E} {Q : pm_Q} {x : zD} {m : zN} {k v t : Int32} {a : Int64} (hi : vp_in (cSz (xC x)) 16) (h : Q none (mkH (sC x (dMake (xC x) k v a t)) m)) : Sm E n_X1_make 0 (pl_entry 6 [.ref 14, .int k, .int v, .long a, .int t], [], mkH x m, 0, 0) Q := by
  refine pm_go (aX1_make E) 100 rfl ?_
  conv => whnf
  refine ⟨hi, ?_⟩
  conv => whnf
  refine ⟨hi, ?_⟩
  conv => whnf
  refine ⟨fun q => ?_, fun q => ?_⟩
  · have e : dStamp (xC x) a = a := if_pos q
    unfold dMake at h
    rw [e] at h
    conv => whnf
    refine ⟨hi, ?_⟩
    conv => whnf
    refine ⟨hi, ?_⟩
    conv => whnf
    exact ⟨trivial, h⟩
  · have e : dStamp (xC x) a = (if (xC x).2.2.1 (cSz (xC x) - 1).toNatClampNeg + 1 < a then a else (xC x).2.2.1 (cSz (xC x) - 1).toNatClampNeg + 1) := if_neg q
    unfold dMake at h
    rw [e] at h
    have hj : vp_in (cSz (xC x) - 1) 16 := by
      have q' : ¬ (cSz (xC x)).toInt ≤ 0 := fun z => q (Int32.le_iff_toInt_le.mpr (by simpa using z))
      have h16 := vp_in_iff.mp hi
      refine vp_in_iff.mpr ?_
      have e1 : (cSz (xC x) - 1).toInt = (cSz (xC x)).toInt - 1 := by
        rw [Int32.toInt_sub]
        show ((cSz (xC x)).toInt - 1).bmod (2 ^ 32) = _
        rw [Int.bmod_eq_of_le (by omega) (by omega)]
      rw [e1]
      omega
    conv => whnf
    refine ⟨trivial, c_latest (x := sS x ((xS x).1, (upd (xC x).1 (cSz (xC x)).toNatClampNeg k, upd (xC x).2.1 (cSz (xC x)).toNatClampNeg v, (xC x).2.2), (xS x).2.2)) hj ?_⟩
    conv => whnf
    refine ⟨hi, ?_⟩
    conv => whnf
    refine ⟨hi, ?_⟩
    conv => whnf
    exact ⟨trivial, h⟩
/-- commits become done, from the first open one on -/
def dFin (b : Int64) (t : Int32) : Nat → zC → zC
  | 0, C => C
  | n + 1, C => if C.2.2.1 (cDn C).toNatClampNeg < b then dFin b t n (C.1, C.2.1, C.2.2.1, C.2.2.2.1, upd C.2.2.2.2.1 (cDn C).toNatClampNeg t, cSz C, cDn C + 1) else C
theorem l_fin {E : pm_E} {Q : pm_Q} {x : zD} {m : zN} {b : Int64} {t : Int32} : ∀ (n d s : Nat) (C : zC), d + n = s → s ≤ 16 → cSz C = nI s → cDn C = nI d → Q none (mkH (sC x (dFin b t n C)) m) → Sm E n_X1_finishBelow 0 ([some (.ref 14), some (.long b), none, some (.int t)], [], mkH (sC x C) m, 0, 0) Q := by
  intro n
  induction n with
  | zero =>
    intro d s C hd hs h1 h2 h
    refine pm_lp (aX1_finishBelow E) 100 0 rfl ?_
    conv => whnf
    refine ⟨fun _ => ?_, fun q => absurd (show cSz C ≤ cDn C by rw [h1, h2]; exact nI_le (by omega) (by omega)) q⟩
    conv => whnf
    exact ⟨trivial, h⟩
  | succ n ih =>
    intro d s C hd hs h1 h2 h
    have hin : vp_in (cDn C) 16 := by rw [h2]; exact vp_in_nI (by omega) (by decide)
    refine pm_lp (aX1_finishBelow E) 100 0 rfl ?_
    conv => whnf
    refine ⟨fun q => absurd (show cSz C ≤ cDn C from q) (by rw [h1, h2]; exact nI_ge (by omega) (by omega)), fun _ => ?_⟩
    conv => whnf
    refine ⟨hin, ?_⟩
    conv => whnf
    rw [dFin] at h
    refine ⟨fun q => ?_, fun q => ?_⟩
    · have q' : b ≤ C.2.2.1 (cDn C).toNatClampNeg := q
      rw [if_neg (Int64.not_lt.mpr q')] at h
      conv => whnf
      exact ⟨trivial, h⟩
    · have q' : ¬ b ≤ C.2.2.1 (cDn C).toNatClampNeg := q
      rw [if_pos (Int64.not_le.mp q')] at h
      conv => whnf
      refine ⟨hin, ?_⟩
      conv => whnf
      refine ⟨trivial, ?_⟩
      exact ih (d + 1) s (C.1, C.2.1, C.2.2.1, C.2.2.2.1, upd C.2.2.2.2.1 (cDn C).toNatClampNeg t, cSz C, cDn C + 1) (by omega) hs h1 (by show cDn C + 1 = _; rw [h2, nI_succ]) h
theorem c_fin {E : pm_E} {Q : pm_Q} {x : zD} {m : zN} {b : Int64} {t : Int32} {d s : Nat} (hd : d ≤ s) (hs : s ≤ 16) (h1 : cSz (xC x) = nI s) (h2 : cDn (xC x) = nI d) (h : Q none (mkH (sC x (dFin b t (s - d) (xC x))) m)) : Sm E n_X1_finishBelow 0 (pl_entry 4 [.ref 14, .long b, .int t], [], mkH x m, 0, 0) Q :=
  l_fin (x := x) (s - d) d s (xC x) (by omega) hs h1 h2 h
/-- the value of a key as of a tick, among the first i -/
def vF (k : Int32) (t : Int64) (C : zC) : Nat → Int32
  | 0 => -4
  | i + 1 => if C.1 i = k ∧ C.2.2.1 i ≤ t then C.2.1 i else vF k t C i
theorem l_val {E : pm_E} {Q : pm_Q} {x : zD} {m : zN} {k : Int32} {t : Int64} {s : Nat} (hs : s ≤ 16) (h1 : cSz (xC x) = nI s) (h : Q (some (.int (vF k t (xC x) s))) (mkH x m)) : ∀ (n i : Nat), i + n = s → Sm E n_X1_valueAsOf 7 ([some (.ref 14), some (.int k), some (.long t), none, some (.int (vF k t (xC x) i)), some (.int (nI i))], [], mkH x m, 0, 0) Q := by
  intro n
  induction n with
  | zero =>
    intro i hi
    obtain rfl : i = s := by omega
    refine pm_lp (aX1_valueAsOf E) 100 7 rfl ?_
    conv => whnf
    refine ⟨fun _ => ?_, fun q => absurd (show cSz (xC x) ≤ nI i by rw [h1]; exact nI_le (by omega) (by omega)) q⟩
    conv => whnf
    exact ⟨trivial, h⟩
  | succ n ih =>
    intro i hi
    have hin : vp_in (nI i) 16 := vp_in_nI (by omega) (by decide)
    have hcl : (nI i).toNatClampNeg = i := nI_clamp (by omega)
    have nxt := ih (i + 1) (by omega)
    rw [nI_succ, vF] at nxt
    refine pm_lp (aX1_valueAsOf E) 100 7 rfl ?_
    conv => whnf
    refine ⟨fun q => absurd (show cSz (xC x) ≤ nI i from q) (by rw [h1]; exact nI_ge (by omega) (by omega)), fun _ => ?_⟩
    conv => whnf
    refine ⟨hin, ?_⟩
    conv => whnf
    refine ⟨fun q => ?_, fun q => ?_⟩
    · have q' : ¬ (xC x).1 i = k := by rw [← hcl]; exact q
      rw [if_neg (fun z => q' z.1)] at nxt
      conv => whnf
      exact ⟨trivial, nxt⟩
    · have q' : (xC x).1 i = k := by rw [← hcl]; exact q
      conv => whnf
      refine ⟨hin, ?_⟩
      conv => whnf
      refine ⟨fun q2 => ?_, fun q2 => ?_⟩
      · have q2' : ¬ (xC x).2.2.1 i ≤ t := by rw [← hcl]; exact Int64.not_le.mpr q2
        rw [if_neg (fun z => q2' z.2)] at nxt
        conv => whnf
        exact ⟨trivial, nxt⟩
      · have q2' : (xC x).2.2.1 i ≤ t := by rw [← hcl]; exact Int64.not_lt.mp q2
        rw [if_pos ⟨q', q2'⟩] at nxt
        conv => whnf
        refine ⟨hin, ?_⟩
        conv => whnf
        refine ⟨trivial, ?_⟩
        have e : (xC x).2.1 (nI i).toNatClampNeg = (xC x).2.1 i := by rw [hcl]
        rw [← e] at nxt
        exact nxt
theorem c_val {E : pm_E} {Q : pm_Q} {x : zD} {m : zN} {k : Int32} {t : Int64} {s : Nat} (hs : s ≤ 16) (h1 : cSz (xC x) = nI s) (h : Q (some (.int (vF k t (xC x) s))) (mkH x m)) : Sm E n_X1_valueAsOf 0 (pl_entry 6 [.ref 14, .int k, .long t], [], mkH x m, 0, 0) Q := by
  refine pm_go (aX1_valueAsOf E) 100 rfl ?_
  conv => whnf
  refine ⟨trivial, ?_⟩
  exact l_val hs h1 h s 0 (by omega)
def nF (k : Int32) (a b : Int64) (C : zC) : Nat → Nat
  | 0 => 0
  | i + 1 => if (k = -1 ∨ C.1 i = k) ∧ a ≤ C.2.2.1 i ∧ C.2.2.1 i ≤ b then nF k a b C i + 1 else nF k a b C i
theorem l_btw {E : pm_E} {Q : pm_Q} {x : zD} {m : zN} {k : Int32} {a b : Int64} {s : Nat} (hs : s ≤ 16) (h1 : cSz (xC x) = nI s) (h : Q (some (.int (nI (nF k a b (xC x) s)))) (mkH x m)) : ∀ (n i : Nat) (o : Option Value), i + n = s → Sm E n_X1_howManyStamped 6 ([some (.ref 14), some (.int k), some (.long a), none, some (.long b), none, some (.int (nI (nF k a b (xC x) i))), some (.int (nI i)), o], [], mkH x m, 0, 0) Q := by
  intro n
  induction n with
  | zero =>
    intro i o hi
    obtain rfl : i = s := by omega
    refine pm_lp (aX1_howManyStamped E) 100 6 rfl ?_
    conv => whnf
    refine ⟨fun _ => ?_, fun q => absurd (show cSz (xC x) ≤ nI i by rw [h1]; exact nI_le (by omega) (by omega)) q⟩
    conv => whnf
    exact ⟨trivial, h⟩
  | succ n ih =>
    intro i o hi
    have hin : vp_in (nI i) 16 := vp_in_nI (by omega) (by decide)
    have hcl : (nI i).toNatClampNeg = i := nI_clamp (by omega)
    have nxt := fun o => ih (i + 1) o (by omega)
    simp only [nI_succ, nF] at nxt
    refine pm_lp (aX1_howManyStamped E) 100 6 rfl ?_
    conv => whnf
    refine ⟨fun q => absurd (show cSz (xC x) ≤ nI i from q) (by rw [h1]; exact nI_ge (by omega) (by omega)), fun _ => ?_⟩
    conv => whnf
    refine ⟨fun q => ?_, fun q => ?_⟩
    · conv => whnf
      refine ⟨fun z => absurd z (by decide), fun _ => ?_⟩
      conv => whnf
      have hk : k = -1 ∨ (xC x).1 i = k := Or.inl q
      refine ⟨hin, ?_⟩
      conv => whnf
      refine ⟨fun q2 => ?_, fun q2 => ?_⟩
      · have q2' : ¬ a ≤ (xC x).2.2.1 i := by rw [← hcl]; exact Int64.not_le.mpr q2
        conv => whnf
        refine ⟨trivial, ?_⟩
        have := nxt (some (.int 1))
        rw [if_neg (fun z => q2' z.2.1)] at this
        exact this
      · have q2' : a ≤ (xC x).2.2.1 i := by rw [← hcl]; exact Int64.not_lt.mp q2
        conv => whnf
        refine ⟨hin, ?_⟩
        conv => whnf
        refine ⟨fun q3 => ?_, fun q3 => ?_⟩
        · have q3' : ¬ (xC x).2.2.1 i ≤ b := by rw [← hcl]; exact Int64.not_le.mpr q3
          conv => whnf
          refine ⟨trivial, ?_⟩
          have := nxt (some (.int 1))
          rw [if_neg (fun z => q3' z.2.2)] at this
          exact this
        · have q3' : (xC x).2.2.1 i ≤ b := by rw [← hcl]; exact Int64.not_lt.mp q3
          conv => whnf
          refine ⟨trivial, ?_⟩
          have := nxt (some (.int 1))
          rw [if_pos ⟨hk, q2', q3'⟩, nI_succ] at this
          exact this
    · conv => whnf
      refine ⟨hin, ?_⟩
      conv => whnf
      refine ⟨fun q2 => ?_, fun q2 => ?_⟩
      · have q2' : ¬ (xC x).1 i = k := by rw [← hcl]; exact q2
        conv => whnf
        refine ⟨fun _ => ?_, fun z => absurd rfl z⟩
        conv => whnf
        refine ⟨trivial, ?_⟩
        have := nxt (some (.int 0))
        rw [if_neg (fun z => z.1.elim q q2')] at this
        exact this
      · have q2' : (xC x).1 i = k := by rw [← hcl]; exact q2
        conv => whnf
        refine ⟨fun z => absurd z (by decide), fun _ => ?_⟩
        conv => whnf
        have hk : k = -1 ∨ (xC x).1 i = k := Or.inr q2'
        refine ⟨hin, ?_⟩
        conv => whnf
        refine ⟨fun r2 => ?_, fun r2 => ?_⟩
        · have r2' : ¬ a ≤ (xC x).2.2.1 i := by rw [← hcl]; exact Int64.not_le.mpr r2
          conv => whnf
          refine ⟨trivial, ?_⟩
          have := nxt (some (.int 1))
          rw [if_neg (fun z => r2' z.2.1)] at this
          exact this
        · have r2' : a ≤ (xC x).2.2.1 i := by rw [← hcl]; exact Int64.not_lt.mp r2
          conv => whnf
          refine ⟨hin, ?_⟩
          conv => whnf
          refine ⟨fun q3 => ?_, fun q3 => ?_⟩
          · have q3' : ¬ (xC x).2.2.1 i ≤ b := by rw [← hcl]; exact Int64.not_le.mpr q3
            conv => whnf
            refine ⟨trivial, ?_⟩
            have := nxt (some (.int 1))
            rw [if_neg (fun z => q3' z.2.2)] at this
            exact this
          · have q3' : (xC x).2.2.1 i ≤ b := by rw [← hcl]; exact Int64.not_lt.mp q3
            conv => whnf
            refine ⟨trivial, ?_⟩
            have := nxt (some (.int 1))
            rw [if_pos ⟨hk, r2', q3'⟩, nI_succ] at this
            exact this
theorem c_btw {E : pm_E} {Q : pm_Q} {x : zD} {m : zN} {k : Int32} {a b : Int64} {s : Nat} (hs : s ≤ 16) (h1 : cSz (xC x) = nI s) (h : Q (some (.int (nI (nF k a b (xC x) s)))) (mkH x m)) : Sm E n_X1_howManyStamped 0 (pl_entry 9 [.ref 14, .int k, .long a, .long b], [], mkH x m, 0, 0) Q := by
  refine pm_go (aX1_howManyStamped E) 100 rfl ?_
  conv => whnf
  refine ⟨trivial, ?_⟩
  exact l_btw hs h1 h s 0 none (by omega)
end
section
/-! ===== the leap ===== -/
def dShift (L : zL) (t : Int64) : Int64 := if t ≤ L.1 then 0 else if L.1 + L.2.2.1 ≤ t ∨ L.2.2.1 ≤ 0 then L.2.1 else L.2.1 * (t - L.1) / L.2.2.1
def dSmear (L : zL) (t : Int64) : Int64 := if L.2.2.2 = 0 then t + dShift L t else t - dShift L t
theorem c_shift {E : pm_E} {Q : pm_Q} {x : zD} {m : zN} {t : Int64} (h : Q (some (.long (dShift (xL x) t))) (mkH x m)) : Sm E n_X3_shift 0 (pl_entry 3 [.ref 91, .long t], [], mkH x m, 0, 0) Q := by
  unfold dShift at h
  refine pm_go (aX3_shift E) 100 rfl ?_
  conv => whnf
  refine ⟨fun q => ?_, fun q => ?_⟩
  · rw [if_neg (Int64.not_le.mpr q)] at h
    conv => whnf
    refine ⟨fun q2 => ?_, fun q2 => ?_⟩
    · rw [if_pos (Or.inl q2)] at h
      conv => whnf
      exact ⟨trivial, h⟩
    · conv => whnf
      refine ⟨fun q3 => ?_, fun q3 => ?_⟩
      · rw [if_neg (fun z => z.elim q2 (Int64.not_le.mpr q3))] at h
        conv => whnf
        refine ⟨fun z => ?_, ?_⟩
        · rw [z] at q3
          exact absurd q3 (by decide)
        · conv => whnf
          exact ⟨trivial, h⟩
      · rw [if_pos (Or.inr (Int64.not_lt.mp q3))] at h
        conv => whnf
        exact ⟨trivial, h⟩
  · rw [if_pos (Int64.not_lt.mp q)] at h
    conv => whnf
    exact ⟨trivial, h⟩
theorem c_smear {E : pm_E} {Q : pm_Q} {x : zD} {m : zN} {t : Int64} (h : Q (some (.long (dSmear (xL x) t))) (mkH x m)) : Sm E n_X3_smear 0 (pl_entry 3 [.ref 91, .long t], [], mkH x m, 0, 0) Q := by
  unfold dSmear at h
  refine pm_go (aX3_smear E) 100 rfl ?_
  conv => whnf
  refine ⟨fun q => ?_, fun q => ?_⟩
  · rw [if_neg q] at h
    conv => whnf
    refine ⟨trivial, c_shift ?_⟩
    conv => whnf
    exact ⟨trivial, h⟩
  · rw [if_pos q] at h
    conv => whnf
    refine ⟨trivial, c_shift ?_⟩
    conv => whnf
    exact ⟨trivial, h⟩
def dBs (L : zL) (v : Int64) : Nat → Int64 → Int64 → Int64
  | 0, lo, _ => lo
  | n + 1, lo, hi => if hi ≤ lo then lo else if dSmear L (lo + (hi - lo) / 2) < v then dBs L v n (lo + (hi - lo) / 2 + 1) hi else dBs L v n lo (lo + (hi - lo) / 2)
theorem l_bs {E : pm_E} {Q : pm_Q} {x : zD} {m : zN} {v : Int64} : ∀ (n i : Nat) (lo hi : Int64) (o : Option Value), i + n = 64 → Q (some (.long (dBs (xL x) v n lo hi))) (mkH x m) → Sm E n_X3_leastSmearedTo 22 ([some (.ref 91), some (.long v), none, some (.long lo), none, some (.long hi), none, some (.int (nI i)), o, none], [], mkH x m, 0, 0) Q := by
  intro n
  induction n with
  | zero =>
    intro i lo hi o hi64 h
    obtain rfl : i = 64 := by omega
    refine pm_lp (aX3_leastSmearedTo E) 100 22 rfl ?_
    conv => whnf
    refine ⟨fun _ => ?_, fun q => absurd (show (64 : Int32) ≤ nI 64 by decide) q⟩
    conv => whnf
    exact ⟨trivial, h⟩
  | succ n ih =>
    intro i lo hi o hi64 h
    rw [dBs] at h
    refine pm_lp (aX3_leastSmearedTo E) 100 22 rfl ?_
    conv => whnf
    refine ⟨fun q => absurd (show nI 64 ≤ nI i from q) (nI_ge (by omega) (by omega)), fun _ => ?_⟩
    conv => whnf
    refine ⟨fun q => ?_, fun q => ?_⟩
    · rw [if_pos q] at h
      conv => whnf
      exact ⟨trivial, h⟩
    · rw [if_neg q] at h
      conv => whnf
      refine ⟨by decide, ?_⟩
      conv => whnf
      refine ⟨trivial, c_smear ?_⟩
      conv => whnf
      refine ⟨fun q2 => ?_, fun q2 => ?_⟩
      · rw [if_pos q2] at h
        conv => whnf
        refine ⟨trivial, ?_⟩
        have := ih (i + 1) _ _ (some (.long (lo + (hi - lo) / 2))) (by omega) h
        rw [nI_succ] at this
        exact this
      · rw [if_neg q2] at h
        conv => whnf
        refine ⟨trivial, ?_⟩
        have := ih (i + 1) _ _ (some (.long (lo + (hi - lo) / 2))) (by omega) h
        rw [nI_succ] at this
        exact this
def dBack (L : zL) (v : Int64) : Int64 := dBs L v 64 (if v - L.2.1 < 0 then 0 else v - L.2.1) (v + L.2.1)
theorem c_least2 {E : pm_E} {Q : pm_Q} {x : zD} {m : zN} {v : Int64} (h : Q (some (.long (dBack (xL x) v))) (mkH x m)) : Sm E n_X3_leastSmearedTo 0 (pl_entry 10 [.ref 91, .long v], [], mkH x m, 0, 0) Q := by
  refine pm_go (aX3_leastSmearedTo E) 100 rfl ?_
  conv => whnf
  refine ⟨trivial, ?_⟩
  exact l_bs (x := x) 64 0 _ _ none (by omega) h
theorem c_set {E : pm_E} {Q : pm_Q} {x : zD} {m : zN} {a b c d : Int64} (h : Q none (mkH (sL x (a, b, c, d)) m)) : Sm E n_X3_set 0 (pl_entry 9 [.ref 91, .long a, .long b, .long c, .long d], [], mkH x m, 0, 0) Q := by
  refine pm_go (aX3_set E) 100 rfl ?_
  conv => whnf
  exact ⟨trivial, h⟩
/-! ===== the class's calls ===== -/
-- the text
theorem c_put {E : pm_E} {Q : pm_Q} {x : zD} {m : zN} {c : Int32} (hi : vp_in (xT x).2 200) (h : Q none (mkH (sT x (upd (xT x).1 (xT x).2.toNatClampNeg (vp_nar .char c), (xT x).2 + 1)) m)) : Sm E n_X7_put 0 (pl_entry 2 [.ref 5, .int c], [], mkH x m, 0, 0) Q := by
  refine pm_go (aX7_put E) 100 rfl ?_
  conv => whnf
  refine ⟨hi, ?_⟩
  conv => whnf
  exact ⟨trivial, h⟩
def dWrite (x : zD) (l : Int32) : Int32 × zD := if l < 32 ∨ 126 < l then (-1, x) else if (xT x).2 < 200 then ((xT x).2 + 1, sT x (upd (xT x).1 (xT x).2.toNatClampNeg (vp_nar .char (l.toUInt32 % 65536).toInt32), (xT x).2 + 1)) else (-3, x)
theorem d_write {E : pm_E} {Q : pm_Q} {x : zD} {m : zN} {l : Int32} {s : Nat} (hs : (xT x).2 = nI s) (hs2 : s ≤ 200) (h : Q (some (.int (dWrite x l).1)) (mkH (dWrite x l).2 m)) : Sm E n_X8_write 0 (pl_entry 2 [.ref 4, .int l], [], mkH x m, 0, 0) Q := by
  unfold dWrite at h
  refine pm_go (aX8_write E) 100 rfl ?_
  conv => whnf
  refine ⟨fun q => ?_, fun q => ?_⟩
  · rw [if_pos (Or.inl q)] at h
    conv => whnf
    exact ⟨trivial, h⟩
  · conv => whnf
    refine ⟨fun q2 => ?_, fun q2 => ?_⟩
    · rw [if_neg (fun z => z.elim q (Int32.not_lt.mpr q2))] at h
      conv => whnf
      refine ⟨fun q3 => ?_, fun q3 => ?_⟩
      · rw [if_pos q3] at h
        have hi : vp_in (xT x).2 200 := by
          rw [hs]
          have q3' : nI s < nI 200 := by rw [← hs]; exact q3
          exact vp_in_nI ((nI_ltI (by omega) (by omega)).mp q3') (by decide)
        conv => whnf
        refine ⟨trivial, c_put hi ?_⟩
        conv => whnf
        exact ⟨trivial, h⟩
      · rw [if_neg q3] at h
        conv => whnf
        exact ⟨trivial, h⟩
    · rw [if_pos (Or.inr (Int32.not_le.mp q2))] at h
      conv => whnf
      exact ⟨trivial, h⟩
theorem d_wipe {E : pm_E} {Q : pm_Q} {x : zD} {m : zN} (h : Q (some (.int (xT x).2)) (mkH (sT x ((xT x).1, 0)) m)) : Sm E n_X8_wipe 0 (pl_entry 2 [.ref 4], [], mkH x m, 0, 0) Q := by
  refine pm_go (aX8_wipe E) 100 rfl ?_
  conv => whnf
  exact ⟨trivial, h⟩
-- the masters
abbrev okM (i : Int32) : Prop := 0 ≤ i.toInt64 ∧ i.toInt64 < 6
theorem okM_in {i : Int32} (h : okM i) : vp_in i 6 := by
  refine vp_in_iff.mpr ?_
  have h1 := Int64.le_iff_toInt_le.mp h.1
  have h2 := Int64.lt_iff_toInt_lt.mp h.2
  rw [Int32.toInt_toInt64] at h1 h2
  exact ⟨h1, h2⟩
/-- what 'keep' leaves, in any case -/
def dKp (P : zP) (S : zS) : zP := (upS P.1 P.2.1.toNatClampNeg S, nI ((P.2.1.toNatClampNeg + 1) % 6), if 6 < P.2.2 + 1 then 6 else P.2.2 + 1)
def okP (P : zP) : Prop := ∃ i : Nat, i < 6 ∧ P.2.1 = nI i
theorem d_keep {E : pm_E} {Q : pm_Q} {x : zD} {m : zN} (hp : okP (xP x)) (h : Q none (mkH (sP x (dKp (xP x) (xS x))) m)) : Sm E n_X5_keep 0 (pl_entry 2 [.ref 20, .ref 9], [], mkH x m, 0, 0) Q := by
  obtain ⟨i, hi, hn⟩ := hp
  have e : (nI i).toNatClampNeg = i := nI_clamp (by omega)
  unfold dKp at h
  rw [hn, e] at h
  exact c_keep (x := x) (f := (xP x).1) (sz := (xP x).2.2) (i := i) (by rw [← hn]) hi h
def dTell (x : zD) (i : Int32) (a b : Int64) : Int32 × zD := if okM i ∧ okSpan a b then (nHd (dHear (xS x).1 i a b (xS x).2.2), sS (sP x (dKp (xP x) (xS x))) (dHear (xS x).1 i a b (xS x).2.2, (xS x).2)) else (-1, x)
theorem d_tell {E : pm_E} {Q : pm_Q} {x : zD} {m : zN} {i : Int32} {a b : Int64} (hp : okP (xP x)) (h : Q (some (.int (dTell x i a b).1)) (mkH (dTell x i a b).2 m)) : Sm E n_X8_tell 0 (pl_entry 6 [.ref 4, .int i, .long a, .long b], [], mkH x m, 0, 0) Q := by
  unfold dTell at h
  refine pm_go (aX8_tell E) 100 rfl ?_
  conv => whnf
  refine ⟨trivial, c_isMaster (fun q => ?_) (fun q => ?_)⟩
  · conv => whnf
    refine ⟨fun z => absurd z (by decide), fun _ => ?_⟩
    conv => whnf
    refine ⟨trivial, c_isTold (fun q2 => ?_) (fun q2 => ?_)⟩
    · rw [if_pos ⟨q, q2⟩] at h
      conv => whnf
      refine ⟨fun _ => ?_, fun z => absurd z (by decide)⟩
      conv => whnf
      refine ⟨trivial, d_keep hp ?_⟩
      conv => whnf
      refine ⟨trivial, c_hear (x := sP x (dKp (xP x) (xS x))) (okM_in q) ?_⟩
      conv => whnf
      refine ⟨trivial, c_many (x := sS (sP x (dKp (xP x) (xS x))) (dHear (xS x).1 i a b (xS x).2.2, (xS x).2)) ?_⟩
      conv => whnf
      exact ⟨trivial, h⟩
    · rw [if_neg (fun z => q2 z.2)] at h
      conv => whnf
      refine ⟨fun z => absurd rfl z, fun _ => ?_⟩
      conv => whnf
      exact ⟨trivial, h⟩
  · rw [if_neg (fun z => q z.1)] at h
    conv => whnf
    refine ⟨fun _ => ?_, fun z => absurd rfl z⟩
    conv => whnf
    exact ⟨trivial, h⟩
def sStr (x : zD) (w : Int32) : zD := sS x (((xS x).1.1, (xS x).1.2.1, (xS x).1.2.2.1, (xS x).1.2.2.2.1, w, (xS x).1.2.2.2.2.2), (xS x).2)
def dStrike (x : zD) (i z : Int32) : Int32 × zD := if okM i ∧ 0 ≤ z ∧ z ≤ 1 then (if ((xS x).1.2.2.2.2.1 >>> (i &&& 31)) &&& 1 = z then (-2, x) else (nHd (xS (sStr x ((xS x).1.2.2.2.2.1 ^^^ (1 <<< (i &&& 31))))).1, sStr (sP x (dKp (xP x) (xS x))) ((xS x).1.2.2.2.2.1 ^^^ (1 <<< (i &&& 31))))) else (-1, x)
theorem d_strike {E : pm_E} {Q : pm_Q} {x : zD} {m : zN} {i z : Int32} (hp : okP (xP x)) (h : Q (some (.int (dStrike x i z).1)) (mkH (dStrike x i z).2 m)) : Sm E n_X8_strike 0 (pl_entry 3 [.ref 4, .int i, .int z], [], mkH x m, 0, 0) Q := by
  unfold dStrike at h
  refine pm_go (aX8_strike E) 100 rfl ?_
  conv => whnf
  refine ⟨trivial, c_isMaster (fun q => ?_) (fun q => ?_)⟩
  · conv => whnf
    refine ⟨fun z => absurd z (by decide), fun _ => ?_⟩
    conv => whnf
    refine ⟨fun q2 => ?_, fun q2 => ?_⟩
    · rw [if_neg (fun z => Int32.not_lt.mpr z.2.1 q2)] at h
      conv => whnf
      exact ⟨trivial, h⟩
    · conv => whnf
      refine ⟨fun q3 => ?_, fun q3 => ?_⟩
      · rw [if_pos ⟨q, Int32.not_lt.mp q2, q3⟩] at h
        conv => whnf
        refine ⟨fun q4 => ?_, fun q4 => ?_⟩
        · rw [if_neg q4] at h
          conv => whnf
          refine ⟨trivial, d_keep hp ?_⟩
          conv => whnf
          refine ⟨trivial, c_many (x := sStr (sP x (dKp (xP x) (xS x))) ((xS x).1.2.2.2.2.1 ^^^ (1 <<< (i &&& 31)))) ?_⟩
          conv => whnf
          exact ⟨trivial, h⟩
        · rw [if_pos q4] at h
          conv => whnf
          exact ⟨trivial, h⟩
      · rw [if_neg (fun z => q3 z.2.2)] at h
        conv => whnf
        exact ⟨trivial, h⟩
  · rw [if_neg (fun z => q z.1)] at h
    conv => whnf
    refine ⟨fun _ => ?_, fun z => absurd rfl z⟩
    conv => whnf
    exact ⟨trivial, h⟩
def sDr (x : zD) (w : Int32) : zD := sS x (((xS x).1.1, (xS x).1.2.1, (xS x).1.2.2.1, (xS x).1.2.2.2.1, (xS x).1.2.2.2.2.1, w), (xS x).2)
def dDrift (x : zD) (d : Int32) : Int32 × zD := if 0 ≤ d.toInt64 ∧ d.toInt64 ≤ 999999 then (if (xS x).1.2.2.2.2.2 = d then (-2, x) else ((xS x).1.2.2.2.2.2, sDr (sP x (dKp (xP x) (xS x))) d)) else (-1, x)
theorem d_drift {E : pm_E} {Q : pm_Q} {x : zD} {m : zN} {d : Int32} (hp : okP (xP x)) (h : Q (some (.int (dDrift x d).1)) (mkH (dDrift x d).2 m)) : Sm E n_X8_drift 0 (pl_entry 3 [.ref 4, .int d], [], mkH x m, 0, 0) Q := by
  unfold dDrift at h
  refine pm_go (aX8_drift E) 100 rfl ?_
  conv => whnf
  refine ⟨trivial, c_isDrift (fun q => ?_) (fun q => ?_)⟩
  · rw [if_pos q] at h
    conv => whnf
    refine ⟨fun _ => ?_, fun z => absurd z (by decide)⟩
    conv => whnf
    refine ⟨fun q2 => ?_, fun q2 => ?_⟩
    · rw [if_neg q2] at h
      conv => whnf
      refine ⟨trivial, d_keep hp ?_⟩
      conv => whnf
      exact ⟨trivial, h⟩
    · rw [if_pos q2] at h
      conv => whnf
      exact ⟨trivial, h⟩
  · rw [if_neg q] at h
    conv => whnf
    refine ⟨fun z => absurd rfl z, fun _ => ?_⟩
    conv => whnf
    exact ⟨trivial, h⟩
def dUndo (x : zD) : Int32 × zD := if (xP x).2.2 = 0 then (-2, x) else ((xP x).2.2 - 1, sS (sP x ((xP x).1, nI (((xP x).2.1.toNatClampNeg + 5) % 6), (xP x).2.2 - 1)) ((xP x).1 (((xP x).2.1.toNatClampNeg + 5) % 6)))
theorem d_undo {E : pm_E} {Q : pm_Q} {x : zD} {m : zN} (hp : okP (xP x)) (h : Q (some (.int (dUndo x).1)) (mkH (dUndo x).2 m)) : Sm E n_X8_undo 0 (pl_entry 1 [.ref 4], [], mkH x m, 0, 0) Q := by
  unfold dUndo at h
  refine pm_go (aX8_undo E) 100 rfl ?_
  conv => whnf
  refine ⟨fun q => ?_, fun q => ?_⟩
  · rw [if_neg q] at h
    obtain ⟨i, hi, hn⟩ := hp
    have e : (nI i).toNatClampNeg = i := nI_clamp (by omega)
    rw [hn, e] at h
    conv => whnf
    refine ⟨trivial, c_give (x := x) (f := (xP x).1) (sz := (xP x).2.2) (i := i) (by rw [← hn]) hi ?_⟩
    conv => whnf
    exact ⟨trivial, h⟩
  · rw [if_pos q] at h
    conv => whnf
    exact ⟨trivial, h⟩
end
section
/-! ===== what time it is ===== -/
-- the spans heard at a state's own local time; the most and the first tick; the row's end
abbrev lAt (S : zS) (t : Int32) : zR := spL S.1 t 6
abbrev lS (S : zS) : zR := lAt S S.2.2
abbrev mst (l : zR) : Nat := (fnd l (0, 0) l).1
abbrev beg (l : zR) : Int64 := (fnd l (0, 0) l).2
abbrev rend (l : zR) : Int64 := eor l (mst l) l.length (beg l)
abbrev okG (l : zR) : Prop := nI l.length < 2 * nI (mst l)
theorem fnd_le (L : zR) (h6 : L.length ≤ 6) : ∀ (l : zR) (a : Nat × Int64), a.1 ≤ 6 → (fnd L a l).1 ≤ 6
  | [], a, h => h
  | q :: l, a, h => by
    unfold fnd
    refine fnd_le L h6 l _ ?_
    split
    · have := cnt_le L q.1
      show cnt L q.1 ≤ 6
      omega
    · exact h
theorem mst_le {l : zR} (h : l.length ≤ 6) : mst l ≤ 6 := fnd_le l h l (0, 0) (by omega)
theorem d_look {E : pm_E} {Q : pm_Q} {x : zD} {m : zN} (h : ∀ A', AF A' (lS (xS x)) → Q none (mkH (sA x A') m)) : Sm E n_X8_lookAround 0 (pl_entry 1 [.ref 4], [], mkH x m, 0, 0) Q := by
  refine pm_go (aX8_lookAround E) 100 rfl ?_
  conv => whnf
  refine ⟨trivial, c_look (x := x) (fun A' hA => ?_)⟩
  conv => whnf
  exact ⟨trivial, h A' hA⟩
theorem AF.good {A : zA} {l : zR} (h : AF A l) : (A.2.2.1 < 2 * A.2.2.2.1) = okG l := by rw [h.1.1, h.2.1]
theorem AF.beg {A : zA} {l : zR} (h : AF A l) : A.2.2.2.2 = beg l := h.2.2
theorem c_goodF {E : pm_E} {Q : pm_Q} {x : zD} {m : zN} {l : zR} (hA : AF (xA x) l) (h1 : okG l → Q (some (.int 1)) (mkH x m)) (h0 : ¬ okG l → Q (some (.int 0)) (mkH x m)) : Sm E n_X0_isGood 0 (pl_entry 1 [.ref 88], [], mkH x m, 0, 0) Q :=
  c_good (fun q => h1 (by rw [← hA.good]; exact q)) (fun q => h0 (by rw [← hA.good]; exact q))
theorem c_rowF {E : pm_E} {Q : pm_Q} {x : zD} {m : zN} {l : zR} (hA : AF (xA x) l) (h : Q (some (.long (rend l))) (mkH x m)) : Sm E n_X0_endOfRow 0 (pl_entry 4 [.ref 88], [], mkH x m, 0, 0) Q :=
  c_row hA.1 hA.2.1 (mst_le hA.1.2.1) (by rw [hA.2.2]; exact h)
def dSpan (x : zD) (i w : Int32) : Int64 := if okM i ∧ 0 ≤ w ∧ w ≤ 1 then (if ((xS x).1.2.2.2.1 >>> (i &&& 31)) &&& 1 = 1 then (if w = 0 then fB (xS x).1 i (xS x).2.2 else fE (xS x).1 i (xS x).2.2) else -2000000000001) else -2000000000000
theorem d_span {E : pm_E} {Q : pm_Q} {x : zD} {m : zN} {i w : Int32} (h : Q (some (.long (dSpan x i w))) (mkH x m)) : Sm E n_X8_span 0 (pl_entry 3 [.ref 4, .int i, .int w], [], mkH x m, 0, 0) Q := by
  unfold dSpan at h
  refine pm_go (aX8_span E) 100 rfl ?_
  conv => whnf
  refine ⟨trivial, c_isMaster (fun q => ?_) (fun q => ?_)⟩
  · conv => whnf
    refine ⟨fun z => absurd z (by decide), fun _ => ?_⟩
    conv => whnf
    refine ⟨fun q2 => ?_, fun q2 => ?_⟩
    · rw [if_neg (fun z => Int32.not_lt.mpr z.2.1 q2)] at h
      conv => whnf
      exact ⟨trivial, h⟩
    · conv => whnf
      refine ⟨fun q3 => ?_, fun q3 => ?_⟩
      · rw [if_pos ⟨q, Int32.not_lt.mp q2, q3⟩] at h
        conv => whnf
        refine ⟨trivial, c_hasTold (fun q4 => ?_) (fun q4 => ?_)⟩
        · rw [if_pos q4] at h
          conv => whnf
          refine ⟨fun _ => ?_, fun z => absurd z (by decide)⟩
          conv => whnf
          refine ⟨fun q5 => ?_, fun q5 => ?_⟩
          · rw [if_neg q5] at h
            conv => whnf
            refine ⟨trivial, c_end (okM_in q) ?_⟩
            conv => whnf
            exact ⟨trivial, h⟩
          · rw [if_pos q5] at h
            conv => whnf
            refine ⟨trivial, c_begin (okM_in q) ?_⟩
            conv => whnf
            exact ⟨trivial, h⟩
        · rw [if_neg q4] at h
          conv => whnf
          refine ⟨fun z => absurd rfl z, fun _ => ?_⟩
          conv => whnf
          exact ⟨trivial, h⟩
      · rw [if_neg (fun z => q3 z.2.2)] at h
        conv => whnf
        exact ⟨trivial, h⟩
  · rw [if_neg (fun z => q z.1)] at h
    conv => whnf
    refine ⟨fun _ => ?_, fun z => absurd rfl z⟩
    conv => whnf
    exact ⟨trivial, h⟩
def dAgreed (S : zS) (w : Int32) : Int64 := if w < 0 ∨ 1 < w then -2000000000000 else if nI (lS S).length = 0 then -2000000000001 else if w = 0 then beg (lS S) else rend (lS S)
theorem d_agreed {E : pm_E} {Q : pm_Q} {x : zD} {m : zN} {w : Int32} (h : ∀ A', Q (some (.long (dAgreed (xS x) w))) (mkH (sA x A') m)) : Sm E n_X8_agreed 0 (pl_entry 2 [.ref 4, .int w], [], mkH x m, 0, 0) Q := by
  unfold dAgreed at h
  refine pm_go (aX8_agreed E) 100 rfl ?_
  conv => whnf
  refine ⟨fun q => ?_, fun q => ?_⟩
  · rw [if_pos (Or.inl q)] at h
    conv => whnf
    exact ⟨trivial, h (xA x)⟩
  · conv => whnf
    refine ⟨fun q2 => ?_, fun q2 => ?_⟩
    · rw [if_neg (fun z => z.elim q (Int32.not_lt.mpr q2))] at h
      conv => whnf
      refine ⟨trivial, d_look (x := x) (fun A' hA => ?_)⟩
      have h := h A'
      conv => whnf
      refine ⟨fun q3 => ?_, fun q3 => ?_⟩
      · have q3' : ¬ nI (lS (xS x)).length = 0 := by rw [← hA.1.1]; exact q3
        rw [if_neg q3'] at h
        conv => whnf
        refine ⟨fun q4 => ?_, fun q4 => ?_⟩
        · rw [if_neg q4] at h
          conv => whnf
          refine ⟨trivial, c_rowF (x := sA x A') hA ?_⟩
          conv => whnf
          exact ⟨trivial, h⟩
        · rw [if_pos q4] at h
          conv => whnf
          refine ⟨trivial, ?_⟩
          rw [← hA.beg] at h
          exact h
      · have q3' : nI (lS (xS x)).length = 0 := by rw [← hA.1.1]; exact q3
        rw [if_pos q3'] at h
        conv => whnf
        exact ⟨trivial, h⟩
    · rw [if_pos (Or.inr (Int32.not_le.mp q2))] at h
      conv => whnf
      exact ⟨trivial, h (xA x)⟩
def dGood (S : zS) : Int32 := if okG (lS S) then 1 else 0
theorem d_good {E : pm_E} {Q : pm_Q} {x : zD} {m : zN} (h : ∀ A', Q (some (.int (dGood (xS x)))) (mkH (sA x A') m)) : Sm E n_X8_good 0 (pl_entry 1 [.ref 4], [], mkH x m, 0, 0) Q := by
  unfold dGood at h
  refine pm_go (aX8_good E) 100 rfl ?_
  conv => whnf
  refine ⟨trivial, d_look (x := x) (fun A' hA => ?_)⟩
  have h := h A'
  conv => whnf
  refine ⟨trivial, c_goodF (x := sA x A') hA (fun q => ?_) (fun q => ?_)⟩
  · rw [if_pos q] at h
    conv => whnf
    refine ⟨fun z => absurd z (by decide), fun _ => ?_⟩
    conv => whnf
    exact ⟨trivial, h⟩
  · rw [if_neg q] at h
    conv => whnf
    refine ⟨fun _ => ?_, fun z => absurd rfl z⟩
    conv => whnf
    exact ⟨trivial, h⟩
abbrev okT (t : Int64) : Prop := 0 ≤ t ∧ t ≤ 2000000000000
def dIn (S : zS) (t : Int64) : Int32 := if okT t then nI (cnt (lS S) t) else -1
theorem d_in {E : pm_E} {Q : pm_Q} {x : zD} {m : zN} {t : Int64} (h : ∀ A', Q (some (.int (dIn (xS x) t))) (mkH (sA x A') m)) : Sm E n_X8_in 0 (pl_entry 3 [.ref 4, .long t], [], mkH x m, 0, 0) Q := by
  unfold dIn at h
  refine pm_go (aX8_in E) 100 rfl ?_
  conv => whnf
  refine ⟨trivial, c_isAsked (fun q => ?_) (fun q => ?_)⟩
  · rw [if_pos q] at h
    conv => whnf
    refine ⟨fun _ => ?_, fun z => absurd z (by decide)⟩
    conv => whnf
    refine ⟨trivial, d_look (x := x) (fun A' hA => ?_)⟩
    conv => whnf
    refine ⟨trivial, c_hold (x := sA x A') hA.1 ?_⟩
    conv => whnf
    exact ⟨trivial, h A'⟩
  · rw [if_neg q] at h
    conv => whnf
    refine ⟨fun z => absurd rfl z, fun _ => ?_⟩
    conv => whnf
    exact ⟨trivial, h (xA x)⟩
/-- the liars among the first i masters, as bits -/
def dLi (M : zM) (t : Int32) (b e : Int64) : Nat → Int32
  | 0 => 0
  | i + 1 => if hB M (nI i) ∧ ¬ (fB M (nI i) t ≤ e ∧ b ≤ fE M (nI i) t) then dLi M t b e i ||| (1 <<< (nI i &&& 31)) else dLi M t b e i
abbrev dLiars (S : zS) : Int32 := dLi S.1 S.2.2 (beg (lS S)) (rend (lS S)) 6
theorem l_liars {E : pm_E} {Q : pm_Q} {x : zD} {m : zN} {b e : Int64} (h : Q (some (.int (dLi (xS x).1 (xS x).2.2 b e 6))) (mkH x m)) : ∀ (n i : Nat), i + n = 6 → Sm E n_X8_liars 26 ([some (.ref 4), some (.long b), none, some (.long e), none, some (.int (dLi (xS x).1 (xS x).2.2 b e i)), some (.int (nI i))], [], mkH x m, 0, 0) Q := by
  intro n
  induction n with
  | zero =>
    intro i hi
    obtain rfl : i = 6 := by omega
    refine pm_lp (aX8_liars E) 100 26 rfl ?_
    conv => whnf
    refine ⟨fun _ => ?_, fun q => absurd (show (6 : Int32) ≤ nI 6 by decide) q⟩
    conv => whnf
    exact ⟨trivial, h⟩
  | succ n ih =>
    intro i hi
    have h6 : vp_in (nI i) 6 := vp_in_nI (by omega) (by decide)
    have nxt := ih (i + 1) (by omega)
    rw [nI_succ, dLi] at nxt
    refine pm_lp (aX8_liars E) 100 26 rfl ?_
    conv => whnf
    refine ⟨fun q => absurd (show nI 6 ≤ nI i from q) (nI_ge (by omega) (by omega)), fun _ => ?_⟩
    conv => whnf
    refine ⟨trivial, c_isHeard (x := x) (fun q => ?_) (fun q => ?_)⟩
    · conv => whnf
      refine ⟨fun z => absurd z (by decide), fun _ => ?_⟩
      conv => whnf
      refine ⟨trivial, c_meets (x := x) h6 (fun q2 => ?_) (fun q2 => ?_)⟩
      · rw [if_neg (fun z => z.2 q2)] at nxt
        conv => whnf
        refine ⟨fun _ => ?_, fun z => absurd z (by decide)⟩
        conv => whnf
        exact ⟨trivial, nxt⟩
      · rw [if_pos ⟨q, q2⟩] at nxt
        conv => whnf
        refine ⟨fun z => absurd rfl z, fun _ => ?_⟩
        conv => whnf
        exact ⟨trivial, nxt⟩
    · rw [if_neg (fun z => q z.1)] at nxt
      conv => whnf
      refine ⟨fun _ => ?_, fun z => absurd rfl z⟩
      conv => whnf
      exact ⟨trivial, nxt⟩
theorem d_liars {E : pm_E} {Q : pm_Q} {x : zD} {m : zN} (h : ∀ A', Q (some (.int (dLiars (xS x)))) (mkH (sA x A') m)) : Sm E n_X8_liars 0 (pl_entry 7 [.ref 4], [], mkH x m, 0, 0) Q := by
  refine pm_go (aX8_liars E) 100 rfl ?_
  conv => whnf
  refine ⟨trivial, d_look (x := x) (fun A' hA => ?_)⟩
  conv => whnf
  refine ⟨trivial, c_rowF (x := sA x A') hA ?_⟩
  conv => whnf
  refine ⟨trivial, ?_⟩
  have := l_liars (E := E) (Q := Q) (x := sA x A') (m := m) (b := beg (lS (xS x))) (e := rend (lS (xS x))) (h A') 6 0 (by omega)
  rw [← hA.beg] at this
  exact this
def dSL (x : zD) : Int32 × zD := if dLiars (xS x) = 0 then (-2, x) else (bc (dLiars (xS x)), sStr (sP x (dKp (xP x) (xS x))) ((xS x).1.2.2.2.2.1 ||| dLiars (xS x)))
theorem d_strikeLiars {E : pm_E} {Q : pm_Q} {x : zD} {m : zN} (hp : okP (xP x)) (h : ∀ A', Q (some (.int (dSL x).1)) (mkH (sA (dSL x).2 A') m)) : Sm E n_X8_strikeLiars 0 (pl_entry 2 [.ref 4], [], mkH x m, 0, 0) Q := by
  unfold dSL at h
  refine pm_go (aX8_strikeLiars E) 100 rfl ?_
  conv => whnf
  refine ⟨trivial, d_liars (x := x) (fun A' => ?_)⟩
  have h := h A'
  conv => whnf
  refine ⟨fun q => ?_, fun q => ?_⟩
  · rw [if_neg q] at h
    conv => whnf
    refine ⟨trivial, d_keep (x := sA x A') hp ?_⟩
    conv => whnf
    refine ⟨trivial, c_bc ?_⟩
    conv => whnf
    exact ⟨trivial, h⟩
  · rw [if_pos q] at h
    conv => whnf
    exact ⟨trivial, h⟩
/-! ===== local goes on ===== -/
def okC (C : zC) : Prop := ∃ d s : Nat, d ≤ s ∧ s ≤ 16 ∧ cSz C = nI s ∧ cDn C = nI d
def dFinish (S : zS) : zC := if cSz S.2.1 - cDn S.2.1 = 0 then S.2.1 else if okG (lS S) then dFin (beg (lS S)) S.2.2 ((cSz S.2.1).toNatClampNeg - (cDn S.2.1).toNatClampNeg) S.2.1 else S.2.1
theorem d_finish {E : pm_E} {Q : pm_Q} {x : zD} {m : zN} (hc : okC (xC x)) (h : ∀ A', Q none (mkH (sA (sC x (dFinish (xS x))) A') m)) : Sm E n_X8_finishCommits 0 (pl_entry 1 [.ref 4], [], mkH x m, 0, 0) Q := by
  unfold dFinish at h
  refine pm_go (aX8_finishCommits E) 100 rfl ?_
  conv => whnf
  refine ⟨trivial, c_open (x := x) ?_⟩
  conv => whnf
  refine ⟨fun q => ?_, fun q => ?_⟩
  · rw [if_neg q] at h
    conv => whnf
    refine ⟨trivial, d_look (x := x) (fun A' hA => ?_)⟩
    have h := h A'
    conv => whnf
    refine ⟨trivial, c_goodF (x := sA x A') hA (fun q2 => ?_) (fun q2 => ?_)⟩
    · rw [if_pos q2] at h
      conv => whnf
      refine ⟨fun z => absurd z (by decide), fun _ => ?_⟩
      conv => whnf
      obtain ⟨d, s, hds, hs, e1, e2⟩ := hc
      refine ⟨trivial, c_fin (x := sA x A') hds hs e1 e2 ?_⟩
      conv => whnf
      refine ⟨trivial, ?_⟩
      rw [show (cSz (xS x).2.1).toNatClampNeg = s by rw [e1]; exact nI_clamp (by omega), show (cDn (xS x).2.1).toNatClampNeg = d by rw [e2]; exact nI_clamp (by omega), ← hA.beg] at h
      exact h
    · rw [if_neg q2] at h
      conv => whnf
      refine ⟨fun _ => ?_, fun z => absurd rfl z⟩
      conv => whnf
      exact ⟨trivial, h⟩
  · rw [if_pos q] at h
    conv => whnf
    exact ⟨trivial, h (xA x)⟩
def dTick (S : zS) : zS := (S.1, dFinish (S.1, S.2.1, S.2.2 + 1), S.2.2 + 1)
def dTicks : Nat → zS → zS
  | 0, S => S
  | n + 1, S => dTicks n (dTick S)
theorem dFin_ok (b : Int64) (t : Int32) : ∀ (n d s : Nat) (C : zC), d + n ≤ s → s ≤ 16 → cSz C = nI s → cDn C = nI d → okC (dFin b t n C)
  | 0, d, s, C, h1, h2, h3, h4 => ⟨d, s, by omega, h2, h3, h4⟩
  | n + 1, d, s, C, h1, h2, h3, h4 => by
    unfold dFin
    split
    · exact dFin_ok b t n (d + 1) s _ (by omega) h2 h3 (by show cDn C + 1 = _; rw [h4, nI_succ])
    · exact ⟨d, s, by omega, h2, h3, h4⟩
theorem dFinish_ok {S : zS} (h : okC S.2.1) : okC (dFinish S) := by
  unfold dFinish
  split
  · exact h
  split
  · obtain ⟨d, s, h1, h2, h3, h4⟩ := h
    rw [show (cSz S.2.1).toNatClampNeg = s by rw [h3]; exact nI_clamp (by omega), show (cDn S.2.1).toNatClampNeg = d by rw [h4]; exact nI_clamp (by omega)]
    exact dFin_ok _ _ (s - d) d s _ (by omega) h2 h3 h4
  · exact h
theorem l_go {E : pm_E} {Q : pm_Q} {x : zD} {m : zN} {N : Nat} {d0 : Int32} (hN : N ≤ 5000) : ∀ (n i : Nat) (S : zS) (A : zA), i + n = N → okC S.2.1 → (∀ A', Q (some (.int (cDn (dTicks n S).2.1 - d0))) (mkH (sA (sS x (dTicks n S)) A') m)) → Sm E n_X8_go 38 ([some (.ref 4), some (.int (nI N)), some (.int d0), some (.int (nI i))], [], mkH (sA (sS x S) A) m, 0, 0) Q := by
  intro n
  induction n with
  | zero =>
    intro i S A hi hc h
    obtain rfl : i = N := by omega
    refine pm_lp (aX8_go E) 100 38 rfl ?_
    conv => whnf
    refine ⟨fun _ => ?_, fun q => absurd (nI_le (Nat.le_refl i) (by omega)) q⟩
    conv => whnf
    exact ⟨trivial, h A⟩
  | succ n ih =>
    intro i S A hi hc h
    refine pm_lp (aX8_go E) 100 38 rfl ?_
    conv => whnf
    refine ⟨fun q => absurd q (nI_ge (by omega) (by omega)), fun _ => ?_⟩
    conv => whnf
    refine ⟨trivial, d_finish (x := sA (sS x (S.1, S.2.1, S.2.2 + 1)) A) hc (fun A' => ?_)⟩
    conv => whnf
    refine ⟨trivial, ?_⟩
    have := ih (i + 1) (dTick S) A' (by omega) (dFinish_ok (S := (S.1, S.2.1, S.2.2 + 1)) hc) h
    rw [nI_succ] at this
    exact this
def dGo (x : zD) (n : Int32) : Int32 × zD := if n < 1 ∨ 5000 < n then (-1, x) else (cDn (dTicks n.toNatClampNeg (xS x)).2.1 - cDn (xC x), sS (sP x (dKp (xP x) (xS x))) (dTicks n.toNatClampNeg (xS x)))
theorem d_go {E : pm_E} {Q : pm_Q} {x : zD} {m : zN} {n : Int32} (hp : okP (xP x)) (hc : okC (xC x)) (h : ∀ A', Q (some (.int (dGo x n).1)) (mkH (sA (dGo x n).2 A') m)) : Sm E n_X8_go 0 (pl_entry 4 [.ref 4, .int n], [], mkH x m, 0, 0) Q := by
  unfold dGo at h
  refine pm_go (aX8_go E) 100 rfl ?_
  conv => whnf
  refine ⟨fun q => ?_, fun q => ?_⟩
  · rw [if_pos (Or.inl q)] at h
    conv => whnf
    exact ⟨trivial, h (xA x)⟩
  · conv => whnf
    refine ⟨fun q2 => ?_, fun q2 => ?_⟩
    · rw [if_neg (fun z => z.elim q (Int32.not_lt.mpr q2))] at h
      have q0 : ¬ n < 0 := fun z => q (Int32.lt_trans z (by decide))
      obtain ⟨N, hN, rfl⟩ := nI_of q0
      have hN2 : N ≤ 5000 := (nI_leI hN (by decide)).mp q2
      rw [nI_clamp hN] at h
      conv => whnf
      refine ⟨trivial, d_keep (x := x) hp ?_⟩
      conv => whnf
      refine ⟨trivial, ?_⟩
      exact l_go (E := E) (Q := Q) (x := sP x (dKp (xP x) (xS x))) (m := m) (d0 := cDn (xC x)) hN2 N 0 (xS x) (xA x) (by omega) hc h
    · rw [if_pos (Or.inr (Int32.not_le.mp q2))] at h
      conv => whnf
      exact ⟨trivial, h (xA x)⟩
end
section
/-! ===== commits asked for ===== -/
def dCommit (x : zD) (k v : Int32) : Int32 × zD := if (0 ≤ k ∧ k < 6) ∧ 0 ≤ v ∧ v ≤ 999999 then (if okG (lS (xS x)) then (if cSz (xC x) < 16 then (cSz (xC x) + 1 - 1, sC (sP x (dKp (xP x) (xS x))) (dMake (xC x) k v (rend (lS (xS x))) (xS x).2.2)) else (-3, x)) else (-2, x)) else (-1, x)
theorem d_commit {E : pm_E} {Q : pm_Q} {x : zD} {m : zN} {k v : Int32} (hp : okP (xP x)) (hc : okC (xC x)) (h : ∀ A', Q (some (.int (dCommit x k v).1)) (mkH (sA (dCommit x k v).2 A') m)) : Sm E n_X8_commit 0 (pl_entry 3 [.ref 4, .int k, .int v], [], mkH x m, 0, 0) Q := by
  unfold dCommit at h
  refine pm_go (aX8_commit E) 100 rfl ?_
  conv => whnf
  refine ⟨trivial, c_isKey (fun q => ?_) (fun q => ?_)⟩
  · conv => whnf
    refine ⟨fun z => absurd z (by decide), fun _ => ?_⟩
    conv => whnf
    refine ⟨fun q2 => ?_, fun q2 => ?_⟩
    · rw [if_neg (fun z => Int32.not_lt.mpr z.2.1 q2)] at h
      conv => whnf
      exact ⟨trivial, h (xA x)⟩
    · conv => whnf
      refine ⟨fun q3 => ?_, fun q3 => ?_⟩
      · rw [if_pos ⟨q, Int32.not_lt.mp q2, q3⟩] at h
        conv => whnf
        refine ⟨trivial, d_look (x := x) (fun A' hA => ?_)⟩
        have h := h A'
        conv => whnf
        refine ⟨trivial, c_goodF (x := sA x A') hA (fun q4 => ?_) (fun q4 => ?_)⟩
        · rw [if_pos q4] at h
          conv => whnf
          refine ⟨fun _ => ?_, fun z => absurd z (by decide)⟩
          conv => whnf
          refine ⟨fun q5 => ?_, fun q5 => ?_⟩
          · have q5 : cSz (xC x) < 16 := q5
            rw [if_pos q5] at h
            have hi : vp_in (cSz (xC x)) 16 := by
              obtain ⟨d, s, h1, h2, h3, h4⟩ := hc
              rw [h3]
              have q5' : nI s < nI 16 := by rw [← h3]; exact q5
              exact vp_in_nI ((nI_ltI (by omega) (by omega)).mp q5') (by decide)
            conv => whnf
            refine ⟨trivial, d_keep (x := sA x A') hp ?_⟩
            conv => whnf
            refine ⟨trivial, c_rowF (x := sP (sA x A') (dKp (xP x) (xS x))) hA ?_⟩
            conv => whnf
            refine ⟨trivial, c_make (x := sP (sA x A') (dKp (xP x) (xS x))) hi ?_⟩
            conv => whnf
            exact ⟨trivial, h⟩
          · have q5 : ¬ cSz (xC x) < 16 := q5
            rw [if_neg q5] at h
            conv => whnf
            exact ⟨trivial, h⟩
        · rw [if_neg q4] at h
          conv => whnf
          refine ⟨fun z => absurd rfl z, fun _ => ?_⟩
          conv => whnf
          exact ⟨trivial, h⟩
      · rw [if_neg (fun z => q3 z.2.2)] at h
        conv => whnf
        exact ⟨trivial, h (xA x)⟩
  · rw [if_neg (fun z => q z.1)] at h
    conv => whnf
    refine ⟨fun _ => ?_, fun z => absurd rfl z⟩
    conv => whnf
    exact ⟨trivial, h (xA x)⟩
abbrev okN (C : zC) (c : Int32) : Prop := 0 ≤ c ∧ c < cSz C
theorem okN_in {C : zC} {c : Int32} (hc : okC C) (h : okN C c) : vp_in c 16 := by
  obtain ⟨d, s, h1, h2, h3, h4⟩ := hc
  obtain ⟨j, hj, rfl⟩ := nI_of (Int32.not_lt.mpr h.1)
  have h' : nI j < nI s := by rw [← h3]; exact h.2
  exact vp_in_nI (by have := (nI_ltI hj (by omega)).mp h'; omega) (by decide)
def dCommitOf (C : zC) (c w : Int32) : Int64 := if okN C c then (if w = 0 then (C.1 c.toNatClampNeg).toInt64 else if w = 1 then (C.2.1 c.toNatClampNeg).toInt64 else if w = 2 then C.2.2.1 c.toNatClampNeg else if w = 3 then (C.2.2.2.1 c.toNatClampNeg).toInt64 else if w = 4 then (if c < cDn C then (C.2.2.2.2.1 c.toNatClampNeg).toInt64 else -4) else -1) else -1
theorem nI_ne {a b : Nat} (h : a ≠ b) (ha : a < 2 ^ 31) (hb : b < 2 ^ 31) : ¬ nI a = nI b := fun z => h ((nI_eq ha hb).mp z)
theorem d_commitOf {E : pm_E} {Q : pm_Q} {x : zD} {m : zN} {c w : Int32} (hc : okC (xC x)) (h : Q (some (.long (dCommitOf (xC x) c w))) (mkH x m)) : Sm E n_X8_commitOf 0 (pl_entry 3 [.ref 4, .int c, .int w], [], mkH x m, 0, 0) Q := by
  unfold dCommitOf at h
  refine pm_go (aX8_commitOf E) 100 rfl ?_
  conv => whnf
  refine ⟨trivial, c_has (x := x) (fun q => ?_) (fun q => ?_)⟩
  · rw [if_pos q] at h
    have hin := okN_in hc q
    conv => whnf
    refine ⟨fun _ => ?_, fun z => absurd z (by decide)⟩
    conv => whnf
    refine ⟨fun k t hk hw => ?_, fun hw => ?_⟩
    · match k, hk with
      | 0, hk =>
        cases hk
        obtain rfl : w = 0 := hw
        rw [if_pos rfl] at h
        conv => whnf
        refine ⟨hin, ?_⟩
        conv => whnf
        exact ⟨trivial, h⟩
      | 1, hk =>
        cases hk
        obtain rfl : w = 1 := hw
        rw [if_neg (by decide), if_pos rfl] at h
        conv => whnf
        refine ⟨hin, ?_⟩
        conv => whnf
        exact ⟨trivial, h⟩
      | 2, hk =>
        cases hk
        obtain rfl : w = 2 := hw
        rw [if_neg (by decide), if_neg (by decide), if_pos rfl] at h
        conv => whnf
        refine ⟨hin, ?_⟩
        conv => whnf
        exact ⟨trivial, h⟩
      | 3, hk =>
        cases hk
        obtain rfl : w = 3 := hw
        rw [if_neg (by decide), if_neg (by decide), if_neg (by decide), if_pos rfl] at h
        conv => whnf
        refine ⟨hin, ?_⟩
        conv => whnf
        exact ⟨trivial, h⟩
      | 4, hk =>
        cases hk
        obtain rfl : w = 4 := hw
        rw [if_neg (by decide), if_neg (by decide), if_neg (by decide), if_neg (by decide), if_pos rfl] at h
        conv => whnf
        refine ⟨trivial, c_isOpen (x := x) (fun q2 => ?_) (fun q2 => ?_)⟩
        · rw [if_neg q2] at h
          conv => whnf
          refine ⟨fun z => absurd z (by decide), fun _ => ?_⟩
          conv => whnf
          exact ⟨trivial, h⟩
        · rw [if_pos q2] at h
          conv => whnf
          refine ⟨fun _ => ?_, fun z => absurd rfl z⟩
          conv => whnf
          refine ⟨hin, ?_⟩
          conv => whnf
          exact ⟨trivial, h⟩
      | k + 5, hk => simp at hk
    · have n0 : ∀ j : Nat, j < 5 → ¬ w = nI j := by
        intro j hj e
        rw [e] at hw
        rcases hw with z | z
        · exact nI_pos (by omega) z
        · exact nI_ge (b := 5) hj (by decide) z
      rw [if_neg (show ¬ w = 0 from n0 0 (by omega)), if_neg (show ¬ w = 1 from n0 1 (by omega)), if_neg (show ¬ w = 2 from n0 2 (by omega)), if_neg (show ¬ w = 3 from n0 3 (by omega)), if_neg (show ¬ w = 4 from n0 4 (by omega))] at h
      conv => whnf
      exact ⟨trivial, h⟩
  · rw [if_neg q] at h
    conv => whnf
    refine ⟨fun z => absurd rfl z, fun _ => ?_⟩
    conv => whnf
    exact ⟨trivial, h⟩
/-- how long one has to wait, from w ticks on -/
def dWt (S : zS) (st : Int64) : Nat → Nat → Int32
  | 0, _ => -4
  | n + 1, w => if okG (lAt S (S.2.2 + nI w)) ∧ st < beg (lAt S (S.2.2 + nI w)) then nI w else dWt S st n (w + 1)
theorem l_wait {E : pm_E} {Q : pm_Q} {x : zD} {m : zN} {c : Int32} {st : Int64} : ∀ (n w : Nat) (A : zA), w + n = 2001 → (∀ A', Q (some (.int (dWt (xS x) st n w))) (mkH (sA x A') m)) → Sm E n_X8_waiting 49 ([some (.ref 4), some (.int c), some (.long st), none, some (.int (nI w))], [], mkH (sA x A) m, 0, 0) Q := by
  intro n
  induction n with
  | zero =>
    intro w A hw h
    obtain rfl : w = 2001 := by omega
    refine pm_lp (aX8_waiting E) 100 49 rfl ?_
    conv => whnf
    refine ⟨fun _ => ?_, fun q => absurd (show (2000 : Int32) < nI 2001 by decide) q⟩
    conv => whnf
    exact ⟨trivial, h A⟩
  | succ n ih =>
    intro w A hw h
    refine pm_lp (aX8_waiting E) 100 49 rfl ?_
    conv => whnf
    refine ⟨fun q => absurd (show nI 2000 < nI w from q) (nI_nlt (by omega) (by omega)), fun _ => ?_⟩
    conv => whnf
    refine ⟨trivial, c_look (x := sA x A) (fun A' hA => ?_)⟩
    have hA : AF A' (lAt (xS x) ((xS x).2.2 + nI w)) := hA
    rw [dWt] at h
    have nxt := fun hh => ih (w + 1) A' (by omega) hh
    rw [nI_succ] at nxt
    conv => whnf
    refine ⟨trivial, c_goodF (x := sA x A') hA (fun q => ?_) (fun q => ?_)⟩
    · conv => whnf
      refine ⟨fun z => absurd z (by decide), fun _ => ?_⟩
      conv => whnf
      refine ⟨fun q2 => ?_, fun q2 => ?_⟩
      · have q2' : ¬ st < beg (lAt (xS x) ((xS x).2.2 + nI w)) := by rw [← hA.beg]; exact Int64.not_lt.mpr q2
        rw [if_neg (fun z => q2' z.2)] at h
        conv => whnf
        exact ⟨trivial, nxt h⟩
      · have q2' : st < beg (lAt (xS x) ((xS x).2.2 + nI w)) := by rw [← hA.beg]; exact Int64.not_le.mp q2
        rw [if_pos ⟨q, q2'⟩] at h
        conv => whnf
        exact ⟨trivial, h A'⟩
    · rw [if_neg (fun z => q z.1)] at h
      conv => whnf
      refine ⟨fun _ => ?_, fun z => absurd rfl z⟩
      conv => whnf
      exact ⟨trivial, nxt h⟩
def dWait (S : zS) (c : Int32) : Int32 := if okN S.2.1 c then (if c < cDn S.2.1 then -2 else dWt S (S.2.1.2.2.1 c.toNatClampNeg) 2001 0) else -1
theorem d_waiting {E : pm_E} {Q : pm_Q} {x : zD} {m : zN} {c : Int32} (hc : okC (xC x)) (h : ∀ A', Q (some (.int (dWait (xS x) c))) (mkH (sA x A') m)) : Sm E n_X8_waiting 0 (pl_entry 5 [.ref 4, .int c], [], mkH x m, 0, 0) Q := by
  unfold dWait at h
  refine pm_go (aX8_waiting E) 100 rfl ?_
  conv => whnf
  refine ⟨trivial, c_has (x := x) (fun q => ?_) (fun q => ?_)⟩
  · rw [if_pos q] at h
    have hin := okN_in hc q
    conv => whnf
    refine ⟨fun _ => ?_, fun z => absurd z (by decide)⟩
    conv => whnf
    refine ⟨trivial, c_isOpen (x := x) (fun q2 => ?_) (fun q2 => ?_)⟩
    · rw [if_neg q2] at h
      conv => whnf
      refine ⟨fun _ => ?_, fun z => absurd z (by decide)⟩
      conv => whnf
      refine ⟨hin, ?_⟩
      conv => whnf
      refine ⟨trivial, ?_⟩
      exact l_wait (E := E) (Q := Q) (x := x) (m := m) (c := c) 2001 0 (xA x) (by omega) h
    · rw [if_pos q2] at h
      conv => whnf
      refine ⟨fun z => absurd rfl z, fun _ => ?_⟩
      conv => whnf
      exact ⟨trivial, h (xA x)⟩
  · rw [if_neg q] at h
    conv => whnf
    refine ⟨fun z => absurd rfl z, fun _ => ?_⟩
    conv => whnf
    exact ⟨trivial, h (xA x)⟩
def dLast (C : zC) : Int64 := if cSz C ≤ 0 then -2000000000000 else C.2.2.1 (cSz C - 1).toNatClampNeg
def dSafe (S : zS) : Int64 := if 0 < cSz S.2.1 - cDn S.2.1 then S.2.1.2.2.1 (cDn S.2.1).toNatClampNeg - 1 else if okG (lS S) then (if dLast S.2.1 < beg (lS S) - 1 then beg (lS S) - 1 else dLast S.2.1) else dLast S.2.1
theorem okC_last {C : zC} (hc : okC C) (h : ¬ cSz C ≤ 0) : vp_in (cSz C - 1) 16 := by
  obtain ⟨d, s, h1, h2, h3, h4⟩ := hc
  rw [h3] at h ⊢
  have hs : 0 < s := by
    rcases Nat.eq_zero_or_pos s with z | z
    · rw [z] at h; exact absurd (by decide) h
    · exact z
  obtain ⟨t, rfl⟩ : ∃ t, s = t + 1 := ⟨s - 1, by omega⟩
  rw [nI_pred]
  exact vp_in_nI (by omega) (by decide)
theorem d_safe {E : pm_E} {Q : pm_Q} {x : zD} {m : zN} (hc : okC (xC x)) (h : ∀ A', Q (some (.long (dSafe (xS x)))) (mkH (sA x A') m)) : Sm E n_X8_safe 0 (pl_entry 4 [.ref 4], [], mkH x m, 0, 0) Q := by
  unfold dSafe at h
  refine pm_go (aX8_safe E) 100 rfl ?_
  conv => whnf
  refine ⟨trivial, c_open (x := x) ?_⟩
  conv => whnf
  refine ⟨fun q => ?_, fun q => ?_⟩
  · rw [if_neg (Int32.not_lt.mpr q)] at h
    conv => whnf
    refine ⟨trivial, d_look (x := x) (fun A' hA => ?_)⟩
    have h := h A'
    conv => whnf
    refine ⟨fun q2 => ?_, fun q2 => ?_⟩
    · have e : dLast (xS x).2.1 = -2000000000000 := if_pos q2
      rw [e] at h
      conv => whnf
      refine ⟨trivial, c_goodF (x := sA x A') hA (fun q4 => ?_) (fun q4 => ?_)⟩
      · rw [if_pos q4, ← hA.beg] at h
        conv => whnf
        refine ⟨fun z => absurd z (by decide), fun _ => ?_⟩
        conv => whnf
        exact ⟨trivial, h⟩
      · rw [if_neg q4] at h
        conv => whnf
        refine ⟨fun _ => ?_, fun z => absurd rfl z⟩
        conv => whnf
        exact ⟨trivial, h⟩
    · have e : dLast (xS x).2.1 = (xC x).2.2.1 (cSz (xC x) - 1).toNatClampNeg := if_neg q2
      rw [e] at h
      conv => whnf
      refine ⟨trivial, c_latest (x := sA x A') (okC_last hc q2) ?_⟩
      conv => whnf
      refine ⟨trivial, c_goodF (x := sA x A') hA (fun q4 => ?_) (fun q4 => ?_)⟩
      · rw [if_pos q4, ← hA.beg] at h
        conv => whnf
        refine ⟨fun z => absurd z (by decide), fun _ => ?_⟩
        conv => whnf
        exact ⟨trivial, h⟩
      · rw [if_neg q4] at h
        conv => whnf
        refine ⟨fun _ => ?_, fun z => absurd rfl z⟩
        conv => whnf
        exact ⟨trivial, h⟩
  · rw [if_pos (Int32.not_le.mp q)] at h
    have hin : vp_in (cDn (xC x)) 16 := by
      obtain ⟨d, s, h1, h2, h3, h4⟩ := hc
      rw [h4]
      refine vp_in_nI ?_ (by decide)
      rcases Nat.lt_or_ge d 16 with z | z
      · exact z
      · obtain rfl : d = s := by omega
        exact absurd (show cSz (xC x) - cDn (xC x) ≤ 0 by rw [h3, h4, pk_sub (Nat.le_refl _), Nat.sub_self]; decide) q
    conv => whnf
    refine ⟨trivial, c_leastOpen (x := x) hin ?_⟩
    conv => whnf
    exact ⟨trivial, h (xA x)⟩
def dRead (S : zS) (k : Int32) (t : Int64) : Int32 := if (0 ≤ k ∧ k < 6) ∧ okT t then (if dSafe S < t then -2 else vF k t S.2.1 (cSz S.2.1).toNatClampNeg) else -1
theorem okC_sz {C : zC} (hc : okC C) : ∃ s : Nat, s ≤ 16 ∧ cSz C = nI s ∧ (cSz C).toNatClampNeg = s := by
  obtain ⟨d, s, h1, h2, h3, h4⟩ := hc
  exact ⟨s, h2, h3, by rw [h3]; exact nI_clamp (by omega)⟩
theorem d_read {E : pm_E} {Q : pm_Q} {x : zD} {m : zN} {k : Int32} {t : Int64} (hc : okC (xC x)) (h : ∀ A', Q (some (.int (dRead (xS x) k t))) (mkH (sA x A') m)) : Sm E n_X8_read 0 (pl_entry 4 [.ref 4, .int k, .long t], [], mkH x m, 0, 0) Q := by
  unfold dRead at h
  refine pm_go (aX8_read E) 100 rfl ?_
  conv => whnf
  refine ⟨trivial, c_isKey (fun q => ?_) (fun q => ?_)⟩
  · conv => whnf
    refine ⟨fun z => absurd z (by decide), fun _ => ?_⟩
    conv => whnf
    refine ⟨trivial, c_isAsked (fun q2 => ?_) (fun q2 => ?_)⟩
    · rw [if_pos ⟨q, q2⟩] at h
      conv => whnf
      refine ⟨fun _ => ?_, fun z => absurd z (by decide)⟩
      conv => whnf
      refine ⟨trivial, d_safe (x := x) hc (fun A' => ?_)⟩
      have h := h A'
      conv => whnf
      refine ⟨fun q3 => ?_, fun q3 => ?_⟩
      · rw [if_neg (Int64.not_lt.mpr q3)] at h
        obtain ⟨s, hs, e1, e2⟩ := okC_sz hc
        rw [e2] at h
        conv => whnf
        refine ⟨trivial, c_val (x := sA x A') hs e1 ?_⟩
        conv => whnf
        exact ⟨trivial, h⟩
      · rw [if_pos (Int64.not_le.mp q3)] at h
        conv => whnf
        exact ⟨trivial, h⟩
    · rw [if_neg (fun z => q2 z.2)] at h
      conv => whnf
      refine ⟨fun z => absurd rfl z, fun _ => ?_⟩
      conv => whnf
      exact ⟨trivial, h (xA x)⟩
  · rw [if_neg (fun z => q z.1)] at h
    conv => whnf
    refine ⟨fun _ => ?_, fun z => absurd rfl z⟩
    conv => whnf
    exact ⟨trivial, h (xA x)⟩
def dBtw (C : zC) (k : Int32) (a b : Int64) : Int32 := if (k = -1 ∨ (0 ≤ k ∧ k < 6)) ∧ okT a ∧ okT b ∧ a ≤ b then nI (nF k a b C (cSz C).toNatClampNeg) else -1
theorem d_between {E : pm_E} {Q : pm_Q} {x : zD} {m : zN} {k : Int32} {a b : Int64} (hc : okC (xC x)) (h : Q (some (.int (dBtw (xC x) k a b))) (mkH x m)) : Sm E n_X8_between 0 (pl_entry 6 [.ref 4, .int k, .long a, .long b], [], mkH x m, 0, 0) Q := by
  unfold dBtw at h
  have rest : (k = -1 ∨ (0 ≤ k ∧ k < 6)) → ∀ N : Nat, N = 80 → nP E n_X8_between tX8_between N (pm_at tX8_between 14) (pl_entry 6 [.ref 4, .int k, .long a, .long b], [], mkH x m, 0, 0) Q := by
    intro q N hN
    subst hN
    conv => whnf
    refine ⟨trivial, c_isAsked (fun q2 => ?_) (fun q2 => ?_)⟩
    · conv => whnf
      refine ⟨fun z => absurd z (by decide), fun _ => ?_⟩
      conv => whnf
      refine ⟨trivial, c_isAsked (fun q3 => ?_) (fun q3 => ?_)⟩
      · conv => whnf
        refine ⟨fun z => absurd z (by decide), fun _ => ?_⟩
        conv => whnf
        refine ⟨fun q4 => ?_, fun q4 => ?_⟩
        · rw [if_pos ⟨q, q2, q3, q4⟩] at h
          obtain ⟨s, hs, e1, e2⟩ := okC_sz hc
          rw [e2] at h
          conv => whnf
          refine ⟨trivial, c_btw (x := x) hs e1 ?_⟩
          conv => whnf
          exact ⟨trivial, h⟩
        · rw [if_neg (fun z => q4 z.2.2.2)] at h
          conv => whnf
          exact ⟨trivial, h⟩
      · rw [if_neg (fun z => q3 z.2.2.1)] at h
        conv => whnf
        refine ⟨fun _ => ?_, fun z => absurd rfl z⟩
        conv => whnf
        exact ⟨trivial, h⟩
    · rw [if_neg (fun z => q2 z.2.1)] at h
      conv => whnf
      refine ⟨fun _ => ?_, fun z => absurd rfl z⟩
      conv => whnf
      exact ⟨trivial, h⟩
  by_cases q : k = -1
  · refine pm_go (aX8_between E) 83 rfl ?_
    conv => whnf
    refine ⟨fun _ => rest (Or.inl q) _ rfl, fun z => absurd q z⟩
  · refine pm_go (aX8_between E) 86 rfl ?_
    conv => whnf
    refine ⟨fun z => absurd z q, fun _ => ?_⟩
    conv => whnf
    refine ⟨trivial, c_isKey (fun q2 => ?_) (fun q2 => ?_)⟩
    · conv => whnf
      refine ⟨fun _ => rest (Or.inr q2) _ rfl, fun z => absurd z (by decide)⟩
    · rw [if_neg (fun z => z.1.elim q q2)] at h
      conv => whnf
      refine ⟨fun z => absurd rfl z, fun _ => ?_⟩
      conv => whnf
      exact ⟨trivial, h⟩
def dLeap (L : zL) (w : Int32) : Int64 := if w = 0 then L.1 else if w = 1 then L.2.1 else if w = 2 then L.2.2.1 else if w = 3 then L.2.2.2 else -1
theorem d_leap {E : pm_E} {Q : pm_Q} {x : zD} {m : zN} {w : Int32} (h : Q (some (.long (dLeap (xL x) w))) (mkH x m)) : Sm E n_X8_leap 0 (pl_entry 2 [.ref 4, .int w], [], mkH x m, 0, 0) Q := by
  unfold dLeap at h
  refine pm_go (aX8_leap E) 100 rfl ?_
  conv => whnf
  refine ⟨fun k t hk hw => ?_, fun hw => ?_⟩
  · match k, hk with
    | 0, hk =>
      cases hk
      obtain rfl : w = 0 := hw
      conv => whnf
      exact ⟨trivial, h⟩
    | 1, hk =>
      cases hk
      obtain rfl : w = 1 := hw
      conv => whnf
      exact ⟨trivial, h⟩
    | 2, hk =>
      cases hk
      obtain rfl : w = 2 := hw
      conv => whnf
      exact ⟨trivial, h⟩
    | 3, hk =>
      cases hk
      obtain rfl : w = 3 := hw
      conv => whnf
      exact ⟨trivial, h⟩
    | k + 4, hk => simp at hk
  · have n0 : ∀ j : Nat, j < 4 → ¬ w = nI j := by
      intro j hj e
      rw [e] at hw
      rcases hw with z | z
      · exact nI_pos (by omega) z
      · exact nI_ge (b := 4) hj (by decide) z
    rw [if_neg (show ¬ w = 0 from n0 0 (by omega)), if_neg (show ¬ w = 1 from n0 1 (by omega)), if_neg (show ¬ w = 2 from n0 2 (by omega)), if_neg (show ¬ w = 3 from n0 3 (by omega))] at h
    conv => whnf
    exact ⟨trivial, h⟩
def dSmeared (L : zL) (t : Int64) : Int64 := if okT t then dSmear L t else -2000000000000
theorem d_smeared {E : pm_E} {Q : pm_Q} {x : zD} {m : zN} {t : Int64} (h : Q (some (.long (dSmeared (xL x) t))) (mkH x m)) : Sm E n_X8_smeared 0 (pl_entry 3 [.ref 4, .long t], [], mkH x m, 0, 0) Q := by
  unfold dSmeared at h
  refine pm_go (aX8_smeared E) 100 rfl ?_
  conv => whnf
  refine ⟨trivial, c_isAsked (fun q => ?_) (fun q => ?_)⟩
  · rw [if_pos q] at h
    conv => whnf
    refine ⟨fun z => absurd z (by decide), fun _ => ?_⟩
    conv => whnf
    refine ⟨trivial, c_smear (x := x) ?_⟩
    conv => whnf
    exact ⟨trivial, h⟩
  · rw [if_neg q] at h
    conv => whnf
    refine ⟨fun _ => ?_, fun z => absurd rfl z⟩
    conv => whnf
    exact ⟨trivial, h⟩
def dBk (L : zL) (t : Int64) : Int64 := if okT t then dBack L t else -1
theorem d_back {E : pm_E} {Q : pm_Q} {x : zD} {m : zN} {t : Int64} (h : Q (some (.long (dBk (xL x) t))) (mkH x m)) : Sm E n_X8_back 0 (pl_entry 3 [.ref 4, .long t], [], mkH x m, 0, 0) Q := by
  unfold dBk at h
  refine pm_go (aX8_back E) 100 rfl ?_
  conv => whnf
  refine ⟨trivial, c_isAsked (fun q => ?_) (fun q => ?_)⟩
  · rw [if_pos q] at h
    conv => whnf
    refine ⟨fun z => absurd z (by decide), fun _ => ?_⟩
    conv => whnf
    refine ⟨trivial, c_least2 (x := x) ?_⟩
    conv => whnf
    exact ⟨trivial, h⟩
  · rw [if_neg q] at h
    conv => whnf
    refine ⟨fun _ => ?_, fun z => absurd rfl z⟩
    conv => whnf
    exact ⟨trivial, h⟩
def dCount (x : zD) (w : Int32) : Int32 := if w = 0 then (xS x).2.2 else if w = 1 then (xS x).1.2.2.2.2.2 else if w = 2 then nHd (xS x).1 else if w = 3 then bc (xS x).1.2.2.2.2.1 else if w = 4 then cSz (xC x) else if w = 5 then cSz (xC x) - cDn (xC x) else if w = 6 then (xP x).2.2 else if w = 7 then (xT x).2 else -1
theorem d_count {E : pm_E} {Q : pm_Q} {x : zD} {m : zN} {w : Int32} (h : Q (some (.int (dCount x w))) (mkH x m)) : Sm E n_X8_count 0 (pl_entry 2 [.ref 4, .int w], [], mkH x m, 0, 0) Q := by
  unfold dCount at h
  refine pm_go (aX8_count E) 100 rfl ?_
  conv => whnf
  refine ⟨fun k t hk hw => ?_, fun hw => ?_⟩
  · match k, hk with
    | 0, hk =>
      cases hk
      obtain rfl : w = 0 := hw
      conv => whnf
      exact ⟨trivial, h⟩
    | 1, hk =>
      cases hk
      obtain rfl : w = 1 := hw
      conv => whnf
      exact ⟨trivial, h⟩
    | 2, hk =>
      cases hk
      obtain rfl : w = 2 := hw
      conv => whnf
      refine ⟨trivial, c_many (x := x) ?_⟩
      conv => whnf
      exact ⟨trivial, h⟩
    | 3, hk =>
      cases hk
      obtain rfl : w = 3 := hw
      conv => whnf
      refine ⟨trivial, c_bc ?_⟩
      conv => whnf
      exact ⟨trivial, h⟩
    | 4, hk =>
      cases hk
      obtain rfl : w = 4 := hw
      conv => whnf
      exact ⟨trivial, h⟩
    | 5, hk =>
      cases hk
      obtain rfl : w = 5 := hw
      conv => whnf
      refine ⟨trivial, c_open (x := x) ?_⟩
      conv => whnf
      exact ⟨trivial, h⟩
    | 6, hk =>
      cases hk
      obtain rfl : w = 6 := hw
      conv => whnf
      exact ⟨trivial, h⟩
    | 7, hk =>
      cases hk
      obtain rfl : w = 7 := hw
      conv => whnf
      exact ⟨trivial, h⟩
    | k + 8, hk => simp at hk
  · have n0 : ∀ j : Nat, j < 8 → ¬ w = nI j := by
      intro j hj e
      rw [e] at hw
      rcases hw with z | z
      · exact nI_pos (by omega) z
      · exact nI_ge (b := 8) hj (by decide) z
    rw [if_neg (show ¬ w = 0 from n0 0 (by omega)), if_neg (show ¬ w = 1 from n0 1 (by omega)), if_neg (show ¬ w = 2 from n0 2 (by omega)), if_neg (show ¬ w = 3 from n0 3 (by omega)), if_neg (show ¬ w = 4 from n0 4 (by omega)), if_neg (show ¬ w = 5 from n0 5 (by omega)), if_neg (show ¬ w = 6 from n0 6 (by omega)), if_neg (show ¬ w = 7 from n0 7 (by omega))] at h
    conv => whnf
    exact ⟨trivial, h⟩
end
section
/-! ===== the text: numbers, items ===== -/
def ch (T : zT) (p : Nat) : Int32 := if p < T.2.toNatClampNeg then T.1 p else 0
def okX (T : zT) : Prop := ∃ n : Nat, T.2 = nI n ∧ n ≤ 200 ∧ ∀ j, j < n → ∃ a : Nat, a < 128 ∧ T.1 j = nI a
theorem ch_char {T : zT} (h : okX T) (p : Nat) : ∃ a : Nat, a < 128 ∧ ch T p = nI a := by
  obtain ⟨n, h1, h2, h3⟩ := h
  unfold ch
  rw [h1, nI_clamp (by omega)]
  split
  · rename_i q
    exact h3 p q
  · exact ⟨0, by omega, rfl⟩
theorem ch_nar {T : zT} (h : okX T) (p : Nat) : narrow .char (.int (ch T p)) = .int (ch T p) ∧ fits .char (.int (ch T p)) = true := by
  obtain ⟨a, h1, h2⟩ := ch_char h p
  rw [h2]
  exact pk_charN (by omega)
theorem c_letter {E : pm_E} {Q : pm_Q} {x : zD} {m : zN} {p : Nat} (hT : okX (xT x)) (hp : p < 1000) (h : Q (some (.int (ch (xT x) p))) (mkH x m)) : Sm E n_X7_letterAt 0 (pl_entry 2 [.ref 5, .int (nI p)], [], mkH x m, 0, 0) Q := by
  have hn := ch_nar hT p
  obtain ⟨n, h1, h2, h3⟩ := hT
  refine pm_go (aX7_letterAt E) 100 rfl ?_
  conv => whnf
  refine ⟨fun q => absurd q (nI_pos (by omega)), fun _ => ?_⟩
  conv => whnf
  have hc : (xT x).2.toNatClampNeg = n := by rw [h1]; exact nI_clamp (by omega)
  refine ⟨fun q => ?_, fun q => ?_⟩
  · have q' : nI n ≤ nI p := by rw [← h1]; exact q
    have e : ch (xT x) p = 0 := by
      unfold ch
      rw [hc, if_neg (by have := (nI_leI (by omega) (by omega)).mp q'; omega)]
    rw [e] at h hn
    conv => whnf
    exact ⟨hn.1, h⟩
  · have q' : ¬ nI n ≤ nI p := by rw [← h1]; exact q
    have hlt : p < n := by
      rcases Nat.lt_or_ge p n with z | z
      · exact z
      · exact absurd (nI_le z (by omega)) q'
    have e : ch (xT x) p = (xT x).1 (nI p).toNatClampNeg := by
      unfold ch
      rw [hc, if_pos hlt, nI_clamp (by omega)]
    rw [e] at h hn
    conv => whnf
    refine ⟨vp_in_nI (by omega) (by decide), ?_⟩
    conv => whnf
    exact ⟨hn.1, h⟩
/-- figures from a place on: where they end, their number; none: too great -/
def pRun (c : Nat → Int32) : Nat → Nat → Int64 → Option (Nat × Int64)
  | 0, p, v => some (p, v)
  | k + 1, p, v => if 48 ≤ c p ∧ c p ≤ 57 then (if v ≤ (9223372036854775807 - (c p - 48).toInt64) / 10 then pRun c k (p + 1) (v * 10 + (c p - 48).toInt64) else none) else some (p, v)
theorem pRun_ge (c : Nat → Int32) : ∀ (k p : Nat) (v : Int64) (r : Nat × Int64), pRun c k p v = some r → p ≤ r.1 ∧ r.1 ≤ p + k
  | 0, p, v, r, h => by
    cases h
    exact ⟨Nat.le_refl _, Nat.le_refl _⟩
  | k + 1, p, v, r, h => by
    unfold pRun at h
    split at h
    · split at h
      · have := pRun_ge c k (p + 1) _ r h
        omega
      · cases h
    · cases h
      exact ⟨Nat.le_refl _, by omega⟩
/-- a number and the mark behind it -/
def pNM (c : Nat → Int32) (p : Nat) (mk : Int32) : Option (Nat × Int64) := match pRun c 19 p 0 with
  | none => none
  | some (q, v) => if q = p then none else if c q = mk then some (q + 1, v) else none
theorem pNM_ge {c : Nat → Int32} {p : Nat} {mk : Int32} {r : Nat × Int64} (h : pNM c p mk = some r) : p + 2 ≤ r.1 ∧ r.1 ≤ p + 20 := by
  unfold pNM at h
  split at h
  · cases h
  · rename_i q v hq
    have h1 := pRun_ge _ _ _ _ _ hq
    have h1 : p ≤ q ∧ q ≤ p + 19 := h1
    split at h
    · cases h
    · split at h
      · cases h
        exact ⟨by show p + 2 ≤ q + 1; omega, by show q + 1 ≤ p + 20; omega⟩
      · cases h
theorem l_num {E : pm_E} {Q : pm_Q} {x : zD} {m : zN} {i mk : Int32} {p0 : Nat} (hT : okX (xT x)) (hp0 : p0 < 500) (hi : vp_in i 4)
    (h1 : ∀ q v, pNM (ch (xT x)) p0 mk = some (q, v) → Q (some (.int 1)) (mkH (sI x (vp_updL (xI x).1 i.toNatClampNeg v, (xI x).2.1, nI q)) m)) (h0 : pNM (ch (xT x)) p0 mk = none → ∀ I', Q (some (.int 0)) (mkH (sI x I') m)) :
    ∀ (n k : Nat) (v : Int64) (o8 : Option Value), k + n = 19 → pRun (ch (xT x)) 19 p0 0 = pRun (ch (xT x)) n (p0 + k) v → Sm E n_X2_takeNumber 16 ([some (.ref 7), some (.ref 5), some (.int i), some (.int mk), some (.long v), none, some (.int (nI k)), some (.int (ch (xT x) (p0 + k))), o8], [], mkH (sI x ((xI x).1, (xI x).2.1, nI (p0 + k))) m, 0, 0) Q := by
  -- the end of the figures
  have fin : ∀ (k : Nat) (v : Int64) (o8 : Option Value) (N : Nat), N = 80 → k ≤ 19 → pRun (ch (xT x)) 19 p0 0 = some (p0 + k, v) → nP E n_X2_takeNumber tX2_takeNumber N (pm_at tX2_takeNumber 101) ([some (.ref 7), some (.ref 5), some (.int i), some (.int mk), some (.long v), none, some (.int (nI k)), some (.int (ch (xT x) (p0 + k))), o8], [], mkH (sI x ((xI x).1, (xI x).2.1, nI (p0 + k))) m, 0, 0) Q := by
    intro k v o8 N hN hk hr
    subst hN
    unfold pNM at h1 h0
    rw [hr] at h1 h0
    dsimp only at h1 h0
    conv => whnf
    refine ⟨fun q => ?_, fun q => ?_⟩
    · have hk0 : k = 0 := (nI_eq (b := 0) (by omega) (by omega)).mp q
      rw [if_pos (by omega)] at h0
      conv => whnf
      exact ⟨rfl, h0 rfl _⟩
    · have hk0 : ¬ k = 0 := fun z => q (by rw [z]; rfl)
      rw [if_neg (by omega)] at h0 h1
      conv => whnf
      refine ⟨fun q2 => ?_, fun q2 => ?_⟩
      · rw [if_pos q2] at h1
        have h1 := h1 _ _ rfl
        rw [nI_succ] at h1
        conv => whnf
        refine ⟨hi, ?_⟩
        conv => whnf
        exact ⟨rfl, h1⟩
      · rw [if_neg q2] at h0
        conv => whnf
        exact ⟨rfl, h0 rfl _⟩
  intro n
  induction n with
  | zero =>
    intro k v o8 hk hr
    refine pm_lp (aX2_takeNumber E) 83 16 rfl ?_
    conv => whnf
    refine ⟨fun _ => fin k v o8 _ rfl (by omega) hr, fun q => absurd (show nI 19 ≤ nI k from nI_le (by omega) (by omega)) q⟩
  | succ n ih =>
    intro k v o8 hk hr
    conv at hr => rhs; rw [pRun]
    by_cases d1 : 48 ≤ ch (xT x) (p0 + k)
    · by_cases d2 : ch (xT x) (p0 + k) ≤ 57
      · rw [if_pos ⟨d1, d2⟩] at hr
        refine pm_lp (aX2_takeNumber E) 100 16 rfl ?_
        conv => whnf
        refine ⟨fun q => absurd (show nI 19 ≤ nI k from q) (nI_ge (by omega) (by omega)), fun _ => ?_⟩
        conv => whnf
        refine ⟨fun q => absurd d1 (Int32.not_le.mpr q), fun _ => ?_⟩
        conv => whnf
        refine ⟨fun q => absurd d2 (Int32.not_le.mpr q), fun _ => ?_⟩
        conv => whnf
        refine ⟨by decide, ?_⟩
        conv => whnf
        refine ⟨fun q => ?_, fun q => ?_⟩
        · rw [if_pos q] at hr
          conv => whnf
          refine ⟨trivial, ?_⟩
          have e1 : nI (p0 + k) + 1 = nI (p0 + (k + 1)) := by rw [← nI_succ]; rfl
          refine (show ∀ z : Int32, z = nI (p0 + (k + 1)) → Sm E n_X7_letterAt 0 (pl_entry 2 [.ref 5, .int z], [], mkH (sI x ((xI x).1, (xI x).2.1, z)) m, 0, 0) _ from ?_) _ e1
          intro z hz
          subst hz
          refine c_letter (x := sI x ((xI x).1, (xI x).2.1, nI (p0 + (k + 1)))) hT (by omega) ?_
          conv => whnf
          refine ⟨trivial, ?_⟩
          have := ih (k + 1) _ (some (.int (ch (xT x) (p0 + k) - 48))) (by omega) hr
          rw [nI_succ] at this
          exact this
        · rw [if_neg q] at hr
          unfold pNM at h0
          rw [hr] at h0
          conv => whnf
          exact ⟨rfl, h0 rfl _⟩
      · rw [if_neg (fun z => d2 z.2)] at hr
        refine pm_lp (aX2_takeNumber E) 89 16 rfl ?_
        conv => whnf
        refine ⟨fun q => absurd (show nI 19 ≤ nI k from q) (nI_ge (by omega) (by omega)), fun _ => ?_⟩
        conv => whnf
        refine ⟨fun q => absurd d1 (Int32.not_le.mpr q), fun _ => ?_⟩
        conv => whnf
        refine ⟨fun _ => fin k v o8 _ rfl (by omega) hr, fun q => absurd (Int32.not_lt.mp q) d2⟩
    · rw [if_neg (fun z => d1 z.1)] at hr
      refine pm_lp (aX2_takeNumber E) 86 16 rfl ?_
      conv => whnf
      refine ⟨fun q => absurd (show nI 19 ≤ nI k from q) (nI_ge (by omega) (by omega)), fun _ => ?_⟩
      conv => whnf
      refine ⟨fun _ => fin k v o8 _ rfl (by omega) hr, fun q => absurd (Int32.not_lt.mp q) d1⟩
theorem c_num {E : pm_E} {Q : pm_Q} {x : zD} {m : zN} {i mk : Int32} {p : Nat} (hT : okX (xT x)) (hp : p < 500) (hi : vp_in i 4) (hb : (xI x).2.2 = nI p)
    (h1 : ∀ q v, pNM (ch (xT x)) p mk = some (q, v) → Q (some (.int 1)) (mkH (sI x (vp_updL (xI x).1 i.toNatClampNeg v, (xI x).2.1, nI q)) m)) (h0 : pNM (ch (xT x)) p mk = none → ∀ I', Q (some (.int 0)) (mkH (sI x I') m)) :
    Sm E n_X2_takeNumber 0 (pl_entry 9 [.ref 7, .ref 5, .int i, .int mk], [], mkH x m, 0, 0) Q := by
  obtain ⟨xt, ⟨nu, kd, bh⟩, xr⟩ := x
  obtain rfl : bh = nI p := hb
  refine pm_go (aX2_takeNumber E) 100 rfl ?_
  conv => whnf
  refine ⟨trivial, c_letter (x := (xt, (nu, kd, nI p), xr)) hT (by omega) ?_⟩
  conv => whnf
  refine ⟨trivial, ?_⟩
  exact l_num (x := (xt, (nu, kd, nI p), xr)) hT hp hi h1 h0 19 0 0 none (by omega) rfl
end
section
/-! ===== items of the text, and what is laid ===== -/
abbrev zX : Type := Int32 × Int64 × Int64 × Int64 × Int64
abbrev okD (a : Int64) : Prop := 0 ≤ a ∧ a ≤ 999999
abbrev okL (a : Int64) : Prop := 0 ≤ a ∧ a < 6
def pItem (c : Nat → Int32) (p : Nat) : Option (Nat × zX) :=
  if c p = 100 then (match pNM c (p + 1) 59 with
    | none => none
    | some (q, a) => if okD a then some (q, 100, a, 0, 0, 0) else none)
  else if c p = 109 then (match pNM c (p + 1) 44 with
    | none => none
    | some (q1, a) => match pNM c q1 44 with
      | none => none
      | some (q2, b) => match pNM c q2 59 with
        | none => none
        | some (q3, e) => if okL a ∧ okSpan b e then some (q3, 109, a, b, e, 0) else none)
  else if c p = 115 then (match pNM c (p + 1) 44 with
    | none => none
    | some (q1, a) => match pNM c q1 44 with
      | none => none
      | some (q2, b) => match pNM c q2 44 with
        | none => none
        | some (q3, e) => match pNM c q3 59 with
          | none => none
          | some (q4, d) => if okLeap a b e d then some (q4, 115, a, b, e, d) else none)
  else none
theorem pItem_ge {c : Nat → Int32} {p q : Nat} {t : zX} (h : pItem c p = some (q, t)) : p + 3 ≤ q ∧ q ≤ p + 81 := by
  unfold pItem at h
  split at h
  · split at h
    · cases h
    · rename_i q1 a h1
      have g1 := pNM_ge h1
      split at h
      · cases h
        dsimp only at g1
        omega
      · cases h
  split at h
  · split at h
    · cases h
    rename_i q1 a h1
    have g1 := pNM_ge h1
    split at h
    · cases h
    rename_i q2 b h2
    have g2 := pNM_ge h2
    split at h
    · cases h
    rename_i q3 e h3
    have g3 := pNM_ge h3
    split at h
    · cases h
      dsimp only at g1 g2 g3
      omega
    · cases h
  split at h
  · split at h
    · cases h
    rename_i q1 a h1
    have g1 := pNM_ge h1
    split at h
    · cases h
    rename_i q2 b h2
    have g2 := pNM_ge h2
    split at h
    · cases h
    rename_i q3 e h3
    have g3 := pNM_ge h3
    split at h
    · cases h
    rename_i q4 d h4
    have g4 := pNM_ge h4
    split at h
    · cases h
      dsimp only at g1 g2 g3 g4
      omega
    · cases h
  · cases h
theorem c_toldD {E : pm_E} {Q : pm_Q} {xt : zT} {xr : zS × zP × zA × zL} {nu : Nat → Int64} {bh : Int32} {m : zN} (h1 : okD (nu 0) → Q (some (.int 1)) (mkH (xt, (nu, 100, bh), xr) m)) (h0 : ¬ okD (nu 0) → Q (some (.int 0)) (mkH (xt, (nu, 100, bh), xr) m)) : Sm E n_X2_areNumbersTold 0 (pl_entry 2 [.ref 7], [], mkH (xt, (nu, 100, bh), xr) m, 0, 0) Q := by
  refine pm_go (aX2_areNumbersTold E) 100 rfl ?_
  conv => whnf
  refine ⟨fun z => absurd rfl z, fun _ => ?_⟩
  conv => whnf
  refine ⟨vp_in_nI (n := 0) (by decide) (by decide), ?_⟩
  conv => whnf
  refine ⟨trivial, c_isDrift (fun q => ?_) (fun q => ?_)⟩
  · conv => whnf
    exact ⟨rfl, h1 q⟩
  · conv => whnf
    exact ⟨rfl, h0 q⟩
theorem c_toldM {E : pm_E} {Q : pm_Q} {xt : zT} {xr : zS × zP × zA × zL} {nu : Nat → Int64} {bh : Int32} {m : zN} (h1 : okL (nu 0) ∧ okSpan (nu 1) (nu 2) → Q (some (.int 1)) (mkH (xt, (nu, 109, bh), xr) m)) (h0 : ¬ (okL (nu 0) ∧ okSpan (nu 1) (nu 2)) → Q (some (.int 0)) (mkH (xt, (nu, 109, bh), xr) m)) : Sm E n_X2_areNumbersTold 0 (pl_entry 2 [.ref 7], [], mkH (xt, (nu, 109, bh), xr) m, 0, 0) Q := by
  refine pm_go (aX2_areNumbersTold E) 100 rfl ?_
  conv => whnf
  refine ⟨fun _ => ?_, fun z => absurd z (by show ¬ (109 : Int32) = 100; decide)⟩
  conv => whnf
  refine ⟨fun z => absurd rfl z, fun _ => ?_⟩
  conv => whnf
  refine ⟨vp_in_nI (n := 0) (by decide) (by decide), ?_⟩
  conv => whnf
  refine ⟨trivial, c_isMaster (fun q => ?_) (fun q => ?_)⟩
  · conv => whnf
    refine ⟨fun z => absurd z (by decide), fun _ => ?_⟩
    conv => whnf
    refine ⟨vp_in_nI (n := 1) (by decide) (by decide), ?_⟩
    conv => whnf
    refine ⟨vp_in_nI (n := 2) (by decide) (by decide), ?_⟩
    conv => whnf
    refine ⟨trivial, c_isTold (fun q2 => ?_) (fun q2 => ?_)⟩
    · conv => whnf
      refine ⟨fun z => absurd z (by decide), fun _ => ?_⟩
      conv => whnf
      exact ⟨rfl, h1 ⟨q, q2⟩⟩
    · conv => whnf
      refine ⟨fun _ => ?_, fun z => absurd rfl z⟩
      conv => whnf
      exact ⟨rfl, h0 (fun z => q2 z.2)⟩
  · conv => whnf
    refine ⟨fun _ => ?_, fun z => absurd rfl z⟩
    conv => whnf
    exact ⟨rfl, h0 (fun z => q z.1)⟩
theorem c_toldS {E : pm_E} {Q : pm_Q} {xt : zT} {xr : zS × zP × zA × zL} {nu : Nat → Int64} {bh : Int32} {m : zN} (h1 : okLeap (nu 0) (nu 1) (nu 2) (nu 3) → Q (some (.int 1)) (mkH (xt, (nu, 115, bh), xr) m)) (h0 : ¬ okLeap (nu 0) (nu 1) (nu 2) (nu 3) → Q (some (.int 0)) (mkH (xt, (nu, 115, bh), xr) m)) : Sm E n_X2_areNumbersTold 0 (pl_entry 2 [.ref 7], [], mkH (xt, (nu, 115, bh), xr) m, 0, 0) Q := by
  refine pm_go (aX2_areNumbersTold E) 100 rfl ?_
  conv => whnf
  refine ⟨fun _ => ?_, fun z => absurd z (by show ¬ (115 : Int32) = 100; decide)⟩
  conv => whnf
  refine ⟨fun _ => ?_, fun z => absurd z (by show ¬ (115 : Int32) = 109; decide)⟩
  conv => whnf
  refine ⟨fun z => absurd rfl z, fun _ => ?_⟩
  conv => whnf
  refine ⟨vp_in_nI (n := 0) (by decide) (by decide), ?_⟩
  conv => whnf
  refine ⟨vp_in_nI (n := 1) (by decide) (by decide), ?_⟩
  conv => whnf
  refine ⟨vp_in_nI (n := 2) (by decide) (by decide), ?_⟩
  conv => whnf
  refine ⟨vp_in_nI (n := 3) (by decide) (by decide), ?_⟩
  conv => whnf
  refine ⟨trivial, c_isLeap (fun q => ?_) (fun q => ?_)⟩
  · conv => whnf
    refine ⟨fun z => absurd z (by decide), fun _ => ?_⟩
    conv => whnf
    exact ⟨rfl, h1 q⟩
  · conv => whnf
    refine ⟨fun _ => ?_, fun z => absurd rfl z⟩
    conv => whnf
    exact ⟨rfl, h0 q⟩
theorem c_toldN {E : pm_E} {Q : pm_Q} {xt : zT} {xr : zS × zP × zA × zL} {nu : Nat → Int64} {k bh : Int32} {m : zN} (n1 : ¬ k = 100) (n2 : ¬ k = 109) (n3 : ¬ k = 115) (h0 : Q (some (.int 0)) (mkH (xt, (nu, k, bh), xr) m)) : Sm E n_X2_areNumbersTold 0 (pl_entry 2 [.ref 7], [], mkH (xt, (nu, k, bh), xr) m, 0, 0) Q := by
  refine pm_go (aX2_areNumbersTold E) 100 rfl ?_
  conv => whnf
  refine ⟨fun _ => ?_, fun z => absurd z n1⟩
  conv => whnf
  refine ⟨fun _ => ?_, fun z => absurd z n2⟩
  conv => whnf
  refine ⟨fun _ => ?_, fun z => absurd z n3⟩
  conv => whnf
  exact ⟨rfl, h0⟩
def hmN (k : Int32) : Int32 := if k = 100 then 1 else if k = 109 then 3 else if k = 115 then 4 else 0
theorem c_hmN {E : pm_E} {Q : pm_Q} {x : zD} {m : zN} (h : Q (some (.int (hmN (xI x).2.1))) (mkH x m)) : Sm E n_X2_howManyNumbers 0 (pl_entry 1 [.ref 7], [], mkH x m, 0, 0) Q := by
  unfold hmN at h
  refine pm_go (aX2_howManyNumbers E) 100 rfl ?_
  conv => whnf
  refine ⟨fun q => ?_, fun q => ?_⟩
  · rw [if_neg q] at h
    conv => whnf
    refine ⟨fun q2 => ?_, fun q2 => ?_⟩
    · rw [if_neg q2] at h
      conv => whnf
      refine ⟨fun q3 => ?_, fun q3 => ?_⟩
      · rw [if_neg q3] at h
        conv => whnf
        exact ⟨trivial, h⟩
      · rw [if_pos q3] at h
        conv => whnf
        exact ⟨trivial, h⟩
    · rw [if_pos q2] at h
      conv => whnf
      exact ⟨trivial, h⟩
  · rw [if_pos q] at h
    conv => whnf
    exact ⟨trivial, h⟩
/-- one number taken, at the loop's head: i of w -/
theorem l_one {E : pm_E} {Q : pm_Q} {xt : zT} {xr : zS × zP × zA × zL} {nu : Nat → Int64} {k : Int32} {m : zN} {p pl i w : Nat} {mk : Int32} {o5 : Option Value} (hT : okX xt) (hp : p < 500) (hi : i < w) (hw : w ≤ 4) (hmk : mk = if i + 1 < w then 44 else 59)
    (h1 : ∀ q v, pNM (ch xt) p mk = some (q, v) → Sm E n_X2_takeFrom 24 ([some (.ref 7), some (.ref 5), some (.int (nI pl)), some (.int (nI w)), some (.int (nI (i + 1))), some (.int mk)], [], mkH (xt, (vp_updL nu i v, k, nI q), xr) m, 0, 0) Q)
    (h0 : pNM (ch xt) p mk = none → ∀ I' : zI, Q (some (.int 0)) (mkH (xt, I', xr) m)) :
    Sm E n_X2_takeFrom 24 ([some (.ref 7), some (.ref 5), some (.int (nI pl)), some (.int (nI w)), some (.int (nI i)), o5], [], mkH (xt, (nu, k, nI p), xr) m, 0, 0) Q := by
  have hcl : (nI i).toNatClampNeg = i := nI_clamp (by omega)
  by_cases hl : i + 1 < w
  · rw [if_pos hl] at hmk
    subst hmk
    refine pm_lp (aX2_takeFrom E) 100 24 rfl ?_
    conv => whnf
    refine ⟨fun q => absurd q (nI_ge hi (by omega)), fun _ => ?_⟩
    conv => whnf
    refine ⟨fun q => absurd (show nI 4 ≤ nI i from q) (nI_ge (by omega) (by decide)), fun _ => ?_⟩
    conv => whnf
    refine ⟨fun q => absurd (show nI w ≤ nI (i + 1) by rw [nI_succ]; exact q) (nI_ge hl (by omega)), fun _ => ?_⟩
    conv => whnf
    refine ⟨trivial, c_num (x := (xt, (nu, k, nI p), xr)) hT hp (vp_in_nI (by omega) (by decide)) rfl (fun q v hq => ?_) (fun hq I' => ?_)⟩
    · have h1 := h1 q v hq
      rw [nI_succ] at h1
      rw [hcl]
      conv => whnf
      refine ⟨fun _ => ?_, fun z => absurd z (by decide)⟩
      conv => whnf
      exact ⟨trivial, h1⟩
    · conv => whnf
      refine ⟨fun z => absurd rfl z, fun _ => ?_⟩
      conv => whnf
      exact ⟨rfl, h0 hq I'⟩
  · rw [if_neg hl] at hmk
    subst hmk
    refine pm_lp (aX2_takeFrom E) 100 24 rfl ?_
    conv => whnf
    refine ⟨fun q => absurd q (nI_ge hi (by omega)), fun _ => ?_⟩
    conv => whnf
    refine ⟨fun q => absurd (show nI 4 ≤ nI i from q) (nI_ge (by omega) (by decide)), fun _ => ?_⟩
    conv => whnf
    refine ⟨fun _ => ?_, fun q => absurd (show nI w ≤ nI i + 1 by rw [← nI_succ]; exact nI_le (by omega) (by omega)) q⟩
    conv => whnf
    refine ⟨trivial, c_num (x := (xt, (nu, k, nI p), xr)) hT hp (vp_in_nI (by omega) (by decide)) rfl (fun q v hq => ?_) (fun hq I' => ?_)⟩
    · have h1 := h1 q v hq
      rw [nI_succ] at h1
      rw [hcl]
      conv => whnf
      refine ⟨fun _ => ?_, fun z => absurd z (by decide)⟩
      conv => whnf
      exact ⟨trivial, h1⟩
    · conv => whnf
      refine ⟨fun z => absurd rfl z, fun _ => ?_⟩
      conv => whnf
      exact ⟨rfl, h0 hq I'⟩
/-- all numbers taken -/
theorem l_out {E : pm_E} {Q : pm_Q} {x : zD} {m : zN} {pl w : Nat} {o5 : Option Value} (hw : w ≤ 4) (h : Sm E n_X2_areNumbersTold 0 (pl_entry 2 [.ref 7], [], mkH x m, 0, 0) (fun r h' => ∃ v : Int32, (r = some (.int v) ∧ (v = 0 ∨ v = 1)) ∧ Q (some (.int v)) h')) : Sm E n_X2_takeFrom 24 ([some (.ref 7), some (.ref 5), some (.int (nI pl)), some (.int (nI w)), some (.int (nI w)), o5], [], mkH x m, 0, 0) Q := by
  refine pm_lp (aX2_takeFrom E) 100 24 rfl ?_
  conv => whnf
  refine ⟨fun _ => ?_, fun q => absurd (nI_le (Nat.le_refl w) (by omega)) q⟩
  conv => whnf
  refine ⟨trivial, h.mono ?_⟩
  rintro r t ⟨v, ⟨rfl, hv⟩, hq⟩
  conv => whnf
  rcases hv with rfl | rfl
  · exact ⟨rfl, hq⟩
  · exact ⟨rfl, hq⟩
/-- what an item's numbers are -/
def itR (nu : Nat → Int64) (t : zX) : Prop := (t.1 = 100 → nu 0 = t.2.1) ∧ (t.1 = 109 → nu 0 = t.2.1 ∧ nu 1 = t.2.2.1 ∧ nu 2 = t.2.2.2.1) ∧ (t.1 = 115 → nu 0 = t.2.1 ∧ nu 1 = t.2.2.1 ∧ nu 2 = t.2.2.2.1 ∧ nu 3 = t.2.2.2.2)
theorem c_take {E : pm_E} {Q : pm_Q} {x : zD} {m : zN} {p : Nat} (hT : okX (xT x)) (hp : p < 200)
    (h1 : ∀ q t nu, pItem (ch (xT x)) p = some (q, t) → itR nu t → Q (some (.int 1)) (mkH (sI x (nu, t.1, nI q)) m)) (h0 : pItem (ch (xT x)) p = none → ∀ I', Q (some (.int 0)) (mkH (sI x I') m)) :
    Sm E n_X2_takeFrom 0 (pl_entry 6 [.ref 7, .ref 5, .int (nI p)], [], mkH x m, 0, 0) Q := by
  obtain ⟨xt, ⟨nu, kd, bh⟩, xr⟩ := x
  have hfit := ch_nar hT p
  refine pm_go (aX2_takeFrom E) 100 rfl ?_
  conv => whnf
  refine ⟨trivial, c_letter (x := (xt, (nu, kd, bh), xr)) hT (by omega) ?_⟩
  conv => whnf
  refine ⟨hfit, ?_⟩
  conv => whnf
  refine ⟨trivial, c_hmN (x := (xt, (nu, ch xt p, nI p + 1), xr)) ?_⟩
  rw [← nI_succ]
  conv => whnf
  refine ⟨trivial, ?_⟩
  have h1 : ∀ q t nu, pItem (ch xt) p = some (q, t) → itR nu t → Q (some (.int 1)) (mkH (xt, (nu, t.1, nI q), xr) m) := h1
  have h0 : pItem (ch xt) p = none → ∀ I', Q (some (.int 0)) (mkH (xt, I', xr) m) := h0
  show Sm E n_X2_takeFrom 24 ([some (.ref 7), some (.ref 5), some (.int (nI p)), some (.int (hmN (ch xt p))), some (.int (nI 0)), none], [], mkH (xt, (nu, ch xt p, nI (p + 1)), xr) m, 0, 0) Q
  by_cases kD : ch xt p = 100
  · rw [show hmN (ch xt p) = nI 1 by rw [kD]; decide]
    unfold pItem at h1 h0
    rw [if_pos kD] at h1 h0
    refine l_one (mk := 59) hT (by omega) (by omega) (by omega) rfl (fun q v hq => ?_) (fun hq I' => h0 (by rw [hq]) I')
    rw [hq] at h1 h0
    dsimp only at h1 h0
    refine l_out (x := (xt, (vp_updL nu 0 v, ch xt p, nI q), xr)) (by omega) ?_
    rw [kD]
    refine c_toldD (fun z => ⟨1, ⟨rfl, Or.inr rfl⟩, ?_⟩) (fun z => ⟨0, ⟨rfl, Or.inl rfl⟩, ?_⟩)
    · have z : okD v := z
      rw [if_pos z] at h1
      exact h1 q _ _ rfl ⟨fun _ => rfl, fun e => absurd e (show ¬ (100 : Int32) = 109 by decide), fun e => absurd e (show ¬ (100 : Int32) = 115 by decide)⟩
    · have z : ¬ okD v := z
      rw [if_neg z] at h0
      exact h0 rfl _
  by_cases kM : ch xt p = 109
  · rw [show hmN (ch xt p) = nI 3 by rw [kM]; decide]
    unfold pItem at h1 h0
    rw [if_neg kD, if_pos kM] at h1 h0
    refine l_one (mk := 44) hT (by omega) (by omega) (by omega) rfl (fun q1 v1 hq1 => ?_) (fun hq I' => h0 (by rw [hq]) I')
    rw [hq1] at h1 h0
    dsimp only at h1 h0
    have g1 := pNM_ge hq1
    refine l_one (mk := 44) hT (by dsimp only at g1; omega) (by omega) (by omega) rfl (fun q2 v2 hq2 => ?_) (fun hq I' => h0 (by rw [hq]) I')
    rw [hq2] at h1 h0
    dsimp only at h1 h0
    have g2 := pNM_ge hq2
    refine l_one (mk := 59) hT (by dsimp only at g1 g2; omega) (by omega) (by omega) rfl (fun q3 v3 hq3 => ?_) (fun hq I' => h0 (by rw [hq]) I')
    rw [hq3] at h1 h0
    dsimp only at h1 h0
    refine l_out (x := (xt, (vp_updL (vp_updL (vp_updL nu 0 v1) 1 v2) 2 v3, ch xt p, nI q3), xr)) (by omega) ?_
    rw [kM]
    refine c_toldM (fun z => ⟨1, ⟨rfl, Or.inr rfl⟩, ?_⟩) (fun z => ⟨0, ⟨rfl, Or.inl rfl⟩, ?_⟩)
    · have z : okL v1 ∧ okSpan v2 v3 := z
      rw [if_pos z] at h1
      exact h1 q3 _ _ rfl ⟨fun e => absurd e (show ¬ (109 : Int32) = 100 by decide), fun _ => ⟨rfl, rfl, rfl⟩, fun e => absurd e (show ¬ (109 : Int32) = 115 by decide)⟩
    · have z : ¬ (okL v1 ∧ okSpan v2 v3) := z
      rw [if_neg z] at h0
      exact h0 rfl _
  by_cases kS : ch xt p = 115
  · rw [show hmN (ch xt p) = nI 4 by rw [kS]; decide]
    unfold pItem at h1 h0
    rw [if_neg kD, if_neg kM, if_pos kS] at h1 h0
    refine l_one (mk := 44) hT (by omega) (by omega) (by omega) rfl (fun q1 v1 hq1 => ?_) (fun hq I' => h0 (by rw [hq]) I')
    rw [hq1] at h1 h0
    dsimp only at h1 h0
    have g1 := pNM_ge hq1
    refine l_one (mk := 44) hT (by dsimp only at g1; omega) (by omega) (by omega) rfl (fun q2 v2 hq2 => ?_) (fun hq I' => h0 (by rw [hq]) I')
    rw [hq2] at h1 h0
    dsimp only at h1 h0
    have g2 := pNM_ge hq2
    refine l_one (mk := 44) hT (by dsimp only at g1 g2; omega) (by omega) (by omega) rfl (fun q3 v3 hq3 => ?_) (fun hq I' => h0 (by rw [hq]) I')
    rw [hq3] at h1 h0
    dsimp only at h1 h0
    have g3 := pNM_ge hq3
    refine l_one (mk := 59) hT (by dsimp only at g1 g2 g3; omega) (by omega) (by omega) rfl (fun q4 v4 hq4 => ?_) (fun hq I' => h0 (by rw [hq]) I')
    rw [hq4] at h1 h0
    dsimp only at h1 h0
    refine l_out (x := (xt, (vp_updL (vp_updL (vp_updL (vp_updL nu 0 v1) 1 v2) 2 v3) 3 v4, ch xt p, nI q4), xr)) (by omega) ?_
    rw [kS]
    refine c_toldS (fun z => ⟨1, ⟨rfl, Or.inr rfl⟩, ?_⟩) (fun z => ⟨0, ⟨rfl, Or.inl rfl⟩, ?_⟩)
    · have z : okLeap v1 v2 v3 v4 := z
      rw [if_pos z] at h1
      exact h1 q4 _ _ rfl ⟨fun e => absurd e (show ¬ (115 : Int32) = 100 by decide), fun e => absurd e (show ¬ (115 : Int32) = 109 by decide), fun _ => ⟨rfl, rfl, rfl, rfl⟩⟩
    · have z : ¬ okLeap v1 v2 v3 v4 := z
      rw [if_neg z] at h0
      exact h0 rfl _
  · rw [show hmN (ch xt p) = nI 0 by unfold hmN; rw [if_neg kD, if_neg kM, if_neg kS]; rfl]
    unfold pItem at h0
    rw [if_neg kD, if_neg kM, if_neg kS] at h0
    refine l_out (x := (xt, (nu, ch xt p, nI (p + 1)), xr)) (by omega) ?_
    exact c_toldN kD kM kS ⟨0, ⟨rfl, Or.inl rfl⟩, h0 rfl _⟩

def pFault (c : Nat → Int32) (n : Nat) : Nat → Nat → Int32
  | 0, _ => -4
  | k + 1, p => if n ≤ p then -4 else match pItem c p with
    | none => nI p
    | some (q, _) => pFault c n k q
theorem l_fault {E : pm_E} {Q : pm_Q} {x : zD} {m : zN} {n : Nat} (hT : okX (xT x)) (hn : (xT x).2 = nI n) (hn2 : n ≤ 200) : ∀ (k i p : Nat) (I : zI), i + k = 200 → p ≤ 300 → (∀ I', Q (some (.int (pFault (ch (xT x)) n k p))) (mkH (sI x I') m)) → Sm E n_X8_fault 4 ([some (.ref 4), some (.int (nI p)), some (.int (nI i))], [], mkH (sI x I) m, 0, 0) Q := by
  intro k
  induction k with
  | zero =>
    intro i p I hi hp h
    obtain rfl : i = 200 := by omega
    refine pm_lp (aX8_fault E) 100 4 rfl ?_
    conv => whnf
    refine ⟨fun _ => ?_, fun q => absurd (show (200 : Int32) ≤ nI 200 by decide) q⟩
    conv => whnf
    exact ⟨trivial, h I⟩
  | succ k ih =>
    intro i p I hi hp h
    rw [pFault] at h
    refine pm_lp (aX8_fault E) 100 4 rfl ?_
    conv => whnf
    refine ⟨fun q => absurd (show nI 200 ≤ nI i from q) (nI_ge (by omega) (by decide)), fun _ => ?_⟩
    conv => whnf
    refine ⟨fun q => ?_, fun q => ?_⟩
    · have q' : nI n ≤ nI p := by rw [← hn]; exact q
      rw [if_pos ((nI_leI (by omega) (by omega)).mp q')] at h
      conv => whnf
      exact ⟨trivial, h I⟩
    · have q' : ¬ nI n ≤ nI p := by rw [← hn]; exact q
      have hpn : ¬ n ≤ p := fun z => q' (nI_le z (by omega))
      rw [if_neg hpn] at h
      conv => whnf
      refine ⟨trivial, c_take (x := sI x I) hT (by omega) (fun q1 t nu hq hr => ?_) (fun hq I' => ?_)⟩
      · have hq : pItem (ch (xT x)) p = some (q1, t) := hq
        rw [hq] at h
        dsimp only at h
        have g := pItem_ge hq
        conv => whnf
        refine ⟨fun _ => ?_, fun z => absurd z (by decide)⟩
        conv => whnf
        refine ⟨trivial, ?_⟩
        have := ih (i + 1) q1 (nu, t.1, nI q1) (by omega) (by omega) h
        rw [nI_succ] at this
        exact this
      · have hq : pItem (ch (xT x)) p = none := hq
        rw [hq] at h
        conv => whnf
        refine ⟨fun z => absurd rfl z, fun _ => ?_⟩
        conv => whnf
        exact ⟨trivial, h I'⟩
abbrev dFault (T : zT) : Int32 := pFault (ch T) T.2.toNatClampNeg 200 0
theorem d_fault {E : pm_E} {Q : pm_Q} {x : zD} {m : zN} (hT : okX (xT x)) (h : ∀ I', Q (some (.int (dFault (xT x)))) (mkH (sI x I') m)) : Sm E n_X8_fault 0 (pl_entry 3 [.ref 4], [], mkH x m, 0, 0) Q := by
  obtain ⟨n, h1, h2, h3⟩ := id hT
  have hc : (xT x).2.toNatClampNeg = n := by rw [h1]; exact nI_clamp (by omega)
  unfold dFault at h
  rw [hc] at h
  refine pm_go (aX8_fault E) 100 rfl ?_
  conv => whnf
  refine ⟨trivial, ?_⟩
  exact l_fault (x := x) hT h1 h2 200 0 0 (xI x) (by omega) (by omega) h
def dItem (s : zS × zL) (t : zX) : zS × zL := if t.1 = 100 then ((((s.1.1.1, s.1.1.2.1, s.1.1.2.2.1, s.1.1.2.2.2.1, s.1.1.2.2.2.2.1, t.2.1.toInt32), s.1.2) : zS), s.2) else if t.1 = 109 then ((dHear s.1.1 t.2.1.toInt32 t.2.2.1 t.2.2.2.1 0, s.1.2), s.2) else (s.1, t.2.1, t.2.2.1, t.2.2.2.1, t.2.2.2.2)
theorem pItem_ok {c : Nat → Int32} {p q : Nat} {t : zX} (h : pItem c p = some (q, t)) : (t.1 = 100 ∧ okD t.2.1) ∨ (t.1 = 109 ∧ okL t.2.1 ∧ okSpan t.2.2.1 t.2.2.2.1) ∨ (t.1 = 115 ∧ okLeap t.2.1 t.2.2.1 t.2.2.2.1 t.2.2.2.2) := by
  unfold pItem at h
  split at h
  · split at h
    · cases h
    · split at h
      · rename_i z
        cases h
        exact Or.inl ⟨rfl, z⟩
      · cases h
  split at h
  · split at h
    · cases h
    split at h
    · cases h
    split at h
    · cases h
    split at h
    · rename_i z
      cases h
      exact Or.inr (Or.inl ⟨rfl, z⟩)
    · cases h
  split at h
  · split at h
    · cases h
    split at h
    · cases h
    split at h
    · cases h
    split at h
    · cases h
    split at h
    · rename_i z
      cases h
      exact Or.inr (Or.inr ⟨rfl, z⟩)
    · cases h
  · cases h
theorem okL_in {a : Int64} (h : okL a) : vp_in a.toInt32 6 := by
  have h1 := Int64.le_iff_toInt_le.mp h.1
  have h2 := Int64.lt_iff_toInt_lt.mp h.2
  have e0 : (0 : Int64).toInt = 0 := by decide
  have e6 : (6 : Int64).toInt = 6 := by decide
  rw [e0] at h1
  rw [e6] at h2
  refine vp_in_iff.mpr ?_
  rw [Int64.toInt_toInt32]
  rw [Int.bmod_eq_of_le (by omega) (by omega)]
  omega
theorem c_item {E : pm_E} {Q : pm_Q} {x : zD} {m : zN} {nu : Nat → Int64} {bh : Int32} {t : zX} (hok : (t.1 = 100 ∧ okD t.2.1) ∨ (t.1 = 109 ∧ okL t.2.1 ∧ okSpan t.2.2.1 t.2.2.2.1) ∨ (t.1 = 115 ∧ okLeap t.2.1 t.2.2.1 t.2.2.2.1 t.2.2.2.2)) (hr : itR nu t) (h : Q none (mkH (sI (sL (sS x (dItem (xS x, xL x) t).1) (dItem (xS x, xL x) t).2) (nu, t.1, bh)) m)) : Sm E n_X8_layItem 0 (pl_entry 2 [.ref 4], [], mkH (sI x (nu, t.1, bh)) m, 0, 0) Q := by
  obtain ⟨k, a, b, e, d⟩ := t
  obtain ⟨hr1, hr2, hr3⟩ := hr
  dsimp only at hok hr1 hr2 hr3 h ⊢
  rcases hok with ⟨rfl, z⟩ | ⟨rfl, z⟩ | ⟨rfl, z⟩
  · obtain rfl := hr1 rfl
    refine pm_go (aX8_layItem E) 100 rfl ?_
    conv => whnf
    refine ⟨fun z => absurd rfl z, fun _ => ?_⟩
    conv => whnf
    refine ⟨vp_in_nI (n := 0) (by decide) (by decide), ?_⟩
    conv => whnf
    exact ⟨trivial, h⟩
  · obtain ⟨rfl, rfl, rfl⟩ := hr2 rfl
    refine pm_go (aX8_layItem E) 100 rfl ?_
    conv => whnf
    refine ⟨fun _ => ?_, fun z => absurd z (show ¬ (109 : Int32) = 100 by decide)⟩
    conv => whnf
    refine ⟨fun z => absurd rfl z, fun _ => ?_⟩
    conv => whnf
    refine ⟨vp_in_nI (n := 0) (by decide) (by decide), ?_⟩
    conv => whnf
    refine ⟨vp_in_nI (n := 1) (by decide) (by decide), ?_⟩
    conv => whnf
    refine ⟨vp_in_nI (n := 2) (by decide) (by decide), ?_⟩
    conv => whnf
    refine ⟨trivial, c_hear (x := sI x (nu, 109, bh)) (okL_in z.1) ?_⟩
    conv => whnf
    exact ⟨trivial, h⟩
  · obtain ⟨rfl, rfl, rfl, rfl⟩ := hr3 rfl
    refine pm_go (aX8_layItem E) 100 rfl ?_
    conv => whnf
    refine ⟨fun _ => ?_, fun z => absurd z (show ¬ (115 : Int32) = 100 by decide)⟩
    conv => whnf
    refine ⟨fun _ => ?_, fun z => absurd z (show ¬ (115 : Int32) = 109 by decide)⟩
    conv => whnf
    refine ⟨vp_in_nI (n := 0) (by decide) (by decide), ?_⟩
    conv => whnf
    refine ⟨vp_in_nI (n := 1) (by decide) (by decide), ?_⟩
    conv => whnf
    refine ⟨vp_in_nI (n := 2) (by decide) (by decide), ?_⟩
    conv => whnf
    refine ⟨vp_in_nI (n := 3) (by decide) (by decide), ?_⟩
    conv => whnf
    refine ⟨trivial, c_set (x := sI x (nu, 115, bh)) ?_⟩
    conv => whnf
    exact ⟨trivial, h⟩
def dItems (c : Nat → Int32) (n : Nat) : Nat → Nat → zS × zL → zS × zL
  | 0, _, s => s
  | k + 1, p, s => if n ≤ p then s else match pItem c p with
    | none => s
    | some (q, t) => dItems c n k q (dItem s t)
theorem l_items {E : pm_E} {Q : pm_Q} {x : zD} {m : zN} {n : Nat} (hT : okX (xT x)) (hn : (xT x).2 = nI n) (hn2 : n ≤ 200) : ∀ (k i p : Nat) (I : zI) (s : zS × zL), i + k = 200 → p ≤ 300 → (∀ I', Q none (mkH (sI (sL (sS x (dItems (ch (xT x)) n k p s).1) (dItems (ch (xT x)) n k p s).2) I') m)) → Sm E n_X8_layItems 26 ([some (.ref 4), some (.int (nI p)), some (.int (nI i))], [], mkH (sI (sL (sS x s.1) s.2) I) m, 0, 0) Q := by
  intro k
  induction k with
  | zero =>
    intro i p I s hi hp h
    obtain rfl : i = 200 := by omega
    refine pm_lp (aX8_layItems E) 100 26 rfl ?_
    conv => whnf
    refine ⟨fun _ => ?_, fun q => absurd (show (200 : Int32) ≤ nI 200 by decide) q⟩
    conv => whnf
    exact ⟨trivial, h I⟩
  | succ k ih =>
    intro i p I s hi hp h
    rw [dItems] at h
    refine pm_lp (aX8_layItems E) 100 26 rfl ?_
    conv => whnf
    refine ⟨fun q => absurd (show nI 200 ≤ nI i from q) (nI_ge (by omega) (by decide)), fun _ => ?_⟩
    conv => whnf
    refine ⟨fun q => ?_, fun q => ?_⟩
    · have q' : nI n ≤ nI p := by rw [← hn]; exact q
      rw [if_pos ((nI_leI (by omega) (by omega)).mp q')] at h
      conv => whnf
      exact ⟨trivial, h I⟩
    · have q' : ¬ nI n ≤ nI p := by rw [← hn]; exact q
      have hpn : ¬ n ≤ p := fun z => q' (nI_le z (by omega))
      rw [if_neg hpn] at h
      conv => whnf
      refine ⟨trivial, c_take (x := sI (sL (sS x s.1) s.2) I) hT (by omega) (fun q1 t nu hq hr => ?_) (fun hq I' => ?_)⟩
      · have hq : pItem (ch (xT x)) p = some (q1, t) := hq
        rw [hq] at h
        dsimp only at h
        have g := pItem_ge hq
        conv => whnf
        refine ⟨fun _ => ?_, fun z => absurd z (by decide)⟩
        conv => whnf
        refine ⟨trivial, c_item (x := sL (sS x s.1) s.2) (nu := nu) (bh := nI q1) (t := t) (pItem_ok hq) hr ?_⟩
        conv => whnf
        refine ⟨trivial, ?_⟩
        have := ih (i + 1) q1 (nu, t.1, nI q1) (dItem s t) (by omega) (by omega) h
        rw [nI_succ] at this
        exact this
      · have hq : pItem (ch (xT x)) p = none := hq
        rw [hq] at h
        conv => whnf
        refine ⟨fun z => absurd rfl z, fun _ => ?_⟩
        conv => whnf
        exact ⟨trivial, h I'⟩
theorem c_mclear {E : pm_E} {Q : pm_Q} {x : zD} {m : zN} (h : Q none (mkH (sS x (((xS x).1.1, (xS x).1.2.1, (xS x).1.2.2.1, 0, 0, 1000), (xS x).2)) m)) : Sm E n_X4_clear 0 (pl_entry 1 [.ref 10], [], mkH x m, 0, 0) Q := by
  refine pm_go (aX4_clear E) 100 rfl ?_
  conv => whnf
  exact ⟨trivial, h⟩
theorem c_cclear {E : pm_E} {Q : pm_Q} {x : zD} {m : zN} (h : Q none (mkH (sC x ((xC x).1, (xC x).2.1, (xC x).2.2.1, (xC x).2.2.2.1, (xC x).2.2.2.2.1, 0, 0)) m)) : Sm E n_X1_clear 0 (pl_entry 1 [.ref 14], [], mkH x m, 0, 0) Q := by
  refine pm_go (aX1_clear E) 100 rfl ?_
  conv => whnf
  exact ⟨trivial, h⟩
def dClear (S : zS) : zS := ((S.1.1, S.1.2.1, S.1.2.2.1, 0, 0, 1000), (S.2.1.1, S.2.1.2.1, S.2.1.2.2.1, S.2.1.2.2.2.1, S.2.1.2.2.2.2.1, 0, 0), 0)
theorem c_sclear {E : pm_E} {Q : pm_Q} {x : zD} {m : zN} (h : Q none (mkH (sS x (dClear (xS x))) m)) : Sm E n_X6_clear 0 (pl_entry 1 [.ref 9], [], mkH x m, 0, 0) Q := by
  refine pm_go (aX6_clear E) 100 rfl ?_
  conv => whnf
  refine ⟨trivial, c_mclear (x := x) ?_⟩
  conv => whnf
  refine ⟨trivial, c_cclear (x := sS x (((xS x).1.1, (xS x).1.2.1, (xS x).1.2.2.1, 0, 0, 1000), (xS x).2)) ?_⟩
  conv => whnf
  exact ⟨trivial, h⟩
theorem c_lclear {E : pm_E} {Q : pm_Q} {x : zD} {m : zN} (h : Q none (mkH (sL x (1000, 1, 100, 0)) m)) : Sm E n_X3_clear 0 (pl_entry 1 [.ref 91], [], mkH x m, 0, 0) Q := by
  refine pm_go (aX3_clear E) 100 rfl ?_
  conv => whnf
  refine ⟨trivial, c_set (x := x) ?_⟩
  conv => whnf
  exact ⟨trivial, h⟩
abbrev dLaid (T : zT) (S : zS) : zS × zL := dItems (ch T) T.2.toNatClampNeg 200 0 (dClear S, 1000, 1, 100, 0)
def dLays (x : zD) : zD := sP (sL (sS x (dLaid (xT x) (xS x)).1) (dLaid (xT x) (xS x)).2) ((xP x).1, (xP x).2.1, 0)
theorem d_layItems {E : pm_E} {Q : pm_Q} {x : zD} {m : zN} (hT : okX (xT x)) (h : ∀ I', Q none (mkH (sI (dLays x) I') m)) : Sm E n_X8_layItems 0 (pl_entry 3 [.ref 4], [], mkH x m, 0, 0) Q := by
  obtain ⟨n, h1, h2, h3⟩ := id hT
  have hc : (xT x).2.toNatClampNeg = n := by rw [h1]; exact nI_clamp (by omega)
  unfold dLays dLaid at h
  rw [hc] at h
  refine pm_go (aX8_layItems E) 100 rfl ?_
  conv => whnf
  refine ⟨trivial, c_sclear (x := x) ?_⟩
  conv => whnf
  refine ⟨trivial, c_lclear (x := sP (sS x (dClear (xS x))) ((xP x).1, (xP x).2.1, 0)) ?_⟩
  conv => whnf
  refine ⟨trivial, ?_⟩
  exact l_items (x := sP x ((xP x).1, (xP x).2.1, 0)) hT h1 h2 200 0 0 (xI x) (dClear (xS x), 1000, 1, 100, 0) (by omega) (by omega) h
def dLay (x : zD) : Int32 × zD := if dFault (xT x) = -4 then (nHd (xS (dLays x)).1, dLays x) else (-2, x)
theorem d_lay {E : pm_E} {Q : pm_Q} {x : zD} {m : zN} (hT : okX (xT x)) (h : ∀ I', Q (some (.int (dLay x).1)) (mkH (sI (dLay x).2 I') m)) : Sm E n_X8_lay 0 (pl_entry 1 [.ref 4], [], mkH x m, 0, 0) Q := by
  unfold dLay at h
  refine pm_go (aX8_lay E) 100 rfl ?_
  conv => whnf
  refine ⟨trivial, d_fault (x := x) hT (fun I' => ?_)⟩
  conv => whnf
  refine ⟨fun q => ?_, fun q => ?_⟩
  · rw [if_pos q] at h
    conv => whnf
    refine ⟨trivial, d_layItems (x := sI x I') hT (fun I2 => ?_)⟩
    conv => whnf
    refine ⟨trivial, c_many (x := sI (dLays (sI x I')) I2) ?_⟩
    conv => whnf
    exact ⟨trivial, h I2⟩
  · rw [if_neg q] at h
    conv => whnf
    exact ⟨trivial, h I'⟩
end
section
/-! ===== the reference: places of its cells, the relation to the class's ===== -/
abbrev zF : Type := (Nat → Int64) × (Nat → Int64) × Int32 × Int32 × Int64 × Int64
abbrev mN (m : zN) : Nat → Int64 := m.1
abbrev mP (m : zN) : Nat → Int64 := m.2.1
abbrev mK (m : zN) : Int32 := m.2.2.1
abbrev mX (m : zN) : Nat → Int32 := m.2.2.2.1
abbrev mZ (m : zN) : Int32 := m.2.2.2.2.1
abbrev mAt (m : zN) : Int32 := m.2.2.2.2.2.1
abbrev mM (m : zN) : Nat → Int64 := m.2.2.2.2.2.2.1
abbrev mR (m : zN) : Nat → Int64 := m.2.2.2.2.2.2.2.1
abbrev mL (m : zN) : Nat → Int64 := m.2.2.2.2.2.2.2.2.1
abbrev mF (m : zN) : zF := m.2.2.2.2.2.2.2.2.2
def tN (m : zN) (f : Nat → Int64) : zN := (f, m.2)
def tP (m : zN) (f : Nat → Int64) (k : Int32) : zN := (m.1, f, k, m.2.2.2)
def tX (m : zN) (f : Nat → Int32) (z : Int32) : zN := (m.1, m.2.1, m.2.2.1, f, z, m.2.2.2.2.2)
def tA (m : zN) (a : Int32) : zN := (m.1, m.2.1, m.2.2.1, m.2.2.2.1, m.2.2.2.2.1, a, m.2.2.2.2.2.2)
def tM (m : zN) (f : Nat → Int64) : zN := (m.1, m.2.1, m.2.2.1, m.2.2.2.1, m.2.2.2.2.1, m.2.2.2.2.2.1, f, m.2.2.2.2.2.2.2)
def tR (m : zN) (f : Nat → Int64) : zN := (m.1, m.2.1, m.2.2.1, m.2.2.2.1, m.2.2.2.2.1, m.2.2.2.2.2.1, m.2.2.2.2.2.2.1, f, m.2.2.2.2.2.2.2.2)
def tL (m : zN) (f : Nat → Int64) : zN := (m.1, m.2.1, m.2.2.1, m.2.2.2.1, m.2.2.2.2.1, m.2.2.2.2.2.1, m.2.2.2.2.2.2.1, m.2.2.2.2.2.2.2.1, f, m.2.2.2.2.2.2.2.2.2)
def tF (m : zN) (F : zF) : zN := (m.1, m.2.1, m.2.2.1, m.2.2.2.1, m.2.2.2.2.1, m.2.2.2.2.2.1, m.2.2.2.2.2.2.1, m.2.2.2.2.2.2.2.1, m.2.2.2.2.2.2.2.2.1, F)
/-- a state's bits -/
def hw (w1 w2 i : Nat) : Bool := w1.testBit i && !w2.testBit i
/-- what the class's state may be, behind k calls -/
def WM (k : Nat) (M : zM) (loc : Nat) : Prop := ∃ dr w1 w2 : Nat, M.2.2.2.2.2 = nI dr ∧ dr ≤ 999999 ∧ M.2.2.2.1 = nI w1 ∧ w1 < 64 ∧ M.2.2.2.2.1 = nI w2 ∧ w2 < 64 ∧ loc ≤ 5000 * k ∧ ∀ i, i < 6 → w1.testBit i = true → okSpan (M.1 i) (M.2.1 i) ∧ ∃ u : Nat, u ≤ loc ∧ M.2.2.1 i = nI u
def WC (C : zC) : Prop := ∃ d s : Nat, d ≤ s ∧ s ≤ 16 ∧ cSz C = nI s ∧ cDn C = nI d ∧ (∀ c, c < s → (∃ a : Nat, a < 6 ∧ C.1 c = nI a) ∧ (∃ b : Nat, b ≤ 999999 ∧ C.2.1 c = nI b) ∧ (∃ u : Nat, u < 2 ^ 31 ∧ C.2.2.2.1 c = nI u) ∧ -1125899906842624 ≤ (C.2.2.1 c).toInt ∧ (C.2.2.1 c).toInt ≤ 1100000000000 + c) ∧ (∀ c, c + 1 < s → (C.2.2.1 c).toInt < (C.2.2.1 (c + 1)).toInt) ∧ ∀ c, c < d → ∃ u : Nat, u < 2 ^ 31 ∧ C.2.2.2.2.1 c = nI u
def WF (k : Nat) (S : zS) : Prop := WC S.2.1 ∧ ∃ loc : Nat, S.2.2 = nI loc ∧ WM k S.1 loc
/-- the reference's row of a state -/
def RS (S : zS) (f : Nat → Int64) : Prop :=
  (f 0 = S.2.2.toInt64 ∧ f 1 = S.1.2.2.2.2.2.toInt64 ∧ f 2 = S.1.2.2.2.2.1.toInt64 ∧ f 3 = (cSz S.2.1).toInt64) ∧
  (∀ i, i < 6 → (f (4 + 4 * i) = if ((S.1.2.2.2.1 >>> (nI i &&& 31)) &&& 1 = 1) then 1 else 0) ∧ ((S.1.2.2.2.1 >>> (nI i &&& 31)) &&& 1 = 1 → f (4 + 4 * i + 1) = S.1.1 i ∧ f (4 + 4 * i + 2) = S.1.2.1 i ∧ f (4 + 4 * i + 3) = (S.1.2.2.1 i).toInt64)) ∧
  (∀ c, c < (cSz S.2.1).toNatClampNeg → f (28 + 5 * c) = (S.2.1.1 c).toInt64 ∧ f (28 + 5 * c + 1) = (S.2.1.2.1 c).toInt64 ∧ f (28 + 5 * c + 2) = S.2.1.2.2.1 c ∧ f (28 + 5 * c + 3) = (S.2.1.2.2.2.1 c).toInt64 ∧ f (28 + 5 * c + 4) = if c < (cDn S.2.1).toNatClampNeg then (S.2.1.2.2.2.2.1 c).toInt64 else -4)
theorem WC.ok {C : zC} (h : WC C) : okC C := by
  obtain ⟨d, s, h1, h2, h3, h4, -⟩ := h
  exact ⟨d, s, h1, h2, h3, h4⟩
-- places in the rows
theorem ix4 {i : Nat} : (4 : Int32) + 4 * nI i = nI (4 + 4 * i) := by
  rw [show (4 : Int32) = nI 4 from rfl, pk_mul, nI_add]
theorem ix4k {i k : Nat} : (4 : Int32) + 4 * nI i + nI k = nI (4 + 4 * i + k) := by
  rw [ix4, nI_add]
theorem ix28 {c : Nat} : (28 : Int32) + 5 * nI c = nI (28 + 5 * c) := by
  rw [show (5 : Int32) = nI 5 from rfl, show (28 : Int32) = nI 28 from rfl, pk_mul, nI_add]
theorem ix28k {c k : Nat} : (28 : Int32) + 5 * nI c + nI k = nI (28 + 5 * c + k) := by
  rw [ix28, nI_add]
theorem cl {n : Nat} (h : n < 1000) : (nI n).toNatClampNeg = n := nI_clamp (by omega)
theorem inA {n N : Nat} (h : n < N) (hN : N < 1000) : vp_in (nI n) N := vp_in_nI h (by omega)
-- bits, by all their cases
theorem bit32 : ∀ w, w < 64 → ∀ i, i < 6 → ((nI w >>> (nI i &&& 31)) &&& 1 = 1 ↔ w.testBit i = true) := by decide +kernel
theorem bit64 : ∀ w, w < 64 → ∀ i, i < 6 → ((nI w).toInt64 >>> ((nI i).toInt64 &&& 63)) &&& 1 = (if w.testBit i = true then 1 else 0) := by decide +kernel
theorem bitH : ∀ w1, w1 < 64 → ∀ w2, w2 < 64 → ∀ i, i < 6 → (((nI w1 &&& (nI w2 ^^^ (-1))) >>> (nI i &&& 31)) &&& 1 = 1 ↔ hw w1 w2 i = true) := by decide +kernel
def cH (w1 w2 : Nat) : Nat → Nat
  | 0 => 0
  | i + 1 => if hw w1 w2 i = true then cH w1 w2 i + 1 else cH w1 w2 i
theorem bitN : ∀ w1, w1 < 64 → ∀ w2, w2 < 64 → bc (nI w1 &&& (nI w2 ^^^ (-1))) = nI (cH w1 w2 6) := by decide +kernel
theorem m_within {E : pm_E} {Q : pm_Q} {h : List va_E} {v a b : Int64} (h1 : a ≤ v ∧ v ≤ b → Q (some (.int 1)) h) (h0 : ¬ (a ≤ v ∧ v ≤ b) → Q (some (.int 0)) h) : Sm E n_X9_within 0 (pl_entry 6 [.long v, .long a, .long b], [], h, 0, 0) Q := by
  refine pm_go (aX9_within E) 100 rfl ?_
  conv => whnf
  refine ⟨fun q => ?_, fun q => ?_⟩
  · conv => whnf
    exact ⟨rfl, h0 (fun z => Int64.not_lt.mpr z.1 q)⟩
  · conv => whnf
    refine ⟨fun q2 => ?_, fun q2 => ?_⟩
    · conv => whnf
      exact ⟨rfl, h0 (fun z => Int64.not_lt.mpr z.2 q2)⟩
    · conv => whnf
      exact ⟨rfl, h1 ⟨Int64.not_lt.mp q, Int64.not_lt.mp q2⟩⟩
theorem m_isMaster {E : pm_E} {Q : pm_Q} {h : List va_E} {i : Int32} (h1 : 0 ≤ i.toInt64 ∧ i.toInt64 ≤ 5 → Q (some (.int 1)) h) (h0 : ¬ (0 ≤ i.toInt64 ∧ i.toInt64 ≤ 5) → Q (some (.int 0)) h) : Sm E n_X9_isMaster 0 (pl_entry 1 [.int i], [], h, 0, 0) Q := by
  refine pm_go (aX9_isMaster E) 100 rfl ?_
  conv => whnf
  refine ⟨trivial, m_within (fun q => ?_) (fun q => ?_)⟩
  · conv => whnf
    exact ⟨rfl, h1 q⟩
  · conv => whnf
    exact ⟨rfl, h0 q⟩
theorem m_isStruck {E : pm_E} {Q : pm_Q} {y : zD} {m : zN} {w2 i : Nat} (hi : i < 6) (h2 : mN m 2 = (nI w2).toInt64) (hw2 : w2 < 64) (h1 : w2.testBit i = true → Q (some (.int 1)) (mkH y m)) (h0 : ¬ w2.testBit i = true → Q (some (.int 0)) (mkH y m)) : Sm E n_X9_isStruck 0 (pl_entry 2 [.ref 92, .int (nI i)], [], mkH y m, 0, 0) Q := by
  have hb := bit64 w2 hw2 i hi
  refine pm_go (aX9_isStruck E) 100 rfl ?_
  conv => whnf
  refine ⟨inA (n := 2) (by decide) (by decide), ?_⟩
  conv => whnf
  refine ⟨fun q => ?_, fun q => ?_⟩
  · have q' : ¬ ((mN m 2) >>> ((nI i).toInt64 &&& 63)) &&& 1 = 1 := q
    rw [h2, hb] at q'
    conv => whnf
    refine ⟨rfl, h0 (fun z => q' (by rw [if_pos z]))⟩
  · have q' : ((mN m 2) >>> ((nI i).toInt64 &&& 63)) &&& 1 = 1 := q
    rw [h2, hb] at q'
    conv => whnf
    refine ⟨rfl, h1 ?_⟩
    by_cases z : w2.testBit i = true
    · exact z
    · rw [if_neg z] at q'
      exact absurd q' (by decide)
theorem hB_hw {k loc : Nat} {M : zM} (hW : WM k M loc) : ∃ w1 w2 : Nat, w1 < 64 ∧ w2 < 64 ∧ M.2.2.2.1 = nI w1 ∧ M.2.2.2.2.1 = nI w2 ∧ (∀ i, i < 6 → (hB M (nI i) ↔ hw w1 w2 i = true)) ∧ nHd M = nI (cH w1 w2 6) := by
  obtain ⟨dr, w1, w2, -, -, h1, hw1, h2, hw2, -⟩ := hW
  refine ⟨w1, w2, hw1, hw2, h1, h2, fun i hi => ?_, ?_⟩
  · show ((M.2.2.2.1 &&& (M.2.2.2.2.1 ^^^ (-1))) >>> (nI i &&& 31)) &&& 1 = 1 ↔ _
    rw [h1, h2]
    exact bitH w1 hw1 w2 hw2 i hi
  · show bc (M.2.2.2.1 &&& (M.2.2.2.2.1 ^^^ (-1))) = _
    rw [h1, h2]
    exact bitN w1 hw1 w2 hw2
theorem m_isHeard {E : pm_E} {Q : pm_Q} {y : zD} {m : zN} {k loc i : Nat} {S : zS} (hi : i < 6) (hW : WM k S.1 loc) (hR : RS S (mN m)) (h1 : hB S.1 (nI i) → Q (some (.int 1)) (mkH y m)) (h0 : ¬ hB S.1 (nI i) → Q (some (.int 0)) (mkH y m)) : Sm E n_X9_isHeard 0 (pl_entry 2 [.ref 92, .int (nI i)], [], mkH y m, 0, 0) Q := by
  obtain ⟨w1, w2, hw1, hw2, e1, e2, hh, -⟩ := hB_hw hW
  have ht := (hR.2.1 i hi).1
  rw [e1] at ht
  have hb := bit32 w1 hw1 i hi
  have e4 : ((4 : Int32) + 4 * nI i).toNatClampNeg = 4 + 4 * i := by rw [ix4]; exact cl (by omega)
  refine pm_go (aX9_isHeard E) 100 rfl ?_
  conv => whnf
  refine ⟨by rw [ix4]; exact inA (by omega) (by decide), ?_⟩
  conv => whnf
  refine ⟨fun q => ?_, fun q => ?_⟩
  · have q' : ¬ mN m ((4 : Int32) + 4 * nI i).toNatClampNeg = 1 := q
    rw [e4, ht] at q'
    conv => whnf
    refine ⟨rfl, h0 (fun z => q' ?_)⟩
    have := (hh i hi).mp z
    unfold hw at this
    rw [Bool.and_eq_true] at this
    rw [if_pos (hb.mpr this.1)]
  · have q' : mN m ((4 : Int32) + 4 * nI i).toNatClampNeg = 1 := q
    rw [e4, ht] at q'
    have t1 : w1.testBit i = true := by
      by_cases z : (nI w1 >>> (nI i &&& 31)) &&& 1 = 1
      · exact hb.mp z
      · rw [if_neg z] at q'
        exact absurd q' (by decide)
    conv => whnf
    refine ⟨trivial, m_isStruck hi (by rw [hR.1.2.2.1, e2]) hw2 (fun z => ?_) (fun z => ?_)⟩
    · conv => whnf
      refine ⟨fun _ => ?_, fun z => absurd z (by decide)⟩
      conv => whnf
      refine ⟨rfl, h0 (fun u => ?_)⟩
      have := (hh i hi).mp u
      unfold hw at this
      rw [z] at this
      simp at this
    · conv => whnf
      refine ⟨fun z => absurd rfl z, fun _ => ?_⟩
      conv => whnf
      refine ⟨rfl, h1 ((hh i hi).mpr ?_)⟩
      unfold hw
      rw [t1]
      simp [z]
theorem l_many {E : pm_E} {Q : pm_Q} {y : zD} {m : zN} {k loc : Nat} {S : zS} (hW : WM k S.1 loc) (hR : RS S (mN m)) (w1 w2 : Nat) (hh : ∀ i, i < 6 → (hB S.1 (nI i) ↔ hw w1 w2 i = true)) (h : Q (some (.int (nI (cH w1 w2 6)))) (mkH y m)) : ∀ (n i : Nat), i + n = 6 → Sm E n_X9_heardMany 4 ([some (.ref 92), some (.int (nI (cH w1 w2 i))), some (.int (nI i))], [], mkH y m, 0, 0) Q := by
  intro n
  induction n with
  | zero =>
    intro i hi
    obtain rfl : i = 6 := by omega
    refine pm_lp (aX9_heardMany E) 100 4 rfl ?_
    conv => whnf
    refine ⟨fun _ => ?_, fun q => absurd (show (6 : Int32) ≤ nI 6 by decide) q⟩
    conv => whnf
    exact ⟨trivial, h⟩
  | succ n ih =>
    intro i hi
    have nxt := ih (i + 1) (by omega)
    rw [cH, nI_succ] at nxt
    refine pm_lp (aX9_heardMany E) 100 4 rfl ?_
    conv => whnf
    refine ⟨fun q => absurd (show nI 6 ≤ nI i from q) (nI_ge (by omega) (by decide)), fun _ => ?_⟩
    conv => whnf
    refine ⟨trivial, m_isHeard (by omega) hW hR (fun q => ?_) (fun q => ?_)⟩
    · rw [if_pos ((hh i (by omega)).mp q), nI_succ] at nxt
      conv => whnf
      refine ⟨fun z => absurd z (by decide), fun _ => ?_⟩
      conv => whnf
      exact ⟨trivial, nxt⟩
    · rw [if_neg (fun z => q ((hh i (by omega)).mpr z))] at nxt
      conv => whnf
      refine ⟨fun _ => ?_, fun z => absurd rfl z⟩
      conv => whnf
      refine ⟨trivial, ?_⟩
      have e : nI (cH w1 w2 i) + 0 = nI (cH w1 w2 i) := Int32.add_zero _
      rw [← e] at nxt
      exact nxt
theorem m_many {E : pm_E} {Q : pm_Q} {y : zD} {m : zN} {k loc : Nat} {S : zS} (hW : WM k S.1 loc) (hR : RS S (mN m)) (h : Q (some (.int (nHd S.1))) (mkH y m)) : Sm E n_X9_heardMany 0 (pl_entry 3 [.ref 92], [], mkH y m, 0, 0) Q := by
  obtain ⟨w1, w2, hw1, hw2, e1, e2, hh, hn⟩ := hB_hw hW
  rw [hn] at h
  refine pm_go (aX9_heardMany E) 100 rfl ?_
  conv => whnf
  refine ⟨trivial, ?_⟩
  exact l_many hW hR w1 w2 hh h 6 0 (by omega)
end
section
/-! ===== spans of the reference ===== -/
theorem i64_m1 (a : Int64) : a + 1000000 - 1 = a + 999999 := by
  rw [Int64.sub_eq_add_neg, Int64.add_assoc]
  rfl
theorem m_span {E : pm_E} {Q : pm_Q} {y : zD} {m : zN} {i : Nat} {S : zS} {w T : Int32} (hi : i < 6) (hR : RS S (mN m)) (ht : (S.1.2.2.2.1 >>> (nI i &&& 31)) &&& 1 = 1) (h0 : w = 0 → Q (some (.long (fB S.1 (nI i) T))) (mkH y m)) (h1 : ¬ w = 0 → Q (some (.long (fE S.1 (nI i) T))) (mkH y m)) : Sm E n_X9_spanOf 0 (pl_entry 10 [.ref 92, .int (nI i), .int w, .long T.toInt64], [], mkH y m, 0, 0) Q := by
  obtain ⟨r1, r2, r3⟩ := (hR.2.1 i hi).2 ht
  have c1 : ((4 : Int32) + 4 * nI i + 1).toNatClampNeg = 4 + 4 * i + 1 := by rw [show (1 : Int32) = nI 1 from rfl, ix4k]; exact cl (by omega)
  have c2 : ((4 : Int32) + 4 * nI i + 2).toNatClampNeg = 4 + 4 * i + 2 := by rw [show (2 : Int32) = nI 2 from rfl, ix4k]; exact cl (by omega)
  have c3 : ((4 : Int32) + 4 * nI i + 3).toNatClampNeg = 4 + 4 * i + 3 := by rw [show (3 : Int32) = nI 3 from rfl, ix4k]; exact cl (by omega)
  have cli : (nI i).toNatClampNeg = i := cl (by omega)
  have eB : mN m ((4 : Int32) + 4 * nI i + 1).toNatClampNeg + (T.toInt64 - mN m ((4 : Int32) + 4 * nI i + 3).toNatClampNeg) - ((T.toInt64 - mN m ((4 : Int32) + 4 * nI i + 3).toNatClampNeg) * mN m 1 + 999999) / 1000000 = fB S.1 (nI i) T := by
    unfold fB fW fG
    rw [c1, c3, r1, r3, hR.1.2.1, cli, i64_m1]
  have eE : mN m ((4 : Int32) + 4 * nI i + 2).toNatClampNeg + (T.toInt64 - mN m ((4 : Int32) + 4 * nI i + 3).toNatClampNeg) + ((T.toInt64 - mN m ((4 : Int32) + 4 * nI i + 3).toNatClampNeg) * mN m 1 + 999999) / 1000000 = fE S.1 (nI i) T := by
    unfold fE fW fG
    rw [c2, c3, r2, r3, hR.1.2.1, cli, i64_m1]
  rw [← eB] at h0
  rw [← eE] at h1
  refine pm_go (aX9_spanOf E) 100 rfl ?_
  conv => whnf
  refine ⟨by rw [show (3 : Int32) = nI 3 from rfl, ix4k]; exact inA (by omega) (by decide), ?_⟩
  conv => whnf
  refine ⟨inA (n := 1) (by decide) (by decide), ?_⟩
  conv => whnf
  refine ⟨by decide, ?_⟩
  conv => whnf
  refine ⟨fun q => ?_, fun q => ?_⟩
  · conv => whnf
    refine ⟨by rw [show (2 : Int32) = nI 2 from rfl, ix4k]; exact inA (by omega) (by decide), ?_⟩
    conv => whnf
    exact ⟨trivial, h1 q⟩
  · conv => whnf
    refine ⟨by rw [show (1 : Int32) = nI 1 from rfl, ix4k]; exact inA (by omega) (by decide), ?_⟩
    conv => whnf
    exact ⟨trivial, h0 q⟩
def FR (F : zF) (l : zR) : Prop := F.2.2.1 = nI l.length ∧ l.length ≤ 6 ∧ ∀ (j : Nat) (q : Int64 × Int64), l[j]? = some q → F.1 j = q.1 ∧ F.2.1 j = q.2
theorem FR.lt {F : zF} {l : zR} (h : FR F l) {j : Nat} (hj : j < l.length) : vp_in (nI j) 6 := vp_in_nI (by have := h.2.1; omega) (by decide)
theorem l_manyAt {E : pm_E} {Q : pm_Q} {y : zD} {m : zN} {t : Int64} {l : zR} (hl : FR (mF m) l) : ∀ (n i c : Nat), i + n = l.length → Q (some (.int (nI (c + cnt (l.drop i) t)))) (mkH y m) → Sm E n_X9_manyAt 5 ([some (.ref 92), some (.long t), none, some (.int (nI c)), some (.int (nI i))], [], mkH y m, 0, 0) Q := by
  intro n
  induction n with
  | zero =>
    intro i c hi h
    have hlen := hl.2.1
    refine pm_lp (aX9_manyAt E) 100 5 rfl ?_
    conv => whnf
    refine ⟨fun q => ?_, fun q => absurd (show (mF m).2.2.1 ≤ nI i by rw [hl.1]; exact nI_le (by omega) (by omega)) q⟩
    conv => whnf
    refine ⟨trivial, ?_⟩
    rw [List.drop_eq_nil_of_le (by omega)] at h
    exact h
  | succ n ih =>
    intro i c hi h
    have hlt : i < l.length := by omega
    have hlen := hl.2.1
    obtain ⟨e1, e2⟩ := hl.2.2 i _ (List.getElem?_eq_getElem hlt)
    have hcl : (nI i).toNatClampNeg = i := cl (by omega)
    rw [drop_at hlt] at h
    refine pm_lp (aX9_manyAt E) 100 5 rfl ?_
    conv => whnf
    refine ⟨fun q => absurd (show (mF m).2.2.1 ≤ nI i from q) (by rw [hl.1]; exact nI_ge hlt (by omega)), fun _ => ?_⟩
    conv => whnf
    refine ⟨hl.lt hlt, ?_⟩
    conv => whnf
    refine ⟨hl.lt hlt, ?_⟩
    conv => whnf
    refine ⟨trivial, m_within (fun q => ?_) (fun q => ?_)⟩
    · have q1 : l[i].1 ≤ t := by rw [← e1, ← hcl]; exact q.1
      have q2 : t ≤ l[i].2 := by rw [← e2, ← hcl]; exact q.2
      rw [cnt_t (by simp [hold, q1, q2]), show c + (cnt (l.drop (i + 1)) t + 1) = (c + 1) + cnt (l.drop (i + 1)) t by omega] at h
      have := ih (i + 1) (c + 1) (by omega) h
      rw [nI_succ, nI_succ] at this
      conv => whnf
      refine ⟨fun z => absurd z (by decide), fun _ => ?_⟩
      conv => whnf
      exact ⟨trivial, this⟩
    · have hf : hold t l[i] = false := by
        cases hb : hold t l[i] with
        | false => rfl
        | true =>
          simp only [hold, Bool.and_eq_true, decide_eq_true_eq] at hb
          exact absurd ⟨by show (mF m).1 (nI i).toNatClampNeg ≤ t; rw [hcl, e1]; exact hb.1, by show t ≤ (mF m).2.1 (nI i).toNatClampNeg; rw [hcl, e2]; exact hb.2⟩ q
      rw [cnt_f hf] at h
      have := ih (i + 1) c (by omega) h
      rw [nI_succ] at this
      have e : nI c + 0 = nI c := Int32.add_zero _
      rw [← e] at this
      conv => whnf
      refine ⟨fun _ => ?_, fun z => absurd rfl z⟩
      conv => whnf
      exact ⟨trivial, this⟩
theorem m_manyAt {E : pm_E} {Q : pm_Q} {y : zD} {m : zN} {t : Int64} {l : zR} (hl : FR (mF m) l) (h : Q (some (.int (nI (cnt l t)))) (mkH y m)) : Sm E n_X9_manyAt 0 (pl_entry 5 [.ref 92, .long t], [], mkH y m, 0, 0) Q := by
  refine pm_go (aX9_manyAt E) 100 rfl ?_
  conv => whnf
  refine ⟨trivial, ?_⟩
  exact l_manyAt hl l.length 0 0 (by omega) (by rw [Nat.zero_add]; exact h)
def sE (t : Int64) (q : Int64 × Int64) : Int64 := if t < q.1 then q.1 - 1 else if t ≤ q.2 then q.2 else 9223372036854775807
def sT' (t : Int64) : Int64 → zR → Int64
  | acc, [] => acc
  | acc, q :: l => sT' t (if sE t q < acc then sE t q else acc) l
theorem l_same {E : pm_E} {Q : pm_Q} {y : zD} {m : zN} {t : Int64} {l : zR} (hl : FR (mF m) l) : ∀ (n i : Nat) (c : Int64) (o : Option Value), i + n = l.length → Q (some (.long (sT' t c (l.drop i)))) (mkH y m) → Sm E n_X9_sameTo 7 ([some (.ref 92), some (.long t), none, some (.long c), none, some (.int (nI i)), o, none], [], mkH y m, 0, 0) Q := by
  intro n
  induction n with
  | zero =>
    intro i c o hi h
    have hlen := hl.2.1
    refine pm_lp (aX9_sameTo E) 100 7 rfl ?_
    conv => whnf
    refine ⟨fun q => ?_, fun q => absurd (show (mF m).2.2.1 ≤ nI i by rw [hl.1]; exact nI_le (by omega) (by omega)) q⟩
    conv => whnf
    refine ⟨trivial, ?_⟩
    rw [List.drop_eq_nil_of_le (by omega)] at h
    exact h
  | succ n ih =>
    intro i c o hi h
    have hlt : i < l.length := by omega
    have hlen := hl.2.1
    obtain ⟨e1, e2⟩ := hl.2.2 i _ (List.getElem?_eq_getElem hlt)
    have hcl : (nI i).toNatClampNeg = i := cl (by omega)
    have f1 : (mF m).1 (nI i).toNatClampNeg = l[i].1 := by rw [hcl]; exact e1
    have f2 : (mF m).2.1 (nI i).toNatClampNeg = l[i].2 := by rw [hcl]; exact e2
    rw [drop_at hlt, sT'] at h
    unfold sE at h
    rw [← f1, ← f2] at h
    have nxt := fun (c2 : Int64) (o : Option Value) hh => ih (i + 1) c2 o (by omega) hh
    rw [nI_succ] at nxt
    refine pm_lp (aX9_sameTo E) 100 7 rfl ?_
    conv => whnf
    refine ⟨fun q => absurd (show (mF m).2.2.1 ≤ nI i from q) (by rw [hl.1]; exact nI_ge hlt (by omega)), fun _ => ?_⟩
    conv => whnf
    refine ⟨hl.lt hlt, ?_⟩
    conv => whnf
    refine ⟨fun q => ?_, fun q => ?_⟩
    · rw [if_neg (Int64.not_lt.mpr q)] at h
      conv => whnf
      refine ⟨hl.lt hlt, ?_⟩
      conv => whnf
      refine ⟨fun q2 => ?_, fun q2 => ?_⟩
      · rw [if_neg (Int64.not_le.mpr q2)] at h
        conv => whnf
        refine ⟨fun q3 => ?_, fun q3 => ?_⟩
        · rw [if_neg (Int64.not_lt.mpr q3)] at h
          conv => whnf
          exact ⟨trivial, nxt c (some (.long 9223372036854775807)) h⟩
        · rw [if_pos (Int64.not_le.mp q3)] at h
          conv => whnf
          exact ⟨trivial, nxt _ (some (.long 9223372036854775807)) h⟩
      · rw [if_pos (Int64.not_lt.mp q2)] at h
        conv => whnf
        refine ⟨hl.lt hlt, ?_⟩
        conv => whnf
        refine ⟨fun q3 => ?_, fun q3 => ?_⟩
        · have q3 : c ≤ (mF m).2.1 (nI i).toNatClampNeg := q3
          rw [if_neg (Int64.not_lt.mpr q3)] at h
          conv => whnf
          exact ⟨trivial, nxt c (some (.long ((mF m).2.1 (nI i).toNatClampNeg))) h⟩
        · have q3 : ¬ c ≤ (mF m).2.1 (nI i).toNatClampNeg := q3
          rw [if_pos (Int64.not_le.mp q3)] at h
          conv => whnf
          exact ⟨trivial, nxt _ (some (.long ((mF m).2.1 (nI i).toNatClampNeg))) h⟩
    · rw [if_pos (Int64.not_le.mp q)] at h
      conv => whnf
      refine ⟨hl.lt hlt, ?_⟩
      conv => whnf
      refine ⟨fun q3 => ?_, fun q3 => ?_⟩
      · have q3 : c ≤ (mF m).1 (nI i).toNatClampNeg - 1 := q3
        rw [if_neg (Int64.not_lt.mpr q3)] at h
        conv => whnf
        exact ⟨trivial, nxt c (some (.long ((mF m).1 (nI i).toNatClampNeg - 1))) h⟩
      · have q3 : ¬ c ≤ (mF m).1 (nI i).toNatClampNeg - 1 := q3
        rw [if_pos (Int64.not_le.mp q3)] at h
        conv => whnf
        exact ⟨trivial, nxt _ (some (.long ((mF m).1 (nI i).toNatClampNeg - 1))) h⟩
abbrev sTo (l : zR) (t : Int64) : Int64 := sT' t 9223372036854775807 l
theorem m_same {E : pm_E} {Q : pm_Q} {y : zD} {m : zN} {t : Int64} {l : zR} (hl : FR (mF m) l) (h : Q (some (.long (sTo l t))) (mkH y m)) : Sm E n_X9_sameTo 0 (pl_entry 8 [.ref 92, .long t], [], mkH y m, 0, 0) Q := by
  refine pm_go (aX9_sameTo E) 100 rfl ?_
  conv => whnf
  refine ⟨trivial, ?_⟩
  exact l_same hl l.length 0 _ none (by omega) h
end
section
/-! ===== rows of ticks: pure ===== -/
def spOK (l : zR) : Prop := ∀ q ∈ l, -1125899906842624 ≤ q.1.toInt ∧ q.1.toInt ≤ q.2.toInt ∧ q.2.toInt ≤ 1100000000000
def hI (t : Int) (q : Int64 × Int64) : Bool := decide (q.1.toInt ≤ t) && decide (t ≤ q.2.toInt)
def cn (l : zR) (t : Int) : Nat := l.countP (hI t)
theorem hI_iff {t : Int} {q : Int64 × Int64} : hI t q = true ↔ q.1.toInt ≤ t ∧ t ≤ q.2.toInt := by
  simp [hI]
theorem hold_hI (t : Int64) (q : Int64 × Int64) : hold t q = hI t.toInt q := by
  unfold hold hI
  simp only [Int64.le_iff_toInt_le]
theorem cnt_cn (l : zR) (t : Int64) : cnt l t = cn l t.toInt := by
  unfold cnt cn
  congr 1
  funext q
  exact hold_hI t q
theorem cn_mono {l : zR} {t u : Int} (h : ∀ q ∈ l, hI t q = true → hI u q = true) : cn l t ≤ cn l u := List.countP_mono_left h
theorem cn_zero {l : zR} {t : Int} (h : ∀ q ∈ l, ¬ hI t q = true) : cn l t = 0 := List.countP_eq_zero.mpr h
theorem cn_pos {l : zR} {t : Int} (h : 0 < cn l t) : ∃ q ∈ l, hI t q = true := List.countP_pos_iff.mp h
/-- of those that hold a tick, the one that begins last -/
theorem last_begin (t : Int) : ∀ (l : zR), (∃ q ∈ l, hI t q = true) → ∃ q ∈ l, hI t q = true ∧ ∀ r ∈ l, hI t r = true → r.1.toInt ≤ q.1.toInt
  | [], h => by
    obtain ⟨q, hq, -⟩ := h
    cases hq
  | a :: l, h => by
    by_cases hl : ∃ q ∈ l, hI t q = true
    · obtain ⟨q, h1, h2, h3⟩ := last_begin t l hl
      by_cases ha : hI t a = true ∧ q.1.toInt < a.1.toInt
      · refine ⟨a, List.mem_cons_self, ha.1, fun r hr hh => ?_⟩
        rcases List.mem_cons.mp hr with rfl | hr
        · exact Int.le_refl _
        · have := h3 r hr hh
          omega
      · refine ⟨q, List.mem_cons_of_mem _ h1, h2, fun r hr hh => ?_⟩
        rcases List.mem_cons.mp hr with rfl | hr
        · rcases Int.lt_or_le q.1.toInt r.1.toInt with z | z
          · exact absurd ⟨hh, z⟩ ha
          · exact z
        · exact h3 r hr hh
    · obtain ⟨q, hq, hh⟩ := h
      rcases List.mem_cons.mp hq with rfl | hq
      · refine ⟨q, List.mem_cons_self, hh, fun r hr hr2 => ?_⟩
        rcases List.mem_cons.mp hr with rfl | hr
        · exact Int.le_refl _
        · exact absurd ⟨r, hr, hr2⟩ hl
      · exact absurd ⟨q, hq, hh⟩ hl
theorem fnd_prop (L : zR) : ∀ (l : zR) (a : Nat × Int64), (a.1 ≤ (fnd L a l).1 ∧ ∀ q ∈ l, cnt L q.1 ≤ (fnd L a l).1) ∧ (fnd L a l = a ∨ ∃ q ∈ l, fnd L a l = (cnt L q.1, q.1))
  | [], a => ⟨⟨Nat.le_refl _, fun q hq => by cases hq⟩, Or.inl rfl⟩
  | q :: l, a => by
    unfold fnd
    split
    · rename_i hc
      obtain ⟨⟨h1, h2⟩, h3⟩ := fnd_prop L l (cnt L q.1, q.1)
      have h1 : cnt L q.1 ≤ (fnd L (cnt L q.1, q.1) l).1 := h1
      refine ⟨⟨by rcases hc with z | z <;> omega, fun r hr => ?_⟩, ?_⟩
      · rcases List.mem_cons.mp hr with rfl | hr
        · exact h1
        · exact h2 r hr
      · rcases h3 with z | ⟨r, hr, z⟩
        · exact Or.inr ⟨q, List.mem_cons_self, z⟩
        · exact Or.inr ⟨r, List.mem_cons_of_mem _ hr, z⟩
    · rename_i hc
      obtain ⟨⟨h1, h2⟩, h3⟩ := fnd_prop L l a
      have hq : cnt L q.1 ≤ a.1 := by
        rcases Nat.lt_or_ge a.1 (cnt L q.1) with z | z
        · exact absurd (Or.inl z) hc
        · exact z
      refine ⟨⟨h1, fun r hr => ?_⟩, ?_⟩
      · rcases List.mem_cons.mp hr with rfl | hr
        · omega
        · exact h2 r hr
      · rcases h3 with z | ⟨r, hr, z⟩
        · exact Or.inl z
        · exact Or.inr ⟨r, List.mem_cons_of_mem _ hr, z⟩
theorem cn_le_mst (l : zR) (t : Int) : cn l t ≤ mst l := by
  rcases Nat.eq_zero_or_pos (cn l t) with z | z
  · omega
  · obtain ⟨q, h1, h2, h3⟩ := last_begin t l (cn_pos z)
    have hq := hI_iff.mp h2
    have h4 : cn l t ≤ cn l q.1.toInt := cn_mono (fun r hr hh => by
      have a := hI_iff.mp hh
      have b := h3 r hr hh
      exact hI_iff.mpr ⟨b, by omega⟩)
    have h5 := (fnd_prop l l (0, 0)).1.2 q h1
    rw [cnt_cn] at h5
    exact Nat.le_trans h4 h5
theorem mst_pos {l : zR} (hl : spOK l) (hne : l ≠ []) : 1 ≤ mst l := by
  obtain ⟨q, hq⟩ : ∃ q, q ∈ l := List.exists_mem_of_ne_nil l hne
  have h1 := (hl q hq).2.1
  have h2 : 0 < cn l q.1.toInt := List.countP_pos_iff.mpr ⟨q, hq, hI_iff.mpr ⟨Int.le_refl _, h1⟩⟩
  have := cn_le_mst l q.1.toInt
  omega
theorem beg_mem {l : zR} (hl : spOK l) (hne : l ≠ []) : (∃ q ∈ l, beg l = q.1) ∧ cn l (beg l).toInt = mst l := by
  have hp := mst_pos hl hne
  rcases (fnd_prop l l (0, 0)).2 with z | ⟨q, hq, z⟩
  · have : mst l = 0 := by show (fnd l (0, 0) l).1 = 0; rw [z]
    omega
  · refine ⟨⟨q, hq, by show (fnd l (0, 0) l).2 = _; rw [z]⟩, ?_⟩
    show cn l (fnd l (0, 0) l).2.toInt = (fnd l (0, 0) l).1
    rw [z, ← cnt_cn]
/-- a first tick that isn't there plays no part -/
theorem fnd_any {l : zR} (hl : spOK l) (hne : l ≠ []) (r0 : Int64) : fnd l (0, r0) l = fnd l (0, 0) l := by
  match l, hne with
  | q :: l', _ =>
    have h1 := (hl q List.mem_cons_self).2.1
    have hp : 0 < cnt (q :: l') q.1 := by
      rw [cnt_cn]
      exact List.countP_pos_iff.mpr ⟨q, List.mem_cons_self, hI_iff.mpr ⟨Int.le_refl _, h1⟩⟩
    rw [fnd, fnd, if_pos (Or.inl hp), if_pos (Or.inl hp)]
/-- all ticks from the first one on to e are in the most spans -/
def rowP (l : zR) (e : Int) : Prop := (beg l).toInt ≤ e ∧ ∀ t, (beg l).toInt ≤ t → t ≤ e → cn l t = mst l
theorem rowP_uniq {l : zR} {e f : Int} (h1 : rowP l e) (h2 : rowP l f) (n1 : ¬ cn l (e + 1) = mst l) (n2 : ¬ cn l (f + 1) = mst l) : e = f := by
  rcases Int.lt_trichotomy e f with z | z | z
  · exact absurd (h2.2 (e + 1) (by have := h1.1; omega) (by omega)) n1
  · exact z
  · exact absurd (h1.2 (f + 1) (by have := h2.1; omega) (by omega)) n2
theorem lE_prop (t : Int64) : ∀ (l : zR) (acc : Int64), ((lE t acc l).toInt ≤ acc.toInt ∧ ∀ q ∈ l, hold t q = true → (lE t acc l).toInt ≤ q.2.toInt) ∧ (lE t acc l = acc ∨ ∃ q ∈ l, hold t q = true ∧ lE t acc l = q.2)
  | [], acc => ⟨⟨Int.le_refl _, fun q hq => by cases hq⟩, Or.inl rfl⟩
  | a :: l, acc => by
    unfold lE
    obtain ⟨⟨h1, h2⟩, h3⟩ := lE_prop t l (if hold t a = true then (if a.2 < acc then a.2 else acc) else acc)
    generalize he : (if hold t a = true then (if a.2 < acc then a.2 else acc) else acc) = b at h1 h2 h3 ⊢
    have hb : b.toInt ≤ acc.toInt ∧ (hold t a = true → b.toInt ≤ a.2.toInt) ∧ (b = acc ∨ (hold t a = true ∧ b = a.2)) := by
      rw [← he]
      split
      · rename_i hh
        split
        · rename_i hlt
          have := Int64.lt_iff_toInt_lt.mp hlt
          exact ⟨by omega, fun _ => Int.le_refl _, Or.inr ⟨hh, rfl⟩⟩
        · rename_i hlt
          have := Int64.le_iff_toInt_le.mp (Int64.not_lt.mp hlt)
          exact ⟨Int.le_refl _, fun _ => this, Or.inl rfl⟩
      · rename_i hh
        exact ⟨Int.le_refl _, fun z => absurd z hh, Or.inl rfl⟩
    refine ⟨⟨by omega, fun q hq hh => ?_⟩, ?_⟩
    · rcases List.mem_cons.mp hq with rfl | hq
      · have := hb.2.1 hh
        omega
      · exact h2 q hq hh
    · rcases h3 with z | ⟨q, hq, hh, z⟩
      · rcases hb.2.2 with y | ⟨y1, y2⟩
        · exact Or.inl (z.trans y)
        · exact Or.inr ⟨a, List.mem_cons_self, y1, z.trans y2⟩
      · exact Or.inr ⟨q, List.mem_cons_of_mem _ hq, hh, z⟩
def uE (l : zR) (e : Int) : Nat := l.countP (fun q => decide (e < q.2.toInt))
theorem i64_succ {e : Int64} (h1 : -1125899906842624 ≤ e.toInt) (h2 : e.toInt ≤ 1100000000001) : (e + 1).toInt = e.toInt + 1 := by
  rw [Int64.toInt_add]
  show (e.toInt + 1).bmod (2 ^ 64) = _
  rw [Int.bmod_eq_of_le (by omega) (by omega)]
theorem max_toInt : (9223372036854775807 : Int64).toInt = 9223372036854775807 := by decide
theorem uE_lt {l : zR} {e f : Int} (hef : e ≤ f) (h : ∃ q ∈ l, e < q.2.toInt ∧ ¬ f < q.2.toInt) : uE l f < uE l e := by
  unfold uE
  obtain ⟨q, hq, h1, h2⟩ := h
  induction l with
  | nil => cases hq
  | cons a l ih =>
    have mono : l.countP (fun q => decide (f < q.2.toInt)) ≤ l.countP (fun q => decide (e < q.2.toInt)) := List.countP_mono_left (fun r _ hr => by simp at hr ⊢; omega)
    rcases List.mem_cons.mp hq with rfl | hq
    · rw [List.countP_cons, List.countP_cons]
      simp [h1, h2]
      omega
    · have := ih hq
      rw [List.countP_cons, List.countP_cons]
      by_cases hf : f < a.2.toInt
      · have he : e < a.2.toInt := by omega
        simp [hf, he]
        omega
      · by_cases he : e < a.2.toInt
        · simp [hf, he]
          omega
        · simp [hf, he]
          omega
theorem eor_prop {l : zR} (hl : spOK l) (hne : l ≠ []) : ∀ (n : Nat) (e : Int64), rowP l e.toInt → -1125899906842624 ≤ e.toInt → e.toInt ≤ 1100000000000 → uE l e.toInt ≤ n → rowP l (eor l (mst l) n e).toInt ∧ ¬ cn l ((eor l (mst l) n e).toInt + 1) = mst l ∧ -1125899906842624 ≤ (eor l (mst l) n e).toInt ∧ (eor l (mst l) n e).toInt ≤ 1100000000000
  | 0, e, hr, hb1, hb2, hu => by
    refine ⟨hr, ?_, hb1, hb2⟩
    have hp := mst_pos hl hne
    show ¬ cn l (e.toInt + 1) = mst l
    rw [cn_zero (fun q hq hh => ?_)]
    · omega
    · have h1 := hI_iff.mp hh
      have : 0 < uE l e.toInt := List.countP_pos_iff.mpr ⟨q, hq, by simp; omega⟩
      omega
  | n + 1, e, hr, hb1, hb2, hu => by
    unfold eor
    have e1 := i64_succ hb1 (by omega)
    split
    · rename_i hc
      rw [cnt_cn, e1] at hc
      have hp := mst_pos hl hne
      obtain ⟨⟨p1, p2⟩, p3⟩ := lE_prop (e + 1) l 9223372036854775807
      generalize lE (e + 1) 9223372036854775807 l = f at p1 p2 p3 ⊢
      obtain ⟨r, hr1, hr2⟩ := cn_pos (show 0 < cn l (e.toInt + 1) by omega)
      have hr3 := p2 r hr1 (by rw [hold_hI, e1]; exact hr2)
      have hrl := hl r hr1
      obtain ⟨q, hq, hh, hf⟩ : ∃ q ∈ l, hold (e + 1) q = true ∧ f = q.2 := by
        rcases p3 with z | z
        · rw [z, max_toInt] at hr3
          omega
        · exact z
      rw [hold_hI, e1] at hh
      have hh := hI_iff.mp hh
      have hql := hl q hq
      have hfi : f.toInt = q.2.toInt := by rw [hf]
      refine eor_prop hl hne n f ⟨by have := hr.1; omega, fun t t1 t2 => ?_⟩ (by omega) (by omega) ?_
      · by_cases ht : t ≤ e.toInt
        · exact hr.2 t t1 ht
        · have g1 := cn_le_mst l t
          have g2 : cn l (e.toInt + 1) ≤ cn l t := cn_mono (fun r hr hh => by
            have a := hI_iff.mp hh
            have b := p2 r hr (by rw [hold_hI, e1]; exact hh)
            exact hI_iff.mpr ⟨by omega, by omega⟩)
          omega
      · have := uE_lt (l := l) (e := e.toInt) (f := f.toInt) (by omega) ⟨q, hq, by omega, by omega⟩
        omega
    · rename_i hc
      rw [cnt_cn, e1] at hc
      exact ⟨hr, hc, hb1, hb2⟩
theorem beg_rowP {l : zR} (hl : spOK l) (hne : l ≠ []) : rowP l (beg l).toInt := ⟨Int.le_refl _, fun t h1 h2 => by
  rw [show t = (beg l).toInt by omega]
  exact (beg_mem hl hne).2⟩
theorem beg_bd {l : zR} (hl : spOK l) (hne : l ≠ []) : -1125899906842624 ≤ (beg l).toInt ∧ (beg l).toInt ≤ 1100000000000 := by
  obtain ⟨q, hq, e⟩ := (beg_mem hl hne).1
  have := hl q hq
  rw [e]
  omega
theorem rend_prop {l : zR} (hl : spOK l) (hne : l ≠ []) : rowP l (rend l).toInt ∧ ¬ cn l ((rend l).toInt + 1) = mst l ∧ -1125899906842624 ≤ (rend l).toInt ∧ (rend l).toInt ≤ 1100000000000 :=
  eor_prop hl hne l.length (beg l) (beg_rowP hl hne) (beg_bd hl hne).1 (beg_bd hl hne).2 List.countP_le_length
theorem sT_prop (t : Int64) : ∀ (l : zR) (acc : Int64), ((sT' t acc l).toInt ≤ acc.toInt ∧ ∀ q ∈ l, (sT' t acc l).toInt ≤ (sE t q).toInt) ∧ (sT' t acc l = acc ∨ ∃ q ∈ l, sT' t acc l = sE t q)
  | [], acc => ⟨⟨Int.le_refl _, fun q hq => by cases hq⟩, Or.inl rfl⟩
  | a :: l, acc => by
    unfold sT'
    obtain ⟨⟨h1, h2⟩, h3⟩ := sT_prop t l (if sE t a < acc then sE t a else acc)
    generalize he : (if sE t a < acc then sE t a else acc) = b at h1 h2 h3 ⊢
    have hb : b.toInt ≤ acc.toInt ∧ b.toInt ≤ (sE t a).toInt ∧ (b = acc ∨ b = sE t a) := by
      rw [← he]
      split
      · rename_i hlt
        have := Int64.lt_iff_toInt_lt.mp hlt
        exact ⟨by omega, Int.le_refl _, Or.inr rfl⟩
      · rename_i hlt
        have := Int64.le_iff_toInt_le.mp (Int64.not_lt.mp hlt)
        exact ⟨Int.le_refl _, this, Or.inl rfl⟩
    refine ⟨⟨by omega, fun q hq => ?_⟩, ?_⟩
    · rcases List.mem_cons.mp hq with rfl | hq
      · omega
      · exact h2 q hq
    · rcases h3 with z | ⟨q, hq, z⟩
      · rcases hb.2.2 with y | y
        · exact Or.inl (z.trans y)
        · exact Or.inr ⟨a, List.mem_cons_self, z.trans y⟩
      · exact Or.inr ⟨q, List.mem_cons_of_mem _ hq, z⟩
theorem i64_pred {e : Int64} (h1 : -1125899906842624 ≤ e.toInt) (h2 : e.toInt ≤ 1100000000001) : (e - 1).toInt = e.toInt - 1 := by
  rw [Int64.toInt_sub]
  show (e.toInt - 1).bmod (2 ^ 64) = _
  rw [Int.bmod_eq_of_le (by omega) (by omega)]
/-- from a tick that a span holds on, the same spans hold -/
theorem sTo_prop {l : zR} (hl : spOK l) {t : Int64} (hh : ∃ q ∈ l, hold t q = true) : t.toInt ≤ (sTo l t).toInt ∧ (sTo l t).toInt ≤ 1100000000000 ∧ ∀ u, t.toInt ≤ u → u ≤ (sTo l t).toInt → cn l u = cn l t.toInt := by
  obtain ⟨⟨h1, h2⟩, h3⟩ := sT_prop t l 9223372036854775807
  show t.toInt ≤ (sT' t 9223372036854775807 l).toInt ∧ (sT' t 9223372036854775807 l).toInt ≤ 1100000000000 ∧ ∀ u, t.toInt ≤ u → u ≤ (sT' t 9223372036854775807 l).toInt → cn l u = cn l t.toInt
  generalize sT' t 9223372036854775807 l = f at h1 h2 h3 ⊢
  have sEv : ∀ q ∈ l, (t.toInt < q.1.toInt → (sE t q).toInt = q.1.toInt - 1) ∧ (¬ t.toInt < q.1.toInt → t.toInt ≤ q.2.toInt → (sE t q).toInt = q.2.toInt) ∧ t.toInt ≤ (sE t q).toInt := by
    intro q hq
    have hql := hl q hq
    unfold sE
    by_cases g1 : t < q.1
    · have g1' := Int64.lt_iff_toInt_lt.mp g1
      rw [if_pos g1, i64_pred hql.1 (by omega)]
      exact ⟨fun _ => rfl, fun z => absurd g1' z, by omega⟩
    · have g1' : ¬ t.toInt < q.1.toInt := fun z => g1 (Int64.lt_iff_toInt_lt.mpr z)
      rw [if_neg g1]
      by_cases g2 : t ≤ q.2
      · have g2' := Int64.le_iff_toInt_le.mp g2
        rw [if_pos g2]
        exact ⟨fun z => absurd z g1', fun _ _ => rfl, g2'⟩
      · have g2' : ¬ t.toInt ≤ q.2.toInt := fun z => g2 (Int64.le_iff_toInt_le.mpr z)
        rw [if_neg g2, max_toInt]
        refine ⟨fun z => absurd z g1', fun _ z => absurd z g2', ?_⟩
        have := Int64.toInt_lt t
        omega
  obtain ⟨r, hr, hrh⟩ := hh
  rw [hold_hI] at hrh
  have hrh := hI_iff.mp hrh
  have hrl := hl r hr
  have hr2 := h2 r hr
  rw [(sEv r hr).2.1 (by omega) hrh.2] at hr2
  refine ⟨?_, by omega, fun u u1 u2 => ?_⟩
  · rcases h3 with z | ⟨q, hq, z⟩
    · rw [z, max_toInt] at hr2
      omega
    · rw [z]
      exact (sEv q hq).2.2
  · have a1 : cn l u ≤ cn l t.toInt := cn_mono (fun q hq hq2 => by
      have a := hI_iff.mp hq2
      refine hI_iff.mpr ⟨?_, by omega⟩
      rcases Int.lt_or_le t.toInt q.1.toInt with z | z
      · have := h2 q hq
        rw [(sEv q hq).1 z] at this
        omega
      · exact z)
    have a2 : cn l t.toInt ≤ cn l u := cn_mono (fun q hq hq2 => by
      have a := hI_iff.mp hq2
      have := h2 q hq
      rw [(sEv q hq).2.1 (by omega) a.2] at this
      exact hI_iff.mpr ⟨by omega, by omega⟩)
    omega
end
section
/-! ===== the spans keep within bounds; the reference's find ===== -/
theorem i64_add {a b : Int64} (h1 : -4000000000000000000 ≤ a.toInt + b.toInt) (h2 : a.toInt + b.toInt ≤ 4000000000000000000) : (a + b).toInt = a.toInt + b.toInt := by
  rw [Int64.toInt_add]
  exact Int.bmod_eq_of_le (by omega) (by omega)
theorem i64_sub {a b : Int64} (h1 : -4000000000000000000 ≤ a.toInt - b.toInt) (h2 : a.toInt - b.toInt ≤ 4000000000000000000) : (a - b).toInt = a.toInt - b.toInt := by
  rw [Int64.toInt_sub]
  exact Int.bmod_eq_of_le (by omega) (by omega)
theorem sp_bd {k loc tt i : Nat} {M : zM} (hW : WM k M loc) (hk : k ≤ 512) (ht : loc ≤ tt) (ht2 : tt ≤ 2570000) (hi : i < 6) (hb : hB M (nI i)) : -1125899906842624 ≤ (fB M (nI i) (nI tt)).toInt ∧ (fB M (nI i) (nI tt)).toInt ≤ (fE M (nI i) (nI tt)).toInt ∧ (fE M (nI i) (nI tt)).toInt ≤ 1100000000000 := by
  obtain ⟨w1', w2', hw1', hw2', e1', e2', hh, -⟩ := hB_hw hW
  have hbit := (hh i hi).mp hb
  obtain ⟨dr, w1, w2, hdr, hdr2, h1, hw1, h2, hw2, hloc, hm⟩ := hW
  have ew : w1' = w1 := (nI_eq (by omega) (by omega)).mp (e1'.symm.trans h1)
  unfold hw at hbit
  rw [Bool.and_eq_true, ew] at hbit
  obtain ⟨⟨s1, s2, s3⟩, u, hu, eu⟩ := hm i hi hbit.1
  have cli : (nI i).toNatClampNeg = i := cl (by omega)
  have g0 := Int64.le_iff_toInt_le.mp s1
  have g1 := Int64.le_iff_toInt_le.mp s2
  have g2 := Int64.le_iff_toInt_le.mp s3
  have z0 : (0 : Int64).toInt = 0 := by decide
  have z12 : (1000000000000 : Int64).toInt = 1000000000000 := by decide
  rw [z0] at g0
  rw [z12] at g2
  have eG : fG M (nI i) (nI tt) = lN (tt - u) := by
    unfold fG
    rw [cli, eu, nI_l (by omega), nI_l (by omega), lN_sub (by omega)]
  have hmul : (tt - u) * dr ≤ 2570000 * 999999 := Nat.mul_le_mul (by omega) hdr2
  have eW : fW M (fG M (nI i) (nI tt)) = lN (((tt - u) * dr + 999999) / 1000000) := by
    unfold fW
    rw [eG, hdr, nI_l (by omega), i64_m1, lN_mul, show (999999 : Int64) = lN 999999 from rfl, show (1000000 : Int64) = lN 1000000 from rfl, lN_add, pk_lDiv (by omega) (by omega) (by omega)]
  have hmul2 : (tt - u) * dr ≤ (tt - u) * 999999 := Nat.mul_le_mul (Nat.le_refl _) hdr2
  have hwd : ((tt - u) * dr + 999999) / 1000000 ≤ 2570000 := by omega
  have tG : (lN (tt - u)).toInt = ((tt - u : Nat) : Int) := pk_lT (by omega)
  have tW : (lN (((tt - u) * dr + 999999) / 1000000)).toInt = ((((tt - u) * dr + 999999) / 1000000 : Nat) : Int) := pk_lT (by omega)
  generalize (lN (tt - u)) = gg at eG tG
  generalize (lN (((tt - u) * dr + 999999) / 1000000)) = ww at eW tW
  generalize ((tt - u) * dr + 999999) / 1000000 = wn at hwd tW
  have hgn : tt - u ≤ 2570000 := by omega
  generalize tt - u = gn at hgn tG
  have a1 : (M.1 i + gg).toInt = (M.1 i).toInt + gg.toInt := i64_add (by omega) (by omega)
  have a2 : (M.1 i + gg - ww).toInt = (M.1 i + gg).toInt - ww.toInt := i64_sub (by omega) (by omega)
  have a3 : (M.2.1 i + gg).toInt = (M.2.1 i).toInt + gg.toInt := i64_add (by omega) (by omega)
  have a4 : (M.2.1 i + gg + ww).toInt = (M.2.1 i + gg).toInt + ww.toInt := i64_add (by omega) (by omega)
  unfold fB fE
  rw [eW, eG, cli, a2, a1, a4, a3]
  omega
theorem spL_ok {k loc tt : Nat} {M : zM} (hW : WM k M loc) (hk : k ≤ 512) (ht : loc ≤ tt) (ht2 : tt ≤ 2570000) : ∀ i, i ≤ 6 → spOK (spL M (nI tt) i)
  | 0, _ => fun q hq => by cases hq
  | i + 1, hi => by
    unfold spL
    split
    · rename_i hb
      intro q hq
      rcases List.mem_append.mp hq with h | h
      · exact spL_ok hW hk ht ht2 i (by omega) q h
      · rw [List.mem_singleton.mp h]
        exact sp_bd hW hk ht ht2 (by omega) hb
    · exact spL_ok hW hk ht ht2 i (by omega)
theorem hB_told {k loc i : Nat} {M : zM} (hW : WM k M loc) (hi : i < 6) (hb : hB M (nI i)) : (M.2.2.2.1 >>> (nI i &&& 31)) &&& 1 = 1 := by
  obtain ⟨w1, w2, hw1, hw2, e1, e2, hh, -⟩ := hB_hw hW
  have hbit := (hh i hi).mp hb
  unfold hw at hbit
  rw [Bool.and_eq_true] at hbit
  rw [e1]
  exact (bit32 w1 hw1 i hi).mpr hbit.1
def FF (F : zF) (l : zR) : Prop := FR F l ∧ F.2.2.2.1 = nI (mst l) ∧ (l ≠ [] → F.2.2.2.2.1 = beg l ∧ F.2.2.2.2.2 = rend l)
theorem FR.push {F : zF} {l : zR} (h : FR F l) (h5 : l.length ≤ 5) (b e : Int64) : FR (vp_updL F.1 F.2.2.1.toNatClampNeg b, vp_updL F.2.1 F.2.2.1.toNatClampNeg e, F.2.2.1 + 1, F.2.2.2) (l ++ [(b, e)]) := by
  obtain ⟨h1, h2, h3⟩ := h
  have hc : F.2.2.1.toNatClampNeg = l.length := by rw [h1]; exact nI_clamp (by omega)
  refine ⟨?_, ?_, ?_⟩
  · show F.2.2.1 + 1 = _
    rw [h1, List.length_append]
    exact (nI_succ _).symm
  · rw [List.length_append]; simp; omega
  · intro j q hq
    show vp_updL F.1 _ b j = _ ∧ vp_updL F.2.1 _ e j = _
    rw [hc]
    unfold vp_updL
    by_cases hj : j = l.length
    · subst hj
      rw [List.getElem?_append_right (Nat.le_refl _)] at hq
      simp at hq
      subst hq
      simp
    · rw [if_neg hj, if_neg hj]
      refine h3 j q ?_
      by_cases hlt : j < l.length
      · rwa [List.getElem?_append_left hlt] at hq
      · rw [List.getElem?_eq_none (by rw [List.length_append]; simp; omega)] at hq
        cases hq
/-- the row's end, gone along -/
theorem l_while {E : pm_E} {Q : pm_Q} {y : zD} {m : zN} {t : Int64} {l : zR} {o3 o4 o5 : Option Value} (hl : spOK l) (hne : l ≠ []) : ∀ (n : Nat) (F : zF), FR F l → F.2.2.2.1 = nI (mst l) → F.2.2.2.2.1 = beg l → rowP l F.2.2.2.2.2.toInt → F.2.2.2.2.2.toInt ≤ 1100000000000 → -1125899906842624 ≤ F.2.2.2.2.2.toInt → (1100000000000 - F.2.2.2.2.2.toInt).toNat ≤ n → (∀ F', FF F' l → Q none (mkH y (tF m F'))) → Sm E n_X9_find 205 ([some (.ref 92), some (.long t), none, o3, o4, o5], [], mkH y (tF m F), 0, 0) Q := by
  intro n
  induction n with
  | zero =>
    intro F hF h1 h2 h3 h4 h5 hn h
    have e1 := i64_succ (e := F.2.2.2.2.2) (by omega) (by omega)
    have hm6 := mst_le hF.2.1
    have hc6 := cnt_le l (F.2.2.2.2.2 + 1)
    have hlen := hF.2.1
    have nc : ¬ cn l (F.2.2.2.2.2.toInt + 1) = mst l := by
      have hp := mst_pos hl hne
      rw [cn_zero (fun q hq hh => ?_)]
      · omega
      · have a := hI_iff.mp hh
        have b := hl q hq
        omega
    refine pm_lp (aX9_find E) 100 205 rfl ?_
    conv => whnf
    refine ⟨trivial, m_manyAt (m := tF m F) hF ?_⟩
    conv => whnf
    refine ⟨fun _ => ?_, fun q => ?_⟩
    · conv => whnf
      refine ⟨trivial, h F ⟨hF, h1, fun _ => ⟨h2, ?_⟩⟩⟩
      obtain ⟨r1, r2, r3, r4⟩ := rend_prop hl hne
      exact Int64.toInt_inj.mp (rowP_uniq h3 r1 nc r2)
    · have q' : nI (cnt l (F.2.2.2.2.2 + 1)) = nI (mst l) := by rw [← h1]; exact q
      have := (nI_eq (by omega) (by omega)).mp q'
      rw [cnt_cn, e1] at this
      exact absurd this nc
  | succ n ih =>
    intro F hF h1 h2 h3 h4 h5 hn h
    have e1 := i64_succ (e := F.2.2.2.2.2) (by omega) (by omega)
    have hm6 := mst_le hF.2.1
    have hc6 := cnt_le l (F.2.2.2.2.2 + 1)
    have hlen := hF.2.1
    refine pm_lp (aX9_find E) 100 205 rfl ?_
    conv => whnf
    refine ⟨trivial, m_manyAt (m := tF m F) hF ?_⟩
    conv => whnf
    refine ⟨fun q => ?_, fun q => ?_⟩
    · have nc : ¬ cn l (F.2.2.2.2.2.toInt + 1) = mst l := by
        intro z
        refine q ?_
        show nI (cnt l (F.2.2.2.2.2 + 1)) = F.2.2.2.1
        rw [h1, cnt_cn, e1, z]
      conv => whnf
      refine ⟨trivial, h F ⟨hF, h1, fun _ => ⟨h2, ?_⟩⟩⟩
      obtain ⟨r1, r2, r3, r4⟩ := rend_prop hl hne
      exact Int64.toInt_inj.mp (rowP_uniq h3 r1 nc r2)
    · have q' : nI (cnt l (F.2.2.2.2.2 + 1)) = nI (mst l) := by rw [← h1]; exact q
      have hc := (nI_eq (by omega) (by omega)).mp q'
      rw [cnt_cn, e1] at hc
      have hp := mst_pos hl hne
      obtain ⟨r, hr1, hr2⟩ := cn_pos (show 0 < cn l (F.2.2.2.2.2.toInt + 1) by omega)
      obtain ⟨s1, s2, s3⟩ := sTo_prop hl (t := F.2.2.2.2.2 + 1) ⟨r, hr1, by rw [hold_hI, e1]; exact hr2⟩
      rw [e1] at s1 s3
      conv => whnf
      refine ⟨trivial, m_same (m := tF m F) hF ?_⟩
      conv => whnf
      refine ⟨trivial, ?_⟩
      exact ih (F.1, F.2.1, F.2.2.1, F.2.2.2.1, F.2.2.2.2.1, sTo l (F.2.2.2.2.2 + 1)) hF h1 h2 ⟨by have := h3.1; show _ ≤ (sTo l _).toInt; omega, fun u u1 u2 => by
        by_cases hu : u ≤ F.2.2.2.2.2.toInt
        · exact h3.2 u u1 hu
        · rw [s3 u (by omega) u2]; exact hc⟩ s2 (by show _ ≤ (sTo l _).toInt; omega) (by show (1100000000000 - (sTo l _).toInt).toNat ≤ n; omega) h
theorem l_fnd2 {E : pm_E} {Q : pm_Q} {y : zD} {m : zN} {t : Int64} {l : zR} (hl : spOK l) (h : ∀ F', FF F' l → Q none (mkH y (tF m F'))) : ∀ (n i mo : Nat) (F : zF) (o4 o5 : Option Value), FR F l → F.2.2.2.1 = nI mo → i + n = l.length → mo ≤ 6 → (l ≠ [] → fnd l (mo, F.2.2.2.2.1) (l.drop i) = fnd l (0, 0) l) → (l = [] → mo = 0) → Sm E n_X9_find 76 ([some (.ref 92), some (.long t), none, some (.int (nI i)), o4, o5], [], mkH y (tF m F), 0, 0) Q := by
  intro n
  induction n with
  | zero =>
    intro i mo F o4 o5 hF hM hi hmo hd hz
    have hlen := hF.2.1
    refine pm_lp (aX9_find E) 100 76 rfl ?_
    conv => whnf
    refine ⟨fun _ => ?_, fun q => absurd (show F.2.2.1 ≤ nI i by rw [hF.1]; exact nI_le (by omega) (by omega)) q⟩
    conv => whnf
    refine ⟨fun q => ?_, fun q => ?_⟩
    · have q' : ¬ F.2.2.1 = 0 := q
      have hne : l ≠ [] := fun z => q' (by rw [hF.1, z]; rfl)
      have hd := hd hne
      rw [List.drop_eq_nil_of_le (by omega)] at hd
      have hd : (mo, F.2.2.2.2.1) = fnd l (0, 0) l := hd
      have em : mo = mst l := by show mo = (fnd l (0, 0) l).1; rw [← hd]
      have eb : F.2.2.2.2.1 = beg l := by show F.2.2.2.2.1 = (fnd l (0, 0) l).2; rw [← hd]
      obtain ⟨q, hq, eq⟩ := (beg_mem hl hne).1
      have hqb := hl q hq
      obtain ⟨s1, s2, s3⟩ := sTo_prop hl (t := F.2.2.2.2.1) ⟨q, hq, by rw [hold_hI, eb, eq]; exact hI_iff.mpr ⟨Int.le_refl _, hqb.2.1⟩⟩
      have bb := beg_bd hl hne
      rw [← eb] at bb
      have bm := (beg_mem hl hne).2
      rw [← eb] at bm
      conv => whnf
      refine ⟨trivial, m_same (m := tF m F) hF ?_⟩
      conv => whnf
      refine ⟨trivial, ?_⟩
      exact l_while (m := m) hl hne _ (F.1, F.2.1, F.2.2.1, F.2.2.2.1, F.2.2.2.2.1, sTo l F.2.2.2.2.1) hF (by show F.2.2.2.1 = _; rw [hM, em]) eb ⟨by rw [← eb]; exact s1, fun u u1 u2 => by rw [← eb] at u1; rw [s3 u u1 u2]; exact bm⟩ s2 (by show _ ≤ (sTo l F.2.2.2.2.1).toInt; omega) (Nat.le_refl _) h
    · have q' : F.2.2.1 = 0 := q
      have hnil : l = [] := by
        rw [hF.1] at q'
        have := (nI_eq (b := 0) (by omega) (by omega)).mp q'
        exact List.length_eq_zero_iff.mp this
      conv => whnf
      refine ⟨trivial, h F ⟨hF, ?_, fun z => absurd hnil z⟩⟩
      rw [hM, hz hnil, hnil]
      rfl
  | succ n ih =>
    intro i mo F o4 o5 hF hM hi hmo hd hz
    have hlt : i < l.length := by omega
    have hne : l ≠ [] := fun z => by rw [z] at hlt; simp at hlt
    have hlen := hF.2.1
    obtain ⟨e1, e2⟩ := hF.2.2 i _ (List.getElem?_eq_getElem hlt)
    have hcl : (nI i).toNatClampNeg = i := cl (by omega)
    have eb : F.1 (nI i).toNatClampNeg = l[i].1 := by rw [hcl]; exact e1
    have hc6 := cnt_le l l[i].1
    have hd := hd hne
    rw [drop_at hlt, fnd, ← eb] at hd
    rw [← eb] at hc6
    have take : ∀ mo' : Int32, mo' = nI (cnt l (F.1 (nI i).toNatClampNeg)) → (mo < cnt l (F.1 (nI i).toNatClampNeg) ∨ (cnt l (F.1 (nI i).toNatClampNeg) = mo ∧ F.1 (nI i).toNatClampNeg < F.2.2.2.2.1)) → ∀ o4 o5 : Option Value, Sm E n_X9_find 76 ([some (.ref 92), some (.long t), none, some (.int (nI i + 1)), o4, o5], [], mkH y (tF m (F.1, F.2.1, F.2.2.1, mo', F.1 (nI i).toNatClampNeg, F.2.2.2.2.2)), 0, 0) Q := by
      intro mo' hm' hc o4 o5
      subst hm'
      rw [if_pos hc] at hd
      have := ih (i + 1) (cnt l (F.1 (nI i).toNatClampNeg)) (F.1, F.2.1, F.2.2.1, nI (cnt l (F.1 (nI i).toNatClampNeg)), F.1 (nI i).toNatClampNeg, F.2.2.2.2.2) o4 o5 hF rfl (by omega) (by omega) (fun _ => hd) (fun z => absurd z hne)
      rw [nI_succ] at this
      exact this
    have leave : ¬ (mo < cnt l (F.1 (nI i).toNatClampNeg) ∨ (cnt l (F.1 (nI i).toNatClampNeg) = mo ∧ F.1 (nI i).toNatClampNeg < F.2.2.2.2.1)) → ∀ o4 o5 : Option Value, Sm E n_X9_find 76 ([some (.ref 92), some (.long t), none, some (.int (nI i + 1)), o4, o5], [], mkH y (tF m F), 0, 0) Q := by
      intro hc o4 o5
      rw [if_neg hc] at hd
      have := ih (i + 1) mo F o4 o5 hF hM (by omega) hmo (fun _ => hd) (fun z => absurd z hne)
      rw [nI_succ] at this
      exact this
    refine pm_lp (aX9_find E) 100 76 rfl ?_
    conv => whnf
    refine ⟨fun q => absurd (show F.2.2.1 ≤ nI i from q) (by rw [hF.1]; exact nI_ge hlt (by omega)), fun _ => ?_⟩
    conv => whnf
    refine ⟨hF.lt hlt, ?_⟩
    conv => whnf
    refine ⟨trivial, m_manyAt (m := tF m F) (t := F.1 (nI i).toNatClampNeg) hF ?_⟩
    conv => whnf
    refine ⟨fun q => ?_, fun q => ?_⟩
    · have q' : F.2.2.2.1 < nI (cnt l (F.1 (nI i).toNatClampNeg)) := q
      have q0 := q'
      rw [hM] at q'
      have hc : mo < cnt l (F.1 (nI i).toNatClampNeg) := (nI_ltI (by omega) (by omega)).mp q'
      conv => whnf
      refine ⟨fun z => absurd z (by decide), fun _ => ?_⟩
      conv => whnf
      refine ⟨hF.lt hlt, ?_⟩
      conv => whnf
      refine ⟨fun z => absurd q0 (Int32.not_lt.mpr z), fun _ => ?_⟩
      conv => whnf
      refine ⟨trivial, ?_⟩
      exact take _ rfl (Or.inl hc) _ _
    · have q' : ¬ F.2.2.2.1 < nI (cnt l (F.1 (nI i).toNatClampNeg)) := q
      have q0 := q'
      rw [hM] at q'
      have hn : ¬ mo < cnt l (F.1 (nI i).toNatClampNeg) := fun z => q' ((nI_ltI (by omega) (by omega)).mpr z)
      conv => whnf
      refine ⟨fun q2 => ?_, fun q2 => ?_⟩
      · have q2' : ¬ nI (cnt l (F.1 (nI i).toNatClampNeg)) = F.2.2.2.1 := q2
        conv => whnf
        refine ⟨fun _ => ?_, fun z => absurd rfl z⟩
        conv => whnf
        refine ⟨fun _ => ?_, fun z => absurd (Int32.not_lt.mp q0) z⟩
        conv => whnf
        refine ⟨trivial, leave (fun z => ?_) _ _⟩
        rcases z with z | z
        · exact hn z
        · exact q2' (by rw [hM, z.1])
      · have q2' : nI (cnt l (F.1 (nI i).toNatClampNeg)) = F.2.2.2.1 := q2
        have he : cnt l (F.1 (nI i).toNatClampNeg) = mo := by rw [hM] at q2'; exact (nI_eq (by omega) (by omega)).mp q2'
        conv => whnf
        refine ⟨hF.lt hlt, ?_⟩
        conv => whnf
        refine ⟨fun q3 => ?_, fun q3 => ?_⟩
        · conv => whnf
          refine ⟨fun _ => ?_, fun z => absurd rfl z⟩
          conv => whnf
          refine ⟨fun _ => ?_, fun z => absurd (Int32.not_lt.mp q0) z⟩
          conv => whnf
          refine ⟨trivial, leave (fun z => ?_) _ _⟩
          rcases z with z | z
          · exact hn z
          · exact Int64.not_lt.mpr q3 z.2
        · conv => whnf
          refine ⟨fun z => absurd z (by decide), fun _ => ?_⟩
          conv => whnf
          refine ⟨hF.lt hlt, ?_⟩
          conv => whnf
          refine ⟨fun _ => ?_, fun z => absurd (Int32.not_lt.mp q0) z⟩
          conv => whnf
          refine ⟨trivial, ?_⟩
          exact take F.2.2.2.1 q2'.symm (Or.inr ⟨he, Int64.not_le.mp q3⟩) _ _
theorem l_fnd1 {E : pm_E} {Q : pm_Q} {y : zD} {m : zN} {k loc tt : Nat} {S : zS} (hW : WM k S.1 loc) (hR : RS S (mN m)) (hk : k ≤ 512) (ht : loc ≤ tt) (ht2 : tt ≤ 2570000) (h : ∀ F', FF F' (lAt S (nI tt)) → Q none (mkH y (tF m F'))) : ∀ (n i : Nat) (F : zF), i + n = 6 → FR F (spL S.1 (nI tt) i) → Sm E n_X9_find 7 ([some (.ref 92), some (.long (nI tt).toInt64), none, some (.int (nI i)), none, none], [], mkH y (tF m F), 0, 0) Q := by
  intro n
  induction n with
  | zero =>
    intro i F hi hF
    obtain rfl : i = 6 := by omega
    have hl := spL_ok hW hk ht ht2 6 (by omega)
    refine pm_lp (aX9_find E) 100 7 rfl ?_
    conv => whnf
    refine ⟨fun _ => ?_, fun q => absurd (show (6 : Int32) ≤ nI 6 by decide) q⟩
    conv => whnf
    refine ⟨trivial, ?_⟩
    exact l_fnd2 (m := m) (t := (nI tt).toInt64) hl h _ 0 0 (F.1, F.2.1, F.2.2.1, 0, F.2.2.2.2.1, F.2.2.2.2.2) none none hF rfl (Nat.zero_add _) (by omega) (fun hne => by rw [List.drop_zero]; exact fnd_any hl hne _) (fun _ => rfl)
  | succ n ih =>
    intro i F hi hF
    have hlen := spL_len S.1 (nI tt) i
    have hin : vp_in F.2.2.1 6 := by rw [hF.1]; exact vp_in_nI (by omega) (by decide)
    refine pm_lp (aX9_find E) 100 7 rfl ?_
    conv => whnf
    refine ⟨fun q => absurd (show nI 6 ≤ nI i from q) (nI_ge (by omega) (by decide)), fun _ => ?_⟩
    conv => whnf
    refine ⟨trivial, m_isHeard (m := tF m F) (by omega) hW hR (fun hb => ?_) (fun hb => ?_)⟩
    · have htd := hB_told hW (by omega) hb
      conv => whnf
      refine ⟨fun q => absurd q (by decide), fun _ => ?_⟩
      conv => whnf
      refine ⟨trivial, m_span (m := tF m F) (by omega) hR htd (fun _ => ?_) (fun q => absurd rfl q)⟩
      conv => whnf
      refine ⟨hin, ?_⟩
      conv => whnf
      refine ⟨trivial, m_span (m := tF m (vp_updL F.1 F.2.2.1.toNatClampNeg (fB S.1 (nI i) (nI tt)), F.2)) (by omega) hR htd (fun q => absurd q (by decide)) (fun _ => ?_)⟩
      conv => whnf
      refine ⟨hin, ?_⟩
      conv => whnf
      refine ⟨trivial, ?_⟩
      have hp := hF.push (by omega) (fB S.1 (nI i) (nI tt)) (fE S.1 (nI i) (nI tt))
      have := ih (i + 1) _ (by omega) (by rw [spL, if_pos hb]; exact hp)
      rw [nI_succ] at this
      exact this
    · conv => whnf
      refine ⟨fun _ => ?_, fun q => absurd rfl q⟩
      conv => whnf
      refine ⟨trivial, ?_⟩
      have := ih (i + 1) F (by omega) (by rw [spL, if_neg hb]; exact hF)
      rw [nI_succ] at this
      exact this
theorem m_find {E : pm_E} {Q : pm_Q} {y : zD} {m : zN} {k loc tt : Nat} {S : zS} (hW : WM k S.1 loc) (hR : RS S (mN m)) (hk : k ≤ 512) (ht : loc ≤ tt) (ht2 : tt ≤ 2570000) (h : ∀ F', FF F' (lAt S (nI tt)) → Q none (mkH y (tF m F'))) : Sm E n_X9_find 0 (pl_entry 6 [.ref 92, .long (nI tt).toInt64], [], mkH y m, 0, 0) Q := by
  refine pm_go (aX9_find E) 100 rfl ?_
  conv => whnf
  refine ⟨trivial, ?_⟩
  exact l_fnd1 (m := m) hW hR hk ht ht2 h 6 0 ((mF m).1, (mF m).2.1, 0, (mF m).2.2.2) (by omega) ⟨rfl, Nat.zero_le _, fun j q hq => by simp [spL] at hq⟩
theorem FF.good {F : zF} {l : zR} (h : FF F l) : (F.2.2.1 < 2 * F.2.2.2.1) = okG l := by rw [h.1.1, h.2.1]
theorem m_good {E : pm_E} {Q : pm_Q} {y : zD} {m : zN} {l : zR} (hF : FF (mF m) l) (h1 : okG l → Q (some (.int 1)) (mkH y m)) (h0 : ¬ okG l → Q (some (.int 0)) (mkH y m)) : Sm E n_X9_isGood 0 (pl_entry 1 [.ref 92], [], mkH y m, 0, 0) Q := by
  rw [← hF.good] at h1 h0
  refine pm_go (aX9_isGood E) 100 rfl ?_
  conv => whnf
  refine ⟨fun q => ?_, fun q => ?_⟩
  · conv => whnf
    exact ⟨rfl, h0 (Int32.not_lt.mpr q)⟩
  · conv => whnf
    exact ⟨rfl, h1 (Int32.not_le.mp q)⟩
end

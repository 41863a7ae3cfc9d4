section
-- ===== PART A: goes FIRST, ahead of the names: the tables' words, and 'selects' of the private methods out of them =====
/-- a private method of a class that the tables say can be made, by its rows of tables_1 -/
def lw_okq (q : MethodName × Nat) : Prop := (q.1.cls ≠ "java/lang/invoke/MethodHandle" ∧ q.1.cls ≠ "java/lang/invoke/VarHandle") ∧ Cond.instantiable q.1.cls q.2 ∈ tables_1 ∧ Cond.privateMethod q.1 ∈ tables_1 ∧ Cond.instanceMethod q.1 ∈ tables_1
theorem lw_p0 : lw_okq (⟨"KindWords", "digitAt", "(I)I"⟩, 9) := ⟨⟨by decide +kernel, by decide +kernel⟩, List.mem_of_getElem? (i := 15) (by decide +kernel), List.mem_of_getElem? (i := 271) (by decide +kernel), List.mem_of_getElem? (i := 272) (by decide +kernel)⟩
theorem lw_p1 : lw_okq (⟨"KindWords", "isVictim", "(I)Z"⟩, 9) := ⟨⟨by decide +kernel, by decide +kernel⟩, List.mem_of_getElem? (i := 15) (by decide +kernel), List.mem_of_getElem? (i := 289) (by decide +kernel), List.mem_of_getElem? (i := 290) (by decide +kernel)⟩
theorem lw_p2 : lw_okq (⟨"KindWords", "isConvict", "(I)Z"⟩, 9) := ⟨⟨by decide +kernel, by decide +kernel⟩, List.mem_of_getElem? (i := 15) (by decide +kernel), List.mem_of_getElem? (i := 320) (by decide +kernel), List.mem_of_getElem? (i := 321) (by decide +kernel)⟩
theorem lw_p3 : lw_okq (⟨"KindWords$Shares", "take", "(LKindWords$Town;I)V"⟩, 3) := ⟨⟨by decide +kernel, by decide +kernel⟩, List.mem_of_getElem? (i := 144) (by decide +kernel), List.mem_of_getElem? (i := 399) (by decide +kernel), List.mem_of_getElem? (i := 400) (by decide +kernel)⟩
theorem lw_p4 : lw_okq (⟨"KindWords$Shares", "mostAmong", "(I)I"⟩, 3) := ⟨⟨by decide +kernel, by decide +kernel⟩, List.mem_of_getElem? (i := 144) (by decide +kernel), List.mem_of_getElem? (i := 405) (by decide +kernel), List.mem_of_getElem? (i := 406) (by decide +kernel)⟩
theorem lw_p5 : lw_okq (⟨"KindWords$Shares", "firstSayer", "(III)I"⟩, 3) := ⟨⟨by decide +kernel, by decide +kernel⟩, List.mem_of_getElem? (i := 144) (by decide +kernel), List.mem_of_getElem? (i := 425) (by decide +kernel), List.mem_of_getElem? (i := 426) (by decide +kernel)⟩
theorem lw_p6 : lw_okq (⟨"KindWords$Weeks", "talk", "(LKindWords$Convict;)V"⟩, 3) := ⟨⟨by decide +kernel, by decide +kernel⟩, List.mem_of_getElem? (i := 123) (by decide +kernel), List.mem_of_getElem? (i := 484) (by decide +kernel), List.mem_of_getElem? (i := 485) (by decide +kernel)⟩
theorem lw_p7 : lw_okq (⟨"KindWords$Weeks", "draw", "()I"⟩, 3) := ⟨⟨by decide +kernel, by decide +kernel⟩, List.mem_of_getElem? (i := 123) (by decide +kernel), List.mem_of_getElem? (i := 489) (by decide +kernel), List.mem_of_getElem? (i := 490) (by decide +kernel)⟩
theorem lw_p8 : lw_okq (⟨"KindWords", "withVictim", "(JI)J"⟩, 9) := ⟨⟨by decide +kernel, by decide +kernel⟩, List.mem_of_getElem? (i := 15) (by decide +kernel), List.mem_of_getElem? (i := 530) (by decide +kernel), List.mem_of_getElem? (i := 531) (by decide +kernel)⟩
theorem lw_p9 : lw_okq (⟨"KindWordsModel", "faultOf", "()I"⟩, 27) := ⟨⟨by decide +kernel, by decide +kernel⟩, List.mem_of_getElem? (i := 545) (by decide +kernel), List.mem_of_getElem? (i := 649) (by decide +kernel), List.mem_of_getElem? (i := 650) (by decide +kernel)⟩
theorem lw_p10 : lw_okq (⟨"KindWordsModel", "trueAll", "()I"⟩, 27) := ⟨⟨by decide +kernel, by decide +kernel⟩, List.mem_of_getElem? (i := 545) (by decide +kernel), List.mem_of_getElem? (i := 662) (by decide +kernel), List.mem_of_getElem? (i := 663) (by decide +kernel)⟩
theorem lw_p11 : lw_okq (⟨"KindWordsModel", "isVictim", "(I)Z"⟩, 27) := ⟨⟨by decide +kernel, by decide +kernel⟩, List.mem_of_getElem? (i := 545) (by decide +kernel), List.mem_of_getElem? (i := 673) (by decide +kernel), List.mem_of_getElem? (i := 674) (by decide +kernel)⟩
theorem lw_p12 : lw_okq (⟨"KindWordsModel", "tellVictim", "(II)I"⟩, 27) := ⟨⟨by decide +kernel, by decide +kernel⟩, List.mem_of_getElem? (i := 545) (by decide +kernel), List.mem_of_getElem? (i := 678) (by decide +kernel), List.mem_of_getElem? (i := 679) (by decide +kernel)⟩
theorem lw_p13 : lw_okq (⟨"KindWordsModel", "isConvict", "(I)Z"⟩, 27) := ⟨⟨by decide +kernel, by decide +kernel⟩, List.mem_of_getElem? (i := 545) (by decide +kernel), List.mem_of_getElem? (i := 695) (by decide +kernel), List.mem_of_getElem? (i := 696) (by decide +kernel)⟩
theorem lw_p14 : lw_okq (⟨"KindWordsModel", "tell", "(II)I"⟩, 27) := ⟨⟨by decide +kernel, by decide +kernel⟩, List.mem_of_getElem? (i := 545) (by decide +kernel), List.mem_of_getElem? (i := 699) (by decide +kernel), List.mem_of_getElem? (i := 700) (by decide +kernel)⟩
theorem lw_p15 : lw_okq (⟨"KindWordsModel", "leftOf", "(I)I"⟩, 27) := ⟨⟨by decide +kernel, by decide +kernel⟩, List.mem_of_getElem? (i := 545) (by decide +kernel), List.mem_of_getElem? (i := 703) (by decide +kernel), List.mem_of_getElem? (i := 704) (by decide +kernel)⟩
def lw_privs_1 : List (MethodName × Nat) := [(⟨"KindWords", "digitAt", "(I)I"⟩, 9), (⟨"KindWords", "isVictim", "(I)Z"⟩, 9), (⟨"KindWords", "isConvict", "(I)Z"⟩, 9), (⟨"KindWords$Shares", "take", "(LKindWords$Town;I)V"⟩, 3), (⟨"KindWords$Shares", "mostAmong", "(I)I"⟩, 3), (⟨"KindWords$Shares", "firstSayer", "(III)I"⟩, 3), (⟨"KindWords$Weeks", "talk", "(LKindWords$Convict;)V"⟩, 3), (⟨"KindWords$Weeks", "draw", "()I"⟩, 3), (⟨"KindWords", "withVictim", "(JI)J"⟩, 9), (⟨"KindWordsModel", "faultOf", "()I"⟩, 27), (⟨"KindWordsModel", "trueAll", "()I"⟩, 27), (⟨"KindWordsModel", "isVictim", "(I)Z"⟩, 27), (⟨"KindWordsModel", "tellVictim", "(II)I"⟩, 27), (⟨"KindWordsModel", "isConvict", "(I)Z"⟩, 27), (⟨"KindWordsModel", "tell", "(II)I"⟩, 27), (⟨"KindWordsModel", "leftOf", "(I)I"⟩, 27)]
theorem lw_r1 : ∀ q ∈ lw_privs_1, lw_okq q := List.forall_mem_cons.mpr ⟨lw_p0, List.forall_mem_cons.mpr ⟨lw_p1, List.forall_mem_cons.mpr ⟨lw_p2, List.forall_mem_cons.mpr ⟨lw_p3, List.forall_mem_cons.mpr ⟨lw_p4, List.forall_mem_cons.mpr ⟨lw_p5, List.forall_mem_cons.mpr ⟨lw_p6, List.forall_mem_cons.mpr ⟨lw_p7, List.forall_mem_cons.mpr ⟨lw_p8, List.forall_mem_cons.mpr ⟨lw_p9, List.forall_mem_cons.mpr ⟨lw_p10, List.forall_mem_cons.mpr ⟨lw_p11, List.forall_mem_cons.mpr ⟨lw_p12, List.forall_mem_cons.mpr ⟨lw_p13, List.forall_mem_cons.mpr ⟨lw_p14, List.forall_mem_cons.mpr ⟨lw_p15, fun _ h => absurd h List.not_mem_nil⟩⟩⟩⟩⟩⟩⟩⟩⟩⟩⟩⟩⟩⟩⟩⟩
theorem lw_p16 : lw_okq (⟨"KindWordsModel", "daysOf", "(I)I"⟩, 27) := ⟨⟨by decide +kernel, by decide +kernel⟩, List.mem_of_getElem? (i := 545) (by decide +kernel), List.mem_of_getElem? (i := 707) (by decide +kernel), List.mem_of_getElem? (i := 708) (by decide +kernel)⟩
theorem lw_p17 : lw_okq (⟨"KindWordsModel", "needsOf", "(I)I"⟩, 27) := ⟨⟨by decide +kernel, by decide +kernel⟩, List.mem_of_getElem? (i := 545) (by decide +kernel), List.mem_of_getElem? (i := 711) (by decide +kernel), List.mem_of_getElem? (i := 712) (by decide +kernel)⟩
theorem lw_p18 : lw_okq (⟨"KindWordsModel", "findOf", "(I)I"⟩, 27) := ⟨⟨by decide +kernel, by decide +kernel⟩, List.mem_of_getElem? (i := 545) (by decide +kernel), List.mem_of_getElem? (i := 715) (by decide +kernel), List.mem_of_getElem? (i := 716) (by decide +kernel)⟩
theorem lw_p19 : lw_okq (⟨"KindWordsModel", "knows", "(II)Z"⟩, 27) := ⟨⟨by decide +kernel, by decide +kernel⟩, List.mem_of_getElem? (i := 545) (by decide +kernel), List.mem_of_getElem? (i := 731) (by decide +kernel), List.mem_of_getElem? (i := 732) (by decide +kernel)⟩
theorem lw_p20 : lw_okq (⟨"KindWordsModel", "says", "(II)I"⟩, 27) := ⟨⟨by decide +kernel, by decide +kernel⟩, List.mem_of_getElem? (i := 545) (by decide +kernel), List.mem_of_getElem? (i := 735) (by decide +kernel), List.mem_of_getElem? (i := 736) (by decide +kernel)⟩
theorem lw_p21 : lw_okq (⟨"KindWordsModel", "sleep", "()V"⟩, 27) := ⟨⟨by decide +kernel, by decide +kernel⟩, List.mem_of_getElem? (i := 545) (by decide +kernel), List.mem_of_getElem? (i := 747) (by decide +kernel), List.mem_of_getElem? (i := 748) (by decide +kernel)⟩
theorem lw_p22 : lw_okq (⟨"KindWordsModel", "mostOf", "()I"⟩, 27) := ⟨⟨by decide +kernel, by decide +kernel⟩, List.mem_of_getElem? (i := 545) (by decide +kernel), List.mem_of_getElem? (i := 755) (by decide +kernel), List.mem_of_getElem? (i := 756) (by decide +kernel)⟩
theorem lw_p23 : lw_okq (⟨"KindWordsModel", "layMost", "(I)I"⟩, 27) := ⟨⟨by decide +kernel, by decide +kernel⟩, List.mem_of_getElem? (i := 545) (by decide +kernel), List.mem_of_getElem? (i := 759) (by decide +kernel), List.mem_of_getElem? (i := 760) (by decide +kernel)⟩
theorem lw_p24 : lw_okq (⟨"KindWordsModel", "saidBy", "(II)I"⟩, 27) := ⟨⟨by decide +kernel, by decide +kernel⟩, List.mem_of_getElem? (i := 545) (by decide +kernel), List.mem_of_getElem? (i := 763) (by decide +kernel), List.mem_of_getElem? (i := 764) (by decide +kernel)⟩
theorem lw_p25 : lw_okq (⟨"KindWordsModel", "needsAll", "()I"⟩, 27) := ⟨⟨by decide +kernel, by decide +kernel⟩, List.mem_of_getElem? (i := 545) (by decide +kernel), List.mem_of_getElem? (i := 770) (by decide +kernel), List.mem_of_getElem? (i := 771) (by decide +kernel)⟩
theorem lw_p26 : lw_okq (⟨"KindWordsModel", "truthsOf", "(II)I"⟩, 27) := ⟨⟨by decide +kernel, by decide +kernel⟩, List.mem_of_getElem? (i := 545) (by decide +kernel), List.mem_of_getElem? (i := 790) (by decide +kernel), List.mem_of_getElem? (i := 791) (by decide +kernel)⟩
theorem lw_p27 : lw_okq (⟨"KindWordsModel", "isTried", "(II)Z"⟩, 27) := ⟨⟨by decide +kernel, by decide +kernel⟩, List.mem_of_getElem? (i := 545) (by decide +kernel), List.mem_of_getElem? (i := 794) (by decide +kernel), List.mem_of_getElem? (i := 795) (by decide +kernel)⟩
theorem lw_p28 : lw_okq (⟨"KindWordsModel", "attemptOf", "(I)I"⟩, 27) := ⟨⟨by decide +kernel, by decide +kernel⟩, List.mem_of_getElem? (i := 545) (by decide +kernel), List.mem_of_getElem? (i := 802) (by decide +kernel), List.mem_of_getElem? (i := 803) (by decide +kernel)⟩
theorem lw_p29 : lw_okq (⟨"KindWordsModel", "dayOf", "(I)I"⟩, 27) := ⟨⟨by decide +kernel, by decide +kernel⟩, List.mem_of_getElem? (i := 545) (by decide +kernel), List.mem_of_getElem? (i := 811) (by decide +kernel), List.mem_of_getElem? (i := 812) (by decide +kernel)⟩
theorem lw_p30 : lw_okq (⟨"KindWordsModel", "draw", "(I)I"⟩, 27) := ⟨⟨by decide +kernel, by decide +kernel⟩, List.mem_of_getElem? (i := 545) (by decide +kernel), List.mem_of_getElem? (i := 815) (by decide +kernel), List.mem_of_getElem? (i := 816) (by decide +kernel)⟩
theorem lw_p31 : lw_okq (⟨"KindWordsModel", "paidMany", "()I"⟩, 27) := ⟨⟨by decide +kernel, by decide +kernel⟩, List.mem_of_getElem? (i := 545) (by decide +kernel), List.mem_of_getElem? (i := 823) (by decide +kernel), List.mem_of_getElem? (i := 824) (by decide +kernel)⟩
def lw_privs_2 : List (MethodName × Nat) := [(⟨"KindWordsModel", "daysOf", "(I)I"⟩, 27), (⟨"KindWordsModel", "needsOf", "(I)I"⟩, 27), (⟨"KindWordsModel", "findOf", "(I)I"⟩, 27), (⟨"KindWordsModel", "knows", "(II)Z"⟩, 27), (⟨"KindWordsModel", "says", "(II)I"⟩, 27), (⟨"KindWordsModel", "sleep", "()V"⟩, 27), (⟨"KindWordsModel", "mostOf", "()I"⟩, 27), (⟨"KindWordsModel", "layMost", "(I)I"⟩, 27), (⟨"KindWordsModel", "saidBy", "(II)I"⟩, 27), (⟨"KindWordsModel", "needsAll", "()I"⟩, 27), (⟨"KindWordsModel", "truthsOf", "(II)I"⟩, 27), (⟨"KindWordsModel", "isTried", "(II)Z"⟩, 27), (⟨"KindWordsModel", "attemptOf", "(I)I"⟩, 27), (⟨"KindWordsModel", "dayOf", "(I)I"⟩, 27), (⟨"KindWordsModel", "draw", "(I)I"⟩, 27), (⟨"KindWordsModel", "paidMany", "()I"⟩, 27)]
theorem lw_r2 : ∀ q ∈ lw_privs_2, lw_okq q := List.forall_mem_cons.mpr ⟨lw_p16, List.forall_mem_cons.mpr ⟨lw_p17, List.forall_mem_cons.mpr ⟨lw_p18, List.forall_mem_cons.mpr ⟨lw_p19, List.forall_mem_cons.mpr ⟨lw_p20, List.forall_mem_cons.mpr ⟨lw_p21, List.forall_mem_cons.mpr ⟨lw_p22, List.forall_mem_cons.mpr ⟨lw_p23, List.forall_mem_cons.mpr ⟨lw_p24, List.forall_mem_cons.mpr ⟨lw_p25, List.forall_mem_cons.mpr ⟨lw_p26, List.forall_mem_cons.mpr ⟨lw_p27, List.forall_mem_cons.mpr ⟨lw_p28, List.forall_mem_cons.mpr ⟨lw_p29, List.forall_mem_cons.mpr ⟨lw_p30, List.forall_mem_cons.mpr ⟨lw_p31, fun _ h => absurd h List.not_mem_nil⟩⟩⟩⟩⟩⟩⟩⟩⟩⟩⟩⟩⟩⟩⟩⟩
theorem lw_p32 : lw_okq (⟨"KindWordsModel", "countOf", "(I)I"⟩, 27) := ⟨⟨by decide +kernel, by decide +kernel⟩, List.mem_of_getElem? (i := 545) (by decide +kernel), List.mem_of_getElem? (i := 839) (by decide +kernel), List.mem_of_getElem? (i := 840) (by decide +kernel)⟩
theorem lw_p33 : lw_okq (⟨"KindWordsModel", "finesAll", "()I"⟩, 27) := ⟨⟨by decide +kernel, by decide +kernel⟩, List.mem_of_getElem? (i := 545) (by decide +kernel), List.mem_of_getElem? (i := 843) (by decide +kernel), List.mem_of_getElem? (i := 844) (by decide +kernel)⟩
theorem lw_p34 : lw_okq (⟨"KindWordsModel", "noteVictim", "(I)I"⟩, 27) := ⟨⟨by decide +kernel, by decide +kernel⟩, List.mem_of_getElem? (i := 545) (by decide +kernel), List.mem_of_getElem? (i := 852) (by decide +kernel), List.mem_of_getElem? (i := 853) (by decide +kernel)⟩
theorem lw_p35 : lw_okq (⟨"KindWordsModel", "note", "(J)V"⟩, 27) := ⟨⟨by decide +kernel, by decide +kernel⟩, List.mem_of_getElem? (i := 545) (by decide +kernel), List.mem_of_getElem? (i := 856) (by decide +kernel), List.mem_of_getElem? (i := 857) (by decide +kernel)⟩
def lw_privs_3 : List (MethodName × Nat) := [(⟨"KindWordsModel", "countOf", "(I)I"⟩, 27), (⟨"KindWordsModel", "finesAll", "()I"⟩, 27), (⟨"KindWordsModel", "noteVictim", "(I)I"⟩, 27), (⟨"KindWordsModel", "note", "(J)V"⟩, 27)]
theorem lw_r3 : ∀ q ∈ lw_privs_3, lw_okq q := List.forall_mem_cons.mpr ⟨lw_p32, List.forall_mem_cons.mpr ⟨lw_p33, List.forall_mem_cons.mpr ⟨lw_p34, List.forall_mem_cons.mpr ⟨lw_p35, fun _ h => absurd h List.not_mem_nil⟩⟩⟩⟩
def lw_privs : List (MethodName × Nat) := lw_privs_1 ++ (lw_privs_2 ++ (lw_privs_3))
def lw_tbl : List Cond := k2_sels lw_privs ++ tables_1
theorem lw_privs_ok : ∀ q ∈ lw_privs, lw_okq q := by
  show ∀ q ∈ lw_privs_1 ++ (lw_privs_2 ++ (lw_privs_3)), lw_okq q
  exact List.forall_mem_append.mpr ⟨lw_r1, List.forall_mem_append.mpr ⟨lw_r2, lw_r3⟩⟩
-- ===== end of PART A; then your names; then what follows =====
end
section
def RX0 : String := "KindWords$Convict"
def TX0 : u_T := fun k => match k with
  | 0 => ("KindWords$Convict", "kind", "I", false)
  | 1 => ("KindWords$Convict", "victim", "I", false)
  | 2 => ("KindWords$Convict", "fine", "I", false)
  | 3 => ("KindWords$Convict", "knows", "I", false)
  | 4 => ("KindWords$Convict", "mayToday", "I", false)
  | _ => ("KindWords$Convict", "counted", "I", false)
def tyX0 : Nat → FieldType := fun k => match k with
  | 0 => .int
  | 1 => .int
  | 2 => .int
  | 3 => .int
  | 4 => .int
  | _ => .int
abbrev wsX00 : List Cond := u_ws RX0 TX0 6
theorem nmX0 : ∀ a, a < 6 → ∀ b, b < 6 → a ≠ b → (TX0 a).2.1 ≠ (TX0 b).2.1 := by decide +kernel
theorem tyX0_ok : ∀ k, k < 6 → parseFieldDescriptor (TX0 k).2.2.1 = some (tyX0 k) := by decide +kernel
abbrev cX0_init : ByteArray := prog_2_method_1_code
def yX0_init : MethodName := ⟨RX0, "<init>", "()V"⟩
abbrev cX0_begin : ByteArray := prog_2_method_2_code
def yX0_begin : MethodName := ⟨RX0, "begin", "(IIII)V"⟩
abbrev cX0_copy : ByteArray := prog_2_method_3_code
def yX0_copy : MethodName := ⟨RX0, "copy", "(LKindWords$Convict;)V"⟩
abbrev cX0_isA : ByteArray := prog_2_method_4_code
def yX0_isA : MethodName := ⟨RX0, "isA", "(I)Z"⟩
abbrev cX0_mayEachDay : ByteArray := prog_2_method_5_code
def yX0_mayEachDay : MethodName := ⟨RX0, "mayEachDay", "()I"⟩
abbrev cX0_hasPaid : ByteArray := prog_2_method_6_code
def yX0_hasPaid : MethodName := ⟨RX0, "hasPaid", "()Z"⟩
abbrev cX0_knowsOf : ByteArray := prog_2_method_7_code
def yX0_knowsOf : MethodName := ⟨RX0, "knowsOf", "(I)Z"⟩
abbrev cX0_needs : ByteArray := prog_2_method_8_code
def yX0_needs : MethodName := ⟨RX0, "needs", "()I"⟩
abbrev cX0_pay : ByteArray := prog_2_method_9_code
def yX0_pay : MethodName := ⟨RX0, "pay", "()V"⟩
def RX1 : String := "KindWords$Shares"
def TX1 : u_T := fun k => match k with
  | 0 => ("KindWords$Shares", "needs", "[I", true)
  | 1 => ("KindWords$Shares", "left", "[I", true)
  | _ => ("KindWords$Shares", "convictCount", "I", false)
def tyX1 : Nat → FieldType := fun k => match k with
  | 0 => .array .int
  | 1 => .array .int
  | _ => .int
abbrev wsX10 : List Cond := u_ws RX1 TX1 3
theorem nmX1 : ∀ a, a < 3 → ∀ b, b < 3 → a ≠ b → (TX1 a).2.1 ≠ (TX1 b).2.1 := by decide +kernel
theorem tyX1_ok : ∀ k, k < 3 → parseFieldDescriptor (TX1 k).2.2.1 = some (tyX1 k) := by decide +kernel
abbrev cX1_init : ByteArray := prog_3_method_1_code
def yX1_init : MethodName := ⟨RX1, "<init>", "()V"⟩
abbrev cX1_mostOfAll : ByteArray := prog_3_method_2_code
def yX1_mostOfAll : MethodName := ⟨RX1, "mostOfAll", "(LKindWords$Town;)I"⟩
abbrev cX1_sayerOf : ByteArray := prog_3_method_3_code
def yX1_sayerOf : MethodName := ⟨RX1, "sayerOf", "(LKindWords$Town;II)I"⟩
abbrev cX1_take : ByteArray := prog_3_method_4_code
def yX1_take : MethodName := ⟨RX1, "take", "(LKindWords$Town;I)V"⟩
abbrev cX1_firstSayer : ByteArray := prog_3_method_5_code
def yX1_firstSayer : MethodName := ⟨RX1, "firstSayer", "(III)I"⟩
abbrev cX1_mostAmong : ByteArray := prog_3_method_6_code
def yX1_mostAmong : MethodName := ⟨RX1, "mostAmong", "(I)I"⟩
def RX2 : String := "KindWords$Town"
def TX2 : u_T := fun k => match k with
  | 0 => ("KindWords$Town", "victims", "[LKindWords$Victim;", true)
  | 1 => ("KindWords$Town", "convicts", "[LKindWords$Convict;", true)
  | 2 => ("KindWords$Town", "convictCount", "I", false)
  | 3 => ("KindWords$Town", "sheets", "I", false)
  | 4 => ("KindWords$Town", "day", "I", false)
  | _ => ("KindWords$Town", "trials", "I", false)
def tyX2 : Nat → FieldType := fun k => match k with
  | 0 => .array (.object "KindWords$Victim")
  | 1 => .array (.object "KindWords$Convict")
  | 2 => .int
  | 3 => .int
  | 4 => .int
  | _ => .int
abbrev wsX20 : List Cond := u_ws RX2 TX2 6
theorem nmX2 : ∀ a, a < 6 → ∀ b, b < 6 → a ≠ b → (TX2 a).2.1 ≠ (TX2 b).2.1 := by decide +kernel
theorem tyX2_ok : ∀ k, k < 6 → parseFieldDescriptor (TX2 k).2.2.1 = some (tyX2 k) := by decide +kernel
abbrev cX2_init : ByteArray := prog_4_method_1_code
def yX2_init : MethodName := ⟨RX2, "<init>", "()V"⟩
abbrev cX2_clear : ByteArray := prog_4_method_2_code
def yX2_clear : MethodName := ⟨RX2, "clear", "()V"⟩
abbrev cX2_copy : ByteArray := prog_4_method_3_code
def yX2_copy : MethodName := ⟨RX2, "copy", "(LKindWords$Town;)V"⟩
abbrev cX2_forgetTrials : ByteArray := prog_4_method_4_code
def yX2_forgetTrials : MethodName := ⟨RX2, "forgetTrials", "()V"⟩
abbrev cX2_beginNextDay : ByteArray := prog_4_method_5_code
def yX2_beginNextDay : MethodName := ⟨RX2, "beginNextDay", "()V"⟩
abbrev cX2_hear : ByteArray := prog_4_method_6_code
def yX2_hear : MethodName := ⟨RX2, "hear", "(LKindWords$Convict;I)Z"⟩
abbrev cX2_leftTo : ByteArray := prog_4_method_7_code
def yX2_leftTo : MethodName := ⟨RX2, "leftTo", "(LKindWords$Convict;)I"⟩
abbrev cX2_daysFor : ByteArray := prog_4_method_8_code
def yX2_daysFor : MethodName := ⟨RX2, "daysFor", "(LKindWords$Convict;)I"⟩
abbrev cX2_findFor : ByteArray := prog_4_method_9_code
def yX2_findFor : MethodName := ⟨RX2, "findFor", "(LKindWords$Convict;)I"⟩
abbrev cX2_allConvicts : ByteArray := prog_4_method_10_code
def yX2_allConvicts : MethodName := ⟨RX2, "allConvicts", "()I"⟩
abbrev cX2_convictsOf : ByteArray := prog_4_method_11_code
def yX2_convictsOf : MethodName := ⟨RX2, "convictsOf", "(I)I"⟩
abbrev cX2_finesOf : ByteArray := prog_4_method_12_code
def yX2_finesOf : MethodName := ⟨RX2, "finesOf", "(I)I"⟩
abbrev cX2_needsOfAll : ByteArray := prog_4_method_13_code
def yX2_needsOfAll : MethodName := ⟨RX2, "needsOfAll", "()I"⟩
abbrev cX2_paidCount : ByteArray := prog_4_method_14_code
def yX2_paidCount : MethodName := ⟨RX2, "paidCount", "()I"⟩
abbrev cX2_truthsOfAll : ByteArray := prog_4_method_15_code
def yX2_truthsOfAll : MethodName := ⟨RX2, "truthsOfAll", "()I"⟩
abbrev cX2_usedOfAll : ByteArray := prog_4_method_16_code
def yX2_usedOfAll : MethodName := ⟨RX2, "usedOfAll", "()I"⟩
def RX3 : String := "KindWords$Victim"
def TX3 : u_T := fun k => match k with
  | 0 => ("KindWords$Victim", "truth", "I", false)
  | 1 => ("KindWords$Victim", "used", "I", false)
  | 2 => ("KindWords$Victim", "triedTrue", "I", false)
  | _ => ("KindWords$Victim", "triedFalse", "I", false)
def tyX3 : Nat → FieldType := fun k => match k with
  | 0 => .int
  | 1 => .int
  | 2 => .int
  | _ => .int
abbrev wsX30 : List Cond := u_ws RX3 TX3 4
theorem nmX3 : ∀ a, a < 4 → ∀ b, b < 4 → a ≠ b → (TX3 a).2.1 ≠ (TX3 b).2.1 := by decide +kernel
theorem tyX3_ok : ∀ k, k < 4 → parseFieldDescriptor (TX3 k).2.2.1 = some (tyX3 k) := by decide +kernel
abbrev cX3_init : ByteArray := prog_5_method_1_code
def yX3_init : MethodName := ⟨RX3, "<init>", "()V"⟩
abbrev cX3_clear : ByteArray := prog_5_method_2_code
def yX3_clear : MethodName := ⟨RX3, "clear", "()V"⟩
abbrev cX3_copy : ByteArray := prog_5_method_3_code
def yX3_copy : MethodName := ⟨RX3, "copy", "(LKindWords$Victim;)V"⟩
abbrev cX3_forgetTrials : ByteArray := prog_5_method_4_code
def yX3_forgetTrials : MethodName := ⟨RX3, "forgetTrials", "()V"⟩
abbrev cX3_tried : ByteArray := prog_5_method_5_code
def yX3_tried : MethodName := ⟨RX3, "tried", "(IZ)V"⟩
abbrev cX3_trueAndNew : ByteArray := prog_5_method_6_code
def yX3_trueAndNew : MethodName := ⟨RX3, "trueAndNew", "()I"⟩
abbrev cX3_possibleSets : ByteArray := prog_5_method_7_code
def yX3_possibleSets : MethodName := ⟨RX3, "possibleSets", "()I"⟩
abbrev cX3_sayingToTry : ByteArray := prog_5_method_8_code
def yX3_sayingToTry : MethodName := ⟨RX3, "sayingToTry", "()I"⟩
def RX4 : String := "KindWords$Weeks"
def TX4 : u_T := fun k => match k with
  | 0 => ("KindWords$Weeks", "town", "LKindWords$Town;", true)
  | 1 => ("KindWords$Weeks", "seed", "I", false)
  | _ => ("KindWords$Weeks", "counted", "I", false)
def tyX4 : Nat → FieldType := fun k => match k with
  | 0 => .object "KindWords$Town"
  | 1 => .int
  | _ => .int
abbrev wsX40 : List Cond := u_ws RX4 TX4 3
theorem nmX4 : ∀ a, a < 3 → ∀ b, b < 3 → a ≠ b → (TX4 a).2.1 ≠ (TX4 b).2.1 := by decide +kernel
theorem tyX4_ok : ∀ k, k < 3 → parseFieldDescriptor (TX4 k).2.2.1 = some (tyX4 k) := by decide +kernel
abbrev cX4_init : ByteArray := prog_6_method_1_code
def yX4_init : MethodName := ⟨RX4, "<init>", "()V"⟩
abbrev cX4_run : ByteArray := prog_6_method_2_code
def yX4_run : MethodName := ⟨RX4, "run", "(LKindWords$Town;II)V"⟩
abbrev cX4_talk : ByteArray := prog_6_method_3_code
def yX4_talk : MethodName := ⟨RX4, "talk", "(LKindWords$Convict;)V"⟩
abbrev cX4_draw : ByteArray := prog_6_method_4_code
def yX4_draw : MethodName := ⟨RX4, "draw", "()I"⟩
def RX5 : String := "KindWords"
def TX5 : u_T := fun k => match k with
  | 0 => ("KindWords", "page", "[C", true)
  | 1 => ("KindWords", "letters", "I", false)
  | 2 => ("KindWords", "now", "LKindWords$Town;", true)
  | 3 => ("KindWords", "kept", "LKindWords$Town;", true)
  | 4 => ("KindWords", "supposed", "LKindWords$Weeks;", true)
  | 5 => ("KindWords", "shares", "LKindWords$Shares;", true)
  | 6 => ("KindWords", "hasTown", "Z", false)
  | 7 => ("KindWords", "hasImage", "Z", false)
  | _ => ("KindWords", "townsRead", "I", false)
def tyX5 : Nat → FieldType := fun k => match k with
  | 0 => .array .char
  | 1 => .int
  | 2 => .object "KindWords$Town"
  | 3 => .object "KindWords$Town"
  | 4 => .object "KindWords$Weeks"
  | 5 => .object "KindWords$Shares"
  | 6 => .boolean
  | 7 => .boolean
  | _ => .int
abbrev wsX50 : List Cond := u_ws RX5 TX5 9
theorem nmX5 : ∀ a, a < 9 → ∀ b, b < 9 → a ≠ b → (TX5 a).2.1 ≠ (TX5 b).2.1 := by decide +kernel
theorem tyX5_ok : ∀ k, k < 9 → parseFieldDescriptor (TX5 k).2.2.1 = some (tyX5 k) := by decide +kernel
abbrev cX5_init : ByteArray := prog_1_method_1_code
def yX5_init : MethodName := ⟨RX5, "<init>", "()V"⟩
abbrev cX5_letter : ByteArray := prog_1_method_2_code
def yX5_letter : MethodName := ⟨RX5, "letter", "(I)I"⟩
abbrev cX5_blank : ByteArray := prog_1_method_3_code
def yX5_blank : MethodName := ⟨RX5, "blank", "()I"⟩
abbrev cX5_fault : ByteArray := prog_1_method_4_code
def yX5_fault : MethodName := ⟨RX5, "fault", "()I"⟩
abbrev cX5_town : ByteArray := prog_1_method_5_code
def yX5_town : MethodName := ⟨RX5, "town", "()I"⟩
abbrev cX5_victim : ByteArray := prog_1_method_6_code
def yX5_victim : MethodName := ⟨RX5, "victim", "(II)I"⟩
abbrev cX5_convict : ByteArray := prog_1_method_7_code
def yX5_convict : MethodName := ⟨RX5, "convict", "(IIII)I"⟩
abbrev cX5_about : ByteArray := prog_1_method_8_code
def yX5_about : MethodName := ⟨RX5, "about", "(II)I"⟩
abbrev cX5_as : ByteArray := prog_1_method_9_code
def yX5_as : MethodName := ⟨RX5, "as", "(II)I"⟩
abbrev cX5_say : ByteArray := prog_1_method_10_code
def yX5_say : MethodName := ⟨RX5, "say", "(II)I"⟩
abbrev cX5_learn : ByteArray := prog_1_method_11_code
def yX5_learn : MethodName := ⟨RX5, "learn", "(II)I"⟩
abbrev cX5_night : ByteArray := prog_1_method_12_code
def yX5_night : MethodName := ⟨RX5, "night", "()I"⟩
abbrev cX5_most : ByteArray := prog_1_method_13_code
def yX5_most : MethodName := ⟨RX5, "most", "(I)I"⟩
abbrev cX5_who : ByteArray := prog_1_method_14_code
def yX5_who : MethodName := ⟨RX5, "who", "(II)I"⟩
abbrev cX5_trial : ByteArray := prog_1_method_15_code
def yX5_trial : MethodName := ⟨RX5, "trial", "(IIZ)I"⟩
abbrev cX5_forget : ByteArray := prog_1_method_16_code
def yX5_forget : MethodName := ⟨RX5, "forget", "()I"⟩
abbrev cX5_truths : ByteArray := prog_1_method_17_code
def yX5_truths : MethodName := ⟨RX5, "truths", "(II)I"⟩
abbrev cX5_attempt : ByteArray := prog_1_method_18_code
def yX5_attempt : MethodName := ⟨RX5, "attempt", "(I)I"⟩
abbrev cX5_weeks : ByteArray := prog_1_method_19_code
def yX5_weeks : MethodName := ⟨RX5, "weeks", "(III)I"⟩
abbrev cX5_image : ByteArray := prog_1_method_20_code
def yX5_image : MethodName := ⟨RX5, "image", "()I"⟩
abbrev cX5_restore : ByteArray := prog_1_method_21_code
def yX5_restore : MethodName := ⟨RX5, "restore", "()I"⟩
abbrev cX5_count : ByteArray := prog_1_method_22_code
def yX5_count : MethodName := ⟨RX5, "count", "(I)I"⟩
abbrev cX5_digest : ByteArray := prog_1_method_23_code
def yX5_digest : MethodName := ⟨RX5, "digest", "()J"⟩
abbrev cX5_withVictim : ByteArray := prog_1_method_24_code
def yX5_withVictim : MethodName := ⟨RX5, "withVictim", "(JI)J"⟩
abbrev cX5_with : ByteArray := prog_1_method_25_code
def yX5_with : MethodName := ⟨RX5, "with", "(JI)J"⟩
abbrev cX5_fits : ByteArray := prog_1_method_26_code
def yX5_fits : MethodName := ⟨RX5, "fits", "(IC)Z"⟩
abbrev cX5_digitAt : ByteArray := prog_1_method_27_code
def yX5_digitAt : MethodName := ⟨RX5, "digitAt", "(I)I"⟩
abbrev cX5_isVictim : ByteArray := prog_1_method_28_code
def yX5_isVictim : MethodName := ⟨RX5, "isVictim", "(I)Z"⟩
abbrev cX5_isConvict : ByteArray := prog_1_method_29_code
def yX5_isConvict : MethodName := ⟨RX5, "isConvict", "(I)Z"⟩
abbrev cX5_isSaying : ByteArray := prog_1_method_30_code
def yX5_isSaying : MethodName := ⟨RX5, "isSaying", "(I)Z"⟩
abbrev cX5_isKind : ByteArray := prog_1_method_31_code
def yX5_isKind : MethodName := ⟨RX5, "isKind", "(I)Z"⟩
def RX6 : String := "KindWordsModel"
def TX6 : u_T := fun k => match k with
  | 0 => ("KindWordsModel", "page", "[I", true)
  | 1 => ("KindWordsModel", "pageMany", "I", false)
  | 2 => ("KindWordsModel", "isThere", "Z", false)
  | 3 => ("KindWordsModel", "sheets", "I", false)
  | 4 => ("KindWordsModel", "dayNow", "I", false)
  | 5 => ("KindWordsModel", "townsRead", "I", false)
  | 6 => ("KindWordsModel", "truth", "[I", true)
  | 7 => ("KindWordsModel", "used", "[I", true)
  | 8 => ("KindWordsModel", "convicts", "I", false)
  | 9 => ("KindWordsModel", "rows", "[I", true)
  | 10 => ("KindWordsModel", "whoSays", "[I", true)
  | 11 => ("KindWordsModel", "bestSays", "[I", true)
  | 12 => ("KindWordsModel", "saysMany", "[I", true)
  | 13 => ("KindWordsModel", "trialMany", "I", false)
  | 14 => ("KindWordsModel", "trials", "[I", true)
  | 15 => ("KindWordsModel", "seedNow", "I", false)
  | 16 => ("KindWordsModel", "savedRows", "[I", true)
  | 17 => ("KindWordsModel", "savedUsed", "[I", true)
  | 18 => ("KindWordsModel", "keptTown", "I", false)
  | 19 => ("KindWordsModel", "keptSheets", "I", false)
  | 20 => ("KindWordsModel", "keptDay", "I", false)
  | 21 => ("KindWordsModel", "keptConvicts", "I", false)
  | 22 => ("KindWordsModel", "keptTrialMany", "I", false)
  | 23 => ("KindWordsModel", "keptRows", "[I", true)
  | 24 => ("KindWordsModel", "keptUsed", "[I", true)
  | 25 => ("KindWordsModel", "keptTrials", "[I", true)
  | _ => ("KindWordsModel", "hash", "J", false)
def tyX6 : Nat → FieldType := fun k => match k with
  | 0 => .array .int
  | 1 => .int
  | 2 => .boolean
  | 3 => .int
  | 4 => .int
  | 5 => .int
  | 6 => .array .int
  | 7 => .array .int
  | 8 => .int
  | 9 => .array .int
  | 10 => .array .int
  | 11 => .array .int
  | 12 => .array .int
  | 13 => .int
  | 14 => .array .int
  | 15 => .int
  | 16 => .array .int
  | 17 => .array .int
  | 18 => .int
  | 19 => .int
  | 20 => .int
  | 21 => .int
  | 22 => .int
  | 23 => .array .int
  | 24 => .array .int
  | 25 => .array .int
  | _ => .long
abbrev wsX60 : List Cond := u_ws RX6 TX6 27
theorem nmX6 : ∀ a, a < 27 → ∀ b, b < 27 → a ≠ b → (TX6 a).2.1 ≠ (TX6 b).2.1 := by decide +kernel
theorem tyX6_ok : ∀ k, k < 27 → parseFieldDescriptor (TX6 k).2.2.1 = some (tyX6 k) := by decide +kernel
abbrev cX6_init : ByteArray := prog_8_method_1_code
def yX6_init : MethodName := ⟨RX6, "<init>", "()V"⟩
abbrev cX6_in : ByteArray := prog_8_method_2_code
def yX6_in : MethodName := ⟨RX6, "in", "(JJJ)Z"⟩
abbrev cX6_copy : ByteArray := prog_8_method_3_code
def yX6_copy : MethodName := ⟨RX6, "copy", "([I[I)V"⟩
abbrev cX6_ones : ByteArray := prog_8_method_4_code
def yX6_ones : MethodName := ⟨RX6, "ones", "(I)I"⟩
abbrev cX6_letter : ByteArray := prog_8_method_5_code
def yX6_letter : MethodName := ⟨RX6, "letter", "(I)I"⟩
abbrev cX6_blank : ByteArray := prog_8_method_6_code
def yX6_blank : MethodName := ⟨RX6, "blank", "()I"⟩
abbrev cX6_isGood : ByteArray := prog_8_method_7_code
def yX6_isGood : MethodName := ⟨RX6, "isGood", "(II)Z"⟩
abbrev cX6_faultOf : ByteArray := prog_8_method_8_code
def yX6_faultOf : MethodName := ⟨RX6, "faultOf", "()I"⟩
abbrev cX6_fault : ByteArray := prog_8_method_9_code
def yX6_fault : MethodName := ⟨RX6, "fault", "()I"⟩
abbrev cX6_trueAll : ByteArray := prog_8_method_10_code
def yX6_trueAll : MethodName := ⟨RX6, "trueAll", "()I"⟩
abbrev cX6_town : ByteArray := prog_8_method_11_code
def yX6_town : MethodName := ⟨RX6, "town", "()I"⟩
abbrev cX6_isVictim : ByteArray := prog_8_method_12_code
def yX6_isVictim : MethodName := ⟨RX6, "isVictim", "(I)Z"⟩
abbrev cX6_isSaying : ByteArray := prog_8_method_13_code
def yX6_isSaying : MethodName := ⟨RX6, "isSaying", "(I)Z"⟩
abbrev cX6_isConvict : ByteArray := prog_8_method_14_code
def yX6_isConvict : MethodName := ⟨RX6, "isConvict", "(I)Z"⟩
abbrev cX6_aDay : ByteArray := prog_8_method_15_code
def yX6_aDay : MethodName := ⟨RX6, "aDay", "(I)I"⟩
abbrev cX6_tellVictim : ByteArray := prog_8_method_16_code
def yX6_tellVictim : MethodName := ⟨RX6, "tellVictim", "(II)I"⟩
abbrev cX6_victim : ByteArray := prog_8_method_17_code
def yX6_victim : MethodName := ⟨RX6, "victim", "(II)I"⟩
abbrev cX6_convict : ByteArray := prog_8_method_18_code
def yX6_convict : MethodName := ⟨RX6, "convict", "(IIII)I"⟩
abbrev cX6_leftOf : ByteArray := prog_8_method_19_code
def yX6_leftOf : MethodName := ⟨RX6, "leftOf", "(I)I"⟩
abbrev cX6_needsOf : ByteArray := prog_8_method_20_code
def yX6_needsOf : MethodName := ⟨RX6, "needsOf", "(I)I"⟩
abbrev cX6_daysOf : ByteArray := prog_8_method_21_code
def yX6_daysOf : MethodName := ⟨RX6, "daysOf", "(I)I"⟩
abbrev cX6_findOf : ByteArray := prog_8_method_22_code
def yX6_findOf : MethodName := ⟨RX6, "findOf", "(I)I"⟩
abbrev cX6_tell : ByteArray := prog_8_method_23_code
def yX6_tell : MethodName := ⟨RX6, "tell", "(II)I"⟩
abbrev cX6_about : ByteArray := prog_8_method_24_code
def yX6_about : MethodName := ⟨RX6, "about", "(II)I"⟩
abbrev cX6_as : ByteArray := prog_8_method_25_code
def yX6_as : MethodName := ⟨RX6, "as", "(II)I"⟩
abbrev cX6_knows : ByteArray := prog_8_method_26_code
def yX6_knows : MethodName := ⟨RX6, "knows", "(II)Z"⟩
abbrev cX6_says : ByteArray := prog_8_method_27_code
def yX6_says : MethodName := ⟨RX6, "says", "(II)I"⟩
abbrev cX6_say : ByteArray := prog_8_method_28_code
def yX6_say : MethodName := ⟨RX6, "say", "(II)I"⟩
abbrev cX6_learn : ByteArray := prog_8_method_29_code
def yX6_learn : MethodName := ⟨RX6, "learn", "(II)I"⟩
abbrev cX6_sleep : ByteArray := prog_8_method_30_code
def yX6_sleep : MethodName := ⟨RX6, "sleep", "()V"⟩
abbrev cX6_night : ByteArray := prog_8_method_31_code
def yX6_night : MethodName := ⟨RX6, "night", "()I"⟩
abbrev cX6_saidBy : ByteArray := prog_8_method_32_code
def yX6_saidBy : MethodName := ⟨RX6, "saidBy", "(II)I"⟩
abbrev cX6_layMost : ByteArray := prog_8_method_33_code
def yX6_layMost : MethodName := ⟨RX6, "layMost", "(I)I"⟩
abbrev cX6_mostOf : ByteArray := prog_8_method_34_code
def yX6_mostOf : MethodName := ⟨RX6, "mostOf", "()I"⟩
abbrev cX6_needsAll : ByteArray := prog_8_method_35_code
def yX6_needsAll : MethodName := ⟨RX6, "needsAll", "()I"⟩
abbrev cX6_most : ByteArray := prog_8_method_36_code
def yX6_most : MethodName := ⟨RX6, "most", "(I)I"⟩
abbrev cX6_who : ByteArray := prog_8_method_37_code
def yX6_who : MethodName := ⟨RX6, "who", "(II)I"⟩
abbrev cX6_trial : ByteArray := prog_8_method_38_code
def yX6_trial : MethodName := ⟨RX6, "trial", "(IIZ)I"⟩
abbrev cX6_forget : ByteArray := prog_8_method_39_code
def yX6_forget : MethodName := ⟨RX6, "forget", "()I"⟩
abbrev cX6_isTried : ByteArray := prog_8_method_40_code
def yX6_isTried : MethodName := ⟨RX6, "isTried", "(II)Z"⟩
abbrev cX6_truthsOf : ByteArray := prog_8_method_41_code
def yX6_truthsOf : MethodName := ⟨RX6, "truthsOf", "(II)I"⟩
abbrev cX6_truths : ByteArray := prog_8_method_42_code
def yX6_truths : MethodName := ⟨RX6, "truths", "(II)I"⟩
abbrev cX6_attemptOf : ByteArray := prog_8_method_43_code
def yX6_attemptOf : MethodName := ⟨RX6, "attemptOf", "(I)I"⟩
abbrev cX6_attempt : ByteArray := prog_8_method_44_code
def yX6_attempt : MethodName := ⟨RX6, "attempt", "(I)I"⟩
abbrev cX6_draw : ByteArray := prog_8_method_45_code
def yX6_draw : MethodName := ⟨RX6, "draw", "(I)I"⟩
abbrev cX6_paidMany : ByteArray := prog_8_method_46_code
def yX6_paidMany : MethodName := ⟨RX6, "paidMany", "()I"⟩
abbrev cX6_dayOf : ByteArray := prog_8_method_47_code
def yX6_dayOf : MethodName := ⟨RX6, "dayOf", "(I)I"⟩
abbrev cX6_weeks : ByteArray := prog_8_method_48_code
def yX6_weeks : MethodName := ⟨RX6, "weeks", "(III)I"⟩
abbrev cX6_image : ByteArray := prog_8_method_49_code
def yX6_image : MethodName := ⟨RX6, "image", "()I"⟩
abbrev cX6_restore : ByteArray := prog_8_method_50_code
def yX6_restore : MethodName := ⟨RX6, "restore", "()I"⟩
abbrev cX6_finesAll : ByteArray := prog_8_method_51_code
def yX6_finesAll : MethodName := ⟨RX6, "finesAll", "()I"⟩
abbrev cX6_countOf : ByteArray := prog_8_method_52_code
def yX6_countOf : MethodName := ⟨RX6, "countOf", "(I)I"⟩
abbrev cX6_count : ByteArray := prog_8_method_53_code
def yX6_count : MethodName := ⟨RX6, "count", "(I)I"⟩
abbrev cX6_note : ByteArray := prog_8_method_54_code
def yX6_note : MethodName := ⟨RX6, "note", "(J)V"⟩
abbrev cX6_noteVictim : ByteArray := prog_8_method_55_code
def yX6_noteVictim : MethodName := ⟨RX6, "noteVictim", "(I)I"⟩
abbrev cX6_digest : ByteArray := prog_8_method_56_code
def yX6_digest : MethodName := ⟨RX6, "digest", "()J"⟩
def RJ6 : String := "java/lang/Integer"
def TJ6 : u_T := fun k => match k with
  | _ => ("", "", "", false)
def tyJ6 : Nat → FieldType := fun k => match k with
  | _ => .int
abbrev wsJ60 : List Cond := u_ws RJ6 TJ6 0
theorem nmJ6 : ∀ a, a < 0 → ∀ b, b < 0 → a ≠ b → (TJ6 a).2.1 ≠ (TJ6 b).2.1 := by decide +kernel
theorem tyJ6_ok : ∀ k, k < 0 → parseFieldDescriptor (TJ6 k).2.2.1 = some (tyJ6 k) := by decide +kernel
abbrev cJ6_bitCount_0f7a4 : ByteArray := prog_9_method_49_code
def yJ6_bitCount_0f7a4 : MethodName := ⟨RJ6, "bitCount", "(I)I"⟩
def RJ9 : String := "java/lang/Math"
def TJ9 : u_T := fun k => match k with
  | _ => ("", "", "", false)
def tyJ9 : Nat → FieldType := fun k => match k with
  | _ => .int
abbrev wsJ90 : List Cond := u_ws RJ9 TJ9 0
theorem nmJ9 : ∀ a, a < 0 → ∀ b, b < 0 → a ≠ b → (TJ9 a).2.1 ≠ (TJ9 b).2.1 := by decide +kernel
theorem tyJ9_ok : ∀ k, k < 0 → parseFieldDescriptor (TJ9 k).2.2.1 = some (tyJ9 k) := by decide +kernel
abbrev cJ9_min_7cf53 : ByteArray := prog_10_method_69_code
def yJ9_min_7cf53 : MethodName := ⟨RJ9, "min", "(II)I"⟩
def RJ0 : String := "java/lang/String"
def TJ0 : u_T := fun k => match k with
  | _ => ("", "", "", false)
def tyJ0 : Nat → FieldType := fun k => match k with
  | _ => .int
abbrev wsJ00 : List Cond := u_ws RJ0 TJ0 0
theorem nmJ0 : ∀ a, a < 0 → ∀ b, b < 0 → a ≠ b → (TJ0 a).2.1 ≠ (TJ0 b).2.1 := by decide +kernel
theorem tyJ0_ok : ∀ k, k < 0 → parseFieldDescriptor (TJ0 k).2.2.1 = some (tyJ0 k) := by decide +kernel
abbrev cJ0_length_8abf5 : ByteArray := prog_11_method_54_code
def yJ0_length_8abf5 : MethodName := ⟨RJ0, "length", "()I"⟩
abbrev cJ0_charAt_5068e : ByteArray := prog_11_method_56_code
def yJ0_charAt_5068e : MethodName := ⟨RJ0, "charAt", "(I)C"⟩
abbrev cJ0_coder_7d493 : ByteArray := prog_11_method_152_code
def yJ0_coder_7d493 : MethodName := ⟨RJ0, "coder", "()B"⟩
abbrev cJ0_isLatin1_aae02 : ByteArray := prog_11_method_154_code
def yJ0_isLatin1_aae02 : MethodName := ⟨RJ0, "isLatin1", "()Z"⟩
abbrev cJ0_checkIndex_df160 : ByteArray := prog_11_method_155_code
def yJ0_checkIndex_df160 : MethodName := ⟨RJ0, "checkIndex", "(II)V"⟩
def RJ1 : String := "java/lang/StringLatin1"
def TJ1 : u_T := fun k => match k with
  | _ => ("", "", "", false)
def tyJ1 : Nat → FieldType := fun k => match k with
  | _ => .int
abbrev wsJ10 : List Cond := u_ws RJ1 TJ1 0
theorem nmJ1 : ∀ a, a < 0 → ∀ b, b < 0 → a ≠ b → (TJ1 a).2.1 ≠ (TJ1 b).2.1 := by decide +kernel
theorem tyJ1_ok : ∀ k, k < 0 → parseFieldDescriptor (TJ1 k).2.2.1 = some (tyJ1 k) := by decide +kernel
abbrev cJ1_charAt_3b067 : ByteArray := prog_12_method_2_code
def yJ1_charAt_3b067 : MethodName := ⟨RJ1, "charAt", "([BI)C"⟩
def RJ2 : String := "java/lang/StringUTF16"
def TJ2 : u_T := fun k => match k with
  | _ => ("", "", "", false)
def tyJ2 : Nat → FieldType := fun k => match k with
  | _ => .int
abbrev wsJ20 : List Cond := u_ws RJ2 TJ2 0
theorem nmJ2 : ∀ a, a < 0 → ∀ b, b < 0 → a ≠ b → (TJ2 a).2.1 ≠ (TJ2 b).2.1 := by decide +kernel
theorem tyJ2_ok : ∀ k, k < 0 → parseFieldDescriptor (TJ2 k).2.2.1 = some (tyJ2 k) := by decide +kernel
abbrev cJ2_getChar_3b067 : ByteArray := prog_13_method_5_code
def yJ2_getChar_3b067 : MethodName := ⟨RJ2, "getChar", "([BI)C"⟩
abbrev cJ2_length_9d52b : ByteArray := prog_13_method_6_code
def yJ2_length_9d52b : MethodName := ⟨RJ2, "length", "([B)I"⟩
abbrev cJ2_charAt_3b067 : ByteArray := prog_13_method_83_code
def yJ2_charAt_3b067 : MethodName := ⟨RJ2, "charAt", "([BI)C"⟩
abbrev cJ2_checkIndex_2214a : ByteArray := prog_13_method_91_code
def yJ2_checkIndex_2214a : MethodName := ⟨RJ2, "checkIndex", "(I[B)V"⟩
def RJ3 : String := "jdk/internal/util/Preconditions"
def TJ3 : u_T := fun k => match k with
  | _ => ("", "", "", false)
def tyJ3 : Nat → FieldType := fun k => match k with
  | _ => .int
abbrev wsJ30 : List Cond := u_ws RJ3 TJ3 0
theorem nmJ3 : ∀ a, a < 0 → ∀ b, b < 0 → a ≠ b → (TJ3 a).2.1 ≠ (TJ3 b).2.1 := by decide +kernel
theorem tyJ3_ok : ∀ k, k < 0 → parseFieldDescriptor (TJ3 k).2.2.1 = some (tyJ3 k) := by decide +kernel
abbrev cJ3_checkIndex_8e157 : ByteArray := prog_14_method_11_code
def yJ3_checkIndex_8e157 : MethodName := ⟨RJ3, "checkIndex", "(IILjava/util/function/BiFunction;)I"⟩
def RL : String := "KindWordsLaw"
abbrev cL_law : ByteArray := code
def yL_law : MethodName := ⟨RL, "law", "([I)Z"⟩
abbrev vwCl : List vw_C := [(RX0, TX0, 6), (RX1, TX1, 3), (RX2, TX2, 6), (RX3, TX3, 4), (RX4, TX4, 3), (RX5, TX5, 9), (RX6, TX6, 27)]
end
section
/-- all good words of the tables -/
def wA : List Cond := lw_tbl.filter goodWord
theorem wA_of {w : Cond} (h : w ∈ tables_1) (g : goodWord w = true) : w ∈ wA := List.mem_filter.mpr ⟨List.mem_append_right _ h, g⟩
theorem wA_sel {q : MethodName × Nat} (h : q ∈ lw_privs) : Cond.selects q.1.cls q.1 q.1 ∈ wA := List.mem_filter.mpr ⟨List.mem_append_left _ (List.mem_map.mpr ⟨q, h, rfl⟩), rfl⟩
/-- the words of a method: its code, and all good words -/
def wY (y : MethodName) (cc : ByteArray) (nL : Nat) (ret : Option FieldType) : List Cond := .code y cc nL ret :: wA
theorem tw_1_0 : Cond.initialized RL ∈ wA := wA_of (w := Cond.initialized RL) (List.mem_append_left _ (List.mem_of_getElem? (i := 0) rfl)) rfl
theorem tw_1_1 : Cond.initialized RX5 ∈ wA := wA_of (w := Cond.initialized RX5) (List.mem_append_left _ (List.mem_of_getElem? (i := 1) rfl)) rfl
theorem tw_1_2 : Cond.initialized RX2 ∈ wA := wA_of (w := Cond.initialized RX2) (List.mem_append_left _ (List.mem_of_getElem? (i := 2) rfl)) rfl
theorem tw_1_3 : Cond.initialized RX3 ∈ wA := wA_of (w := Cond.initialized RX3) (List.mem_append_left _ (List.mem_of_getElem? (i := 3) rfl)) rfl
theorem tw_1_4 : Cond.initialized RX0 ∈ wA := wA_of (w := Cond.initialized RX0) (List.mem_append_left _ (List.mem_of_getElem? (i := 4) rfl)) rfl
theorem tw_1_5 : Cond.initialized RX4 ∈ wA := wA_of (w := Cond.initialized RX4) (List.mem_append_left _ (List.mem_of_getElem? (i := 5) rfl)) rfl
theorem tw_1_6 : Cond.initialized RX1 ∈ wA := wA_of (w := Cond.initialized RX1) (List.mem_append_left _ (List.mem_of_getElem? (i := 6) rfl)) rfl
theorem tw_1_7 : Cond.initialized RX6 ∈ wA := wA_of (w := Cond.initialized RX6) (List.mem_append_left _ (List.mem_of_getElem? (i := 7) rfl)) rfl
theorem tw_1_8 : Cond.initialized RJ0 ∈ wA := wA_of (w := Cond.initialized RJ0) (List.mem_append_left _ (List.mem_of_getElem? (i := 8) rfl)) rfl
theorem tw_1_9 : Cond.initialized RJ1 ∈ wA := wA_of (w := Cond.initialized RJ1) (List.mem_append_left _ (List.mem_of_getElem? (i := 9) rfl)) rfl
theorem tw_1_10 : Cond.initialized RJ3 ∈ wA := wA_of (w := Cond.initialized RJ3) (List.mem_append_left _ (List.mem_of_getElem? (i := 10) rfl)) rfl
theorem tw_1_11 : Cond.initialized RJ2 ∈ wA := wA_of (w := Cond.initialized RJ2) (List.mem_append_left _ (List.mem_of_getElem? (i := 11) rfl)) rfl
theorem tw_1_12 : Cond.initialized RJ6 ∈ wA := wA_of (w := Cond.initialized RJ6) (List.mem_append_left _ (List.mem_of_getElem? (i := 12) rfl)) rfl
theorem tw_1_13 : Cond.initialized RJ9 ∈ wA := wA_of (w := Cond.initialized RJ9) (List.mem_append_left _ (List.mem_of_getElem? (i := 13) rfl)) rfl
theorem tw_1_14 : Cond.classLink RL 7 "KindWords" ∈ wA := wA_of (w := Cond.classLink RL 7 "KindWords") (List.mem_append_left _ (List.mem_of_getElem? (i := 14) rfl)) rfl
theorem tw_1_15 : Cond.instantiable RX5 9 ∈ wA := wA_of (w := Cond.instantiable RX5 9) (List.mem_append_left _ (List.mem_of_getElem? (i := 15) rfl)) rfl
theorem tw_1_16 : Cond.methodLink RL 9 yX5_init ∈ wA := wA_of (w := Cond.methodLink RL 9 yX5_init) (List.mem_append_left _ (List.mem_of_getElem? (i := 16) rfl)) rfl
theorem tw_1_17 : Cond.instanceMethod yX5_init ∈ wA := wA_of (w := Cond.instanceMethod yX5_init) (List.mem_append_left _ (List.mem_of_getElem? (i := 17) rfl)) rfl
theorem tw_1_18 : Cond.code yX5_init cX5_init 1 none ∈ wA := wA_of (w := Cond.code yX5_init cX5_init 1 none) (List.mem_append_left _ (List.mem_of_getElem? (i := 18) rfl)) rfl
theorem tw_1_19 : Cond.methodLink RX5 1 objectInit ∈ wA := wA_of (w := Cond.methodLink RX5 1 objectInit) (List.mem_append_left _ (List.mem_of_getElem? (i := 19) rfl)) rfl
theorem tw_1_20 : Cond.instanceMethod objectInit ∈ wA := wA_of (w := Cond.instanceMethod objectInit) (List.mem_append_left _ (List.mem_of_getElem? (i := 20) rfl)) rfl
theorem tw_1_21 : Cond.code objectInit object_method_1_code 1 none ∈ wA := wA_of (w := Cond.code objectInit object_method_1_code 1 none) (List.mem_append_left _ (List.mem_of_getElem? (i := 21) rfl)) rfl
theorem tw_1_22 : Cond.classLink RX5 13 "KindWords$Town" ∈ wA := wA_of (w := Cond.classLink RX5 13 "KindWords$Town") (List.mem_append_left _ (List.mem_of_getElem? (i := 22) rfl)) rfl
theorem tw_1_23 : Cond.instantiable RX2 6 ∈ wA := wA_of (w := Cond.instantiable RX2 6) (List.mem_append_left _ (List.mem_of_getElem? (i := 23) rfl)) rfl
theorem tw_1_24 : Cond.methodLink RX5 15 yX2_init ∈ wA := wA_of (w := Cond.methodLink RX5 15 yX2_init) (List.mem_append_left _ (List.mem_of_getElem? (i := 24) rfl)) rfl
theorem tw_1_25 : Cond.instanceMethod yX2_init ∈ wA := wA_of (w := Cond.instanceMethod yX2_init) (List.mem_append_left _ (List.mem_of_getElem? (i := 25) rfl)) rfl
theorem tw_1_26 : Cond.code yX2_init cX2_init 2 none ∈ wA := wA_of (w := Cond.code yX2_init cX2_init 2 none) (List.mem_append_left _ (List.mem_of_getElem? (i := 26) rfl)) rfl
theorem tw_1_27 : Cond.methodLink RX2 3 objectInit ∈ wA := wA_of (w := Cond.methodLink RX2 3 objectInit) (List.mem_append_left _ (List.mem_of_getElem? (i := 27) rfl)) rfl
theorem tw_1_28 : Cond.classLink RX2 9 "KindWords$Victim" ∈ wA := wA_of (w := Cond.classLink RX2 9 "KindWords$Victim") (List.mem_append_left _ (List.mem_of_getElem? (i := 28) rfl)) rfl
theorem tq_1_29 : Cond.arrayOver (FieldType.object "KindWords$Victim") ∈ lw_tbl := List.mem_append_right _ (List.mem_append_left _ (List.mem_of_getElem? (i := 29) rfl))
theorem tw_1_30 : Cond.classLink RX2 17 "KindWords$Convict" ∈ wA := wA_of (w := Cond.classLink RX2 17 "KindWords$Convict") (List.mem_append_left _ (List.mem_of_getElem? (i := 30) rfl)) rfl
theorem tq_1_31 : Cond.arrayOver (FieldType.object "KindWords$Convict") ∈ lw_tbl := List.mem_append_right _ (List.mem_append_left _ (List.mem_of_getElem? (i := 31) rfl))
theorem tw_1_32 : Cond.instantiable RX3 4 ∈ wA := wA_of (w := Cond.instantiable RX3 4) (List.mem_append_left _ (List.mem_of_getElem? (i := 32) rfl)) rfl
theorem tq_1_33 : Cond.methodLinkNest RX2 23 yX3_init "KindWords" ∈ lw_tbl := List.mem_append_right _ (List.mem_append_left _ (List.mem_of_getElem? (i := 33) rfl))
theorem tw_1_34 : Cond.instanceMethod yX3_init ∈ wA := wA_of (w := Cond.instanceMethod yX3_init) (List.mem_append_left _ (List.mem_of_getElem? (i := 34) rfl)) rfl
theorem tw_1_35 : Cond.code yX3_init cX3_init 1 none ∈ wA := wA_of (w := Cond.code yX3_init cX3_init 1 none) (List.mem_append_left _ (List.mem_of_getElem? (i := 35) rfl)) rfl
theorem tw_1_36 : Cond.methodLink RX3 3 objectInit ∈ wA := wA_of (w := Cond.methodLink RX3 3 objectInit) (List.mem_append_left _ (List.mem_of_getElem? (i := 36) rfl)) rfl
theorem tw_1_37 : Cond.fieldLink RX3 9 "KindWords$Victim" "truth" "I" ∈ wA := wA_of (w := Cond.fieldLink RX3 9 "KindWords$Victim" "truth" "I") (List.mem_append_left _ (List.mem_of_getElem? (i := 37) rfl)) rfl
theorem tw_1_38 : Cond.fieldLink RX5 67 "KindWords$Victim" "truth" "I" ∈ wA := wA_of (w := Cond.fieldLink RX5 67 "KindWords$Victim" "truth" "I") (List.mem_append_left _ (List.mem_of_getElem? (i := 38) rfl)) rfl
theorem tw_1_39 : Cond.fieldLink RX2 64 "KindWords$Victim" "truth" "I" ∈ wA := wA_of (w := Cond.fieldLink RX2 64 "KindWords$Victim" "truth" "I") (List.mem_append_left _ (List.mem_of_getElem? (i := 39) rfl)) rfl
theorem tw_1_40 : Cond.fieldLink RX3 15 "KindWords$Victim" "used" "I" ∈ wA := wA_of (w := Cond.fieldLink RX3 15 "KindWords$Victim" "used" "I") (List.mem_append_left _ (List.mem_of_getElem? (i := 40) rfl)) rfl
theorem tw_1_41 : Cond.fieldLink RX2 61 "KindWords$Victim" "used" "I" ∈ wA := wA_of (w := Cond.fieldLink RX2 61 "KindWords$Victim" "used" "I") (List.mem_append_left _ (List.mem_of_getElem? (i := 41) rfl)) rfl
theorem tw_1_42 : Cond.fieldLink RX5 92 "KindWords$Victim" "used" "I" ∈ wA := wA_of (w := Cond.fieldLink RX5 92 "KindWords$Victim" "used" "I") (List.mem_append_left _ (List.mem_of_getElem? (i := 42) rfl)) rfl
theorem tw_1_43 : Cond.fieldLink RX3 21 "KindWords$Victim" "triedTrue" "I" ∈ wA := wA_of (w := Cond.fieldLink RX3 21 "KindWords$Victim" "triedTrue" "I") (List.mem_append_left _ (List.mem_of_getElem? (i := 43) rfl)) rfl
theorem tw_1_44 : Cond.fieldLink RX5 195 "KindWords$Victim" "triedTrue" "I" ∈ wA := wA_of (w := Cond.fieldLink RX5 195 "KindWords$Victim" "triedTrue" "I") (List.mem_append_left _ (List.mem_of_getElem? (i := 44) rfl)) rfl
theorem tw_1_45 : Cond.fieldLink RX3 24 "KindWords$Victim" "triedFalse" "I" ∈ wA := wA_of (w := Cond.fieldLink RX3 24 "KindWords$Victim" "triedFalse" "I") (List.mem_append_left _ (List.mem_of_getElem? (i := 45) rfl)) rfl
theorem tw_1_46 : Cond.lays RX3 "KindWords$Victim" "truth" "I" ∈ wA := wA_of (w := Cond.lays RX3 "KindWords$Victim" "truth" "I") (List.mem_append_left _ (List.mem_of_getElem? (i := 46) rfl)) rfl
theorem tw_1_48 : Cond.lays RX3 "KindWords$Victim" "used" "I" ∈ wA := wA_of (w := Cond.lays RX3 "KindWords$Victim" "used" "I") (List.mem_append_left _ (List.mem_of_getElem? (i := 48) rfl)) rfl
theorem tw_1_50 : Cond.lays RX3 "KindWords$Victim" "triedTrue" "I" ∈ wA := wA_of (w := Cond.lays RX3 "KindWords$Victim" "triedTrue" "I") (List.mem_append_left _ (List.mem_of_getElem? (i := 50) rfl)) rfl
theorem tw_1_52 : Cond.lays RX3 "KindWords$Victim" "triedFalse" "I" ∈ wA := wA_of (w := Cond.lays RX3 "KindWords$Victim" "triedFalse" "I") (List.mem_append_left _ (List.mem_of_getElem? (i := 52) rfl)) rfl
theorem tw_1_55 : Cond.arrayClass FieldType.char ∈ wA := wA_of (w := Cond.arrayClass FieldType.char) (List.mem_append_left _ (List.mem_of_getElem? (i := 55) rfl)) rfl
theorem tw_1_56 : Cond.instantiable RX0 6 ∈ wA := wA_of (w := Cond.instantiable RX0 6) (List.mem_append_left _ (List.mem_of_getElem? (i := 56) rfl)) rfl
theorem tq_1_57 : Cond.methodLinkNest RX2 24 yX0_init "KindWords" ∈ lw_tbl := List.mem_append_right _ (List.mem_append_left _ (List.mem_of_getElem? (i := 57) rfl))
theorem tw_1_58 : Cond.instanceMethod yX0_init ∈ wA := wA_of (w := Cond.instanceMethod yX0_init) (List.mem_append_left _ (List.mem_of_getElem? (i := 58) rfl)) rfl
theorem tw_1_59 : Cond.code yX0_init cX0_init 1 none ∈ wA := wA_of (w := Cond.code yX0_init cX0_init 1 none) (List.mem_append_left _ (List.mem_of_getElem? (i := 59) rfl)) rfl
theorem tw_1_60 : Cond.methodLink RX0 3 objectInit ∈ wA := wA_of (w := Cond.methodLink RX0 3 objectInit) (List.mem_append_left _ (List.mem_of_getElem? (i := 60) rfl)) rfl
theorem tw_1_61 : Cond.fieldLink RX0 9 "KindWords$Convict" "kind" "I" ∈ wA := wA_of (w := Cond.fieldLink RX0 9 "KindWords$Convict" "kind" "I") (List.mem_append_left _ (List.mem_of_getElem? (i := 61) rfl)) rfl
theorem tw_1_62 : Cond.fieldLink RX2 67 "KindWords$Convict" "kind" "I" ∈ wA := wA_of (w := Cond.fieldLink RX2 67 "KindWords$Convict" "kind" "I") (List.mem_append_left _ (List.mem_of_getElem? (i := 62) rfl)) rfl
theorem tw_1_63 : Cond.fieldLink RX5 120 "KindWords$Convict" "kind" "I" ∈ wA := wA_of (w := Cond.fieldLink RX5 120 "KindWords$Convict" "kind" "I") (List.mem_append_left _ (List.mem_of_getElem? (i := 63) rfl)) rfl
theorem tw_1_64 : Cond.fieldLink RX0 15 "KindWords$Convict" "victim" "I" ∈ wA := wA_of (w := Cond.fieldLink RX0 15 "KindWords$Convict" "victim" "I") (List.mem_append_left _ (List.mem_of_getElem? (i := 64) rfl)) rfl
theorem tw_1_65 : Cond.fieldLink RX1 46 "KindWords$Convict" "victim" "I" ∈ wA := wA_of (w := Cond.fieldLink RX1 46 "KindWords$Convict" "victim" "I") (List.mem_append_left _ (List.mem_of_getElem? (i := 65) rfl)) rfl
theorem tw_1_66 : Cond.fieldLink RX2 58 "KindWords$Convict" "victim" "I" ∈ wA := wA_of (w := Cond.fieldLink RX2 58 "KindWords$Convict" "victim" "I") (List.mem_append_left _ (List.mem_of_getElem? (i := 66) rfl)) rfl
theorem tw_1_67 : Cond.fieldLink RX5 123 "KindWords$Convict" "victim" "I" ∈ wA := wA_of (w := Cond.fieldLink RX5 123 "KindWords$Convict" "victim" "I") (List.mem_append_left _ (List.mem_of_getElem? (i := 67) rfl)) rfl
theorem tw_1_68 : Cond.fieldLink RX0 18 "KindWords$Convict" "fine" "I" ∈ wA := wA_of (w := Cond.fieldLink RX0 18 "KindWords$Convict" "fine" "I") (List.mem_append_left _ (List.mem_of_getElem? (i := 68) rfl)) rfl
theorem tw_1_69 : Cond.fieldLink RX5 126 "KindWords$Convict" "fine" "I" ∈ wA := wA_of (w := Cond.fieldLink RX5 126 "KindWords$Convict" "fine" "I") (List.mem_append_left _ (List.mem_of_getElem? (i := 69) rfl)) rfl
theorem tw_1_70 : Cond.fieldLink RX2 96 "KindWords$Convict" "fine" "I" ∈ wA := wA_of (w := Cond.fieldLink RX2 96 "KindWords$Convict" "fine" "I") (List.mem_append_left _ (List.mem_of_getElem? (i := 70) rfl)) rfl
theorem tw_1_71 : Cond.fieldLink RX0 21 "KindWords$Convict" "knows" "I" ∈ wA := wA_of (w := Cond.fieldLink RX0 21 "KindWords$Convict" "knows" "I") (List.mem_append_left _ (List.mem_of_getElem? (i := 71) rfl)) rfl
theorem tw_1_72 : Cond.fieldLink RX2 73 "KindWords$Convict" "knows" "I" ∈ wA := wA_of (w := Cond.fieldLink RX2 73 "KindWords$Convict" "knows" "I") (List.mem_append_left _ (List.mem_of_getElem? (i := 72) rfl)) rfl
theorem tw_1_73 : Cond.fieldLink RX5 129 "KindWords$Convict" "knows" "I" ∈ wA := wA_of (w := Cond.fieldLink RX5 129 "KindWords$Convict" "knows" "I") (List.mem_append_left _ (List.mem_of_getElem? (i := 73) rfl)) rfl
theorem tw_1_74 : Cond.fieldLink RX0 28 "KindWords$Convict" "mayToday" "I" ∈ wA := wA_of (w := Cond.fieldLink RX0 28 "KindWords$Convict" "mayToday" "I") (List.mem_append_left _ (List.mem_of_getElem? (i := 74) rfl)) rfl
theorem tw_1_75 : Cond.fieldLink RX4 43 "KindWords$Convict" "mayToday" "I" ∈ wA := wA_of (w := Cond.fieldLink RX4 43 "KindWords$Convict" "mayToday" "I") (List.mem_append_left _ (List.mem_of_getElem? (i := 75) rfl)) rfl
theorem tw_1_76 : Cond.fieldLink RX2 55 "KindWords$Convict" "mayToday" "I" ∈ wA := wA_of (w := Cond.fieldLink RX2 55 "KindWords$Convict" "mayToday" "I") (List.mem_append_left _ (List.mem_of_getElem? (i := 76) rfl)) rfl
theorem tw_1_77 : Cond.fieldLink RX5 136 "KindWords$Convict" "mayToday" "I" ∈ wA := wA_of (w := Cond.fieldLink RX5 136 "KindWords$Convict" "mayToday" "I") (List.mem_append_left _ (List.mem_of_getElem? (i := 77) rfl)) rfl
theorem tw_1_78 : Cond.fieldLink RX0 31 "KindWords$Convict" "counted" "I" ∈ wA := wA_of (w := Cond.fieldLink RX0 31 "KindWords$Convict" "counted" "I") (List.mem_append_left _ (List.mem_of_getElem? (i := 78) rfl)) rfl
theorem tw_1_79 : Cond.fieldLink RX5 139 "KindWords$Convict" "counted" "I" ∈ wA := wA_of (w := Cond.fieldLink RX5 139 "KindWords$Convict" "counted" "I") (List.mem_append_left _ (List.mem_of_getElem? (i := 79) rfl)) rfl
theorem tw_1_80 : Cond.lays RX0 "KindWords$Convict" "kind" "I" ∈ wA := wA_of (w := Cond.lays RX0 "KindWords$Convict" "kind" "I") (List.mem_append_left _ (List.mem_of_getElem? (i := 80) rfl)) rfl
theorem tw_1_82 : Cond.lays RX0 "KindWords$Convict" "victim" "I" ∈ wA := wA_of (w := Cond.lays RX0 "KindWords$Convict" "victim" "I") (List.mem_append_left _ (List.mem_of_getElem? (i := 82) rfl)) rfl
theorem tw_1_84 : Cond.lays RX0 "KindWords$Convict" "fine" "I" ∈ wA := wA_of (w := Cond.lays RX0 "KindWords$Convict" "fine" "I") (List.mem_append_left _ (List.mem_of_getElem? (i := 84) rfl)) rfl
theorem tw_1_86 : Cond.lays RX0 "KindWords$Convict" "knows" "I" ∈ wA := wA_of (w := Cond.lays RX0 "KindWords$Convict" "knows" "I") (List.mem_append_left _ (List.mem_of_getElem? (i := 86) rfl)) rfl
theorem tw_1_88 : Cond.lays RX0 "KindWords$Convict" "mayToday" "I" ∈ wA := wA_of (w := Cond.lays RX0 "KindWords$Convict" "mayToday" "I") (List.mem_append_left _ (List.mem_of_getElem? (i := 88) rfl)) rfl
theorem tw_1_90 : Cond.lays RX0 "KindWords$Convict" "counted" "I" ∈ wA := wA_of (w := Cond.lays RX0 "KindWords$Convict" "counted" "I") (List.mem_append_left _ (List.mem_of_getElem? (i := 90) rfl)) rfl
theorem tw_1_93 : Cond.fieldLink RX2 11 "KindWords$Town" "victims" "[LKindWords$Victim;" ∈ wA := wA_of (w := Cond.fieldLink RX2 11 "KindWords$Town" "victims" "[LKindWords$Victim;") (List.mem_append_left _ (List.mem_of_getElem? (i := 93) rfl)) rfl
theorem tw_1_94 : Cond.fieldLink RX5 59 "KindWords$Town" "victims" "[LKindWords$Victim;" ∈ wA := wA_of (w := Cond.fieldLink RX5 59 "KindWords$Town" "victims" "[LKindWords$Victim;") (List.mem_append_left _ (List.mem_of_getElem? (i := 94) rfl)) rfl
theorem tw_1_95 : Cond.fieldLink RX2 19 "KindWords$Town" "convicts" "[LKindWords$Convict;" ∈ wA := wA_of (w := Cond.fieldLink RX2 19 "KindWords$Town" "convicts" "[LKindWords$Convict;") (List.mem_append_left _ (List.mem_of_getElem? (i := 95) rfl)) rfl
theorem tw_1_96 : Cond.fieldLink RX4 32 "KindWords$Town" "convicts" "[LKindWords$Convict;" ∈ wA := wA_of (w := Cond.fieldLink RX4 32 "KindWords$Town" "convicts" "[LKindWords$Convict;") (List.mem_append_left _ (List.mem_of_getElem? (i := 96) rfl)) rfl
theorem tw_1_97 : Cond.fieldLink RX1 37 "KindWords$Town" "convicts" "[LKindWords$Convict;" ∈ wA := wA_of (w := Cond.fieldLink RX1 37 "KindWords$Town" "convicts" "[LKindWords$Convict;") (List.mem_append_left _ (List.mem_of_getElem? (i := 97) rfl)) rfl
theorem tw_1_98 : Cond.fieldLink RX5 107 "KindWords$Town" "convicts" "[LKindWords$Convict;" ∈ wA := wA_of (w := Cond.fieldLink RX5 107 "KindWords$Town" "convicts" "[LKindWords$Convict;") (List.mem_append_left _ (List.mem_of_getElem? (i := 98) rfl)) rfl
theorem tw_1_99 : Cond.fieldLink RX2 28 "KindWords$Town" "convictCount" "I" ∈ wA := wA_of (w := Cond.fieldLink RX2 28 "KindWords$Town" "convictCount" "I") (List.mem_append_left _ (List.mem_of_getElem? (i := 99) rfl)) rfl
theorem tw_1_100 : Cond.fieldLink RX4 29 "KindWords$Town" "convictCount" "I" ∈ wA := wA_of (w := Cond.fieldLink RX4 29 "KindWords$Town" "convictCount" "I") (List.mem_append_left _ (List.mem_of_getElem? (i := 100) rfl)) rfl
theorem tw_1_101 : Cond.fieldLink RX1 30 "KindWords$Town" "convictCount" "I" ∈ wA := wA_of (w := Cond.fieldLink RX1 30 "KindWords$Town" "convictCount" "I") (List.mem_append_left _ (List.mem_of_getElem? (i := 101) rfl)) rfl
theorem tw_1_102 : Cond.fieldLink RX5 104 "KindWords$Town" "convictCount" "I" ∈ wA := wA_of (w := Cond.fieldLink RX5 104 "KindWords$Town" "convictCount" "I") (List.mem_append_left _ (List.mem_of_getElem? (i := 102) rfl)) rfl
theorem tw_1_103 : Cond.fieldLink RX2 32 "KindWords$Town" "sheets" "I" ∈ wA := wA_of (w := Cond.fieldLink RX2 32 "KindWords$Town" "sheets" "I") (List.mem_append_left _ (List.mem_of_getElem? (i := 103) rfl)) rfl
theorem tw_1_104 : Cond.fieldLink RX5 72 "KindWords$Town" "sheets" "I" ∈ wA := wA_of (w := Cond.fieldLink RX5 72 "KindWords$Town" "sheets" "I") (List.mem_append_left _ (List.mem_of_getElem? (i := 104) rfl)) rfl
theorem tw_1_105 : Cond.fieldLink RX2 35 "KindWords$Town" "day" "I" ∈ wA := wA_of (w := Cond.fieldLink RX2 35 "KindWords$Town" "day" "I") (List.mem_append_left _ (List.mem_of_getElem? (i := 105) rfl)) rfl
theorem tw_1_106 : Cond.fieldLink RX5 168 "KindWords$Town" "day" "I" ∈ wA := wA_of (w := Cond.fieldLink RX5 168 "KindWords$Town" "day" "I") (List.mem_append_left _ (List.mem_of_getElem? (i := 106) rfl)) rfl
theorem tw_1_107 : Cond.fieldLink RX2 38 "KindWords$Town" "trials" "I" ∈ wA := wA_of (w := Cond.fieldLink RX2 38 "KindWords$Town" "trials" "I") (List.mem_append_left _ (List.mem_of_getElem? (i := 107) rfl)) rfl
theorem tw_1_108 : Cond.fieldLink RX5 182 "KindWords$Town" "trials" "I" ∈ wA := wA_of (w := Cond.fieldLink RX5 182 "KindWords$Town" "trials" "I") (List.mem_append_left _ (List.mem_of_getElem? (i := 108) rfl)) rfl
theorem tw_1_109 : Cond.laysFinal RX2 "KindWords$Town" "victims" "[LKindWords$Victim;" ∈ wA := wA_of (w := Cond.laysFinal RX2 "KindWords$Town" "victims" "[LKindWords$Victim;") (List.mem_append_left _ (List.mem_of_getElem? (i := 109) rfl)) rfl
theorem tw_1_111 : Cond.laysFinal RX2 "KindWords$Town" "convicts" "[LKindWords$Convict;" ∈ wA := wA_of (w := Cond.laysFinal RX2 "KindWords$Town" "convicts" "[LKindWords$Convict;") (List.mem_append_left _ (List.mem_of_getElem? (i := 111) rfl)) rfl
theorem tw_1_113 : Cond.lays RX2 "KindWords$Town" "convictCount" "I" ∈ wA := wA_of (w := Cond.lays RX2 "KindWords$Town" "convictCount" "I") (List.mem_append_left _ (List.mem_of_getElem? (i := 113) rfl)) rfl
theorem tw_1_115 : Cond.lays RX2 "KindWords$Town" "sheets" "I" ∈ wA := wA_of (w := Cond.lays RX2 "KindWords$Town" "sheets" "I") (List.mem_append_left _ (List.mem_of_getElem? (i := 115) rfl)) rfl
theorem tw_1_117 : Cond.lays RX2 "KindWords$Town" "day" "I" ∈ wA := wA_of (w := Cond.lays RX2 "KindWords$Town" "day" "I") (List.mem_append_left _ (List.mem_of_getElem? (i := 117) rfl)) rfl
theorem tw_1_119 : Cond.lays RX2 "KindWords$Town" "trials" "I" ∈ wA := wA_of (w := Cond.lays RX2 "KindWords$Town" "trials" "I") (List.mem_append_left _ (List.mem_of_getElem? (i := 119) rfl)) rfl
theorem tw_1_122 : Cond.classLink RX5 23 "KindWords$Weeks" ∈ wA := wA_of (w := Cond.classLink RX5 23 "KindWords$Weeks") (List.mem_append_left _ (List.mem_of_getElem? (i := 122) rfl)) rfl
theorem tw_1_123 : Cond.instantiable RX4 3 ∈ wA := wA_of (w := Cond.instantiable RX4 3) (List.mem_append_left _ (List.mem_of_getElem? (i := 123) rfl)) rfl
theorem tq_1_124 : Cond.methodLinkNest RX5 25 yX4_init "KindWords" ∈ lw_tbl := List.mem_append_right _ (List.mem_append_left _ (List.mem_of_getElem? (i := 124) rfl))
theorem tw_1_125 : Cond.instanceMethod yX4_init ∈ wA := wA_of (w := Cond.instanceMethod yX4_init) (List.mem_append_left _ (List.mem_of_getElem? (i := 125) rfl)) rfl
theorem tw_1_126 : Cond.code yX4_init cX4_init 1 none ∈ wA := wA_of (w := Cond.code yX4_init cX4_init 1 none) (List.mem_append_left _ (List.mem_of_getElem? (i := 126) rfl)) rfl
theorem tw_1_127 : Cond.methodLink RX4 3 objectInit ∈ wA := wA_of (w := Cond.methodLink RX4 3 objectInit) (List.mem_append_left _ (List.mem_of_getElem? (i := 127) rfl)) rfl
theorem tw_1_128 : Cond.classLink RX4 9 "KindWords$Town" ∈ wA := wA_of (w := Cond.classLink RX4 9 "KindWords$Town") (List.mem_append_left _ (List.mem_of_getElem? (i := 128) rfl)) rfl
theorem tw_1_129 : Cond.methodLink RX4 11 yX2_init ∈ wA := wA_of (w := Cond.methodLink RX4 11 yX2_init) (List.mem_append_left _ (List.mem_of_getElem? (i := 129) rfl)) rfl
theorem tw_1_130 : Cond.fieldLink RX4 12 "KindWords$Weeks" "town" "LKindWords$Town;" ∈ wA := wA_of (w := Cond.fieldLink RX4 12 "KindWords$Weeks" "town" "LKindWords$Town;") (List.mem_append_left _ (List.mem_of_getElem? (i := 130) rfl)) rfl
theorem tw_1_131 : Cond.fieldLink RX5 206 "KindWords$Weeks" "town" "LKindWords$Town;" ∈ wA := wA_of (w := Cond.fieldLink RX5 206 "KindWords$Weeks" "town" "LKindWords$Town;") (List.mem_append_left _ (List.mem_of_getElem? (i := 131) rfl)) rfl
theorem tw_1_132 : Cond.fieldLink RX4 22 "KindWords$Weeks" "seed" "I" ∈ wA := wA_of (w := Cond.fieldLink RX4 22 "KindWords$Weeks" "seed" "I") (List.mem_append_left _ (List.mem_of_getElem? (i := 132) rfl)) rfl
theorem tw_1_133 : Cond.fieldLink RX5 212 "KindWords$Weeks" "seed" "I" ∈ wA := wA_of (w := Cond.fieldLink RX5 212 "KindWords$Weeks" "seed" "I") (List.mem_append_left _ (List.mem_of_getElem? (i := 133) rfl)) rfl
theorem tw_1_134 : Cond.fieldLink RX4 26 "KindWords$Weeks" "counted" "I" ∈ wA := wA_of (w := Cond.fieldLink RX4 26 "KindWords$Weeks" "counted" "I") (List.mem_append_left _ (List.mem_of_getElem? (i := 134) rfl)) rfl
theorem tw_1_135 : Cond.fieldLink RX5 205 "KindWords$Weeks" "counted" "I" ∈ wA := wA_of (w := Cond.fieldLink RX5 205 "KindWords$Weeks" "counted" "I") (List.mem_append_left _ (List.mem_of_getElem? (i := 135) rfl)) rfl
theorem tw_1_136 : Cond.laysFinal RX4 "KindWords$Weeks" "town" "LKindWords$Town;" ∈ wA := wA_of (w := Cond.laysFinal RX4 "KindWords$Weeks" "town" "LKindWords$Town;") (List.mem_append_left _ (List.mem_of_getElem? (i := 136) rfl)) rfl
theorem tw_1_138 : Cond.lays RX4 "KindWords$Weeks" "seed" "I" ∈ wA := wA_of (w := Cond.lays RX4 "KindWords$Weeks" "seed" "I") (List.mem_append_left _ (List.mem_of_getElem? (i := 138) rfl)) rfl
theorem tw_1_140 : Cond.lays RX4 "KindWords$Weeks" "counted" "I" ∈ wA := wA_of (w := Cond.lays RX4 "KindWords$Weeks" "counted" "I") (List.mem_append_left _ (List.mem_of_getElem? (i := 140) rfl)) rfl
theorem tw_1_143 : Cond.classLink RX5 30 "KindWords$Shares" ∈ wA := wA_of (w := Cond.classLink RX5 30 "KindWords$Shares") (List.mem_append_left _ (List.mem_of_getElem? (i := 143) rfl)) rfl
theorem tw_1_144 : Cond.instantiable RX1 3 ∈ wA := wA_of (w := Cond.instantiable RX1 3) (List.mem_append_left _ (List.mem_of_getElem? (i := 144) rfl)) rfl
theorem tq_1_145 : Cond.methodLinkNest RX5 32 yX1_init "KindWords" ∈ lw_tbl := List.mem_append_right _ (List.mem_append_left _ (List.mem_of_getElem? (i := 145) rfl))
theorem tw_1_146 : Cond.instanceMethod yX1_init ∈ wA := wA_of (w := Cond.instanceMethod yX1_init) (List.mem_append_left _ (List.mem_of_getElem? (i := 146) rfl)) rfl
theorem tw_1_147 : Cond.code yX1_init cX1_init 1 none ∈ wA := wA_of (w := Cond.code yX1_init cX1_init 1 none) (List.mem_append_left _ (List.mem_of_getElem? (i := 147) rfl)) rfl
theorem tw_1_148 : Cond.methodLink RX1 3 objectInit ∈ wA := wA_of (w := Cond.methodLink RX1 3 objectInit) (List.mem_append_left _ (List.mem_of_getElem? (i := 148) rfl)) rfl
theorem tw_1_149 : Cond.fieldLink RX1 9 "KindWords$Shares" "needs" "[I" ∈ wA := wA_of (w := Cond.fieldLink RX1 9 "KindWords$Shares" "needs" "[I") (List.mem_append_left _ (List.mem_of_getElem? (i := 149) rfl)) rfl
theorem tw_1_150 : Cond.fieldLink RX1 15 "KindWords$Shares" "left" "[I" ∈ wA := wA_of (w := Cond.fieldLink RX1 15 "KindWords$Shares" "left" "[I") (List.mem_append_left _ (List.mem_of_getElem? (i := 150) rfl)) rfl
theorem tw_1_151 : Cond.fieldLink RX1 36 "KindWords$Shares" "convictCount" "I" ∈ wA := wA_of (w := Cond.fieldLink RX1 36 "KindWords$Shares" "convictCount" "I") (List.mem_append_left _ (List.mem_of_getElem? (i := 151) rfl)) rfl
theorem tw_1_152 : Cond.laysFinal RX1 "KindWords$Shares" "needs" "[I" ∈ wA := wA_of (w := Cond.laysFinal RX1 "KindWords$Shares" "needs" "[I") (List.mem_append_left _ (List.mem_of_getElem? (i := 152) rfl)) rfl
theorem tw_1_154 : Cond.laysFinal RX1 "KindWords$Shares" "left" "[I" ∈ wA := wA_of (w := Cond.laysFinal RX1 "KindWords$Shares" "left" "[I") (List.mem_append_left _ (List.mem_of_getElem? (i := 154) rfl)) rfl
theorem tw_1_156 : Cond.lays RX1 "KindWords$Shares" "convictCount" "I" ∈ wA := wA_of (w := Cond.lays RX1 "KindWords$Shares" "convictCount" "I") (List.mem_append_left _ (List.mem_of_getElem? (i := 156) rfl)) rfl
theorem tw_1_159 : Cond.arrayClass FieldType.int ∈ wA := wA_of (w := Cond.arrayClass FieldType.int) (List.mem_append_left _ (List.mem_of_getElem? (i := 159) rfl)) rfl
theorem tw_1_160 : Cond.fieldLink RX5 9 "KindWords" "page" "[C" ∈ wA := wA_of (w := Cond.fieldLink RX5 9 "KindWords" "page" "[C") (List.mem_append_left _ (List.mem_of_getElem? (i := 160) rfl)) rfl
theorem tw_1_161 : Cond.fieldLink RX5 37 "KindWords" "letters" "I" ∈ wA := wA_of (w := Cond.fieldLink RX5 37 "KindWords" "letters" "I") (List.mem_append_left _ (List.mem_of_getElem? (i := 161) rfl)) rfl
theorem tw_1_162 : Cond.fieldLink RX5 16 "KindWords" "now" "LKindWords$Town;" ∈ wA := wA_of (w := Cond.fieldLink RX5 16 "KindWords" "now" "LKindWords$Town;") (List.mem_append_left _ (List.mem_of_getElem? (i := 162) rfl)) rfl
theorem tw_1_163 : Cond.fieldLink RX5 20 "KindWords" "kept" "LKindWords$Town;" ∈ wA := wA_of (w := Cond.fieldLink RX5 20 "KindWords" "kept" "LKindWords$Town;") (List.mem_append_left _ (List.mem_of_getElem? (i := 163) rfl)) rfl
theorem tw_1_164 : Cond.fieldLink RX5 26 "KindWords" "supposed" "LKindWords$Weeks;" ∈ wA := wA_of (w := Cond.fieldLink RX5 26 "KindWords" "supposed" "LKindWords$Weeks;") (List.mem_append_left _ (List.mem_of_getElem? (i := 164) rfl)) rfl
theorem tw_1_165 : Cond.fieldLink RX5 33 "KindWords" "shares" "LKindWords$Shares;" ∈ wA := wA_of (w := Cond.fieldLink RX5 33 "KindWords" "shares" "LKindWords$Shares;") (List.mem_append_left _ (List.mem_of_getElem? (i := 165) rfl)) rfl
theorem tw_1_166 : Cond.fieldLink RX5 75 "KindWords" "hasTown" "Z" ∈ wA := wA_of (w := Cond.fieldLink RX5 75 "KindWords" "hasTown" "Z") (List.mem_append_left _ (List.mem_of_getElem? (i := 166) rfl)) rfl
theorem tw_1_167 : Cond.fieldLink RX5 79 "KindWords" "hasImage" "Z" ∈ wA := wA_of (w := Cond.fieldLink RX5 79 "KindWords" "hasImage" "Z") (List.mem_append_left _ (List.mem_of_getElem? (i := 167) rfl)) rfl
theorem tw_1_168 : Cond.fieldLink RX5 82 "KindWords" "townsRead" "I" ∈ wA := wA_of (w := Cond.fieldLink RX5 82 "KindWords" "townsRead" "I") (List.mem_append_left _ (List.mem_of_getElem? (i := 168) rfl)) rfl
theorem tw_1_169 : Cond.laysFinal RX5 "KindWords" "page" "[C" ∈ wA := wA_of (w := Cond.laysFinal RX5 "KindWords" "page" "[C") (List.mem_append_left _ (List.mem_of_getElem? (i := 169) rfl)) rfl
theorem tw_1_171 : Cond.lays RX5 "KindWords" "letters" "I" ∈ wA := wA_of (w := Cond.lays RX5 "KindWords" "letters" "I") (List.mem_append_left _ (List.mem_of_getElem? (i := 171) rfl)) rfl
theorem tw_1_173 : Cond.laysFinal RX5 "KindWords" "now" "LKindWords$Town;" ∈ wA := wA_of (w := Cond.laysFinal RX5 "KindWords" "now" "LKindWords$Town;") (List.mem_append_left _ (List.mem_of_getElem? (i := 173) rfl)) rfl
theorem tw_1_175 : Cond.laysFinal RX5 "KindWords" "kept" "LKindWords$Town;" ∈ wA := wA_of (w := Cond.laysFinal RX5 "KindWords" "kept" "LKindWords$Town;") (List.mem_append_left _ (List.mem_of_getElem? (i := 175) rfl)) rfl
theorem tw_1_177 : Cond.laysFinal RX5 "KindWords" "supposed" "LKindWords$Weeks;" ∈ wA := wA_of (w := Cond.laysFinal RX5 "KindWords" "supposed" "LKindWords$Weeks;") (List.mem_append_left _ (List.mem_of_getElem? (i := 177) rfl)) rfl
theorem tw_1_179 : Cond.laysFinal RX5 "KindWords" "shares" "LKindWords$Shares;" ∈ wA := wA_of (w := Cond.laysFinal RX5 "KindWords" "shares" "LKindWords$Shares;") (List.mem_append_left _ (List.mem_of_getElem? (i := 179) rfl)) rfl
theorem tw_1_181 : Cond.lays RX5 "KindWords" "hasTown" "Z" ∈ wA := wA_of (w := Cond.lays RX5 "KindWords" "hasTown" "Z") (List.mem_append_left _ (List.mem_of_getElem? (i := 181) rfl)) rfl
theorem tw_1_183 : Cond.lays RX5 "KindWords" "hasImage" "Z" ∈ wA := wA_of (w := Cond.lays RX5 "KindWords" "hasImage" "Z") (List.mem_append_left _ (List.mem_of_getElem? (i := 183) rfl)) rfl
theorem tw_1_185 : Cond.lays RX5 "KindWords" "townsRead" "I" ∈ wA := wA_of (w := Cond.lays RX5 "KindWords" "townsRead" "I") (List.mem_append_left _ (List.mem_of_getElem? (i := 185) rfl)) rfl
theorem tw_1_188 : Cond.methodLink RL 13 yX5_letter ∈ wA := wA_of (w := Cond.methodLink RL 13 yX5_letter) (List.mem_append_left _ (List.mem_of_getElem? (i := 188) rfl)) rfl
theorem tw_1_189 : Cond.instanceMethod yX5_letter ∈ wA := wA_of (w := Cond.instanceMethod yX5_letter) (List.mem_append_left _ (List.mem_of_getElem? (i := 189) rfl)) rfl
theorem tw_1_190 : Cond.selects RX5 yX5_letter yX5_letter ∈ wA := wA_of (w := Cond.selects RX5 yX5_letter yX5_letter) (List.mem_append_left _ (List.mem_of_getElem? (i := 190) rfl)) rfl
theorem tw_1_191 : Cond.code yX5_letter cX5_letter 2 (some .int) ∈ wA := wA_of (w := Cond.code yX5_letter cX5_letter 2 (some .int)) (List.mem_append_left _ (List.mem_of_getElem? (i := 191) rfl)) rfl
theorem tw_1_192 : Cond.methodLink RL 18 yX5_blank ∈ wA := wA_of (w := Cond.methodLink RL 18 yX5_blank) (List.mem_append_left _ (List.mem_of_getElem? (i := 192) rfl)) rfl
theorem tw_1_193 : Cond.instanceMethod yX5_blank ∈ wA := wA_of (w := Cond.instanceMethod yX5_blank) (List.mem_append_left _ (List.mem_of_getElem? (i := 193) rfl)) rfl
theorem tw_1_194 : Cond.selects RX5 yX5_blank yX5_blank ∈ wA := wA_of (w := Cond.selects RX5 yX5_blank yX5_blank) (List.mem_append_left _ (List.mem_of_getElem? (i := 194) rfl)) rfl
theorem tw_1_195 : Cond.code yX5_blank cX5_blank 2 (some .int) ∈ wA := wA_of (w := Cond.code yX5_blank cX5_blank 2 (some .int)) (List.mem_append_left _ (List.mem_of_getElem? (i := 195) rfl)) rfl
theorem tw_1_196 : Cond.methodLink RL 23 yX5_fault ∈ wA := wA_of (w := Cond.methodLink RL 23 yX5_fault) (List.mem_append_left _ (List.mem_of_getElem? (i := 196) rfl)) rfl
theorem tw_1_197 : Cond.instanceMethod yX5_fault ∈ wA := wA_of (w := Cond.instanceMethod yX5_fault) (List.mem_append_left _ (List.mem_of_getElem? (i := 197) rfl)) rfl
theorem tw_1_198 : Cond.selects RX5 yX5_fault yX5_fault ∈ wA := wA_of (w := Cond.selects RX5 yX5_fault yX5_fault) (List.mem_append_left _ (List.mem_of_getElem? (i := 198) rfl)) rfl
theorem tw_1_199 : Cond.code yX5_fault cX5_fault 2 (some .int) ∈ wA := wA_of (w := Cond.code yX5_fault cX5_fault 2 (some .int)) (List.mem_append_left _ (List.mem_of_getElem? (i := 199) rfl)) rfl
theorem tw_1_200 : Cond.methodLink RX5 41 yX5_fits ∈ wA := wA_of (w := Cond.methodLink RX5 41 yX5_fits) (List.mem_append_left _ (List.mem_of_getElem? (i := 200) rfl)) rfl
theorem tw_1_201 : Cond.static yX5_fits ∈ wA := wA_of (w := Cond.static yX5_fits) (List.mem_append_left _ (List.mem_of_getElem? (i := 201) rfl)) rfl
theorem tw_1_202 : Cond.code yX5_fits cX5_fits 4 (some .boolean) ∈ wA := wA_of (w := Cond.code yX5_fits cX5_fits 4 (some .boolean)) (List.mem_append_left _ (List.mem_of_getElem? (i := 202) rfl)) rfl
theorem tq_1_203 : Cond.stringRef RX5 45 "77,77,77;9" ∈ lw_tbl := List.mem_append_right _ (List.mem_append_left _ (List.mem_of_getElem? (i := 203) rfl))
theorem tw_1_204 : Cond.methodLink RX5 47 yJ0_length_8abf5 ∈ wA := wA_of (w := Cond.methodLink RX5 47 yJ0_length_8abf5) (List.mem_append_left _ (List.mem_of_getElem? (i := 204) rfl)) rfl
theorem tw_1_205 : Cond.instanceMethod yJ0_length_8abf5 ∈ wA := wA_of (w := Cond.instanceMethod yJ0_length_8abf5) (List.mem_append_left _ (List.mem_of_getElem? (i := 205) rfl)) rfl
theorem tw_1_206 : Cond.selects RJ0 yJ0_length_8abf5 yJ0_length_8abf5 ∈ wA := wA_of (w := Cond.selects RJ0 yJ0_length_8abf5 yJ0_length_8abf5) (List.mem_append_left _ (List.mem_of_getElem? (i := 206) rfl)) rfl
theorem tw_1_207 : Cond.code yJ0_length_8abf5 cJ0_length_8abf5 1 (some .int) ∈ wA := wA_of (w := Cond.code yJ0_length_8abf5 cJ0_length_8abf5 1 (some .int)) (List.mem_append_left _ (List.mem_of_getElem? (i := 207) rfl)) rfl
theorem tw_1_208 : Cond.methodLink RJ0 335 yJ0_coder_7d493 ∈ wA := wA_of (w := Cond.methodLink RJ0 335 yJ0_coder_7d493) (List.mem_append_left _ (List.mem_of_getElem? (i := 208) rfl)) rfl
theorem tw_1_209 : Cond.instanceMethod yJ0_coder_7d493 ∈ wA := wA_of (w := Cond.instanceMethod yJ0_coder_7d493) (List.mem_append_left _ (List.mem_of_getElem? (i := 209) rfl)) rfl
theorem tw_1_210 : Cond.selects RJ0 yJ0_coder_7d493 yJ0_coder_7d493 ∈ wA := wA_of (w := Cond.selects RJ0 yJ0_coder_7d493 yJ0_coder_7d493) (List.mem_append_left _ (List.mem_of_getElem? (i := 210) rfl)) rfl
theorem tw_1_211 : Cond.code yJ0_coder_7d493 cJ0_coder_7d493 1 (some .byte) ∈ wA := wA_of (w := Cond.code yJ0_coder_7d493 cJ0_coder_7d493 1 (some .byte)) (List.mem_append_left _ (List.mem_of_getElem? (i := 211) rfl)) rfl
theorem tw_1_212 : Cond.fieldLink RJ0 38 "java/lang/String" "COMPACT_STRINGS" "Z" ∈ wA := wA_of (w := Cond.fieldLink RJ0 38 "java/lang/String" "COMPACT_STRINGS" "Z") (List.mem_append_left _ (List.mem_of_getElem? (i := 212) rfl)) rfl
theorem tw_1_214 : Cond.methodLink RX5 257 yJ0_charAt_5068e ∈ wA := wA_of (w := Cond.methodLink RX5 257 yJ0_charAt_5068e) (List.mem_append_left _ (List.mem_of_getElem? (i := 214) rfl)) rfl
theorem tw_1_215 : Cond.instanceMethod yJ0_charAt_5068e ∈ wA := wA_of (w := Cond.instanceMethod yJ0_charAt_5068e) (List.mem_append_left _ (List.mem_of_getElem? (i := 215) rfl)) rfl
theorem tw_1_216 : Cond.selects RJ0 yJ0_charAt_5068e yJ0_charAt_5068e ∈ wA := wA_of (w := Cond.selects RJ0 yJ0_charAt_5068e yJ0_charAt_5068e) (List.mem_append_left _ (List.mem_of_getElem? (i := 216) rfl)) rfl
theorem tw_1_217 : Cond.code yJ0_charAt_5068e cJ0_charAt_5068e 2 (some .char) ∈ wA := wA_of (w := Cond.code yJ0_charAt_5068e cJ0_charAt_5068e 2 (some .char)) (List.mem_append_left _ (List.mem_of_getElem? (i := 217) rfl)) rfl
theorem tw_1_218 : Cond.methodLink RJ0 492 yJ0_isLatin1_aae02 ∈ wA := wA_of (w := Cond.methodLink RJ0 492 yJ0_isLatin1_aae02) (List.mem_append_left _ (List.mem_of_getElem? (i := 218) rfl)) rfl
theorem tw_1_219 : Cond.instanceMethod yJ0_isLatin1_aae02 ∈ wA := wA_of (w := Cond.instanceMethod yJ0_isLatin1_aae02) (List.mem_append_left _ (List.mem_of_getElem? (i := 219) rfl)) rfl
theorem tw_1_220 : Cond.selects RJ0 yJ0_isLatin1_aae02 yJ0_isLatin1_aae02 ∈ wA := wA_of (w := Cond.selects RJ0 yJ0_isLatin1_aae02 yJ0_isLatin1_aae02) (List.mem_append_left _ (List.mem_of_getElem? (i := 220) rfl)) rfl
theorem tw_1_221 : Cond.code yJ0_isLatin1_aae02 cJ0_isLatin1_aae02 1 (some .boolean) ∈ wA := wA_of (w := Cond.code yJ0_isLatin1_aae02 cJ0_isLatin1_aae02 1 (some .boolean)) (List.mem_append_left _ (List.mem_of_getElem? (i := 221) rfl)) rfl
theorem tw_1_222 : Cond.methodLink RJ0 495 yJ1_charAt_3b067 ∈ wA := wA_of (w := Cond.methodLink RJ0 495 yJ1_charAt_3b067) (List.mem_append_left _ (List.mem_of_getElem? (i := 222) rfl)) rfl
theorem tw_1_223 : Cond.static yJ1_charAt_3b067 ∈ wA := wA_of (w := Cond.static yJ1_charAt_3b067) (List.mem_append_left _ (List.mem_of_getElem? (i := 223) rfl)) rfl
theorem tw_1_224 : Cond.code yJ1_charAt_3b067 cJ1_charAt_3b067 2 (some .char) ∈ wA := wA_of (w := Cond.code yJ1_charAt_3b067 cJ1_charAt_3b067 2 (some .char)) (List.mem_append_left _ (List.mem_of_getElem? (i := 224) rfl)) rfl
theorem tw_1_225 : Cond.methodLink RJ1 9 yJ0_checkIndex_df160 ∈ wA := wA_of (w := Cond.methodLink RJ1 9 yJ0_checkIndex_df160) (List.mem_append_left _ (List.mem_of_getElem? (i := 225) rfl)) rfl
theorem tw_1_226 : Cond.static yJ0_checkIndex_df160 ∈ wA := wA_of (w := Cond.static yJ0_checkIndex_df160) (List.mem_append_left _ (List.mem_of_getElem? (i := 226) rfl)) rfl
theorem tw_1_227 : Cond.code yJ0_checkIndex_df160 cJ0_checkIndex_df160 2 none ∈ wA := wA_of (w := Cond.code yJ0_checkIndex_df160 cJ0_checkIndex_df160 2 none) (List.mem_append_left _ (List.mem_of_getElem? (i := 227) rfl)) rfl
theorem tw_1_228 : Cond.fieldLink RJ0 1053 "jdk/internal/util/Preconditions" "SIOOBE_FORMATTER" "Ljava/util/function/BiFunction;" ∈ wA := wA_of (w := Cond.fieldLink RJ0 1053 "jdk/internal/util/Preconditions" "SIOOBE_FORMATTER" "Ljava/util/function/BiFunction;") (List.mem_append_left _ (List.mem_of_getElem? (i := 228) rfl)) rfl
theorem tw_1_230 : Cond.methodLink RJ0 1059 yJ3_checkIndex_8e157 ∈ wA := wA_of (w := Cond.methodLink RJ0 1059 yJ3_checkIndex_8e157) (List.mem_append_left _ (List.mem_of_getElem? (i := 230) rfl)) rfl
theorem tw_1_231 : Cond.static yJ3_checkIndex_8e157 ∈ wA := wA_of (w := Cond.static yJ3_checkIndex_8e157) (List.mem_append_left _ (List.mem_of_getElem? (i := 231) rfl)) rfl
theorem tw_1_232 : Cond.code yJ3_checkIndex_8e157 cJ3_checkIndex_8e157 3 (some .int) ∈ wA := wA_of (w := Cond.code yJ3_checkIndex_8e157 cJ3_checkIndex_8e157 3 (some .int)) (List.mem_append_left _ (List.mem_of_getElem? (i := 232) rfl)) rfl
theorem tw_1_233 : Cond.methodLink RJ0 498 yJ2_charAt_3b067 ∈ wA := wA_of (w := Cond.methodLink RJ0 498 yJ2_charAt_3b067) (List.mem_append_left _ (List.mem_of_getElem? (i := 233) rfl)) rfl
theorem tw_1_234 : Cond.static yJ2_charAt_3b067 ∈ wA := wA_of (w := Cond.static yJ2_charAt_3b067) (List.mem_append_left _ (List.mem_of_getElem? (i := 234) rfl)) rfl
theorem tw_1_235 : Cond.code yJ2_charAt_3b067 cJ2_charAt_3b067 2 (some .char) ∈ wA := wA_of (w := Cond.code yJ2_charAt_3b067 cJ2_charAt_3b067 2 (some .char)) (List.mem_append_left _ (List.mem_of_getElem? (i := 235) rfl)) rfl
theorem tw_1_236 : Cond.methodLink RJ2 67 yJ2_checkIndex_2214a ∈ wA := wA_of (w := Cond.methodLink RJ2 67 yJ2_checkIndex_2214a) (List.mem_append_left _ (List.mem_of_getElem? (i := 236) rfl)) rfl
theorem tw_1_237 : Cond.static yJ2_checkIndex_2214a ∈ wA := wA_of (w := Cond.static yJ2_checkIndex_2214a) (List.mem_append_left _ (List.mem_of_getElem? (i := 237) rfl)) rfl
theorem tw_1_238 : Cond.code yJ2_checkIndex_2214a cJ2_checkIndex_2214a 2 none ∈ wA := wA_of (w := Cond.code yJ2_checkIndex_2214a cJ2_checkIndex_2214a 2 none) (List.mem_append_left _ (List.mem_of_getElem? (i := 238) rfl)) rfl
theorem tw_1_239 : Cond.methodLink RJ2 48 yJ2_length_9d52b ∈ wA := wA_of (w := Cond.methodLink RJ2 48 yJ2_length_9d52b) (List.mem_append_left _ (List.mem_of_getElem? (i := 239) rfl)) rfl
theorem tw_2_0 : Cond.static yJ2_length_9d52b ∈ wA := wA_of (w := Cond.static yJ2_length_9d52b) (List.mem_append_right _ (List.mem_append_left _ (List.mem_of_getElem? (i := 0) rfl))) rfl
theorem tw_2_1 : Cond.code yJ2_length_9d52b cJ2_length_9d52b 1 (some .int) ∈ wA := wA_of (w := Cond.code yJ2_length_9d52b cJ2_length_9d52b 1 (some .int)) (List.mem_append_right _ (List.mem_append_left _ (List.mem_of_getElem? (i := 1) rfl))) rfl
theorem tw_2_2 : Cond.methodLink RJ2 414 yJ0_checkIndex_df160 ∈ wA := wA_of (w := Cond.methodLink RJ2 414 yJ0_checkIndex_df160) (List.mem_append_right _ (List.mem_append_left _ (List.mem_of_getElem? (i := 2) rfl))) rfl
theorem tw_2_3 : Cond.methodLink RJ2 71 yJ2_getChar_3b067 ∈ wA := wA_of (w := Cond.methodLink RJ2 71 yJ2_getChar_3b067) (List.mem_append_right _ (List.mem_append_left _ (List.mem_of_getElem? (i := 3) rfl))) rfl
theorem tw_2_4 : Cond.static yJ2_getChar_3b067 ∈ wA := wA_of (w := Cond.static yJ2_getChar_3b067) (List.mem_append_right _ (List.mem_append_left _ (List.mem_of_getElem? (i := 4) rfl))) rfl
theorem tw_2_5 : Cond.code yJ2_getChar_3b067 cJ2_getChar_3b067 2 (some .char) ∈ wA := wA_of (w := Cond.code yJ2_getChar_3b067 cJ2_getChar_3b067 2 (some .char)) (List.mem_append_right _ (List.mem_append_left _ (List.mem_of_getElem? (i := 5) rfl))) rfl
theorem tw_2_6 : Cond.fieldLink RJ2 44 "java/lang/StringUTF16" "$assertionsDisabled" "Z" ∈ wA := wA_of (w := Cond.fieldLink RJ2 44 "java/lang/StringUTF16" "$assertionsDisabled" "Z") (List.mem_append_right _ (List.mem_append_left _ (List.mem_of_getElem? (i := 6) rfl))) rfl
theorem tw_2_8 : Cond.fieldLink RJ2 59 "java/lang/StringUTF16" "HI_BYTE_SHIFT" "I" ∈ wA := wA_of (w := Cond.fieldLink RJ2 59 "java/lang/StringUTF16" "HI_BYTE_SHIFT" "I") (List.mem_append_right _ (List.mem_append_left _ (List.mem_of_getElem? (i := 8) rfl))) rfl
theorem tw_2_10 : Cond.fieldLink RJ2 63 "java/lang/StringUTF16" "LO_BYTE_SHIFT" "I" ∈ wA := wA_of (w := Cond.fieldLink RJ2 63 "java/lang/StringUTF16" "LO_BYTE_SHIFT" "I") (List.mem_append_right _ (List.mem_append_left _ (List.mem_of_getElem? (i := 10) rfl))) rfl
theorem tw_2_12 : Cond.arrayClass FieldType.byte ∈ wA := wA_of (w := Cond.arrayClass FieldType.byte) (List.mem_append_right _ (List.mem_append_left _ (List.mem_of_getElem? (i := 12) rfl))) rfl
theorem tw_2_13 : Cond.methodLink RL 27 yX5_town ∈ wA := wA_of (w := Cond.methodLink RL 27 yX5_town) (List.mem_append_right _ (List.mem_append_left _ (List.mem_of_getElem? (i := 13) rfl))) rfl
theorem tw_2_14 : Cond.instanceMethod yX5_town ∈ wA := wA_of (w := Cond.instanceMethod yX5_town) (List.mem_append_right _ (List.mem_append_left _ (List.mem_of_getElem? (i := 14) rfl))) rfl
theorem tw_2_15 : Cond.selects RX5 yX5_town yX5_town ∈ wA := wA_of (w := Cond.selects RX5 yX5_town yX5_town) (List.mem_append_right _ (List.mem_append_left _ (List.mem_of_getElem? (i := 15) rfl))) rfl
theorem tw_2_16 : Cond.code yX5_town cX5_town 3 (some .int) ∈ wA := wA_of (w := Cond.code yX5_town cX5_town 3 (some .int)) (List.mem_append_right _ (List.mem_append_left _ (List.mem_of_getElem? (i := 16) rfl))) rfl
theorem tw_2_17 : Cond.methodLink RX5 53 yX5_fault ∈ wA := wA_of (w := Cond.methodLink RX5 53 yX5_fault) (List.mem_append_right _ (List.mem_append_left _ (List.mem_of_getElem? (i := 17) rfl))) rfl
theorem tw_2_18 : Cond.methodLink RX5 56 yX2_clear ∈ wA := wA_of (w := Cond.methodLink RX5 56 yX2_clear) (List.mem_append_right _ (List.mem_append_left _ (List.mem_of_getElem? (i := 18) rfl))) rfl
theorem tw_2_19 : Cond.instanceMethod yX2_clear ∈ wA := wA_of (w := Cond.instanceMethod yX2_clear) (List.mem_append_right _ (List.mem_append_left _ (List.mem_of_getElem? (i := 19) rfl))) rfl
theorem tw_2_20 : Cond.selects RX2 yX2_clear yX2_clear ∈ wA := wA_of (w := Cond.selects RX2 yX2_clear yX2_clear) (List.mem_append_right _ (List.mem_append_left _ (List.mem_of_getElem? (i := 20) rfl))) rfl
theorem tw_2_21 : Cond.code yX2_clear cX2_clear 2 none ∈ wA := wA_of (w := Cond.code yX2_clear cX2_clear 2 none) (List.mem_append_right _ (List.mem_append_left _ (List.mem_of_getElem? (i := 21) rfl))) rfl
theorem tw_2_22 : Cond.methodLink RX2 25 yX3_clear ∈ wA := wA_of (w := Cond.methodLink RX2 25 yX3_clear) (List.mem_append_right _ (List.mem_append_left _ (List.mem_of_getElem? (i := 22) rfl))) rfl
theorem tw_2_23 : Cond.instanceMethod yX3_clear ∈ wA := wA_of (w := Cond.instanceMethod yX3_clear) (List.mem_append_right _ (List.mem_append_left _ (List.mem_of_getElem? (i := 23) rfl))) rfl
theorem tw_2_24 : Cond.selects RX3 yX3_clear yX3_clear ∈ wA := wA_of (w := Cond.selects RX3 yX3_clear yX3_clear) (List.mem_append_right _ (List.mem_append_left _ (List.mem_of_getElem? (i := 24) rfl))) rfl
theorem tw_2_25 : Cond.code yX3_clear cX3_clear 1 none ∈ wA := wA_of (w := Cond.code yX3_clear cX3_clear 1 none) (List.mem_append_right _ (List.mem_append_left _ (List.mem_of_getElem? (i := 25) rfl))) rfl
theorem tw_2_26 : Cond.methodLink RX3 18 yX3_forgetTrials ∈ wA := wA_of (w := Cond.methodLink RX3 18 yX3_forgetTrials) (List.mem_append_right _ (List.mem_append_left _ (List.mem_of_getElem? (i := 26) rfl))) rfl
theorem tw_2_27 : Cond.instanceMethod yX3_forgetTrials ∈ wA := wA_of (w := Cond.instanceMethod yX3_forgetTrials) (List.mem_append_right _ (List.mem_append_left _ (List.mem_of_getElem? (i := 27) rfl))) rfl
theorem tw_2_28 : Cond.selects RX3 yX3_forgetTrials yX3_forgetTrials ∈ wA := wA_of (w := Cond.selects RX3 yX3_forgetTrials yX3_forgetTrials) (List.mem_append_right _ (List.mem_append_left _ (List.mem_of_getElem? (i := 28) rfl))) rfl
theorem tw_2_29 : Cond.code yX3_forgetTrials cX3_forgetTrials 1 none ∈ wA := wA_of (w := Cond.code yX3_forgetTrials cX3_forgetTrials 1 none) (List.mem_append_right _ (List.mem_append_left _ (List.mem_of_getElem? (i := 29) rfl))) rfl
theorem tw_2_30 : Cond.methodLink RX5 63 yX5_digitAt ∈ wA := wA_of (w := Cond.methodLink RX5 63 yX5_digitAt) (List.mem_append_right _ (List.mem_append_left _ (List.mem_of_getElem? (i := 30) rfl))) rfl
theorem tw_2_32 : Cond.instanceMethod yX5_digitAt ∈ wA := wA_of (w := Cond.instanceMethod yX5_digitAt) (List.mem_append_right _ (List.mem_append_left _ (List.mem_of_getElem? (i := 32) rfl))) rfl
theorem tw_2_33 : Cond.code yX5_digitAt cX5_digitAt 2 (some .int) ∈ wA := wA_of (w := Cond.code yX5_digitAt cX5_digitAt 2 (some .int)) (List.mem_append_right _ (List.mem_append_left _ (List.mem_of_getElem? (i := 33) rfl))) rfl
theorem tw_2_34 : Cond.methodLink RX5 85 yX2_truthsOfAll ∈ wA := wA_of (w := Cond.methodLink RX5 85 yX2_truthsOfAll) (List.mem_append_right _ (List.mem_append_left _ (List.mem_of_getElem? (i := 34) rfl))) rfl
theorem tw_2_35 : Cond.instanceMethod yX2_truthsOfAll ∈ wA := wA_of (w := Cond.instanceMethod yX2_truthsOfAll) (List.mem_append_right _ (List.mem_append_left _ (List.mem_of_getElem? (i := 35) rfl))) rfl
theorem tw_2_36 : Cond.selects RX2 yX2_truthsOfAll yX2_truthsOfAll ∈ wA := wA_of (w := Cond.selects RX2 yX2_truthsOfAll yX2_truthsOfAll) (List.mem_append_right _ (List.mem_append_left _ (List.mem_of_getElem? (i := 36) rfl))) rfl
theorem tw_2_37 : Cond.code yX2_truthsOfAll cX2_truthsOfAll 3 (some .int) ∈ wA := wA_of (w := Cond.code yX2_truthsOfAll cX2_truthsOfAll 3 (some .int)) (List.mem_append_right _ (List.mem_append_left _ (List.mem_of_getElem? (i := 37) rfl))) rfl
theorem tw_2_38 : Cond.methodLink RX2 90 yJ6_bitCount_0f7a4 ∈ wA := wA_of (w := Cond.methodLink RX2 90 yJ6_bitCount_0f7a4) (List.mem_append_right _ (List.mem_append_left _ (List.mem_of_getElem? (i := 38) rfl))) rfl
theorem tw_2_39 : Cond.static yJ6_bitCount_0f7a4 ∈ wA := wA_of (w := Cond.static yJ6_bitCount_0f7a4) (List.mem_append_right _ (List.mem_append_left _ (List.mem_of_getElem? (i := 39) rfl))) rfl
theorem tw_2_40 : Cond.code yJ6_bitCount_0f7a4 cJ6_bitCount_0f7a4 1 (some .int) ∈ wA := wA_of (w := Cond.code yJ6_bitCount_0f7a4 cJ6_bitCount_0f7a4 1 (some .int)) (List.mem_append_right _ (List.mem_append_left _ (List.mem_of_getElem? (i := 40) rfl))) rfl
theorem tw_2_41 : Cond.constant RJ6 265 (1431655765 : Int32) ∈ wA := wA_of (w := Cond.constant RJ6 265 (1431655765 : Int32)) (List.mem_append_right _ (List.mem_append_left _ (List.mem_of_getElem? (i := 41) rfl))) rfl
theorem tw_2_42 : Cond.constant RJ6 266 (858993459 : Int32) ∈ wA := wA_of (w := Cond.constant RJ6 266 (858993459 : Int32)) (List.mem_append_right _ (List.mem_append_left _ (List.mem_of_getElem? (i := 42) rfl))) rfl
theorem tw_2_43 : Cond.constant RJ6 267 (252645135 : Int32) ∈ wA := wA_of (w := Cond.constant RJ6 267 (252645135 : Int32)) (List.mem_append_right _ (List.mem_append_left _ (List.mem_of_getElem? (i := 43) rfl))) rfl
theorem tw_2_44 : Cond.methodLink RL 31 yX5_victim ∈ wA := wA_of (w := Cond.methodLink RL 31 yX5_victim) (List.mem_append_right _ (List.mem_append_left _ (List.mem_of_getElem? (i := 44) rfl))) rfl
theorem tw_2_45 : Cond.instanceMethod yX5_victim ∈ wA := wA_of (w := Cond.instanceMethod yX5_victim) (List.mem_append_right _ (List.mem_append_left _ (List.mem_of_getElem? (i := 45) rfl))) rfl
theorem tw_2_46 : Cond.selects RX5 yX5_victim yX5_victim ∈ wA := wA_of (w := Cond.selects RX5 yX5_victim yX5_victim) (List.mem_append_right _ (List.mem_append_left _ (List.mem_of_getElem? (i := 46) rfl))) rfl
theorem tw_2_47 : Cond.code yX5_victim cX5_victim 3 (some .int) ∈ wA := wA_of (w := Cond.code yX5_victim cX5_victim 3 (some .int)) (List.mem_append_right _ (List.mem_append_left _ (List.mem_of_getElem? (i := 47) rfl))) rfl
theorem tw_2_48 : Cond.methodLink RX5 88 yX5_isVictim ∈ wA := wA_of (w := Cond.methodLink RX5 88 yX5_isVictim) (List.mem_append_right _ (List.mem_append_left _ (List.mem_of_getElem? (i := 48) rfl))) rfl
theorem tw_2_50 : Cond.instanceMethod yX5_isVictim ∈ wA := wA_of (w := Cond.instanceMethod yX5_isVictim) (List.mem_append_right _ (List.mem_append_left _ (List.mem_of_getElem? (i := 50) rfl))) rfl
theorem tw_2_51 : Cond.code yX5_isVictim cX5_isVictim 2 (some .boolean) ∈ wA := wA_of (w := Cond.code yX5_isVictim cX5_isVictim 2 (some .boolean)) (List.mem_append_right _ (List.mem_append_left _ (List.mem_of_getElem? (i := 51) rfl))) rfl
theorem tw_2_52 : Cond.methodLink RX5 95 yX2_convictsOf ∈ wA := wA_of (w := Cond.methodLink RX5 95 yX2_convictsOf) (List.mem_append_right _ (List.mem_append_left _ (List.mem_of_getElem? (i := 52) rfl))) rfl
theorem tw_2_53 : Cond.instanceMethod yX2_convictsOf ∈ wA := wA_of (w := Cond.instanceMethod yX2_convictsOf) (List.mem_append_right _ (List.mem_append_left _ (List.mem_of_getElem? (i := 53) rfl))) rfl
theorem tw_2_54 : Cond.selects RX2 yX2_convictsOf yX2_convictsOf ∈ wA := wA_of (w := Cond.selects RX2 yX2_convictsOf yX2_convictsOf) (List.mem_append_right _ (List.mem_append_left _ (List.mem_of_getElem? (i := 54) rfl))) rfl
theorem tw_2_55 : Cond.code yX2_convictsOf cX2_convictsOf 4 (some .int) ∈ wA := wA_of (w := Cond.code yX2_convictsOf cX2_convictsOf 4 (some .int)) (List.mem_append_right _ (List.mem_append_left _ (List.mem_of_getElem? (i := 55) rfl))) rfl
theorem tw_2_56 : Cond.methodLink RX5 98 yX2_finesOf ∈ wA := wA_of (w := Cond.methodLink RX5 98 yX2_finesOf) (List.mem_append_right _ (List.mem_append_left _ (List.mem_of_getElem? (i := 56) rfl))) rfl
theorem tw_2_57 : Cond.instanceMethod yX2_finesOf ∈ wA := wA_of (w := Cond.instanceMethod yX2_finesOf) (List.mem_append_right _ (List.mem_append_left _ (List.mem_of_getElem? (i := 57) rfl))) rfl
theorem tw_2_58 : Cond.selects RX2 yX2_finesOf yX2_finesOf ∈ wA := wA_of (w := Cond.selects RX2 yX2_finesOf yX2_finesOf) (List.mem_append_right _ (List.mem_append_left _ (List.mem_of_getElem? (i := 58) rfl))) rfl
theorem tw_2_59 : Cond.code yX2_finesOf cX2_finesOf 4 (some .int) ∈ wA := wA_of (w := Cond.code yX2_finesOf cX2_finesOf 4 (some .int)) (List.mem_append_right _ (List.mem_append_left _ (List.mem_of_getElem? (i := 59) rfl))) rfl
theorem tw_2_60 : Cond.methodLink RL 36 yX5_convict ∈ wA := wA_of (w := Cond.methodLink RL 36 yX5_convict) (List.mem_append_right _ (List.mem_append_left _ (List.mem_of_getElem? (i := 60) rfl))) rfl
theorem tw_2_61 : Cond.instanceMethod yX5_convict ∈ wA := wA_of (w := Cond.instanceMethod yX5_convict) (List.mem_append_right _ (List.mem_append_left _ (List.mem_of_getElem? (i := 61) rfl))) rfl
theorem tw_2_62 : Cond.selects RX5 yX5_convict yX5_convict ∈ wA := wA_of (w := Cond.selects RX5 yX5_convict yX5_convict) (List.mem_append_right _ (List.mem_append_left _ (List.mem_of_getElem? (i := 62) rfl))) rfl
theorem tw_2_63 : Cond.code yX5_convict cX5_convict 6 (some .int) ∈ wA := wA_of (w := Cond.code yX5_convict cX5_convict 6 (some .int)) (List.mem_append_right _ (List.mem_append_left _ (List.mem_of_getElem? (i := 63) rfl))) rfl
theorem tw_2_64 : Cond.methodLink RX5 101 yX5_isKind ∈ wA := wA_of (w := Cond.methodLink RX5 101 yX5_isKind) (List.mem_append_right _ (List.mem_append_left _ (List.mem_of_getElem? (i := 64) rfl))) rfl
theorem tw_2_65 : Cond.static yX5_isKind ∈ wA := wA_of (w := Cond.static yX5_isKind) (List.mem_append_right _ (List.mem_append_left _ (List.mem_of_getElem? (i := 65) rfl))) rfl
theorem tw_2_66 : Cond.code yX5_isKind cX5_isKind 1 (some .boolean) ∈ wA := wA_of (w := Cond.code yX5_isKind cX5_isKind 1 (some .boolean)) (List.mem_append_right _ (List.mem_append_left _ (List.mem_of_getElem? (i := 66) rfl))) rfl
theorem tw_2_67 : Cond.methodLink RX5 111 yX0_begin ∈ wA := wA_of (w := Cond.methodLink RX5 111 yX0_begin) (List.mem_append_right _ (List.mem_append_left _ (List.mem_of_getElem? (i := 67) rfl))) rfl
theorem tw_2_68 : Cond.instanceMethod yX0_begin ∈ wA := wA_of (w := Cond.instanceMethod yX0_begin) (List.mem_append_right _ (List.mem_append_left _ (List.mem_of_getElem? (i := 68) rfl))) rfl
theorem tw_2_69 : Cond.selects RX0 yX0_begin yX0_begin ∈ wA := wA_of (w := Cond.selects RX0 yX0_begin yX0_begin) (List.mem_append_right _ (List.mem_append_left _ (List.mem_of_getElem? (i := 69) rfl))) rfl
theorem tw_2_70 : Cond.code yX0_begin cX0_begin 5 none ∈ wA := wA_of (w := Cond.code yX0_begin cX0_begin 5 none) (List.mem_append_right _ (List.mem_append_left _ (List.mem_of_getElem? (i := 70) rfl))) rfl
theorem tw_2_71 : Cond.methodLink RX0 24 yX0_mayEachDay ∈ wA := wA_of (w := Cond.methodLink RX0 24 yX0_mayEachDay) (List.mem_append_right _ (List.mem_append_left _ (List.mem_of_getElem? (i := 71) rfl))) rfl
theorem tw_2_72 : Cond.instanceMethod yX0_mayEachDay ∈ wA := wA_of (w := Cond.instanceMethod yX0_mayEachDay) (List.mem_append_right _ (List.mem_append_left _ (List.mem_of_getElem? (i := 72) rfl))) rfl
theorem tw_2_73 : Cond.selects RX0 yX0_mayEachDay yX0_mayEachDay ∈ wA := wA_of (w := Cond.selects RX0 yX0_mayEachDay yX0_mayEachDay) (List.mem_append_right _ (List.mem_append_left _ (List.mem_of_getElem? (i := 73) rfl))) rfl
theorem tw_2_74 : Cond.code yX0_mayEachDay cX0_mayEachDay 1 (some .int) ∈ wA := wA_of (w := Cond.code yX0_mayEachDay cX0_mayEachDay 1 (some .int)) (List.mem_append_right _ (List.mem_append_left _ (List.mem_of_getElem? (i := 74) rfl))) rfl
theorem tw_2_75 : Cond.methodLink RL 41 yX5_about ∈ wA := wA_of (w := Cond.methodLink RL 41 yX5_about) (List.mem_append_right _ (List.mem_append_left _ (List.mem_of_getElem? (i := 75) rfl))) rfl
theorem tw_2_76 : Cond.instanceMethod yX5_about ∈ wA := wA_of (w := Cond.instanceMethod yX5_about) (List.mem_append_right _ (List.mem_append_left _ (List.mem_of_getElem? (i := 76) rfl))) rfl
theorem tw_2_77 : Cond.selects RX5 yX5_about yX5_about ∈ wA := wA_of (w := Cond.selects RX5 yX5_about yX5_about) (List.mem_append_right _ (List.mem_append_left _ (List.mem_of_getElem? (i := 77) rfl))) rfl
theorem tw_2_78 : Cond.code yX5_about cX5_about 4 (some .int) ∈ wA := wA_of (w := Cond.code yX5_about cX5_about 4 (some .int)) (List.mem_append_right _ (List.mem_append_left _ (List.mem_of_getElem? (i := 78) rfl))) rfl
theorem tw_2_79 : Cond.methodLink RX5 117 yX5_isConvict ∈ wA := wA_of (w := Cond.methodLink RX5 117 yX5_isConvict) (List.mem_append_right _ (List.mem_append_left _ (List.mem_of_getElem? (i := 79) rfl))) rfl
theorem tw_2_81 : Cond.instanceMethod yX5_isConvict ∈ wA := wA_of (w := Cond.instanceMethod yX5_isConvict) (List.mem_append_right _ (List.mem_append_left _ (List.mem_of_getElem? (i := 81) rfl))) rfl
theorem tw_2_82 : Cond.code yX5_isConvict cX5_isConvict 2 (some .boolean) ∈ wA := wA_of (w := Cond.code yX5_isConvict cX5_isConvict 2 (some .boolean)) (List.mem_append_right _ (List.mem_append_left _ (List.mem_of_getElem? (i := 82) rfl))) rfl
theorem tw_2_83 : Cond.methodLink RX5 132 yX2_leftTo ∈ wA := wA_of (w := Cond.methodLink RX5 132 yX2_leftTo) (List.mem_append_right _ (List.mem_append_left _ (List.mem_of_getElem? (i := 83) rfl))) rfl
theorem tw_2_84 : Cond.instanceMethod yX2_leftTo ∈ wA := wA_of (w := Cond.instanceMethod yX2_leftTo) (List.mem_append_right _ (List.mem_append_left _ (List.mem_of_getElem? (i := 84) rfl))) rfl
theorem tw_2_85 : Cond.selects RX2 yX2_leftTo yX2_leftTo ∈ wA := wA_of (w := Cond.selects RX2 yX2_leftTo yX2_leftTo) (List.mem_append_right _ (List.mem_append_left _ (List.mem_of_getElem? (i := 85) rfl))) rfl
theorem tw_2_86 : Cond.code yX2_leftTo cX2_leftTo 2 (some .int) ∈ wA := wA_of (w := Cond.code yX2_leftTo cX2_leftTo 2 (some .int)) (List.mem_append_right _ (List.mem_append_left _ (List.mem_of_getElem? (i := 86) rfl))) rfl
theorem tw_2_87 : Cond.methodLink RX2 76 yX3_trueAndNew ∈ wA := wA_of (w := Cond.methodLink RX2 76 yX3_trueAndNew) (List.mem_append_right _ (List.mem_append_left _ (List.mem_of_getElem? (i := 87) rfl))) rfl
theorem tw_2_88 : Cond.instanceMethod yX3_trueAndNew ∈ wA := wA_of (w := Cond.instanceMethod yX3_trueAndNew) (List.mem_append_right _ (List.mem_append_left _ (List.mem_of_getElem? (i := 88) rfl))) rfl
theorem tw_2_89 : Cond.selects RX3 yX3_trueAndNew yX3_trueAndNew ∈ wA := wA_of (w := Cond.selects RX3 yX3_trueAndNew yX3_trueAndNew) (List.mem_append_right _ (List.mem_append_left _ (List.mem_of_getElem? (i := 89) rfl))) rfl
theorem tw_2_90 : Cond.code yX3_trueAndNew cX3_trueAndNew 1 (some .int) ∈ wA := wA_of (w := Cond.code yX3_trueAndNew cX3_trueAndNew 1 (some .int)) (List.mem_append_right _ (List.mem_append_left _ (List.mem_of_getElem? (i := 90) rfl))) rfl
theorem tw_2_91 : Cond.methodLink RX5 142 yX2_daysFor ∈ wA := wA_of (w := Cond.methodLink RX5 142 yX2_daysFor) (List.mem_append_right _ (List.mem_append_left _ (List.mem_of_getElem? (i := 91) rfl))) rfl
theorem tw_2_92 : Cond.instanceMethod yX2_daysFor ∈ wA := wA_of (w := Cond.instanceMethod yX2_daysFor) (List.mem_append_right _ (List.mem_append_left _ (List.mem_of_getElem? (i := 92) rfl))) rfl
theorem tw_2_93 : Cond.selects RX2 yX2_daysFor yX2_daysFor ∈ wA := wA_of (w := Cond.selects RX2 yX2_daysFor yX2_daysFor) (List.mem_append_right _ (List.mem_append_left _ (List.mem_of_getElem? (i := 93) rfl))) rfl
theorem tw_2_94 : Cond.code yX2_daysFor cX2_daysFor 5 (some .int) ∈ wA := wA_of (w := Cond.code yX2_daysFor cX2_daysFor 5 (some .int)) (List.mem_append_right _ (List.mem_append_left _ (List.mem_of_getElem? (i := 94) rfl))) rfl
theorem tw_2_95 : Cond.methodLink RX2 79 yX0_hasPaid ∈ wA := wA_of (w := Cond.methodLink RX2 79 yX0_hasPaid) (List.mem_append_right _ (List.mem_append_left _ (List.mem_of_getElem? (i := 95) rfl))) rfl
theorem tw_2_96 : Cond.instanceMethod yX0_hasPaid ∈ wA := wA_of (w := Cond.instanceMethod yX0_hasPaid) (List.mem_append_right _ (List.mem_append_left _ (List.mem_of_getElem? (i := 96) rfl))) rfl
theorem tw_2_97 : Cond.selects RX0 yX0_hasPaid yX0_hasPaid ∈ wA := wA_of (w := Cond.selects RX0 yX0_hasPaid yX0_hasPaid) (List.mem_append_right _ (List.mem_append_left _ (List.mem_of_getElem? (i := 97) rfl))) rfl
theorem tw_2_98 : Cond.code yX0_hasPaid cX0_hasPaid 1 (some .boolean) ∈ wA := wA_of (w := Cond.code yX0_hasPaid cX0_hasPaid 1 (some .boolean)) (List.mem_append_right _ (List.mem_append_left _ (List.mem_of_getElem? (i := 98) rfl))) rfl
theorem tw_2_99 : Cond.methodLink RX2 83 yX0_needs ∈ wA := wA_of (w := Cond.methodLink RX2 83 yX0_needs) (List.mem_append_right _ (List.mem_append_left _ (List.mem_of_getElem? (i := 99) rfl))) rfl
theorem tw_2_100 : Cond.instanceMethod yX0_needs ∈ wA := wA_of (w := Cond.instanceMethod yX0_needs) (List.mem_append_right _ (List.mem_append_left _ (List.mem_of_getElem? (i := 100) rfl))) rfl
theorem tw_2_101 : Cond.selects RX0 yX0_needs yX0_needs ∈ wA := wA_of (w := Cond.selects RX0 yX0_needs yX0_needs) (List.mem_append_right _ (List.mem_append_left _ (List.mem_of_getElem? (i := 101) rfl))) rfl
theorem tw_2_102 : Cond.code yX0_needs cX0_needs 1 (some .int) ∈ wA := wA_of (w := Cond.code yX0_needs cX0_needs 1 (some .int)) (List.mem_append_right _ (List.mem_append_left _ (List.mem_of_getElem? (i := 102) rfl))) rfl
theorem tw_2_103 : Cond.methodLink RX0 34 yX0_hasPaid ∈ wA := wA_of (w := Cond.methodLink RX0 34 yX0_hasPaid) (List.mem_append_right _ (List.mem_append_left _ (List.mem_of_getElem? (i := 103) rfl))) rfl
theorem tw_2_104 : Cond.methodLink RX2 86 yX2_leftTo ∈ wA := wA_of (w := Cond.methodLink RX2 86 yX2_leftTo) (List.mem_append_right _ (List.mem_append_left _ (List.mem_of_getElem? (i := 104) rfl))) rfl
theorem tw_2_105 : Cond.methodLink RX2 51 yX0_mayEachDay ∈ wA := wA_of (w := Cond.methodLink RX2 51 yX0_mayEachDay) (List.mem_append_right _ (List.mem_append_left _ (List.mem_of_getElem? (i := 105) rfl))) rfl
theorem tw_2_106 : Cond.methodLink RX5 145 yX2_findFor ∈ wA := wA_of (w := Cond.methodLink RX5 145 yX2_findFor) (List.mem_append_right _ (List.mem_append_left _ (List.mem_of_getElem? (i := 106) rfl))) rfl
theorem tw_2_107 : Cond.instanceMethod yX2_findFor ∈ wA := wA_of (w := Cond.instanceMethod yX2_findFor) (List.mem_append_right _ (List.mem_append_left _ (List.mem_of_getElem? (i := 107) rfl))) rfl
theorem tw_2_108 : Cond.selects RX2 yX2_findFor yX2_findFor ∈ wA := wA_of (w := Cond.selects RX2 yX2_findFor yX2_findFor) (List.mem_append_right _ (List.mem_append_left _ (List.mem_of_getElem? (i := 108) rfl))) rfl
theorem tw_2_109 : Cond.code yX2_findFor cX2_findFor 4 (some .int) ∈ wA := wA_of (w := Cond.code yX2_findFor cX2_findFor 4 (some .int)) (List.mem_append_right _ (List.mem_append_left _ (List.mem_of_getElem? (i := 109) rfl))) rfl
theorem tw_2_110 : Cond.methodLink RL 45 yX5_as ∈ wA := wA_of (w := Cond.methodLink RL 45 yX5_as) (List.mem_append_right _ (List.mem_append_left _ (List.mem_of_getElem? (i := 110) rfl))) rfl
theorem tw_2_111 : Cond.instanceMethod yX5_as ∈ wA := wA_of (w := Cond.instanceMethod yX5_as) (List.mem_append_right _ (List.mem_append_left _ (List.mem_of_getElem? (i := 111) rfl))) rfl
theorem tw_2_112 : Cond.selects RX5 yX5_as yX5_as ∈ wA := wA_of (w := Cond.selects RX5 yX5_as yX5_as) (List.mem_append_right _ (List.mem_append_left _ (List.mem_of_getElem? (i := 112) rfl))) rfl
theorem tw_2_113 : Cond.code yX5_as cX5_as 3 (some .int) ∈ wA := wA_of (w := Cond.code yX5_as cX5_as 3 (some .int)) (List.mem_append_right _ (List.mem_append_left _ (List.mem_of_getElem? (i := 113) rfl))) rfl
theorem tw_2_114 : Cond.methodLink RX5 148 yX0_isA ∈ wA := wA_of (w := Cond.methodLink RX5 148 yX0_isA) (List.mem_append_right _ (List.mem_append_left _ (List.mem_of_getElem? (i := 114) rfl))) rfl
theorem tw_2_115 : Cond.instanceMethod yX0_isA ∈ wA := wA_of (w := Cond.instanceMethod yX0_isA) (List.mem_append_right _ (List.mem_append_left _ (List.mem_of_getElem? (i := 115) rfl))) rfl
theorem tw_2_116 : Cond.selects RX0 yX0_isA yX0_isA ∈ wA := wA_of (w := Cond.selects RX0 yX0_isA yX0_isA) (List.mem_append_right _ (List.mem_append_left _ (List.mem_of_getElem? (i := 116) rfl))) rfl
theorem tw_2_117 : Cond.code yX0_isA cX0_isA 2 (some .boolean) ∈ wA := wA_of (w := Cond.code yX0_isA cX0_isA 2 (some .boolean)) (List.mem_append_right _ (List.mem_append_left _ (List.mem_of_getElem? (i := 117) rfl))) rfl
theorem tw_2_118 : Cond.methodLink RL 49 yX5_say ∈ wA := wA_of (w := Cond.methodLink RL 49 yX5_say) (List.mem_append_right _ (List.mem_append_left _ (List.mem_of_getElem? (i := 118) rfl))) rfl
theorem tw_2_119 : Cond.instanceMethod yX5_say ∈ wA := wA_of (w := Cond.instanceMethod yX5_say) (List.mem_append_right _ (List.mem_append_left _ (List.mem_of_getElem? (i := 119) rfl))) rfl
theorem tw_2_120 : Cond.selects RX5 yX5_say yX5_say ∈ wA := wA_of (w := Cond.selects RX5 yX5_say yX5_say) (List.mem_append_right _ (List.mem_append_left _ (List.mem_of_getElem? (i := 120) rfl))) rfl
theorem tw_2_121 : Cond.code yX5_say cX5_say 4 (some .int) ∈ wA := wA_of (w := Cond.code yX5_say cX5_say 4 (some .int)) (List.mem_append_right _ (List.mem_append_left _ (List.mem_of_getElem? (i := 121) rfl))) rfl
theorem tw_2_122 : Cond.methodLink RX5 151 yX5_isSaying ∈ wA := wA_of (w := Cond.methodLink RX5 151 yX5_isSaying) (List.mem_append_right _ (List.mem_append_left _ (List.mem_of_getElem? (i := 122) rfl))) rfl
theorem tw_2_123 : Cond.static yX5_isSaying ∈ wA := wA_of (w := Cond.static yX5_isSaying) (List.mem_append_right _ (List.mem_append_left _ (List.mem_of_getElem? (i := 123) rfl))) rfl
theorem tw_2_124 : Cond.code yX5_isSaying cX5_isSaying 1 (some .boolean) ∈ wA := wA_of (w := Cond.code yX5_isSaying cX5_isSaying 1 (some .boolean)) (List.mem_append_right _ (List.mem_append_left _ (List.mem_of_getElem? (i := 124) rfl))) rfl
theorem tw_2_125 : Cond.methodLink RX5 154 yX0_hasPaid ∈ wA := wA_of (w := Cond.methodLink RX5 154 yX0_hasPaid) (List.mem_append_right _ (List.mem_append_left _ (List.mem_of_getElem? (i := 125) rfl))) rfl
theorem tw_2_126 : Cond.methodLink RX5 158 yX0_knowsOf ∈ wA := wA_of (w := Cond.methodLink RX5 158 yX0_knowsOf) (List.mem_append_right _ (List.mem_append_left _ (List.mem_of_getElem? (i := 126) rfl))) rfl
theorem tw_2_127 : Cond.instanceMethod yX0_knowsOf ∈ wA := wA_of (w := Cond.instanceMethod yX0_knowsOf) (List.mem_append_right _ (List.mem_append_left _ (List.mem_of_getElem? (i := 127) rfl))) rfl
theorem tw_2_128 : Cond.selects RX0 yX0_knowsOf yX0_knowsOf ∈ wA := wA_of (w := Cond.selects RX0 yX0_knowsOf yX0_knowsOf) (List.mem_append_right _ (List.mem_append_left _ (List.mem_of_getElem? (i := 128) rfl))) rfl
theorem tw_2_129 : Cond.code yX0_knowsOf cX0_knowsOf 2 (some .boolean) ∈ wA := wA_of (w := Cond.code yX0_knowsOf cX0_knowsOf 2 (some .boolean)) (List.mem_append_right _ (List.mem_append_left _ (List.mem_of_getElem? (i := 129) rfl))) rfl
theorem tw_2_130 : Cond.methodLink RX5 161 yX2_hear ∈ wA := wA_of (w := Cond.methodLink RX5 161 yX2_hear) (List.mem_append_right _ (List.mem_append_left _ (List.mem_of_getElem? (i := 130) rfl))) rfl
theorem tw_2_131 : Cond.instanceMethod yX2_hear ∈ wA := wA_of (w := Cond.instanceMethod yX2_hear) (List.mem_append_right _ (List.mem_append_left _ (List.mem_of_getElem? (i := 131) rfl))) rfl
theorem tw_2_132 : Cond.selects RX2 yX2_hear yX2_hear ∈ wA := wA_of (w := Cond.selects RX2 yX2_hear yX2_hear) (List.mem_append_right _ (List.mem_append_left _ (List.mem_of_getElem? (i := 132) rfl))) rfl
theorem tw_2_133 : Cond.code yX2_hear cX2_hear 5 (some .boolean) ∈ wA := wA_of (w := Cond.code yX2_hear cX2_hear 5 (some .boolean)) (List.mem_append_right _ (List.mem_append_left _ (List.mem_of_getElem? (i := 133) rfl))) rfl
theorem tw_2_134 : Cond.methodLink RX2 70 yX0_pay ∈ wA := wA_of (w := Cond.methodLink RX2 70 yX0_pay) (List.mem_append_right _ (List.mem_append_left _ (List.mem_of_getElem? (i := 134) rfl))) rfl
theorem tw_2_135 : Cond.instanceMethod yX0_pay ∈ wA := wA_of (w := Cond.instanceMethod yX0_pay) (List.mem_append_right _ (List.mem_append_left _ (List.mem_of_getElem? (i := 135) rfl))) rfl
theorem tw_2_136 : Cond.selects RX0 yX0_pay yX0_pay ∈ wA := wA_of (w := Cond.selects RX0 yX0_pay yX0_pay) (List.mem_append_right _ (List.mem_append_left _ (List.mem_of_getElem? (i := 136) rfl))) rfl
theorem tw_2_137 : Cond.code yX0_pay cX0_pay 1 none ∈ wA := wA_of (w := Cond.code yX0_pay cX0_pay 1 none) (List.mem_append_right _ (List.mem_append_left _ (List.mem_of_getElem? (i := 137) rfl))) rfl
theorem tw_2_138 : Cond.methodLink RL 53 yX5_learn ∈ wA := wA_of (w := Cond.methodLink RL 53 yX5_learn) (List.mem_append_right _ (List.mem_append_left _ (List.mem_of_getElem? (i := 138) rfl))) rfl
theorem tw_2_139 : Cond.instanceMethod yX5_learn ∈ wA := wA_of (w := Cond.instanceMethod yX5_learn) (List.mem_append_right _ (List.mem_append_left _ (List.mem_of_getElem? (i := 139) rfl))) rfl
theorem tw_2_140 : Cond.selects RX5 yX5_learn yX5_learn ∈ wA := wA_of (w := Cond.selects RX5 yX5_learn yX5_learn) (List.mem_append_right _ (List.mem_append_left _ (List.mem_of_getElem? (i := 140) rfl))) rfl
theorem tw_2_141 : Cond.code yX5_learn cX5_learn 4 (some .int) ∈ wA := wA_of (w := Cond.code yX5_learn cX5_learn 4 (some .int)) (List.mem_append_right _ (List.mem_append_left _ (List.mem_of_getElem? (i := 141) rfl))) rfl
theorem tw_2_142 : Cond.methodLink RL 57 yX5_night ∈ wA := wA_of (w := Cond.methodLink RL 57 yX5_night) (List.mem_append_right _ (List.mem_append_left _ (List.mem_of_getElem? (i := 142) rfl))) rfl
theorem tw_2_143 : Cond.instanceMethod yX5_night ∈ wA := wA_of (w := Cond.instanceMethod yX5_night) (List.mem_append_right _ (List.mem_append_left _ (List.mem_of_getElem? (i := 143) rfl))) rfl
theorem tw_2_144 : Cond.selects RX5 yX5_night yX5_night ∈ wA := wA_of (w := Cond.selects RX5 yX5_night yX5_night) (List.mem_append_right _ (List.mem_append_left _ (List.mem_of_getElem? (i := 144) rfl))) rfl
theorem tw_2_145 : Cond.code yX5_night cX5_night 1 (some .int) ∈ wA := wA_of (w := Cond.code yX5_night cX5_night 1 (some .int)) (List.mem_append_right _ (List.mem_append_left _ (List.mem_of_getElem? (i := 145) rfl))) rfl
theorem tw_2_146 : Cond.methodLink RX5 165 yX2_beginNextDay ∈ wA := wA_of (w := Cond.methodLink RX5 165 yX2_beginNextDay) (List.mem_append_right _ (List.mem_append_left _ (List.mem_of_getElem? (i := 146) rfl))) rfl
theorem tw_2_147 : Cond.instanceMethod yX2_beginNextDay ∈ wA := wA_of (w := Cond.instanceMethod yX2_beginNextDay) (List.mem_append_right _ (List.mem_append_left _ (List.mem_of_getElem? (i := 147) rfl))) rfl
theorem tw_2_148 : Cond.selects RX2 yX2_beginNextDay yX2_beginNextDay ∈ wA := wA_of (w := Cond.selects RX2 yX2_beginNextDay yX2_beginNextDay) (List.mem_append_right _ (List.mem_append_left _ (List.mem_of_getElem? (i := 148) rfl))) rfl
theorem tw_2_149 : Cond.code yX2_beginNextDay cX2_beginNextDay 2 none ∈ wA := wA_of (w := Cond.code yX2_beginNextDay cX2_beginNextDay 2 none) (List.mem_append_right _ (List.mem_append_left _ (List.mem_of_getElem? (i := 149) rfl))) rfl
theorem tw_2_150 : Cond.methodLink RL 61 yX5_most ∈ wA := wA_of (w := Cond.methodLink RL 61 yX5_most) (List.mem_append_right _ (List.mem_append_left _ (List.mem_of_getElem? (i := 150) rfl))) rfl
theorem tw_2_151 : Cond.instanceMethod yX5_most ∈ wA := wA_of (w := Cond.instanceMethod yX5_most) (List.mem_append_right _ (List.mem_append_left _ (List.mem_of_getElem? (i := 151) rfl))) rfl
theorem tw_2_152 : Cond.selects RX5 yX5_most yX5_most ∈ wA := wA_of (w := Cond.selects RX5 yX5_most yX5_most) (List.mem_append_right _ (List.mem_append_left _ (List.mem_of_getElem? (i := 152) rfl))) rfl
theorem tw_2_153 : Cond.code yX5_most cX5_most 3 (some .int) ∈ wA := wA_of (w := Cond.code yX5_most cX5_most 3 (some .int)) (List.mem_append_right _ (List.mem_append_left _ (List.mem_of_getElem? (i := 153) rfl))) rfl
theorem tw_2_154 : Cond.methodLink RX5 171 yX1_mostOfAll ∈ wA := wA_of (w := Cond.methodLink RX5 171 yX1_mostOfAll) (List.mem_append_right _ (List.mem_append_left _ (List.mem_of_getElem? (i := 154) rfl))) rfl
theorem tw_2_155 : Cond.instanceMethod yX1_mostOfAll ∈ wA := wA_of (w := Cond.instanceMethod yX1_mostOfAll) (List.mem_append_right _ (List.mem_append_left _ (List.mem_of_getElem? (i := 155) rfl))) rfl
theorem tw_2_156 : Cond.selects RX1 yX1_mostOfAll yX1_mostOfAll ∈ wA := wA_of (w := Cond.selects RX1 yX1_mostOfAll yX1_mostOfAll) (List.mem_append_right _ (List.mem_append_left _ (List.mem_of_getElem? (i := 156) rfl))) rfl
theorem tw_2_157 : Cond.code yX1_mostOfAll cX1_mostOfAll 4 (some .int) ∈ wA := wA_of (w := Cond.code yX1_mostOfAll cX1_mostOfAll 4 (some .int)) (List.mem_append_right _ (List.mem_append_left _ (List.mem_of_getElem? (i := 157) rfl))) rfl
theorem tw_2_158 : Cond.methodLink RX1 18 yX1_take ∈ wA := wA_of (w := Cond.methodLink RX1 18 yX1_take) (List.mem_append_right _ (List.mem_append_left _ (List.mem_of_getElem? (i := 158) rfl))) rfl
theorem tw_2_160 : Cond.instanceMethod yX1_take ∈ wA := wA_of (w := Cond.instanceMethod yX1_take) (List.mem_append_right _ (List.mem_append_left _ (List.mem_of_getElem? (i := 160) rfl))) rfl
theorem tw_2_161 : Cond.code yX1_take cX1_take 5 none ∈ wA := wA_of (w := Cond.code yX1_take cX1_take 5 none) (List.mem_append_right _ (List.mem_append_left _ (List.mem_of_getElem? (i := 161) rfl))) rfl
theorem tw_2_162 : Cond.methodLink RX1 41 yX0_needs ∈ wA := wA_of (w := Cond.methodLink RX1 41 yX0_needs) (List.mem_append_right _ (List.mem_append_left _ (List.mem_of_getElem? (i := 162) rfl))) rfl
theorem tw_2_163 : Cond.methodLink RX1 49 yX2_leftTo ∈ wA := wA_of (w := Cond.methodLink RX1 49 yX2_leftTo) (List.mem_append_right _ (List.mem_append_left _ (List.mem_of_getElem? (i := 163) rfl))) rfl
theorem tw_2_164 : Cond.methodLink RX1 22 yX1_mostAmong ∈ wA := wA_of (w := Cond.methodLink RX1 22 yX1_mostAmong) (List.mem_append_right _ (List.mem_append_left _ (List.mem_of_getElem? (i := 164) rfl))) rfl
theorem tw_2_166 : Cond.instanceMethod yX1_mostAmong ∈ wA := wA_of (w := Cond.instanceMethod yX1_mostAmong) (List.mem_append_right _ (List.mem_append_left _ (List.mem_of_getElem? (i := 166) rfl))) rfl
theorem tw_2_167 : Cond.code yX1_mostAmong cX1_mostAmong 7 (some .int) ∈ wA := wA_of (w := Cond.code yX1_mostAmong cX1_mostAmong 7 (some .int)) (List.mem_append_right _ (List.mem_append_left _ (List.mem_of_getElem? (i := 167) rfl))) rfl
theorem tw_2_168 : Cond.methodLink RX1 53 yJ6_bitCount_0f7a4 ∈ wA := wA_of (w := Cond.methodLink RX1 53 yJ6_bitCount_0f7a4) (List.mem_append_right _ (List.mem_append_left _ (List.mem_of_getElem? (i := 168) rfl))) rfl
theorem tw_2_169 : Cond.methodLink RX1 58 Lib.Math.min.name ∈ wA := wA_of (w := Cond.methodLink RX1 58 Lib.Math.min.name) (List.mem_append_right _ (List.mem_append_left _ (List.mem_of_getElem? (i := 169) rfl))) rfl
theorem tw_2_170 : Cond.static Lib.Math.min.name ∈ wA := wA_of (w := Cond.static Lib.Math.min.name) (List.mem_append_right _ (List.mem_append_left _ (List.mem_of_getElem? (i := 170) rfl))) rfl
theorem tw_2_171 : Cond.code Lib.Math.min.name cJ9_min_7cf53 2 (some .int) ∈ wA := wA_of (w := Cond.code Lib.Math.min.name cJ9_min_7cf53 2 (some .int)) (List.mem_append_right _ (List.mem_append_left _ (List.mem_of_getElem? (i := 171) rfl))) rfl
theorem tw_2_172 : Cond.methodLink RX5 175 yX2_needsOfAll ∈ wA := wA_of (w := Cond.methodLink RX5 175 yX2_needsOfAll) (List.mem_append_right _ (List.mem_append_left _ (List.mem_of_getElem? (i := 172) rfl))) rfl
theorem tw_2_173 : Cond.instanceMethod yX2_needsOfAll ∈ wA := wA_of (w := Cond.instanceMethod yX2_needsOfAll) (List.mem_append_right _ (List.mem_append_left _ (List.mem_of_getElem? (i := 173) rfl))) rfl
theorem tw_2_174 : Cond.selects RX2 yX2_needsOfAll yX2_needsOfAll ∈ wA := wA_of (w := Cond.selects RX2 yX2_needsOfAll yX2_needsOfAll) (List.mem_append_right _ (List.mem_append_left _ (List.mem_of_getElem? (i := 174) rfl))) rfl
theorem tw_2_175 : Cond.code yX2_needsOfAll cX2_needsOfAll 3 (some .int) ∈ wA := wA_of (w := Cond.code yX2_needsOfAll cX2_needsOfAll 3 (some .int)) (List.mem_append_right _ (List.mem_append_left _ (List.mem_of_getElem? (i := 175) rfl))) rfl
theorem tw_2_176 : Cond.methodLink RL 65 yX5_who ∈ wA := wA_of (w := Cond.methodLink RL 65 yX5_who) (List.mem_append_right _ (List.mem_append_left _ (List.mem_of_getElem? (i := 176) rfl))) rfl
theorem tw_2_177 : Cond.instanceMethod yX5_who ∈ wA := wA_of (w := Cond.instanceMethod yX5_who) (List.mem_append_right _ (List.mem_append_left _ (List.mem_of_getElem? (i := 177) rfl))) rfl
theorem tw_2_178 : Cond.selects RX5 yX5_who yX5_who ∈ wA := wA_of (w := Cond.selects RX5 yX5_who yX5_who) (List.mem_append_right _ (List.mem_append_left _ (List.mem_of_getElem? (i := 178) rfl))) rfl
theorem tw_2_179 : Cond.code yX5_who cX5_who 3 (some .int) ∈ wA := wA_of (w := Cond.code yX5_who cX5_who 3 (some .int)) (List.mem_append_right _ (List.mem_append_left _ (List.mem_of_getElem? (i := 179) rfl))) rfl
theorem tw_2_180 : Cond.methodLink RX5 178 yX1_sayerOf ∈ wA := wA_of (w := Cond.methodLink RX5 178 yX1_sayerOf) (List.mem_append_right _ (List.mem_append_left _ (List.mem_of_getElem? (i := 180) rfl))) rfl
theorem tw_2_181 : Cond.instanceMethod yX1_sayerOf ∈ wA := wA_of (w := Cond.instanceMethod yX1_sayerOf) (List.mem_append_right _ (List.mem_append_left _ (List.mem_of_getElem? (i := 181) rfl))) rfl
theorem tw_2_182 : Cond.selects RX1 yX1_sayerOf yX1_sayerOf ∈ wA := wA_of (w := Cond.selects RX1 yX1_sayerOf yX1_sayerOf) (List.mem_append_right _ (List.mem_append_left _ (List.mem_of_getElem? (i := 182) rfl))) rfl
theorem tw_2_183 : Cond.code yX1_sayerOf cX1_sayerOf 8 (some .int) ∈ wA := wA_of (w := Cond.code yX1_sayerOf cX1_sayerOf 8 (some .int)) (List.mem_append_right _ (List.mem_append_left _ (List.mem_of_getElem? (i := 183) rfl))) rfl
theorem tw_2_184 : Cond.methodLink RX1 26 yX1_firstSayer ∈ wA := wA_of (w := Cond.methodLink RX1 26 yX1_firstSayer) (List.mem_append_right _ (List.mem_append_left _ (List.mem_of_getElem? (i := 184) rfl))) rfl
theorem tw_2_186 : Cond.instanceMethod yX1_firstSayer ∈ wA := wA_of (w := Cond.instanceMethod yX1_firstSayer) (List.mem_append_right _ (List.mem_append_left _ (List.mem_of_getElem? (i := 186) rfl))) rfl
theorem tw_2_187 : Cond.code yX1_firstSayer cX1_firstSayer 6 (some .int) ∈ wA := wA_of (w := Cond.code yX1_firstSayer cX1_firstSayer 6 (some .int)) (List.mem_append_right _ (List.mem_append_left _ (List.mem_of_getElem? (i := 187) rfl))) rfl
theorem tw_2_188 : Cond.methodLink RL 69 yX5_trial ∈ wA := wA_of (w := Cond.methodLink RL 69 yX5_trial) (List.mem_append_right _ (List.mem_append_left _ (List.mem_of_getElem? (i := 188) rfl))) rfl
theorem tw_2_189 : Cond.instanceMethod yX5_trial ∈ wA := wA_of (w := Cond.instanceMethod yX5_trial) (List.mem_append_right _ (List.mem_append_left _ (List.mem_of_getElem? (i := 189) rfl))) rfl
theorem tw_2_190 : Cond.selects RX5 yX5_trial yX5_trial ∈ wA := wA_of (w := Cond.selects RX5 yX5_trial yX5_trial) (List.mem_append_right _ (List.mem_append_left _ (List.mem_of_getElem? (i := 190) rfl))) rfl
theorem tw_2_191 : Cond.code yX5_trial cX5_trial 4 (some .int) ∈ wA := wA_of (w := Cond.code yX5_trial cX5_trial 4 (some .int)) (List.mem_append_right _ (List.mem_append_left _ (List.mem_of_getElem? (i := 191) rfl))) rfl
theorem tw_2_192 : Cond.methodLink RX5 185 yX3_tried ∈ wA := wA_of (w := Cond.methodLink RX5 185 yX3_tried) (List.mem_append_right _ (List.mem_append_left _ (List.mem_of_getElem? (i := 192) rfl))) rfl
theorem tw_2_193 : Cond.instanceMethod yX3_tried ∈ wA := wA_of (w := Cond.instanceMethod yX3_tried) (List.mem_append_right _ (List.mem_append_left _ (List.mem_of_getElem? (i := 193) rfl))) rfl
theorem tw_2_194 : Cond.selects RX3 yX3_tried yX3_tried ∈ wA := wA_of (w := Cond.selects RX3 yX3_tried yX3_tried) (List.mem_append_right _ (List.mem_append_left _ (List.mem_of_getElem? (i := 194) rfl))) rfl
theorem tw_2_195 : Cond.code yX3_tried cX3_tried 3 none ∈ wA := wA_of (w := Cond.code yX3_tried cX3_tried 3 none) (List.mem_append_right _ (List.mem_append_left _ (List.mem_of_getElem? (i := 195) rfl))) rfl
theorem tw_2_196 : Cond.methodLink RL 74 yX5_forget ∈ wA := wA_of (w := Cond.methodLink RL 74 yX5_forget) (List.mem_append_right _ (List.mem_append_left _ (List.mem_of_getElem? (i := 196) rfl))) rfl
theorem tw_2_197 : Cond.instanceMethod yX5_forget ∈ wA := wA_of (w := Cond.instanceMethod yX5_forget) (List.mem_append_right _ (List.mem_append_left _ (List.mem_of_getElem? (i := 197) rfl))) rfl
theorem tw_2_198 : Cond.selects RX5 yX5_forget yX5_forget ∈ wA := wA_of (w := Cond.selects RX5 yX5_forget yX5_forget) (List.mem_append_right _ (List.mem_append_left _ (List.mem_of_getElem? (i := 198) rfl))) rfl
theorem tw_2_199 : Cond.code yX5_forget cX5_forget 2 (some .int) ∈ wA := wA_of (w := Cond.code yX5_forget cX5_forget 2 (some .int)) (List.mem_append_right _ (List.mem_append_left _ (List.mem_of_getElem? (i := 199) rfl))) rfl
theorem tw_2_200 : Cond.methodLink RX5 189 yX2_forgetTrials ∈ wA := wA_of (w := Cond.methodLink RX5 189 yX2_forgetTrials) (List.mem_append_right _ (List.mem_append_left _ (List.mem_of_getElem? (i := 200) rfl))) rfl
theorem tw_2_201 : Cond.instanceMethod yX2_forgetTrials ∈ wA := wA_of (w := Cond.instanceMethod yX2_forgetTrials) (List.mem_append_right _ (List.mem_append_left _ (List.mem_of_getElem? (i := 201) rfl))) rfl
theorem tw_2_202 : Cond.selects RX2 yX2_forgetTrials yX2_forgetTrials ∈ wA := wA_of (w := Cond.selects RX2 yX2_forgetTrials yX2_forgetTrials) (List.mem_append_right _ (List.mem_append_left _ (List.mem_of_getElem? (i := 202) rfl))) rfl
theorem tw_2_203 : Cond.code yX2_forgetTrials cX2_forgetTrials 2 none ∈ wA := wA_of (w := Cond.code yX2_forgetTrials cX2_forgetTrials 2 none) (List.mem_append_right _ (List.mem_append_left _ (List.mem_of_getElem? (i := 203) rfl))) rfl
theorem tw_2_204 : Cond.methodLink RX2 48 yX3_forgetTrials ∈ wA := wA_of (w := Cond.methodLink RX2 48 yX3_forgetTrials) (List.mem_append_right _ (List.mem_append_left _ (List.mem_of_getElem? (i := 204) rfl))) rfl
theorem tw_2_205 : Cond.methodLink RL 78 yX5_truths ∈ wA := wA_of (w := Cond.methodLink RL 78 yX5_truths) (List.mem_append_right _ (List.mem_append_left _ (List.mem_of_getElem? (i := 205) rfl))) rfl
theorem tw_2_206 : Cond.instanceMethod yX5_truths ∈ wA := wA_of (w := Cond.instanceMethod yX5_truths) (List.mem_append_right _ (List.mem_append_left _ (List.mem_of_getElem? (i := 206) rfl))) rfl
theorem tw_2_207 : Cond.selects RX5 yX5_truths yX5_truths ∈ wA := wA_of (w := Cond.selects RX5 yX5_truths yX5_truths) (List.mem_append_right _ (List.mem_append_left _ (List.mem_of_getElem? (i := 207) rfl))) rfl
theorem tw_2_208 : Cond.code yX5_truths cX5_truths 4 (some .int) ∈ wA := wA_of (w := Cond.code yX5_truths cX5_truths 4 (some .int)) (List.mem_append_right _ (List.mem_append_left _ (List.mem_of_getElem? (i := 208) rfl))) rfl
theorem tw_2_209 : Cond.methodLink RX5 192 yX3_possibleSets ∈ wA := wA_of (w := Cond.methodLink RX5 192 yX3_possibleSets) (List.mem_append_right _ (List.mem_append_left _ (List.mem_of_getElem? (i := 209) rfl))) rfl
theorem tw_2_210 : Cond.instanceMethod yX3_possibleSets ∈ wA := wA_of (w := Cond.instanceMethod yX3_possibleSets) (List.mem_append_right _ (List.mem_append_left _ (List.mem_of_getElem? (i := 210) rfl))) rfl
theorem tw_2_211 : Cond.selects RX3 yX3_possibleSets yX3_possibleSets ∈ wA := wA_of (w := Cond.selects RX3 yX3_possibleSets yX3_possibleSets) (List.mem_append_right _ (List.mem_append_left _ (List.mem_of_getElem? (i := 211) rfl))) rfl
theorem tw_2_212 : Cond.code yX3_possibleSets cX3_possibleSets 1 (some .int) ∈ wA := wA_of (w := Cond.code yX3_possibleSets cX3_possibleSets 1 (some .int)) (List.mem_append_right _ (List.mem_append_left _ (List.mem_of_getElem? (i := 212) rfl))) rfl
theorem tw_2_213 : Cond.methodLink RX3 27 yJ6_bitCount_0f7a4 ∈ wA := wA_of (w := Cond.methodLink RX3 27 yJ6_bitCount_0f7a4) (List.mem_append_right _ (List.mem_append_left _ (List.mem_of_getElem? (i := 213) rfl))) rfl
theorem tw_2_214 : Cond.methodLink RL 82 yX5_attempt ∈ wA := wA_of (w := Cond.methodLink RL 82 yX5_attempt) (List.mem_append_right _ (List.mem_append_left _ (List.mem_of_getElem? (i := 214) rfl))) rfl
theorem tw_2_215 : Cond.instanceMethod yX5_attempt ∈ wA := wA_of (w := Cond.instanceMethod yX5_attempt) (List.mem_append_right _ (List.mem_append_left _ (List.mem_of_getElem? (i := 215) rfl))) rfl
theorem tw_2_216 : Cond.selects RX5 yX5_attempt yX5_attempt ∈ wA := wA_of (w := Cond.selects RX5 yX5_attempt yX5_attempt) (List.mem_append_right _ (List.mem_append_left _ (List.mem_of_getElem? (i := 216) rfl))) rfl
theorem tw_2_217 : Cond.code yX5_attempt cX5_attempt 2 (some .int) ∈ wA := wA_of (w := Cond.code yX5_attempt cX5_attempt 2 (some .int)) (List.mem_append_right _ (List.mem_append_left _ (List.mem_of_getElem? (i := 217) rfl))) rfl
theorem tw_2_218 : Cond.methodLink RX5 198 yX3_sayingToTry ∈ wA := wA_of (w := Cond.methodLink RX5 198 yX3_sayingToTry) (List.mem_append_right _ (List.mem_append_left _ (List.mem_of_getElem? (i := 218) rfl))) rfl
theorem tw_2_219 : Cond.instanceMethod yX3_sayingToTry ∈ wA := wA_of (w := Cond.instanceMethod yX3_sayingToTry) (List.mem_append_right _ (List.mem_append_left _ (List.mem_of_getElem? (i := 219) rfl))) rfl
theorem tw_2_220 : Cond.selects RX3 yX3_sayingToTry yX3_sayingToTry ∈ wA := wA_of (w := Cond.selects RX3 yX3_sayingToTry yX3_sayingToTry) (List.mem_append_right _ (List.mem_append_left _ (List.mem_of_getElem? (i := 220) rfl))) rfl
theorem tw_2_221 : Cond.code yX3_sayingToTry cX3_sayingToTry 3 (some .int) ∈ wA := wA_of (w := Cond.code yX3_sayingToTry cX3_sayingToTry 3 (some .int)) (List.mem_append_right _ (List.mem_append_left _ (List.mem_of_getElem? (i := 221) rfl))) rfl
theorem tw_2_222 : Cond.methodLink RX3 33 yX3_possibleSets ∈ wA := wA_of (w := Cond.methodLink RX3 33 yX3_possibleSets) (List.mem_append_right _ (List.mem_append_left _ (List.mem_of_getElem? (i := 222) rfl))) rfl
theorem tw_2_223 : Cond.methodLink RL 86 yX5_weeks ∈ wA := wA_of (w := Cond.methodLink RL 86 yX5_weeks) (List.mem_append_right _ (List.mem_append_left _ (List.mem_of_getElem? (i := 223) rfl))) rfl
theorem tw_2_224 : Cond.instanceMethod yX5_weeks ∈ wA := wA_of (w := Cond.instanceMethod yX5_weeks) (List.mem_append_right _ (List.mem_append_left _ (List.mem_of_getElem? (i := 224) rfl))) rfl
theorem tw_2_225 : Cond.selects RX5 yX5_weeks yX5_weeks ∈ wA := wA_of (w := Cond.selects RX5 yX5_weeks yX5_weeks) (List.mem_append_right _ (List.mem_append_left _ (List.mem_of_getElem? (i := 225) rfl))) rfl
theorem tw_2_226 : Cond.code yX5_weeks cX5_weeks 4 (some .int) ∈ wA := wA_of (w := Cond.code yX5_weeks cX5_weeks 4 (some .int)) (List.mem_append_right _ (List.mem_append_left _ (List.mem_of_getElem? (i := 226) rfl))) rfl
theorem tw_2_227 : Cond.methodLink RX5 201 yX4_run ∈ wA := wA_of (w := Cond.methodLink RX5 201 yX4_run) (List.mem_append_right _ (List.mem_append_left _ (List.mem_of_getElem? (i := 227) rfl))) rfl
theorem tw_2_228 : Cond.instanceMethod yX4_run ∈ wA := wA_of (w := Cond.instanceMethod yX4_run) (List.mem_append_right _ (List.mem_append_left _ (List.mem_of_getElem? (i := 228) rfl))) rfl
theorem tw_2_229 : Cond.selects RX4 yX4_run yX4_run ∈ wA := wA_of (w := Cond.selects RX4 yX4_run yX4_run) (List.mem_append_right _ (List.mem_append_left _ (List.mem_of_getElem? (i := 229) rfl))) rfl
theorem tw_2_230 : Cond.code yX4_run cX4_run 6 none ∈ wA := wA_of (w := Cond.code yX4_run cX4_run 6 none) (List.mem_append_right _ (List.mem_append_left _ (List.mem_of_getElem? (i := 230) rfl))) rfl
theorem tw_2_231 : Cond.methodLink RX4 18 yX2_copy ∈ wA := wA_of (w := Cond.methodLink RX4 18 yX2_copy) (List.mem_append_right _ (List.mem_append_left _ (List.mem_of_getElem? (i := 231) rfl))) rfl
theorem tw_2_232 : Cond.instanceMethod yX2_copy ∈ wA := wA_of (w := Cond.instanceMethod yX2_copy) (List.mem_append_right _ (List.mem_append_left _ (List.mem_of_getElem? (i := 232) rfl))) rfl
theorem tw_2_233 : Cond.selects RX2 yX2_copy yX2_copy ∈ wA := wA_of (w := Cond.selects RX2 yX2_copy yX2_copy) (List.mem_append_right _ (List.mem_append_left _ (List.mem_of_getElem? (i := 233) rfl))) rfl
theorem tw_2_234 : Cond.code yX2_copy cX2_copy 3 none ∈ wA := wA_of (w := Cond.code yX2_copy cX2_copy 3 none) (List.mem_append_right _ (List.mem_append_left _ (List.mem_of_getElem? (i := 234) rfl))) rfl
theorem tw_2_235 : Cond.methodLink RX2 41 yX3_copy ∈ wA := wA_of (w := Cond.methodLink RX2 41 yX3_copy) (List.mem_append_right _ (List.mem_append_left _ (List.mem_of_getElem? (i := 235) rfl))) rfl
theorem tw_2_236 : Cond.instanceMethod yX3_copy ∈ wA := wA_of (w := Cond.instanceMethod yX3_copy) (List.mem_append_right _ (List.mem_append_left _ (List.mem_of_getElem? (i := 236) rfl))) rfl
theorem tw_2_237 : Cond.selects RX3 yX3_copy yX3_copy ∈ wA := wA_of (w := Cond.selects RX3 yX3_copy yX3_copy) (List.mem_append_right _ (List.mem_append_left _ (List.mem_of_getElem? (i := 237) rfl))) rfl
theorem tw_2_238 : Cond.code yX3_copy cX3_copy 2 none ∈ wA := wA_of (w := Cond.code yX3_copy cX3_copy 2 none) (List.mem_append_right _ (List.mem_append_left _ (List.mem_of_getElem? (i := 238) rfl))) rfl
theorem tw_2_239 : Cond.methodLink RX2 45 yX0_copy ∈ wA := wA_of (w := Cond.methodLink RX2 45 yX0_copy) (List.mem_append_right _ (List.mem_append_left _ (List.mem_of_getElem? (i := 239) rfl))) rfl
theorem tw_3_0 : Cond.instanceMethod yX0_copy ∈ wA := wA_of (w := Cond.instanceMethod yX0_copy) (List.mem_append_right _ (List.mem_append_right _ (List.mem_append_left _ (List.mem_of_getElem? (i := 0) rfl)))) rfl
theorem tw_3_1 : Cond.selects RX0 yX0_copy yX0_copy ∈ wA := wA_of (w := Cond.selects RX0 yX0_copy yX0_copy) (List.mem_append_right _ (List.mem_append_right _ (List.mem_append_left _ (List.mem_of_getElem? (i := 1) rfl)))) rfl
theorem tw_3_2 : Cond.code yX0_copy cX0_copy 2 none ∈ wA := wA_of (w := Cond.code yX0_copy cX0_copy 2 none) (List.mem_append_right _ (List.mem_append_right _ (List.mem_append_left _ (List.mem_of_getElem? (i := 2) rfl)))) rfl
theorem tw_3_3 : Cond.methodLink RX4 36 yX4_talk ∈ wA := wA_of (w := Cond.methodLink RX4 36 yX4_talk) (List.mem_append_right _ (List.mem_append_right _ (List.mem_append_left _ (List.mem_of_getElem? (i := 3) rfl)))) rfl
theorem tw_3_5 : Cond.instanceMethod yX4_talk ∈ wA := wA_of (w := Cond.instanceMethod yX4_talk) (List.mem_append_right _ (List.mem_append_right _ (List.mem_append_left _ (List.mem_of_getElem? (i := 5) rfl)))) rfl
theorem tw_3_6 : Cond.code yX4_talk cX4_talk 4 none ∈ wA := wA_of (w := Cond.code yX4_talk cX4_talk 4 none) (List.mem_append_right _ (List.mem_append_right _ (List.mem_append_left _ (List.mem_of_getElem? (i := 6) rfl)))) rfl
theorem tw_3_7 : Cond.methodLink RX4 48 yX0_hasPaid ∈ wA := wA_of (w := Cond.methodLink RX4 48 yX0_hasPaid) (List.mem_append_right _ (List.mem_append_right _ (List.mem_append_left _ (List.mem_of_getElem? (i := 7) rfl)))) rfl
theorem tw_3_8 : Cond.methodLink RX4 52 yX4_draw ∈ wA := wA_of (w := Cond.methodLink RX4 52 yX4_draw) (List.mem_append_right _ (List.mem_append_right _ (List.mem_append_left _ (List.mem_of_getElem? (i := 8) rfl)))) rfl
theorem tw_3_10 : Cond.instanceMethod yX4_draw ∈ wA := wA_of (w := Cond.instanceMethod yX4_draw) (List.mem_append_right _ (List.mem_append_right _ (List.mem_append_left _ (List.mem_of_getElem? (i := 10) rfl)))) rfl
theorem tw_3_11 : Cond.code yX4_draw cX4_draw 1 (some .int) ∈ wA := wA_of (w := Cond.code yX4_draw cX4_draw 1 (some .int)) (List.mem_append_right _ (List.mem_append_right _ (List.mem_append_left _ (List.mem_of_getElem? (i := 11) rfl)))) rfl
theorem tw_3_12 : Cond.constantLong RX4 64 (1103515245 : Int64) ∈ wA := wA_of (w := Cond.constantLong RX4 64 (1103515245 : Int64)) (List.mem_append_right _ (List.mem_append_right _ (List.mem_append_left _ (List.mem_of_getElem? (i := 12) rfl)))) rfl
theorem tw_3_13 : Cond.constantLong RX4 66 (12345 : Int64) ∈ wA := wA_of (w := Cond.constantLong RX4 66 (12345 : Int64)) (List.mem_append_right _ (List.mem_append_right _ (List.mem_append_left _ (List.mem_of_getElem? (i := 13) rfl)))) rfl
theorem tw_3_14 : Cond.constantLong RX4 68 (2147483647 : Int64) ∈ wA := wA_of (w := Cond.constantLong RX4 68 (2147483647 : Int64)) (List.mem_append_right _ (List.mem_append_right _ (List.mem_append_left _ (List.mem_of_getElem? (i := 14) rfl)))) rfl
theorem tw_3_15 : Cond.constant RX4 70 (65536 : Int32) ∈ wA := wA_of (w := Cond.constant RX4 70 (65536 : Int32)) (List.mem_append_right _ (List.mem_append_right _ (List.mem_append_left _ (List.mem_of_getElem? (i := 15) rfl)))) rfl
theorem tw_3_16 : Cond.methodLink RX4 56 yX0_knowsOf ∈ wA := wA_of (w := Cond.methodLink RX4 56 yX0_knowsOf) (List.mem_append_right _ (List.mem_append_right _ (List.mem_append_left _ (List.mem_of_getElem? (i := 16) rfl)))) rfl
theorem tw_3_17 : Cond.methodLink RX4 60 yX2_hear ∈ wA := wA_of (w := Cond.methodLink RX4 60 yX2_hear) (List.mem_append_right _ (List.mem_append_right _ (List.mem_append_left _ (List.mem_of_getElem? (i := 17) rfl)))) rfl
theorem tw_3_18 : Cond.methodLink RX4 40 yX2_beginNextDay ∈ wA := wA_of (w := Cond.methodLink RX4 40 yX2_beginNextDay) (List.mem_append_right _ (List.mem_append_right _ (List.mem_append_left _ (List.mem_of_getElem? (i := 18) rfl)))) rfl
theorem tw_3_19 : Cond.methodLink RX5 209 yX2_paidCount ∈ wA := wA_of (w := Cond.methodLink RX5 209 yX2_paidCount) (List.mem_append_right _ (List.mem_append_right _ (List.mem_append_left _ (List.mem_of_getElem? (i := 19) rfl)))) rfl
theorem tw_3_20 : Cond.instanceMethod yX2_paidCount ∈ wA := wA_of (w := Cond.instanceMethod yX2_paidCount) (List.mem_append_right _ (List.mem_append_right _ (List.mem_append_left _ (List.mem_of_getElem? (i := 20) rfl)))) rfl
theorem tw_3_21 : Cond.selects RX2 yX2_paidCount yX2_paidCount ∈ wA := wA_of (w := Cond.selects RX2 yX2_paidCount yX2_paidCount) (List.mem_append_right _ (List.mem_append_right _ (List.mem_append_left _ (List.mem_of_getElem? (i := 21) rfl)))) rfl
theorem tw_3_22 : Cond.code yX2_paidCount cX2_paidCount 3 (some .int) ∈ wA := wA_of (w := Cond.code yX2_paidCount cX2_paidCount 3 (some .int)) (List.mem_append_right _ (List.mem_append_right _ (List.mem_append_left _ (List.mem_of_getElem? (i := 22) rfl)))) rfl
theorem tw_3_23 : Cond.methodLink RL 91 yX5_image ∈ wA := wA_of (w := Cond.methodLink RL 91 yX5_image) (List.mem_append_right _ (List.mem_append_right _ (List.mem_append_left _ (List.mem_of_getElem? (i := 23) rfl)))) rfl
theorem tw_3_24 : Cond.instanceMethod yX5_image ∈ wA := wA_of (w := Cond.instanceMethod yX5_image) (List.mem_append_right _ (List.mem_append_right _ (List.mem_append_left _ (List.mem_of_getElem? (i := 24) rfl)))) rfl
theorem tw_3_25 : Cond.selects RX5 yX5_image yX5_image ∈ wA := wA_of (w := Cond.selects RX5 yX5_image yX5_image) (List.mem_append_right _ (List.mem_append_right _ (List.mem_append_left _ (List.mem_of_getElem? (i := 25) rfl)))) rfl
theorem tw_3_26 : Cond.code yX5_image cX5_image 1 (some .int) ∈ wA := wA_of (w := Cond.code yX5_image cX5_image 1 (some .int)) (List.mem_append_right _ (List.mem_append_right _ (List.mem_append_left _ (List.mem_of_getElem? (i := 26) rfl)))) rfl
theorem tw_3_27 : Cond.methodLink RX5 215 yX2_copy ∈ wA := wA_of (w := Cond.methodLink RX5 215 yX2_copy) (List.mem_append_right _ (List.mem_append_right _ (List.mem_append_left _ (List.mem_of_getElem? (i := 27) rfl)))) rfl
theorem tw_3_28 : Cond.methodLink RL 95 yX5_restore ∈ wA := wA_of (w := Cond.methodLink RL 95 yX5_restore) (List.mem_append_right _ (List.mem_append_right _ (List.mem_append_left _ (List.mem_of_getElem? (i := 28) rfl)))) rfl
theorem tw_3_29 : Cond.instanceMethod yX5_restore ∈ wA := wA_of (w := Cond.instanceMethod yX5_restore) (List.mem_append_right _ (List.mem_append_right _ (List.mem_append_left _ (List.mem_of_getElem? (i := 29) rfl)))) rfl
theorem tw_3_30 : Cond.selects RX5 yX5_restore yX5_restore ∈ wA := wA_of (w := Cond.selects RX5 yX5_restore yX5_restore) (List.mem_append_right _ (List.mem_append_right _ (List.mem_append_left _ (List.mem_of_getElem? (i := 30) rfl)))) rfl
theorem tw_3_31 : Cond.code yX5_restore cX5_restore 1 (some .int) ∈ wA := wA_of (w := Cond.code yX5_restore cX5_restore 1 (some .int)) (List.mem_append_right _ (List.mem_append_right _ (List.mem_append_left _ (List.mem_of_getElem? (i := 31) rfl)))) rfl
theorem tw_3_32 : Cond.methodLink RL 99 yX5_count ∈ wA := wA_of (w := Cond.methodLink RL 99 yX5_count) (List.mem_append_right _ (List.mem_append_right _ (List.mem_append_left _ (List.mem_of_getElem? (i := 32) rfl)))) rfl
theorem tw_3_33 : Cond.instanceMethod yX5_count ∈ wA := wA_of (w := Cond.instanceMethod yX5_count) (List.mem_append_right _ (List.mem_append_right _ (List.mem_append_left _ (List.mem_of_getElem? (i := 33) rfl)))) rfl
theorem tw_3_34 : Cond.selects RX5 yX5_count yX5_count ∈ wA := wA_of (w := Cond.selects RX5 yX5_count yX5_count) (List.mem_append_right _ (List.mem_append_right _ (List.mem_append_left _ (List.mem_of_getElem? (i := 34) rfl)))) rfl
theorem tw_3_35 : Cond.code yX5_count cX5_count 2 (some .int) ∈ wA := wA_of (w := Cond.code yX5_count cX5_count 2 (some .int)) (List.mem_append_right _ (List.mem_append_right _ (List.mem_append_left _ (List.mem_of_getElem? (i := 35) rfl)))) rfl
theorem tw_3_36 : Cond.methodLink RX5 219 yX2_allConvicts ∈ wA := wA_of (w := Cond.methodLink RX5 219 yX2_allConvicts) (List.mem_append_right _ (List.mem_append_right _ (List.mem_append_left _ (List.mem_of_getElem? (i := 36) rfl)))) rfl
theorem tw_3_37 : Cond.instanceMethod yX2_allConvicts ∈ wA := wA_of (w := Cond.instanceMethod yX2_allConvicts) (List.mem_append_right _ (List.mem_append_right _ (List.mem_append_left _ (List.mem_of_getElem? (i := 37) rfl)))) rfl
theorem tw_3_38 : Cond.selects RX2 yX2_allConvicts yX2_allConvicts ∈ wA := wA_of (w := Cond.selects RX2 yX2_allConvicts yX2_allConvicts) (List.mem_append_right _ (List.mem_append_right _ (List.mem_append_left _ (List.mem_of_getElem? (i := 38) rfl)))) rfl
theorem tw_3_39 : Cond.code yX2_allConvicts cX2_allConvicts 1 (some .int) ∈ wA := wA_of (w := Cond.code yX2_allConvicts cX2_allConvicts 1 (some .int)) (List.mem_append_right _ (List.mem_append_right _ (List.mem_append_left _ (List.mem_of_getElem? (i := 39) rfl)))) rfl
theorem tw_3_40 : Cond.methodLink RX5 222 yX2_usedOfAll ∈ wA := wA_of (w := Cond.methodLink RX5 222 yX2_usedOfAll) (List.mem_append_right _ (List.mem_append_right _ (List.mem_append_left _ (List.mem_of_getElem? (i := 40) rfl)))) rfl
theorem tw_3_41 : Cond.instanceMethod yX2_usedOfAll ∈ wA := wA_of (w := Cond.instanceMethod yX2_usedOfAll) (List.mem_append_right _ (List.mem_append_right _ (List.mem_append_left _ (List.mem_of_getElem? (i := 41) rfl)))) rfl
theorem tw_3_42 : Cond.selects RX2 yX2_usedOfAll yX2_usedOfAll ∈ wA := wA_of (w := Cond.selects RX2 yX2_usedOfAll yX2_usedOfAll) (List.mem_append_right _ (List.mem_append_right _ (List.mem_append_left _ (List.mem_of_getElem? (i := 42) rfl)))) rfl
theorem tw_3_43 : Cond.code yX2_usedOfAll cX2_usedOfAll 3 (some .int) ∈ wA := wA_of (w := Cond.code yX2_usedOfAll cX2_usedOfAll 3 (some .int)) (List.mem_append_right _ (List.mem_append_right _ (List.mem_append_left _ (List.mem_of_getElem? (i := 43) rfl)))) rfl
theorem tw_3_44 : Cond.methodLink RL 103 yX5_digest ∈ wA := wA_of (w := Cond.methodLink RL 103 yX5_digest) (List.mem_append_right _ (List.mem_append_right _ (List.mem_append_left _ (List.mem_of_getElem? (i := 44) rfl)))) rfl
theorem tw_3_45 : Cond.instanceMethod yX5_digest ∈ wA := wA_of (w := Cond.instanceMethod yX5_digest) (List.mem_append_right _ (List.mem_append_right _ (List.mem_append_left _ (List.mem_of_getElem? (i := 45) rfl)))) rfl
theorem tw_3_46 : Cond.selects RX5 yX5_digest yX5_digest ∈ wA := wA_of (w := Cond.selects RX5 yX5_digest yX5_digest) (List.mem_append_right _ (List.mem_append_right _ (List.mem_append_left _ (List.mem_of_getElem? (i := 46) rfl)))) rfl
theorem tw_3_47 : Cond.code yX5_digest cX5_digest 5 (some .long) ∈ wA := wA_of (w := Cond.code yX5_digest cX5_digest 5 (some .long)) (List.mem_append_right _ (List.mem_append_right _ (List.mem_append_left _ (List.mem_of_getElem? (i := 47) rfl)))) rfl
theorem tw_3_48 : Cond.constantLong RX5 225 (883 : Int64) ∈ wA := wA_of (w := Cond.constantLong RX5 225 (883 : Int64)) (List.mem_append_right _ (List.mem_append_right _ (List.mem_append_left _ (List.mem_of_getElem? (i := 48) rfl)))) rfl
theorem tw_3_49 : Cond.methodLink RX5 227 yX5_withVictim ∈ wA := wA_of (w := Cond.methodLink RX5 227 yX5_withVictim) (List.mem_append_right _ (List.mem_append_right _ (List.mem_append_left _ (List.mem_of_getElem? (i := 49) rfl)))) rfl
theorem tw_3_51 : Cond.instanceMethod yX5_withVictim ∈ wA := wA_of (w := Cond.instanceMethod yX5_withVictim) (List.mem_append_right _ (List.mem_append_right _ (List.mem_append_left _ (List.mem_of_getElem? (i := 51) rfl)))) rfl
theorem tw_3_52 : Cond.code yX5_withVictim cX5_withVictim 7 (some .long) ∈ wA := wA_of (w := Cond.code yX5_withVictim cX5_withVictim 7 (some .long)) (List.mem_append_right _ (List.mem_append_right _ (List.mem_append_left _ (List.mem_of_getElem? (i := 52) rfl)))) rfl
theorem tw_3_53 : Cond.methodLink RX5 244 yX5_victim ∈ wA := wA_of (w := Cond.methodLink RX5 244 yX5_victim) (List.mem_append_right _ (List.mem_append_right _ (List.mem_append_left _ (List.mem_of_getElem? (i := 53) rfl)))) rfl
theorem tw_3_54 : Cond.methodLink RX5 234 yX5_with ∈ wA := wA_of (w := Cond.methodLink RX5 234 yX5_with) (List.mem_append_right _ (List.mem_append_right _ (List.mem_append_left _ (List.mem_of_getElem? (i := 54) rfl)))) rfl
theorem tw_3_55 : Cond.static yX5_with ∈ wA := wA_of (w := Cond.static yX5_with) (List.mem_append_right _ (List.mem_append_right _ (List.mem_append_left _ (List.mem_of_getElem? (i := 55) rfl)))) rfl
theorem tw_3_56 : Cond.code yX5_with cX5_with 3 (some .long) ∈ wA := wA_of (w := Cond.code yX5_with cX5_with 3 (some .long)) (List.mem_append_right _ (List.mem_append_right _ (List.mem_append_left _ (List.mem_of_getElem? (i := 56) rfl)))) rfl
theorem tw_3_57 : Cond.constantLong RX5 255 (31 : Int64) ∈ wA := wA_of (w := Cond.constantLong RX5 255 (31 : Int64)) (List.mem_append_right _ (List.mem_append_right _ (List.mem_append_left _ (List.mem_of_getElem? (i := 57) rfl)))) rfl
theorem tw_3_58 : Cond.methodLink RX5 246 yX5_who ∈ wA := wA_of (w := Cond.methodLink RX5 246 yX5_who) (List.mem_append_right _ (List.mem_append_right _ (List.mem_append_left _ (List.mem_of_getElem? (i := 58) rfl)))) rfl
theorem tw_3_59 : Cond.methodLink RX5 249 yX5_truths ∈ wA := wA_of (w := Cond.methodLink RX5 249 yX5_truths) (List.mem_append_right _ (List.mem_append_right _ (List.mem_append_left _ (List.mem_of_getElem? (i := 59) rfl)))) rfl
theorem tw_3_60 : Cond.methodLink RX5 252 yX5_attempt ∈ wA := wA_of (w := Cond.methodLink RX5 252 yX5_attempt) (List.mem_append_right _ (List.mem_append_right _ (List.mem_append_left _ (List.mem_of_getElem? (i := 60) rfl)))) rfl
theorem tw_3_61 : Cond.methodLink RX5 231 yX5_most ∈ wA := wA_of (w := Cond.methodLink RX5 231 yX5_most) (List.mem_append_right _ (List.mem_append_right _ (List.mem_append_left _ (List.mem_of_getElem? (i := 61) rfl)))) rfl
theorem tw_3_62 : Cond.methodLink RX5 237 yX5_about ∈ wA := wA_of (w := Cond.methodLink RX5 237 yX5_about) (List.mem_append_right _ (List.mem_append_right _ (List.mem_append_left _ (List.mem_of_getElem? (i := 62) rfl)))) rfl
theorem tw_3_63 : Cond.methodLink RX5 241 yX5_count ∈ wA := wA_of (w := Cond.methodLink RX5 241 yX5_count) (List.mem_append_right _ (List.mem_append_right _ (List.mem_append_left _ (List.mem_of_getElem? (i := 63) rfl)))) rfl
theorem tw_3_64 : Cond.classLink RL 10 "KindWordsModel" ∈ wA := wA_of (w := Cond.classLink RL 10 "KindWordsModel") (List.mem_append_right _ (List.mem_append_right _ (List.mem_append_left _ (List.mem_of_getElem? (i := 64) rfl)))) rfl
theorem tw_3_65 : Cond.instantiable RX6 27 ∈ wA := wA_of (w := Cond.instantiable RX6 27) (List.mem_append_right _ (List.mem_append_right _ (List.mem_append_left _ (List.mem_of_getElem? (i := 65) rfl)))) rfl
theorem tw_3_66 : Cond.methodLink RL 12 yX6_init ∈ wA := wA_of (w := Cond.methodLink RL 12 yX6_init) (List.mem_append_right _ (List.mem_append_right _ (List.mem_append_left _ (List.mem_of_getElem? (i := 66) rfl)))) rfl
theorem tw_3_67 : Cond.instanceMethod yX6_init ∈ wA := wA_of (w := Cond.instanceMethod yX6_init) (List.mem_append_right _ (List.mem_append_right _ (List.mem_append_left _ (List.mem_of_getElem? (i := 67) rfl)))) rfl
theorem tw_3_68 : Cond.code yX6_init cX6_init 1 none ∈ wA := wA_of (w := Cond.code yX6_init cX6_init 1 none) (List.mem_append_right _ (List.mem_append_right _ (List.mem_append_left _ (List.mem_of_getElem? (i := 68) rfl)))) rfl
theorem tw_3_69 : Cond.methodLink RX6 1 objectInit ∈ wA := wA_of (w := Cond.methodLink RX6 1 objectInit) (List.mem_append_right _ (List.mem_append_right _ (List.mem_append_left _ (List.mem_of_getElem? (i := 69) rfl)))) rfl
theorem tw_3_70 : Cond.fieldLink RX6 7 "KindWordsModel" "page" "[I" ∈ wA := wA_of (w := Cond.fieldLink RX6 7 "KindWordsModel" "page" "[I") (List.mem_append_right _ (List.mem_append_right _ (List.mem_append_left _ (List.mem_of_getElem? (i := 70) rfl)))) rfl
theorem tw_3_71 : Cond.fieldLink RX6 59 "KindWordsModel" "pageMany" "I" ∈ wA := wA_of (w := Cond.fieldLink RX6 59 "KindWordsModel" "pageMany" "I") (List.mem_append_right _ (List.mem_append_right _ (List.mem_append_left _ (List.mem_of_getElem? (i := 71) rfl)))) rfl
theorem tw_3_72 : Cond.fieldLink RX6 81 "KindWordsModel" "isThere" "Z" ∈ wA := wA_of (w := Cond.fieldLink RX6 81 "KindWordsModel" "isThere" "Z") (List.mem_append_right _ (List.mem_append_right _ (List.mem_append_left _ (List.mem_of_getElem? (i := 72) rfl)))) rfl
theorem tw_3_73 : Cond.fieldLink RX6 78 "KindWordsModel" "sheets" "I" ∈ wA := wA_of (w := Cond.fieldLink RX6 78 "KindWordsModel" "sheets" "I") (List.mem_append_right _ (List.mem_append_right _ (List.mem_append_left _ (List.mem_of_getElem? (i := 73) rfl)))) rfl
theorem tw_3_74 : Cond.fieldLink RX6 85 "KindWordsModel" "dayNow" "I" ∈ wA := wA_of (w := Cond.fieldLink RX6 85 "KindWordsModel" "dayNow" "I") (List.mem_append_right _ (List.mem_append_right _ (List.mem_append_left _ (List.mem_of_getElem? (i := 74) rfl)))) rfl
theorem tw_3_75 : Cond.fieldLink RX6 94 "KindWordsModel" "townsRead" "I" ∈ wA := wA_of (w := Cond.fieldLink RX6 94 "KindWordsModel" "townsRead" "I") (List.mem_append_right _ (List.mem_append_right _ (List.mem_append_left _ (List.mem_of_getElem? (i := 75) rfl)))) rfl
theorem tw_3_76 : Cond.fieldLink RX6 13 "KindWordsModel" "truth" "[I" ∈ wA := wA_of (w := Cond.fieldLink RX6 13 "KindWordsModel" "truth" "[I") (List.mem_append_right _ (List.mem_append_right _ (List.mem_append_left _ (List.mem_of_getElem? (i := 76) rfl)))) rfl
theorem tw_3_77 : Cond.fieldLink RX6 16 "KindWordsModel" "used" "[I" ∈ wA := wA_of (w := Cond.fieldLink RX6 16 "KindWordsModel" "used" "[I") (List.mem_append_right _ (List.mem_append_right _ (List.mem_append_left _ (List.mem_of_getElem? (i := 77) rfl)))) rfl
theorem tw_3_78 : Cond.fieldLink RX6 88 "KindWordsModel" "convicts" "I" ∈ wA := wA_of (w := Cond.fieldLink RX6 88 "KindWordsModel" "convicts" "I") (List.mem_append_right _ (List.mem_append_right _ (List.mem_append_left _ (List.mem_of_getElem? (i := 78) rfl)))) rfl
theorem tw_3_79 : Cond.fieldLink RX6 19 "KindWordsModel" "rows" "[I" ∈ wA := wA_of (w := Cond.fieldLink RX6 19 "KindWordsModel" "rows" "[I") (List.mem_append_right _ (List.mem_append_right _ (List.mem_append_left _ (List.mem_of_getElem? (i := 79) rfl)))) rfl
theorem tw_3_80 : Cond.fieldLink RX6 22 "KindWordsModel" "whoSays" "[I" ∈ wA := wA_of (w := Cond.fieldLink RX6 22 "KindWordsModel" "whoSays" "[I") (List.mem_append_right _ (List.mem_append_right _ (List.mem_append_left _ (List.mem_of_getElem? (i := 80) rfl)))) rfl
theorem tw_3_81 : Cond.fieldLink RX6 25 "KindWordsModel" "bestSays" "[I" ∈ wA := wA_of (w := Cond.fieldLink RX6 25 "KindWordsModel" "bestSays" "[I") (List.mem_append_right _ (List.mem_append_right _ (List.mem_append_left _ (List.mem_of_getElem? (i := 81) rfl)))) rfl
theorem tw_3_82 : Cond.fieldLink RX6 28 "KindWordsModel" "saysMany" "[I" ∈ wA := wA_of (w := Cond.fieldLink RX6 28 "KindWordsModel" "saysMany" "[I") (List.mem_append_right _ (List.mem_append_right _ (List.mem_append_left _ (List.mem_of_getElem? (i := 82) rfl)))) rfl
theorem tw_3_83 : Cond.fieldLink RX6 91 "KindWordsModel" "trialMany" "I" ∈ wA := wA_of (w := Cond.fieldLink RX6 91 "KindWordsModel" "trialMany" "I") (List.mem_append_right _ (List.mem_append_right _ (List.mem_append_left _ (List.mem_of_getElem? (i := 83) rfl)))) rfl
theorem tw_3_84 : Cond.fieldLink RX6 31 "KindWordsModel" "trials" "[I" ∈ wA := wA_of (w := Cond.fieldLink RX6 31 "KindWordsModel" "trials" "[I") (List.mem_append_right _ (List.mem_append_right _ (List.mem_append_left _ (List.mem_of_getElem? (i := 84) rfl)))) rfl
theorem tw_3_85 : Cond.fieldLink RX6 176 "KindWordsModel" "seedNow" "I" ∈ wA := wA_of (w := Cond.fieldLink RX6 176 "KindWordsModel" "seedNow" "I") (List.mem_append_right _ (List.mem_append_right _ (List.mem_append_left _ (List.mem_of_getElem? (i := 85) rfl)))) rfl
theorem tw_3_86 : Cond.fieldLink RX6 34 "KindWordsModel" "savedRows" "[I" ∈ wA := wA_of (w := Cond.fieldLink RX6 34 "KindWordsModel" "savedRows" "[I") (List.mem_append_right _ (List.mem_append_right _ (List.mem_append_left _ (List.mem_of_getElem? (i := 86) rfl)))) rfl
theorem tw_3_87 : Cond.fieldLink RX6 37 "KindWordsModel" "savedUsed" "[I" ∈ wA := wA_of (w := Cond.fieldLink RX6 37 "KindWordsModel" "savedUsed" "[I") (List.mem_append_right _ (List.mem_append_right _ (List.mem_append_left _ (List.mem_of_getElem? (i := 87) rfl)))) rfl
theorem tw_3_88 : Cond.fieldLink RX6 49 "KindWordsModel" "keptTown" "I" ∈ wA := wA_of (w := Cond.fieldLink RX6 49 "KindWordsModel" "keptTown" "I") (List.mem_append_right _ (List.mem_append_right _ (List.mem_append_left _ (List.mem_of_getElem? (i := 88) rfl)))) rfl
theorem tw_3_89 : Cond.fieldLink RX6 195 "KindWordsModel" "keptSheets" "I" ∈ wA := wA_of (w := Cond.fieldLink RX6 195 "KindWordsModel" "keptSheets" "I") (List.mem_append_right _ (List.mem_append_right _ (List.mem_append_left _ (List.mem_of_getElem? (i := 89) rfl)))) rfl
theorem tw_3_90 : Cond.fieldLink RX6 198 "KindWordsModel" "keptDay" "I" ∈ wA := wA_of (w := Cond.fieldLink RX6 198 "KindWordsModel" "keptDay" "I") (List.mem_append_right _ (List.mem_append_right _ (List.mem_append_left _ (List.mem_of_getElem? (i := 90) rfl)))) rfl
theorem tw_3_91 : Cond.fieldLink RX6 201 "KindWordsModel" "keptConvicts" "I" ∈ wA := wA_of (w := Cond.fieldLink RX6 201 "KindWordsModel" "keptConvicts" "I") (List.mem_append_right _ (List.mem_append_right _ (List.mem_append_left _ (List.mem_of_getElem? (i := 91) rfl)))) rfl
theorem tw_3_92 : Cond.fieldLink RX6 204 "KindWordsModel" "keptTrialMany" "I" ∈ wA := wA_of (w := Cond.fieldLink RX6 204 "KindWordsModel" "keptTrialMany" "I") (List.mem_append_right _ (List.mem_append_right _ (List.mem_append_left _ (List.mem_of_getElem? (i := 92) rfl)))) rfl
theorem tw_3_93 : Cond.fieldLink RX6 40 "KindWordsModel" "keptRows" "[I" ∈ wA := wA_of (w := Cond.fieldLink RX6 40 "KindWordsModel" "keptRows" "[I") (List.mem_append_right _ (List.mem_append_right _ (List.mem_append_left _ (List.mem_of_getElem? (i := 93) rfl)))) rfl
theorem tw_3_94 : Cond.fieldLink RX6 43 "KindWordsModel" "keptUsed" "[I" ∈ wA := wA_of (w := Cond.fieldLink RX6 43 "KindWordsModel" "keptUsed" "[I") (List.mem_append_right _ (List.mem_append_right _ (List.mem_append_left _ (List.mem_of_getElem? (i := 94) rfl)))) rfl
theorem tw_3_95 : Cond.fieldLink RX6 46 "KindWordsModel" "keptTrials" "[I" ∈ wA := wA_of (w := Cond.fieldLink RX6 46 "KindWordsModel" "keptTrials" "[I") (List.mem_append_right _ (List.mem_append_right _ (List.mem_append_left _ (List.mem_of_getElem? (i := 95) rfl)))) rfl
theorem tw_3_96 : Cond.fieldLink RX6 215 "KindWordsModel" "hash" "J" ∈ wA := wA_of (w := Cond.fieldLink RX6 215 "KindWordsModel" "hash" "J") (List.mem_append_right _ (List.mem_append_right _ (List.mem_append_left _ (List.mem_of_getElem? (i := 96) rfl)))) rfl
theorem tw_3_97 : Cond.laysFinal RX6 "KindWordsModel" "page" "[I" ∈ wA := wA_of (w := Cond.laysFinal RX6 "KindWordsModel" "page" "[I") (List.mem_append_right _ (List.mem_append_right _ (List.mem_append_left _ (List.mem_of_getElem? (i := 97) rfl)))) rfl
theorem tw_3_99 : Cond.lays RX6 "KindWordsModel" "pageMany" "I" ∈ wA := wA_of (w := Cond.lays RX6 "KindWordsModel" "pageMany" "I") (List.mem_append_right _ (List.mem_append_right _ (List.mem_append_left _ (List.mem_of_getElem? (i := 99) rfl)))) rfl
theorem tw_3_101 : Cond.lays RX6 "KindWordsModel" "isThere" "Z" ∈ wA := wA_of (w := Cond.lays RX6 "KindWordsModel" "isThere" "Z") (List.mem_append_right _ (List.mem_append_right _ (List.mem_append_left _ (List.mem_of_getElem? (i := 101) rfl)))) rfl
theorem tw_3_103 : Cond.lays RX6 "KindWordsModel" "sheets" "I" ∈ wA := wA_of (w := Cond.lays RX6 "KindWordsModel" "sheets" "I") (List.mem_append_right _ (List.mem_append_right _ (List.mem_append_left _ (List.mem_of_getElem? (i := 103) rfl)))) rfl
theorem tw_3_105 : Cond.lays RX6 "KindWordsModel" "dayNow" "I" ∈ wA := wA_of (w := Cond.lays RX6 "KindWordsModel" "dayNow" "I") (List.mem_append_right _ (List.mem_append_right _ (List.mem_append_left _ (List.mem_of_getElem? (i := 105) rfl)))) rfl
theorem tw_3_107 : Cond.lays RX6 "KindWordsModel" "townsRead" "I" ∈ wA := wA_of (w := Cond.lays RX6 "KindWordsModel" "townsRead" "I") (List.mem_append_right _ (List.mem_append_right _ (List.mem_append_left _ (List.mem_of_getElem? (i := 107) rfl)))) rfl
theorem tw_3_109 : Cond.laysFinal RX6 "KindWordsModel" "truth" "[I" ∈ wA := wA_of (w := Cond.laysFinal RX6 "KindWordsModel" "truth" "[I") (List.mem_append_right _ (List.mem_append_right _ (List.mem_append_left _ (List.mem_of_getElem? (i := 109) rfl)))) rfl
theorem tw_3_111 : Cond.laysFinal RX6 "KindWordsModel" "used" "[I" ∈ wA := wA_of (w := Cond.laysFinal RX6 "KindWordsModel" "used" "[I") (List.mem_append_right _ (List.mem_append_right _ (List.mem_append_left _ (List.mem_of_getElem? (i := 111) rfl)))) rfl
theorem tw_3_113 : Cond.lays RX6 "KindWordsModel" "convicts" "I" ∈ wA := wA_of (w := Cond.lays RX6 "KindWordsModel" "convicts" "I") (List.mem_append_right _ (List.mem_append_right _ (List.mem_append_left _ (List.mem_of_getElem? (i := 113) rfl)))) rfl
theorem tw_3_115 : Cond.laysFinal RX6 "KindWordsModel" "rows" "[I" ∈ wA := wA_of (w := Cond.laysFinal RX6 "KindWordsModel" "rows" "[I") (List.mem_append_right _ (List.mem_append_right _ (List.mem_append_left _ (List.mem_of_getElem? (i := 115) rfl)))) rfl
theorem tw_3_117 : Cond.laysFinal RX6 "KindWordsModel" "whoSays" "[I" ∈ wA := wA_of (w := Cond.laysFinal RX6 "KindWordsModel" "whoSays" "[I") (List.mem_append_right _ (List.mem_append_right _ (List.mem_append_left _ (List.mem_of_getElem? (i := 117) rfl)))) rfl
theorem tw_3_119 : Cond.laysFinal RX6 "KindWordsModel" "bestSays" "[I" ∈ wA := wA_of (w := Cond.laysFinal RX6 "KindWordsModel" "bestSays" "[I") (List.mem_append_right _ (List.mem_append_right _ (List.mem_append_left _ (List.mem_of_getElem? (i := 119) rfl)))) rfl
theorem tw_3_121 : Cond.laysFinal RX6 "KindWordsModel" "saysMany" "[I" ∈ wA := wA_of (w := Cond.laysFinal RX6 "KindWordsModel" "saysMany" "[I") (List.mem_append_right _ (List.mem_append_right _ (List.mem_append_left _ (List.mem_of_getElem? (i := 121) rfl)))) rfl
theorem tw_3_123 : Cond.lays RX6 "KindWordsModel" "trialMany" "I" ∈ wA := wA_of (w := Cond.lays RX6 "KindWordsModel" "trialMany" "I") (List.mem_append_right _ (List.mem_append_right _ (List.mem_append_left _ (List.mem_of_getElem? (i := 123) rfl)))) rfl
theorem tw_3_125 : Cond.laysFinal RX6 "KindWordsModel" "trials" "[I" ∈ wA := wA_of (w := Cond.laysFinal RX6 "KindWordsModel" "trials" "[I") (List.mem_append_right _ (List.mem_append_right _ (List.mem_append_left _ (List.mem_of_getElem? (i := 125) rfl)))) rfl
theorem tw_3_127 : Cond.lays RX6 "KindWordsModel" "seedNow" "I" ∈ wA := wA_of (w := Cond.lays RX6 "KindWordsModel" "seedNow" "I") (List.mem_append_right _ (List.mem_append_right _ (List.mem_append_left _ (List.mem_of_getElem? (i := 127) rfl)))) rfl
theorem tw_3_129 : Cond.laysFinal RX6 "KindWordsModel" "savedRows" "[I" ∈ wA := wA_of (w := Cond.laysFinal RX6 "KindWordsModel" "savedRows" "[I") (List.mem_append_right _ (List.mem_append_right _ (List.mem_append_left _ (List.mem_of_getElem? (i := 129) rfl)))) rfl
theorem tw_3_131 : Cond.laysFinal RX6 "KindWordsModel" "savedUsed" "[I" ∈ wA := wA_of (w := Cond.laysFinal RX6 "KindWordsModel" "savedUsed" "[I") (List.mem_append_right _ (List.mem_append_right _ (List.mem_append_left _ (List.mem_of_getElem? (i := 131) rfl)))) rfl
theorem tw_3_133 : Cond.lays RX6 "KindWordsModel" "keptTown" "I" ∈ wA := wA_of (w := Cond.lays RX6 "KindWordsModel" "keptTown" "I") (List.mem_append_right _ (List.mem_append_right _ (List.mem_append_left _ (List.mem_of_getElem? (i := 133) rfl)))) rfl
theorem tw_3_135 : Cond.lays RX6 "KindWordsModel" "keptSheets" "I" ∈ wA := wA_of (w := Cond.lays RX6 "KindWordsModel" "keptSheets" "I") (List.mem_append_right _ (List.mem_append_right _ (List.mem_append_left _ (List.mem_of_getElem? (i := 135) rfl)))) rfl
theorem tw_3_137 : Cond.lays RX6 "KindWordsModel" "keptDay" "I" ∈ wA := wA_of (w := Cond.lays RX6 "KindWordsModel" "keptDay" "I") (List.mem_append_right _ (List.mem_append_right _ (List.mem_append_left _ (List.mem_of_getElem? (i := 137) rfl)))) rfl
theorem tw_3_139 : Cond.lays RX6 "KindWordsModel" "keptConvicts" "I" ∈ wA := wA_of (w := Cond.lays RX6 "KindWordsModel" "keptConvicts" "I") (List.mem_append_right _ (List.mem_append_right _ (List.mem_append_left _ (List.mem_of_getElem? (i := 139) rfl)))) rfl
theorem tw_3_141 : Cond.lays RX6 "KindWordsModel" "keptTrialMany" "I" ∈ wA := wA_of (w := Cond.lays RX6 "KindWordsModel" "keptTrialMany" "I") (List.mem_append_right _ (List.mem_append_right _ (List.mem_append_left _ (List.mem_of_getElem? (i := 141) rfl)))) rfl
theorem tw_3_143 : Cond.laysFinal RX6 "KindWordsModel" "keptRows" "[I" ∈ wA := wA_of (w := Cond.laysFinal RX6 "KindWordsModel" "keptRows" "[I") (List.mem_append_right _ (List.mem_append_right _ (List.mem_append_left _ (List.mem_of_getElem? (i := 143) rfl)))) rfl
theorem tw_3_145 : Cond.laysFinal RX6 "KindWordsModel" "keptUsed" "[I" ∈ wA := wA_of (w := Cond.laysFinal RX6 "KindWordsModel" "keptUsed" "[I") (List.mem_append_right _ (List.mem_append_right _ (List.mem_append_left _ (List.mem_of_getElem? (i := 145) rfl)))) rfl
theorem tw_3_147 : Cond.laysFinal RX6 "KindWordsModel" "keptTrials" "[I" ∈ wA := wA_of (w := Cond.laysFinal RX6 "KindWordsModel" "keptTrials" "[I") (List.mem_append_right _ (List.mem_append_right _ (List.mem_append_left _ (List.mem_of_getElem? (i := 147) rfl)))) rfl
theorem tw_3_149 : Cond.lays RX6 "KindWordsModel" "hash" "J" ∈ wA := wA_of (w := Cond.lays RX6 "KindWordsModel" "hash" "J") (List.mem_append_right _ (List.mem_append_right _ (List.mem_append_left _ (List.mem_of_getElem? (i := 149) rfl)))) rfl
theorem tw_3_152 : Cond.methodLink RL 17 yX6_letter ∈ wA := wA_of (w := Cond.methodLink RL 17 yX6_letter) (List.mem_append_right _ (List.mem_append_right _ (List.mem_append_left _ (List.mem_of_getElem? (i := 152) rfl)))) rfl
theorem tw_3_153 : Cond.instanceMethod yX6_letter ∈ wA := wA_of (w := Cond.instanceMethod yX6_letter) (List.mem_append_right _ (List.mem_append_right _ (List.mem_append_left _ (List.mem_of_getElem? (i := 153) rfl)))) rfl
theorem tw_3_154 : Cond.selects RX6 yX6_letter yX6_letter ∈ wA := wA_of (w := Cond.selects RX6 yX6_letter yX6_letter) (List.mem_append_right _ (List.mem_append_right _ (List.mem_append_left _ (List.mem_of_getElem? (i := 154) rfl)))) rfl
theorem tw_3_155 : Cond.code yX6_letter cX6_letter 2 (some .int) ∈ wA := wA_of (w := Cond.code yX6_letter cX6_letter 2 (some .int)) (List.mem_append_right _ (List.mem_append_right _ (List.mem_append_left _ (List.mem_of_getElem? (i := 155) rfl)))) rfl
theorem tw_3_156 : Cond.constantLong RX6 53 (126 : Int64) ∈ wA := wA_of (w := Cond.constantLong RX6 53 (126 : Int64)) (List.mem_append_right _ (List.mem_append_right _ (List.mem_append_left _ (List.mem_of_getElem? (i := 156) rfl)))) rfl
theorem tw_3_157 : Cond.methodLink RX6 55 yX6_in ∈ wA := wA_of (w := Cond.methodLink RX6 55 yX6_in) (List.mem_append_right _ (List.mem_append_right _ (List.mem_append_left _ (List.mem_of_getElem? (i := 157) rfl)))) rfl
theorem tw_3_158 : Cond.static yX6_in ∈ wA := wA_of (w := Cond.static yX6_in) (List.mem_append_right _ (List.mem_append_right _ (List.mem_append_left _ (List.mem_of_getElem? (i := 158) rfl)))) rfl
theorem tw_3_159 : Cond.code yX6_in cX6_in 6 (some .boolean) ∈ wA := wA_of (w := Cond.code yX6_in cX6_in 6 (some .boolean)) (List.mem_append_right _ (List.mem_append_right _ (List.mem_append_left _ (List.mem_of_getElem? (i := 159) rfl)))) rfl
theorem tw_3_160 : Cond.methodLink RL 22 yX6_blank ∈ wA := wA_of (w := Cond.methodLink RL 22 yX6_blank) (List.mem_append_right _ (List.mem_append_right _ (List.mem_append_left _ (List.mem_of_getElem? (i := 160) rfl)))) rfl
theorem tw_3_161 : Cond.instanceMethod yX6_blank ∈ wA := wA_of (w := Cond.instanceMethod yX6_blank) (List.mem_append_right _ (List.mem_append_right _ (List.mem_append_left _ (List.mem_of_getElem? (i := 161) rfl)))) rfl
theorem tw_3_162 : Cond.selects RX6 yX6_blank yX6_blank ∈ wA := wA_of (w := Cond.selects RX6 yX6_blank yX6_blank) (List.mem_append_right _ (List.mem_append_right _ (List.mem_append_left _ (List.mem_of_getElem? (i := 162) rfl)))) rfl
theorem tw_3_163 : Cond.code yX6_blank cX6_blank 2 (some .int) ∈ wA := wA_of (w := Cond.code yX6_blank cX6_blank 2 (some .int)) (List.mem_append_right _ (List.mem_append_right _ (List.mem_append_left _ (List.mem_of_getElem? (i := 163) rfl)))) rfl
theorem tw_3_164 : Cond.methodLink RL 26 yX6_fault ∈ wA := wA_of (w := Cond.methodLink RL 26 yX6_fault) (List.mem_append_right _ (List.mem_append_right _ (List.mem_append_left _ (List.mem_of_getElem? (i := 164) rfl)))) rfl
theorem tw_3_165 : Cond.instanceMethod yX6_fault ∈ wA := wA_of (w := Cond.instanceMethod yX6_fault) (List.mem_append_right _ (List.mem_append_right _ (List.mem_append_left _ (List.mem_of_getElem? (i := 165) rfl)))) rfl
theorem tw_3_166 : Cond.selects RX6 yX6_fault yX6_fault ∈ wA := wA_of (w := Cond.selects RX6 yX6_fault yX6_fault) (List.mem_append_right _ (List.mem_append_right _ (List.mem_append_left _ (List.mem_of_getElem? (i := 166) rfl)))) rfl
theorem tw_3_167 : Cond.code yX6_fault cX6_fault 1 (some .int) ∈ wA := wA_of (w := Cond.code yX6_fault cX6_fault 1 (some .int)) (List.mem_append_right _ (List.mem_append_right _ (List.mem_append_left _ (List.mem_of_getElem? (i := 167) rfl)))) rfl
theorem tw_3_168 : Cond.methodLink RX6 70 yX6_faultOf ∈ wA := wA_of (w := Cond.methodLink RX6 70 yX6_faultOf) (List.mem_append_right _ (List.mem_append_right _ (List.mem_append_left _ (List.mem_of_getElem? (i := 168) rfl)))) rfl
theorem tw_3_170 : Cond.instanceMethod yX6_faultOf ∈ wA := wA_of (w := Cond.instanceMethod yX6_faultOf) (List.mem_append_right _ (List.mem_append_right _ (List.mem_append_left _ (List.mem_of_getElem? (i := 170) rfl)))) rfl
theorem tw_3_171 : Cond.code yX6_faultOf cX6_faultOf 2 (some .int) ∈ wA := wA_of (w := Cond.code yX6_faultOf cX6_faultOf 2 (some .int)) (List.mem_append_right _ (List.mem_append_right _ (List.mem_append_left _ (List.mem_of_getElem? (i := 171) rfl)))) rfl
theorem tw_3_172 : Cond.methodLink RX6 66 yX6_isGood ∈ wA := wA_of (w := Cond.methodLink RX6 66 yX6_isGood) (List.mem_append_right _ (List.mem_append_right _ (List.mem_append_left _ (List.mem_of_getElem? (i := 172) rfl)))) rfl
theorem tw_3_173 : Cond.static yX6_isGood ∈ wA := wA_of (w := Cond.static yX6_isGood) (List.mem_append_right _ (List.mem_append_right _ (List.mem_append_left _ (List.mem_of_getElem? (i := 173) rfl)))) rfl
theorem tw_3_174 : Cond.code yX6_isGood cX6_isGood 3 (some .boolean) ∈ wA := wA_of (w := Cond.code yX6_isGood cX6_isGood 3 (some .boolean)) (List.mem_append_right _ (List.mem_append_right _ (List.mem_append_left _ (List.mem_of_getElem? (i := 174) rfl)))) rfl
theorem tw_3_175 : Cond.constantLong RX6 62 (9 : Int64) ∈ wA := wA_of (w := Cond.constantLong RX6 62 (9 : Int64)) (List.mem_append_right _ (List.mem_append_right _ (List.mem_append_left _ (List.mem_of_getElem? (i := 175) rfl)))) rfl
theorem tw_3_176 : Cond.constantLong RX6 64 (7 : Int64) ∈ wA := wA_of (w := Cond.constantLong RX6 64 (7 : Int64)) (List.mem_append_right _ (List.mem_append_right _ (List.mem_append_left _ (List.mem_of_getElem? (i := 176) rfl)))) rfl
theorem tw_3_177 : Cond.methodLink RL 30 yX6_town ∈ wA := wA_of (w := Cond.methodLink RL 30 yX6_town) (List.mem_append_right _ (List.mem_append_right _ (List.mem_append_left _ (List.mem_of_getElem? (i := 177) rfl)))) rfl
theorem tw_3_178 : Cond.instanceMethod yX6_town ∈ wA := wA_of (w := Cond.instanceMethod yX6_town) (List.mem_append_right _ (List.mem_append_right _ (List.mem_append_left _ (List.mem_of_getElem? (i := 178) rfl)))) rfl
theorem tw_3_179 : Cond.selects RX6 yX6_town yX6_town ∈ wA := wA_of (w := Cond.selects RX6 yX6_town yX6_town) (List.mem_append_right _ (List.mem_append_right _ (List.mem_append_left _ (List.mem_of_getElem? (i := 179) rfl)))) rfl
theorem tw_3_180 : Cond.code yX6_town cX6_town 2 (some .int) ∈ wA := wA_of (w := Cond.code yX6_town cX6_town 2 (some .int)) (List.mem_append_right _ (List.mem_append_right _ (List.mem_append_left _ (List.mem_of_getElem? (i := 180) rfl)))) rfl
theorem tw_3_181 : Cond.methodLink RX6 97 yX6_trueAll ∈ wA := wA_of (w := Cond.methodLink RX6 97 yX6_trueAll) (List.mem_append_right _ (List.mem_append_right _ (List.mem_append_left _ (List.mem_of_getElem? (i := 181) rfl)))) rfl
theorem tw_3_183 : Cond.instanceMethod yX6_trueAll ∈ wA := wA_of (w := Cond.instanceMethod yX6_trueAll) (List.mem_append_right _ (List.mem_append_right _ (List.mem_append_left _ (List.mem_of_getElem? (i := 183) rfl)))) rfl
theorem tw_3_184 : Cond.code yX6_trueAll cX6_trueAll 3 (some .int) ∈ wA := wA_of (w := Cond.code yX6_trueAll cX6_trueAll 3 (some .int)) (List.mem_append_right _ (List.mem_append_right _ (List.mem_append_left _ (List.mem_of_getElem? (i := 184) rfl)))) rfl
theorem tw_3_185 : Cond.methodLink RX6 74 yX6_ones ∈ wA := wA_of (w := Cond.methodLink RX6 74 yX6_ones) (List.mem_append_right _ (List.mem_append_right _ (List.mem_append_left _ (List.mem_of_getElem? (i := 185) rfl)))) rfl
theorem tw_3_186 : Cond.static yX6_ones ∈ wA := wA_of (w := Cond.static yX6_ones) (List.mem_append_right _ (List.mem_append_right _ (List.mem_append_left _ (List.mem_of_getElem? (i := 186) rfl)))) rfl
theorem tw_3_187 : Cond.code yX6_ones cX6_ones 3 (some .int) ∈ wA := wA_of (w := Cond.code yX6_ones cX6_ones 3 (some .int)) (List.mem_append_right _ (List.mem_append_right _ (List.mem_append_left _ (List.mem_of_getElem? (i := 187) rfl)))) rfl
theorem tw_3_188 : Cond.methodLink RL 35 yX6_victim ∈ wA := wA_of (w := Cond.methodLink RL 35 yX6_victim) (List.mem_append_right _ (List.mem_append_right _ (List.mem_append_left _ (List.mem_of_getElem? (i := 188) rfl)))) rfl
theorem tw_3_189 : Cond.instanceMethod yX6_victim ∈ wA := wA_of (w := Cond.instanceMethod yX6_victim) (List.mem_append_right _ (List.mem_append_right _ (List.mem_append_left _ (List.mem_of_getElem? (i := 189) rfl)))) rfl
theorem tw_3_190 : Cond.selects RX6 yX6_victim yX6_victim ∈ wA := wA_of (w := Cond.selects RX6 yX6_victim yX6_victim) (List.mem_append_right _ (List.mem_append_right _ (List.mem_append_left _ (List.mem_of_getElem? (i := 190) rfl)))) rfl
theorem tw_3_191 : Cond.code yX6_victim cX6_victim 3 (some .int) ∈ wA := wA_of (w := Cond.code yX6_victim cX6_victim 3 (some .int)) (List.mem_append_right _ (List.mem_append_right _ (List.mem_append_left _ (List.mem_of_getElem? (i := 191) rfl)))) rfl
theorem tw_3_192 : Cond.methodLink RX6 104 yX6_isVictim ∈ wA := wA_of (w := Cond.methodLink RX6 104 yX6_isVictim) (List.mem_append_right _ (List.mem_append_right _ (List.mem_append_left _ (List.mem_of_getElem? (i := 192) rfl)))) rfl
theorem tw_3_194 : Cond.instanceMethod yX6_isVictim ∈ wA := wA_of (w := Cond.instanceMethod yX6_isVictim) (List.mem_append_right _ (List.mem_append_right _ (List.mem_append_left _ (List.mem_of_getElem? (i := 194) rfl)))) rfl
theorem tw_3_195 : Cond.code yX6_isVictim cX6_isVictim 2 (some .boolean) ∈ wA := wA_of (w := Cond.code yX6_isVictim cX6_isVictim 2 (some .boolean)) (List.mem_append_right _ (List.mem_append_right _ (List.mem_append_left _ (List.mem_of_getElem? (i := 195) rfl)))) rfl
theorem tw_3_196 : Cond.constantLong RX6 100 (2 : Int64) ∈ wA := wA_of (w := Cond.constantLong RX6 100 (2 : Int64)) (List.mem_append_right _ (List.mem_append_right _ (List.mem_append_left _ (List.mem_of_getElem? (i := 196) rfl)))) rfl
theorem tw_3_197 : Cond.methodLink RX6 108 yX6_tellVictim ∈ wA := wA_of (w := Cond.methodLink RX6 108 yX6_tellVictim) (List.mem_append_right _ (List.mem_append_right _ (List.mem_append_left _ (List.mem_of_getElem? (i := 197) rfl)))) rfl
theorem tw_3_199 : Cond.instanceMethod yX6_tellVictim ∈ wA := wA_of (w := Cond.instanceMethod yX6_tellVictim) (List.mem_append_right _ (List.mem_append_right _ (List.mem_append_left _ (List.mem_of_getElem? (i := 199) rfl)))) rfl
theorem tw_3_200 : Cond.code yX6_tellVictim cX6_tellVictim 6 (some .int) ∈ wA := wA_of (w := Cond.code yX6_tellVictim cX6_tellVictim 6 (some .int)) (List.mem_append_right _ (List.mem_append_right _ (List.mem_append_left _ (List.mem_of_getElem? (i := 200) rfl)))) rfl
theorem tw_3_201 : Cond.methodLink RL 40 yX6_convict ∈ wA := wA_of (w := Cond.methodLink RL 40 yX6_convict) (List.mem_append_right _ (List.mem_append_right _ (List.mem_append_left _ (List.mem_of_getElem? (i := 201) rfl)))) rfl
theorem tw_3_202 : Cond.instanceMethod yX6_convict ∈ wA := wA_of (w := Cond.instanceMethod yX6_convict) (List.mem_append_right _ (List.mem_append_right _ (List.mem_append_left _ (List.mem_of_getElem? (i := 202) rfl)))) rfl
theorem tw_3_203 : Cond.selects RX6 yX6_convict yX6_convict ∈ wA := wA_of (w := Cond.selects RX6 yX6_convict yX6_convict) (List.mem_append_right _ (List.mem_append_right _ (List.mem_append_left _ (List.mem_of_getElem? (i := 203) rfl)))) rfl
theorem tw_3_204 : Cond.code yX6_convict cX6_convict 5 (some .int) ∈ wA := wA_of (w := Cond.code yX6_convict cX6_convict 5 (some .int)) (List.mem_append_right _ (List.mem_append_right _ (List.mem_append_left _ (List.mem_of_getElem? (i := 204) rfl)))) rfl
theorem tw_3_205 : Cond.constantLong RX6 112 (4 : Int64) ∈ wA := wA_of (w := Cond.constantLong RX6 112 (4 : Int64)) (List.mem_append_right _ (List.mem_append_right _ (List.mem_append_left _ (List.mem_of_getElem? (i := 205) rfl)))) rfl
theorem tw_3_206 : Cond.constantLong RX6 114 (63 : Int64) ∈ wA := wA_of (w := Cond.constantLong RX6 114 (63 : Int64)) (List.mem_append_right _ (List.mem_append_right _ (List.mem_append_left _ (List.mem_of_getElem? (i := 206) rfl)))) rfl
theorem tw_3_207 : Cond.methodLink RX6 116 yX6_aDay ∈ wA := wA_of (w := Cond.methodLink RX6 116 yX6_aDay) (List.mem_append_right _ (List.mem_append_right _ (List.mem_append_left _ (List.mem_of_getElem? (i := 207) rfl)))) rfl
theorem tw_3_208 : Cond.static yX6_aDay ∈ wA := wA_of (w := Cond.static yX6_aDay) (List.mem_append_right _ (List.mem_append_right _ (List.mem_append_left _ (List.mem_of_getElem? (i := 208) rfl)))) rfl
theorem tw_3_209 : Cond.code yX6_aDay cX6_aDay 1 (some .int) ∈ wA := wA_of (w := Cond.code yX6_aDay cX6_aDay 1 (some .int)) (List.mem_append_right _ (List.mem_append_right _ (List.mem_append_left _ (List.mem_of_getElem? (i := 209) rfl)))) rfl
theorem tw_3_210 : Cond.methodLink RL 44 yX6_about ∈ wA := wA_of (w := Cond.methodLink RL 44 yX6_about) (List.mem_append_right _ (List.mem_append_right _ (List.mem_append_left _ (List.mem_of_getElem? (i := 210) rfl)))) rfl
theorem tw_3_211 : Cond.instanceMethod yX6_about ∈ wA := wA_of (w := Cond.instanceMethod yX6_about) (List.mem_append_right _ (List.mem_append_right _ (List.mem_append_left _ (List.mem_of_getElem? (i := 211) rfl)))) rfl
theorem tw_3_212 : Cond.selects RX6 yX6_about yX6_about ∈ wA := wA_of (w := Cond.selects RX6 yX6_about yX6_about) (List.mem_append_right _ (List.mem_append_right _ (List.mem_append_left _ (List.mem_of_getElem? (i := 212) rfl)))) rfl
theorem tw_3_213 : Cond.code yX6_about cX6_about 3 (some .int) ∈ wA := wA_of (w := Cond.code yX6_about cX6_about 3 (some .int)) (List.mem_append_right _ (List.mem_append_right _ (List.mem_append_left _ (List.mem_of_getElem? (i := 213) rfl)))) rfl
theorem tw_3_214 : Cond.methodLink RX6 131 yX6_isConvict ∈ wA := wA_of (w := Cond.methodLink RX6 131 yX6_isConvict) (List.mem_append_right _ (List.mem_append_right _ (List.mem_append_left _ (List.mem_of_getElem? (i := 214) rfl)))) rfl
theorem tw_3_216 : Cond.instanceMethod yX6_isConvict ∈ wA := wA_of (w := Cond.instanceMethod yX6_isConvict) (List.mem_append_right _ (List.mem_append_right _ (List.mem_append_left _ (List.mem_of_getElem? (i := 216) rfl)))) rfl
theorem tw_3_217 : Cond.code yX6_isConvict cX6_isConvict 2 (some .boolean) ∈ wA := wA_of (w := Cond.code yX6_isConvict cX6_isConvict 2 (some .boolean)) (List.mem_append_right _ (List.mem_append_right _ (List.mem_append_left _ (List.mem_of_getElem? (i := 217) rfl)))) rfl
theorem tw_3_218 : Cond.methodLink RX6 134 yX6_tell ∈ wA := wA_of (w := Cond.methodLink RX6 134 yX6_tell) (List.mem_append_right _ (List.mem_append_right _ (List.mem_append_left _ (List.mem_of_getElem? (i := 218) rfl)))) rfl
theorem tw_3_220 : Cond.instanceMethod yX6_tell ∈ wA := wA_of (w := Cond.instanceMethod yX6_tell) (List.mem_append_right _ (List.mem_append_right _ (List.mem_append_left _ (List.mem_of_getElem? (i := 220) rfl)))) rfl
theorem tw_3_221 : Cond.code yX6_tell cX6_tell 3 (some .int) ∈ wA := wA_of (w := Cond.code yX6_tell cX6_tell 3 (some .int)) (List.mem_append_right _ (List.mem_append_right _ (List.mem_append_left _ (List.mem_of_getElem? (i := 221) rfl)))) rfl
theorem tw_3_222 : Cond.methodLink RX6 122 yX6_leftOf ∈ wA := wA_of (w := Cond.methodLink RX6 122 yX6_leftOf) (List.mem_append_right _ (List.mem_append_right _ (List.mem_append_left _ (List.mem_of_getElem? (i := 222) rfl)))) rfl
theorem tw_3_224 : Cond.instanceMethod yX6_leftOf ∈ wA := wA_of (w := Cond.instanceMethod yX6_leftOf) (List.mem_append_right _ (List.mem_append_right _ (List.mem_append_left _ (List.mem_of_getElem? (i := 224) rfl)))) rfl
theorem tw_3_225 : Cond.code yX6_leftOf cX6_leftOf 3 (some .int) ∈ wA := wA_of (w := Cond.code yX6_leftOf cX6_leftOf 3 (some .int)) (List.mem_append_right _ (List.mem_append_right _ (List.mem_append_left _ (List.mem_of_getElem? (i := 225) rfl)))) rfl
theorem tw_3_226 : Cond.methodLink RX6 125 yX6_daysOf ∈ wA := wA_of (w := Cond.methodLink RX6 125 yX6_daysOf) (List.mem_append_right _ (List.mem_append_right _ (List.mem_append_left _ (List.mem_of_getElem? (i := 226) rfl)))) rfl
theorem tw_3_228 : Cond.instanceMethod yX6_daysOf ∈ wA := wA_of (w := Cond.instanceMethod yX6_daysOf) (List.mem_append_right _ (List.mem_append_right _ (List.mem_append_left _ (List.mem_of_getElem? (i := 228) rfl)))) rfl
theorem tw_3_229 : Cond.code yX6_daysOf cX6_daysOf 5 (some .int) ∈ wA := wA_of (w := Cond.code yX6_daysOf cX6_daysOf 5 (some .int)) (List.mem_append_right _ (List.mem_append_right _ (List.mem_append_left _ (List.mem_of_getElem? (i := 229) rfl)))) rfl
theorem tw_3_230 : Cond.methodLink RX6 119 yX6_needsOf ∈ wA := wA_of (w := Cond.methodLink RX6 119 yX6_needsOf) (List.mem_append_right _ (List.mem_append_right _ (List.mem_append_left _ (List.mem_of_getElem? (i := 230) rfl)))) rfl
theorem tw_3_232 : Cond.instanceMethod yX6_needsOf ∈ wA := wA_of (w := Cond.instanceMethod yX6_needsOf) (List.mem_append_right _ (List.mem_append_right _ (List.mem_append_left _ (List.mem_of_getElem? (i := 232) rfl)))) rfl
theorem tw_3_233 : Cond.code yX6_needsOf cX6_needsOf 3 (some .int) ∈ wA := wA_of (w := Cond.code yX6_needsOf cX6_needsOf 3 (some .int)) (List.mem_append_right _ (List.mem_append_right _ (List.mem_append_left _ (List.mem_of_getElem? (i := 233) rfl)))) rfl
theorem tw_3_234 : Cond.methodLink RX6 128 yX6_findOf ∈ wA := wA_of (w := Cond.methodLink RX6 128 yX6_findOf) (List.mem_append_right _ (List.mem_append_right _ (List.mem_append_left _ (List.mem_of_getElem? (i := 234) rfl)))) rfl
theorem tw_3_236 : Cond.instanceMethod yX6_findOf ∈ wA := wA_of (w := Cond.instanceMethod yX6_findOf) (List.mem_append_right _ (List.mem_append_right _ (List.mem_append_left _ (List.mem_of_getElem? (i := 236) rfl)))) rfl
theorem tw_3_237 : Cond.code yX6_findOf cX6_findOf 5 (some .int) ∈ wA := wA_of (w := Cond.code yX6_findOf cX6_findOf 5 (some .int)) (List.mem_append_right _ (List.mem_append_right _ (List.mem_append_left _ (List.mem_of_getElem? (i := 237) rfl)))) rfl
theorem tw_3_238 : Cond.methodLink RL 48 yX6_as ∈ wA := wA_of (w := Cond.methodLink RL 48 yX6_as) (List.mem_append_right _ (List.mem_append_right _ (List.mem_append_left _ (List.mem_of_getElem? (i := 238) rfl)))) rfl
theorem tw_3_239 : Cond.instanceMethod yX6_as ∈ wA := wA_of (w := Cond.instanceMethod yX6_as) (List.mem_append_right _ (List.mem_append_right _ (List.mem_append_left _ (List.mem_of_getElem? (i := 239) rfl)))) rfl
theorem tw_4_0 : Cond.selects RX6 yX6_as yX6_as ∈ wA := wA_of (w := Cond.selects RX6 yX6_as yX6_as) (List.mem_append_right _ (List.mem_append_right _ (List.mem_append_right _ (List.mem_of_getElem? (i := 0) rfl)))) rfl
theorem tw_4_1 : Cond.code yX6_as cX6_as 5 (some .int) ∈ wA := wA_of (w := Cond.code yX6_as cX6_as 5 (some .int)) (List.mem_append_right _ (List.mem_append_right _ (List.mem_append_right _ (List.mem_of_getElem? (i := 1) rfl)))) rfl
theorem tw_4_2 : Cond.methodLink RL 52 yX6_say ∈ wA := wA_of (w := Cond.methodLink RL 52 yX6_say) (List.mem_append_right _ (List.mem_append_right _ (List.mem_append_right _ (List.mem_of_getElem? (i := 2) rfl)))) rfl
theorem tw_4_3 : Cond.instanceMethod yX6_say ∈ wA := wA_of (w := Cond.instanceMethod yX6_say) (List.mem_append_right _ (List.mem_append_right _ (List.mem_append_right _ (List.mem_of_getElem? (i := 3) rfl)))) rfl
theorem tw_4_4 : Cond.selects RX6 yX6_say yX6_say ∈ wA := wA_of (w := Cond.selects RX6 yX6_say yX6_say) (List.mem_append_right _ (List.mem_append_right _ (List.mem_append_right _ (List.mem_of_getElem? (i := 4) rfl)))) rfl
theorem tw_4_5 : Cond.code yX6_say cX6_say 3 (some .int) ∈ wA := wA_of (w := Cond.code yX6_say cX6_say 3 (some .int)) (List.mem_append_right _ (List.mem_append_right _ (List.mem_append_right _ (List.mem_of_getElem? (i := 5) rfl)))) rfl
theorem tw_4_6 : Cond.methodLink RX6 137 yX6_isSaying ∈ wA := wA_of (w := Cond.methodLink RX6 137 yX6_isSaying) (List.mem_append_right _ (List.mem_append_right _ (List.mem_append_right _ (List.mem_of_getElem? (i := 6) rfl)))) rfl
theorem tw_4_7 : Cond.static yX6_isSaying ∈ wA := wA_of (w := Cond.static yX6_isSaying) (List.mem_append_right _ (List.mem_append_right _ (List.mem_append_right _ (List.mem_of_getElem? (i := 7) rfl)))) rfl
theorem tw_4_8 : Cond.code yX6_isSaying cX6_isSaying 1 (some .boolean) ∈ wA := wA_of (w := Cond.code yX6_isSaying cX6_isSaying 1 (some .boolean)) (List.mem_append_right _ (List.mem_append_right _ (List.mem_append_right _ (List.mem_of_getElem? (i := 8) rfl)))) rfl
theorem tw_4_9 : Cond.constantLong RX6 102 (5 : Int64) ∈ wA := wA_of (w := Cond.constantLong RX6 102 (5 : Int64)) (List.mem_append_right _ (List.mem_append_right _ (List.mem_append_right _ (List.mem_of_getElem? (i := 9) rfl)))) rfl
theorem tw_4_10 : Cond.methodLink RX6 140 yX6_knows ∈ wA := wA_of (w := Cond.methodLink RX6 140 yX6_knows) (List.mem_append_right _ (List.mem_append_right _ (List.mem_append_right _ (List.mem_of_getElem? (i := 10) rfl)))) rfl
theorem tw_4_12 : Cond.instanceMethod yX6_knows ∈ wA := wA_of (w := Cond.instanceMethod yX6_knows) (List.mem_append_right _ (List.mem_append_right _ (List.mem_append_right _ (List.mem_of_getElem? (i := 12) rfl)))) rfl
theorem tw_4_13 : Cond.code yX6_knows cX6_knows 3 (some .boolean) ∈ wA := wA_of (w := Cond.code yX6_knows cX6_knows 3 (some .boolean)) (List.mem_append_right _ (List.mem_append_right _ (List.mem_append_right _ (List.mem_of_getElem? (i := 13) rfl)))) rfl
theorem tw_4_14 : Cond.methodLink RX6 143 yX6_says ∈ wA := wA_of (w := Cond.methodLink RX6 143 yX6_says) (List.mem_append_right _ (List.mem_append_right _ (List.mem_append_right _ (List.mem_of_getElem? (i := 14) rfl)))) rfl
theorem tw_4_16 : Cond.instanceMethod yX6_says ∈ wA := wA_of (w := Cond.instanceMethod yX6_says) (List.mem_append_right _ (List.mem_append_right _ (List.mem_append_right _ (List.mem_of_getElem? (i := 16) rfl)))) rfl
theorem tw_4_17 : Cond.code yX6_says cX6_says 7 (some .int) ∈ wA := wA_of (w := Cond.code yX6_says cX6_says 7 (some .int)) (List.mem_append_right _ (List.mem_append_right _ (List.mem_append_right _ (List.mem_of_getElem? (i := 17) rfl)))) rfl
theorem tw_4_18 : Cond.methodLink RL 56 yX6_learn ∈ wA := wA_of (w := Cond.methodLink RL 56 yX6_learn) (List.mem_append_right _ (List.mem_append_right _ (List.mem_append_right _ (List.mem_of_getElem? (i := 18) rfl)))) rfl
theorem tw_4_19 : Cond.instanceMethod yX6_learn ∈ wA := wA_of (w := Cond.instanceMethod yX6_learn) (List.mem_append_right _ (List.mem_append_right _ (List.mem_append_right _ (List.mem_of_getElem? (i := 19) rfl)))) rfl
theorem tw_4_20 : Cond.selects RX6 yX6_learn yX6_learn ∈ wA := wA_of (w := Cond.selects RX6 yX6_learn yX6_learn) (List.mem_append_right _ (List.mem_append_right _ (List.mem_append_right _ (List.mem_of_getElem? (i := 20) rfl)))) rfl
theorem tw_4_21 : Cond.code yX6_learn cX6_learn 4 (some .int) ∈ wA := wA_of (w := Cond.code yX6_learn cX6_learn 4 (some .int)) (List.mem_append_right _ (List.mem_append_right _ (List.mem_append_right _ (List.mem_of_getElem? (i := 21) rfl)))) rfl
theorem tw_4_22 : Cond.methodLink RL 60 yX6_night ∈ wA := wA_of (w := Cond.methodLink RL 60 yX6_night) (List.mem_append_right _ (List.mem_append_right _ (List.mem_append_right _ (List.mem_of_getElem? (i := 22) rfl)))) rfl
theorem tw_4_23 : Cond.instanceMethod yX6_night ∈ wA := wA_of (w := Cond.instanceMethod yX6_night) (List.mem_append_right _ (List.mem_append_right _ (List.mem_append_right _ (List.mem_of_getElem? (i := 23) rfl)))) rfl
theorem tw_4_24 : Cond.selects RX6 yX6_night yX6_night ∈ wA := wA_of (w := Cond.selects RX6 yX6_night yX6_night) (List.mem_append_right _ (List.mem_append_right _ (List.mem_append_right _ (List.mem_of_getElem? (i := 24) rfl)))) rfl
theorem tw_4_25 : Cond.code yX6_night cX6_night 1 (some .int) ∈ wA := wA_of (w := Cond.code yX6_night cX6_night 1 (some .int)) (List.mem_append_right _ (List.mem_append_right _ (List.mem_append_right _ (List.mem_of_getElem? (i := 25) rfl)))) rfl
theorem tw_4_26 : Cond.methodLink RX6 146 yX6_sleep ∈ wA := wA_of (w := Cond.methodLink RX6 146 yX6_sleep) (List.mem_append_right _ (List.mem_append_right _ (List.mem_append_right _ (List.mem_of_getElem? (i := 26) rfl)))) rfl
theorem tw_4_28 : Cond.instanceMethod yX6_sleep ∈ wA := wA_of (w := Cond.instanceMethod yX6_sleep) (List.mem_append_right _ (List.mem_append_right _ (List.mem_append_right _ (List.mem_of_getElem? (i := 28) rfl)))) rfl
theorem tw_4_29 : Cond.code yX6_sleep cX6_sleep 2 none ∈ wA := wA_of (w := Cond.code yX6_sleep cX6_sleep 2 none) (List.mem_append_right _ (List.mem_append_right _ (List.mem_append_right _ (List.mem_of_getElem? (i := 29) rfl)))) rfl
theorem tw_4_30 : Cond.methodLink RL 64 yX6_most ∈ wA := wA_of (w := Cond.methodLink RL 64 yX6_most) (List.mem_append_right _ (List.mem_append_right _ (List.mem_append_right _ (List.mem_of_getElem? (i := 30) rfl)))) rfl
theorem tw_4_31 : Cond.instanceMethod yX6_most ∈ wA := wA_of (w := Cond.instanceMethod yX6_most) (List.mem_append_right _ (List.mem_append_right _ (List.mem_append_right _ (List.mem_of_getElem? (i := 31) rfl)))) rfl
theorem tw_4_32 : Cond.selects RX6 yX6_most yX6_most ∈ wA := wA_of (w := Cond.selects RX6 yX6_most yX6_most) (List.mem_append_right _ (List.mem_append_right _ (List.mem_append_right _ (List.mem_of_getElem? (i := 32) rfl)))) rfl
theorem tw_4_33 : Cond.code yX6_most cX6_most 3 (some .int) ∈ wA := wA_of (w := Cond.code yX6_most cX6_most 3 (some .int)) (List.mem_append_right _ (List.mem_append_right _ (List.mem_append_right _ (List.mem_of_getElem? (i := 33) rfl)))) rfl
theorem tw_4_34 : Cond.methodLink RX6 159 yX6_mostOf ∈ wA := wA_of (w := Cond.methodLink RX6 159 yX6_mostOf) (List.mem_append_right _ (List.mem_append_right _ (List.mem_append_right _ (List.mem_of_getElem? (i := 34) rfl)))) rfl
theorem tw_4_36 : Cond.instanceMethod yX6_mostOf ∈ wA := wA_of (w := Cond.instanceMethod yX6_mostOf) (List.mem_append_right _ (List.mem_append_right _ (List.mem_append_right _ (List.mem_of_getElem? (i := 36) rfl)))) rfl
theorem tw_4_37 : Cond.code yX6_mostOf cX6_mostOf 3 (some .int) ∈ wA := wA_of (w := Cond.code yX6_mostOf cX6_mostOf 3 (some .int)) (List.mem_append_right _ (List.mem_append_right _ (List.mem_append_right _ (List.mem_of_getElem? (i := 37) rfl)))) rfl
theorem tw_4_38 : Cond.methodLink RX6 156 yX6_layMost ∈ wA := wA_of (w := Cond.methodLink RX6 156 yX6_layMost) (List.mem_append_right _ (List.mem_append_right _ (List.mem_append_right _ (List.mem_of_getElem? (i := 38) rfl)))) rfl
theorem tw_4_40 : Cond.instanceMethod yX6_layMost ∈ wA := wA_of (w := Cond.instanceMethod yX6_layMost) (List.mem_append_right _ (List.mem_append_right _ (List.mem_append_right _ (List.mem_of_getElem? (i := 40) rfl)))) rfl
theorem tw_4_41 : Cond.code yX6_layMost cX6_layMost 5 (some .int) ∈ wA := wA_of (w := Cond.code yX6_layMost cX6_layMost 5 (some .int)) (List.mem_append_right _ (List.mem_append_right _ (List.mem_append_right _ (List.mem_of_getElem? (i := 41) rfl)))) rfl
theorem tw_4_42 : Cond.methodLink RX6 149 yX6_saidBy ∈ wA := wA_of (w := Cond.methodLink RX6 149 yX6_saidBy) (List.mem_append_right _ (List.mem_append_right _ (List.mem_append_right _ (List.mem_of_getElem? (i := 42) rfl)))) rfl
theorem tw_4_44 : Cond.instanceMethod yX6_saidBy ∈ wA := wA_of (w := Cond.instanceMethod yX6_saidBy) (List.mem_append_right _ (List.mem_append_right _ (List.mem_append_right _ (List.mem_of_getElem? (i := 44) rfl)))) rfl
theorem tw_4_45 : Cond.code yX6_saidBy cX6_saidBy 8 (some .int) ∈ wA := wA_of (w := Cond.code yX6_saidBy cX6_saidBy 8 (some .int)) (List.mem_append_right _ (List.mem_append_right _ (List.mem_append_right _ (List.mem_of_getElem? (i := 45) rfl)))) rfl
theorem tw_4_46 : Cond.methodLink RX6 152 yX6_copy ∈ wA := wA_of (w := Cond.methodLink RX6 152 yX6_copy) (List.mem_append_right _ (List.mem_append_right _ (List.mem_append_right _ (List.mem_of_getElem? (i := 46) rfl)))) rfl
theorem tw_4_47 : Cond.static yX6_copy ∈ wA := wA_of (w := Cond.static yX6_copy) (List.mem_append_right _ (List.mem_append_right _ (List.mem_append_right _ (List.mem_of_getElem? (i := 47) rfl)))) rfl
theorem tw_4_48 : Cond.code yX6_copy cX6_copy 3 none ∈ wA := wA_of (w := Cond.code yX6_copy cX6_copy 3 none) (List.mem_append_right _ (List.mem_append_right _ (List.mem_append_right _ (List.mem_of_getElem? (i := 48) rfl)))) rfl
theorem tw_4_49 : Cond.methodLink RX6 162 yX6_needsAll ∈ wA := wA_of (w := Cond.methodLink RX6 162 yX6_needsAll) (List.mem_append_right _ (List.mem_append_right _ (List.mem_append_right _ (List.mem_of_getElem? (i := 49) rfl)))) rfl
theorem tw_4_51 : Cond.instanceMethod yX6_needsAll ∈ wA := wA_of (w := Cond.instanceMethod yX6_needsAll) (List.mem_append_right _ (List.mem_append_right _ (List.mem_append_right _ (List.mem_of_getElem? (i := 51) rfl)))) rfl
theorem tw_4_52 : Cond.code yX6_needsAll cX6_needsAll 3 (some .int) ∈ wA := wA_of (w := Cond.code yX6_needsAll cX6_needsAll 3 (some .int)) (List.mem_append_right _ (List.mem_append_right _ (List.mem_append_right _ (List.mem_of_getElem? (i := 52) rfl)))) rfl
theorem tw_4_53 : Cond.methodLink RL 68 yX6_who ∈ wA := wA_of (w := Cond.methodLink RL 68 yX6_who) (List.mem_append_right _ (List.mem_append_right _ (List.mem_append_right _ (List.mem_of_getElem? (i := 53) rfl)))) rfl
theorem tw_4_54 : Cond.instanceMethod yX6_who ∈ wA := wA_of (w := Cond.instanceMethod yX6_who) (List.mem_append_right _ (List.mem_append_right _ (List.mem_append_right _ (List.mem_of_getElem? (i := 54) rfl)))) rfl
theorem tw_4_55 : Cond.selects RX6 yX6_who yX6_who ∈ wA := wA_of (w := Cond.selects RX6 yX6_who yX6_who) (List.mem_append_right _ (List.mem_append_right _ (List.mem_append_right _ (List.mem_of_getElem? (i := 55) rfl)))) rfl
theorem tw_4_56 : Cond.code yX6_who cX6_who 4 (some .int) ∈ wA := wA_of (w := Cond.code yX6_who cX6_who 4 (some .int)) (List.mem_append_right _ (List.mem_append_right _ (List.mem_append_right _ (List.mem_of_getElem? (i := 56) rfl)))) rfl
theorem tw_4_57 : Cond.methodLink RL 73 yX6_trial ∈ wA := wA_of (w := Cond.methodLink RL 73 yX6_trial) (List.mem_append_right _ (List.mem_append_right _ (List.mem_append_right _ (List.mem_of_getElem? (i := 57) rfl)))) rfl
theorem tw_4_58 : Cond.instanceMethod yX6_trial ∈ wA := wA_of (w := Cond.instanceMethod yX6_trial) (List.mem_append_right _ (List.mem_append_right _ (List.mem_append_right _ (List.mem_of_getElem? (i := 58) rfl)))) rfl
theorem tw_4_59 : Cond.selects RX6 yX6_trial yX6_trial ∈ wA := wA_of (w := Cond.selects RX6 yX6_trial yX6_trial) (List.mem_append_right _ (List.mem_append_right _ (List.mem_append_right _ (List.mem_of_getElem? (i := 59) rfl)))) rfl
theorem tw_4_60 : Cond.code yX6_trial cX6_trial 4 (some .int) ∈ wA := wA_of (w := Cond.code yX6_trial cX6_trial 4 (some .int)) (List.mem_append_right _ (List.mem_append_right _ (List.mem_append_right _ (List.mem_of_getElem? (i := 60) rfl)))) rfl
theorem tw_4_61 : Cond.methodLink RL 77 yX6_forget ∈ wA := wA_of (w := Cond.methodLink RL 77 yX6_forget) (List.mem_append_right _ (List.mem_append_right _ (List.mem_append_right _ (List.mem_of_getElem? (i := 61) rfl)))) rfl
theorem tw_4_62 : Cond.instanceMethod yX6_forget ∈ wA := wA_of (w := Cond.instanceMethod yX6_forget) (List.mem_append_right _ (List.mem_append_right _ (List.mem_append_right _ (List.mem_of_getElem? (i := 62) rfl)))) rfl
theorem tw_4_63 : Cond.selects RX6 yX6_forget yX6_forget ∈ wA := wA_of (w := Cond.selects RX6 yX6_forget yX6_forget) (List.mem_append_right _ (List.mem_append_right _ (List.mem_append_right _ (List.mem_of_getElem? (i := 63) rfl)))) rfl
theorem tw_4_64 : Cond.code yX6_forget cX6_forget 2 (some .int) ∈ wA := wA_of (w := Cond.code yX6_forget cX6_forget 2 (some .int)) (List.mem_append_right _ (List.mem_append_right _ (List.mem_append_right _ (List.mem_of_getElem? (i := 64) rfl)))) rfl
theorem tw_4_65 : Cond.methodLink RL 81 yX6_truths ∈ wA := wA_of (w := Cond.methodLink RL 81 yX6_truths) (List.mem_append_right _ (List.mem_append_right _ (List.mem_append_right _ (List.mem_of_getElem? (i := 65) rfl)))) rfl
theorem tw_4_66 : Cond.instanceMethod yX6_truths ∈ wA := wA_of (w := Cond.instanceMethod yX6_truths) (List.mem_append_right _ (List.mem_append_right _ (List.mem_append_right _ (List.mem_of_getElem? (i := 66) rfl)))) rfl
theorem tw_4_67 : Cond.selects RX6 yX6_truths yX6_truths ∈ wA := wA_of (w := Cond.selects RX6 yX6_truths yX6_truths) (List.mem_append_right _ (List.mem_append_right _ (List.mem_append_right _ (List.mem_of_getElem? (i := 67) rfl)))) rfl
theorem tw_4_68 : Cond.code yX6_truths cX6_truths 3 (some .int) ∈ wA := wA_of (w := Cond.code yX6_truths cX6_truths 3 (some .int)) (List.mem_append_right _ (List.mem_append_right _ (List.mem_append_right _ (List.mem_of_getElem? (i := 68) rfl)))) rfl
theorem tw_4_69 : Cond.methodLink RX6 168 yX6_truthsOf ∈ wA := wA_of (w := Cond.methodLink RX6 168 yX6_truthsOf) (List.mem_append_right _ (List.mem_append_right _ (List.mem_append_right _ (List.mem_of_getElem? (i := 69) rfl)))) rfl
theorem tw_4_71 : Cond.instanceMethod yX6_truthsOf ∈ wA := wA_of (w := Cond.instanceMethod yX6_truthsOf) (List.mem_append_right _ (List.mem_append_right _ (List.mem_append_right _ (List.mem_of_getElem? (i := 71) rfl)))) rfl
theorem tw_4_72 : Cond.code yX6_truthsOf cX6_truthsOf 7 (some .int) ∈ wA := wA_of (w := Cond.code yX6_truthsOf cX6_truthsOf 7 (some .int)) (List.mem_append_right _ (List.mem_append_right _ (List.mem_append_right _ (List.mem_of_getElem? (i := 72) rfl)))) rfl
theorem tw_4_73 : Cond.methodLink RX6 165 yX6_isTried ∈ wA := wA_of (w := Cond.methodLink RX6 165 yX6_isTried) (List.mem_append_right _ (List.mem_append_right _ (List.mem_append_right _ (List.mem_of_getElem? (i := 73) rfl)))) rfl
theorem tw_4_75 : Cond.instanceMethod yX6_isTried ∈ wA := wA_of (w := Cond.instanceMethod yX6_isTried) (List.mem_append_right _ (List.mem_append_right _ (List.mem_append_right _ (List.mem_of_getElem? (i := 75) rfl)))) rfl
theorem tw_4_76 : Cond.code yX6_isTried cX6_isTried 5 (some .boolean) ∈ wA := wA_of (w := Cond.code yX6_isTried cX6_isTried 5 (some .boolean)) (List.mem_append_right _ (List.mem_append_right _ (List.mem_append_right _ (List.mem_of_getElem? (i := 76) rfl)))) rfl
theorem tw_4_77 : Cond.methodLink RL 85 yX6_attempt ∈ wA := wA_of (w := Cond.methodLink RL 85 yX6_attempt) (List.mem_append_right _ (List.mem_append_right _ (List.mem_append_right _ (List.mem_of_getElem? (i := 77) rfl)))) rfl
theorem tw_4_78 : Cond.instanceMethod yX6_attempt ∈ wA := wA_of (w := Cond.instanceMethod yX6_attempt) (List.mem_append_right _ (List.mem_append_right _ (List.mem_append_right _ (List.mem_of_getElem? (i := 78) rfl)))) rfl
theorem tw_4_79 : Cond.selects RX6 yX6_attempt yX6_attempt ∈ wA := wA_of (w := Cond.selects RX6 yX6_attempt yX6_attempt) (List.mem_append_right _ (List.mem_append_right _ (List.mem_append_right _ (List.mem_of_getElem? (i := 79) rfl)))) rfl
theorem tw_4_80 : Cond.code yX6_attempt cX6_attempt 2 (some .int) ∈ wA := wA_of (w := Cond.code yX6_attempt cX6_attempt 2 (some .int)) (List.mem_append_right _ (List.mem_append_right _ (List.mem_append_right _ (List.mem_of_getElem? (i := 80) rfl)))) rfl
theorem tw_4_81 : Cond.methodLink RX6 171 yX6_attemptOf ∈ wA := wA_of (w := Cond.methodLink RX6 171 yX6_attemptOf) (List.mem_append_right _ (List.mem_append_right _ (List.mem_append_right _ (List.mem_of_getElem? (i := 81) rfl)))) rfl
theorem tw_4_83 : Cond.instanceMethod yX6_attemptOf ∈ wA := wA_of (w := Cond.instanceMethod yX6_attemptOf) (List.mem_append_right _ (List.mem_append_right _ (List.mem_append_right _ (List.mem_of_getElem? (i := 83) rfl)))) rfl
theorem tw_4_84 : Cond.code yX6_attemptOf cX6_attemptOf 9 (some .int) ∈ wA := wA_of (w := Cond.code yX6_attemptOf cX6_attemptOf 9 (some .int)) (List.mem_append_right _ (List.mem_append_right _ (List.mem_append_right _ (List.mem_of_getElem? (i := 84) rfl)))) rfl
theorem tw_4_85 : Cond.methodLink RL 90 yX6_weeks ∈ wA := wA_of (w := Cond.methodLink RL 90 yX6_weeks) (List.mem_append_right _ (List.mem_append_right _ (List.mem_append_right _ (List.mem_of_getElem? (i := 85) rfl)))) rfl
theorem tw_4_86 : Cond.instanceMethod yX6_weeks ∈ wA := wA_of (w := Cond.instanceMethod yX6_weeks) (List.mem_append_right _ (List.mem_append_right _ (List.mem_append_right _ (List.mem_of_getElem? (i := 86) rfl)))) rfl
theorem tw_4_87 : Cond.selects RX6 yX6_weeks yX6_weeks ∈ wA := wA_of (w := Cond.selects RX6 yX6_weeks yX6_weeks) (List.mem_append_right _ (List.mem_append_right _ (List.mem_append_right _ (List.mem_of_getElem? (i := 87) rfl)))) rfl
theorem tw_4_88 : Cond.code yX6_weeks cX6_weeks 8 (some .int) ∈ wA := wA_of (w := Cond.code yX6_weeks cX6_weeks 8 (some .int)) (List.mem_append_right _ (List.mem_append_right _ (List.mem_append_right _ (List.mem_of_getElem? (i := 88) rfl)))) rfl
theorem tw_4_89 : Cond.constantLong RX6 187 (40 : Int64) ∈ wA := wA_of (w := Cond.constantLong RX6 187 (40 : Int64)) (List.mem_append_right _ (List.mem_append_right _ (List.mem_append_right _ (List.mem_of_getElem? (i := 89) rfl)))) rfl
theorem tw_4_90 : Cond.methodLink RX6 189 yX6_dayOf ∈ wA := wA_of (w := Cond.methodLink RX6 189 yX6_dayOf) (List.mem_append_right _ (List.mem_append_right _ (List.mem_append_right _ (List.mem_of_getElem? (i := 90) rfl)))) rfl
theorem tw_4_92 : Cond.instanceMethod yX6_dayOf ∈ wA := wA_of (w := Cond.instanceMethod yX6_dayOf) (List.mem_append_right _ (List.mem_append_right _ (List.mem_append_right _ (List.mem_of_getElem? (i := 92) rfl)))) rfl
theorem tw_4_93 : Cond.code yX6_dayOf cX6_dayOf 4 (some .int) ∈ wA := wA_of (w := Cond.code yX6_dayOf cX6_dayOf 4 (some .int)) (List.mem_append_right _ (List.mem_append_right _ (List.mem_append_right _ (List.mem_of_getElem? (i := 93) rfl)))) rfl
theorem tw_4_94 : Cond.methodLink RX6 184 yX6_draw ∈ wA := wA_of (w := Cond.methodLink RX6 184 yX6_draw) (List.mem_append_right _ (List.mem_append_right _ (List.mem_append_right _ (List.mem_of_getElem? (i := 94) rfl)))) rfl
theorem tw_4_96 : Cond.instanceMethod yX6_draw ∈ wA := wA_of (w := Cond.instanceMethod yX6_draw) (List.mem_append_right _ (List.mem_append_right _ (List.mem_append_right _ (List.mem_of_getElem? (i := 96) rfl)))) rfl
theorem tw_4_97 : Cond.code yX6_draw cX6_draw 2 (some .int) ∈ wA := wA_of (w := Cond.code yX6_draw cX6_draw 2 (some .int)) (List.mem_append_right _ (List.mem_append_right _ (List.mem_append_right _ (List.mem_of_getElem? (i := 97) rfl)))) rfl
theorem tw_4_98 : Cond.constantLong RX6 174 (1103515245 : Int64) ∈ wA := wA_of (w := Cond.constantLong RX6 174 (1103515245 : Int64)) (List.mem_append_right _ (List.mem_append_right _ (List.mem_append_right _ (List.mem_of_getElem? (i := 98) rfl)))) rfl
theorem tw_4_99 : Cond.constantLong RX6 179 (12345 : Int64) ∈ wA := wA_of (w := Cond.constantLong RX6 179 (12345 : Int64)) (List.mem_append_right _ (List.mem_append_right _ (List.mem_append_right _ (List.mem_of_getElem? (i := 99) rfl)))) rfl
theorem tw_4_100 : Cond.constantLong RX6 181 (2147483647 : Int64) ∈ wA := wA_of (w := Cond.constantLong RX6 181 (2147483647 : Int64)) (List.mem_append_right _ (List.mem_append_right _ (List.mem_append_right _ (List.mem_of_getElem? (i := 100) rfl)))) rfl
theorem tw_4_101 : Cond.constant RX6 183 (65536 : Int32) ∈ wA := wA_of (w := Cond.constant RX6 183 (65536 : Int32)) (List.mem_append_right _ (List.mem_append_right _ (List.mem_append_right _ (List.mem_of_getElem? (i := 101) rfl)))) rfl
theorem tw_4_102 : Cond.methodLink RX6 192 yX6_paidMany ∈ wA := wA_of (w := Cond.methodLink RX6 192 yX6_paidMany) (List.mem_append_right _ (List.mem_append_right _ (List.mem_append_right _ (List.mem_of_getElem? (i := 102) rfl)))) rfl
theorem tw_4_104 : Cond.instanceMethod yX6_paidMany ∈ wA := wA_of (w := Cond.instanceMethod yX6_paidMany) (List.mem_append_right _ (List.mem_append_right _ (List.mem_append_right _ (List.mem_of_getElem? (i := 104) rfl)))) rfl
theorem tw_4_105 : Cond.code yX6_paidMany cX6_paidMany 3 (some .int) ∈ wA := wA_of (w := Cond.code yX6_paidMany cX6_paidMany 3 (some .int)) (List.mem_append_right _ (List.mem_append_right _ (List.mem_append_right _ (List.mem_of_getElem? (i := 105) rfl)))) rfl
theorem tw_4_106 : Cond.methodLink RL 94 yX6_image ∈ wA := wA_of (w := Cond.methodLink RL 94 yX6_image) (List.mem_append_right _ (List.mem_append_right _ (List.mem_append_right _ (List.mem_of_getElem? (i := 106) rfl)))) rfl
theorem tw_4_107 : Cond.instanceMethod yX6_image ∈ wA := wA_of (w := Cond.instanceMethod yX6_image) (List.mem_append_right _ (List.mem_append_right _ (List.mem_append_right _ (List.mem_of_getElem? (i := 107) rfl)))) rfl
theorem tw_4_108 : Cond.selects RX6 yX6_image yX6_image ∈ wA := wA_of (w := Cond.selects RX6 yX6_image yX6_image) (List.mem_append_right _ (List.mem_append_right _ (List.mem_append_right _ (List.mem_of_getElem? (i := 108) rfl)))) rfl
theorem tw_4_109 : Cond.code yX6_image cX6_image 1 (some .int) ∈ wA := wA_of (w := Cond.code yX6_image cX6_image 1 (some .int)) (List.mem_append_right _ (List.mem_append_right _ (List.mem_append_right _ (List.mem_of_getElem? (i := 109) rfl)))) rfl
theorem tw_4_110 : Cond.methodLink RL 98 yX6_restore ∈ wA := wA_of (w := Cond.methodLink RL 98 yX6_restore) (List.mem_append_right _ (List.mem_append_right _ (List.mem_append_right _ (List.mem_of_getElem? (i := 110) rfl)))) rfl
theorem tw_4_111 : Cond.instanceMethod yX6_restore ∈ wA := wA_of (w := Cond.instanceMethod yX6_restore) (List.mem_append_right _ (List.mem_append_right _ (List.mem_append_right _ (List.mem_of_getElem? (i := 111) rfl)))) rfl
theorem tw_4_112 : Cond.selects RX6 yX6_restore yX6_restore ∈ wA := wA_of (w := Cond.selects RX6 yX6_restore yX6_restore) (List.mem_append_right _ (List.mem_append_right _ (List.mem_append_right _ (List.mem_of_getElem? (i := 112) rfl)))) rfl
theorem tw_4_113 : Cond.code yX6_restore cX6_restore 1 (some .int) ∈ wA := wA_of (w := Cond.code yX6_restore cX6_restore 1 (some .int)) (List.mem_append_right _ (List.mem_append_right _ (List.mem_append_right _ (List.mem_of_getElem? (i := 113) rfl)))) rfl
theorem tw_4_114 : Cond.methodLink RL 102 yX6_count ∈ wA := wA_of (w := Cond.methodLink RL 102 yX6_count) (List.mem_append_right _ (List.mem_append_right _ (List.mem_append_right _ (List.mem_of_getElem? (i := 114) rfl)))) rfl
theorem tw_4_115 : Cond.instanceMethod yX6_count ∈ wA := wA_of (w := Cond.instanceMethod yX6_count) (List.mem_append_right _ (List.mem_append_right _ (List.mem_append_right _ (List.mem_of_getElem? (i := 115) rfl)))) rfl
theorem tw_4_116 : Cond.selects RX6 yX6_count yX6_count ∈ wA := wA_of (w := Cond.selects RX6 yX6_count yX6_count) (List.mem_append_right _ (List.mem_append_right _ (List.mem_append_right _ (List.mem_of_getElem? (i := 116) rfl)))) rfl
theorem tw_4_117 : Cond.code yX6_count cX6_count 2 (some .int) ∈ wA := wA_of (w := Cond.code yX6_count cX6_count 2 (some .int)) (List.mem_append_right _ (List.mem_append_right _ (List.mem_append_right _ (List.mem_of_getElem? (i := 117) rfl)))) rfl
theorem tw_4_118 : Cond.methodLink RX6 210 yX6_countOf ∈ wA := wA_of (w := Cond.methodLink RX6 210 yX6_countOf) (List.mem_append_right _ (List.mem_append_right _ (List.mem_append_right _ (List.mem_of_getElem? (i := 118) rfl)))) rfl
theorem tw_4_120 : Cond.instanceMethod yX6_countOf ∈ wA := wA_of (w := Cond.instanceMethod yX6_countOf) (List.mem_append_right _ (List.mem_append_right _ (List.mem_append_right _ (List.mem_of_getElem? (i := 120) rfl)))) rfl
theorem tw_4_121 : Cond.code yX6_countOf cX6_countOf 2 (some .int) ∈ wA := wA_of (w := Cond.code yX6_countOf cX6_countOf 2 (some .int)) (List.mem_append_right _ (List.mem_append_right _ (List.mem_append_right _ (List.mem_of_getElem? (i := 121) rfl)))) rfl
theorem tw_4_122 : Cond.methodLink RX6 207 yX6_finesAll ∈ wA := wA_of (w := Cond.methodLink RX6 207 yX6_finesAll) (List.mem_append_right _ (List.mem_append_right _ (List.mem_append_right _ (List.mem_of_getElem? (i := 122) rfl)))) rfl
theorem tw_4_124 : Cond.instanceMethod yX6_finesAll ∈ wA := wA_of (w := Cond.instanceMethod yX6_finesAll) (List.mem_append_right _ (List.mem_append_right _ (List.mem_append_right _ (List.mem_of_getElem? (i := 124) rfl)))) rfl
theorem tw_4_125 : Cond.code yX6_finesAll cX6_finesAll 3 (some .int) ∈ wA := wA_of (w := Cond.code yX6_finesAll cX6_finesAll 3 (some .int)) (List.mem_append_right _ (List.mem_append_right _ (List.mem_append_right _ (List.mem_of_getElem? (i := 125) rfl)))) rfl
theorem tw_4_126 : Cond.methodLink RL 107 yX6_digest ∈ wA := wA_of (w := Cond.methodLink RL 107 yX6_digest) (List.mem_append_right _ (List.mem_append_right _ (List.mem_append_right _ (List.mem_of_getElem? (i := 126) rfl)))) rfl
theorem tw_4_127 : Cond.instanceMethod yX6_digest ∈ wA := wA_of (w := Cond.instanceMethod yX6_digest) (List.mem_append_right _ (List.mem_append_right _ (List.mem_append_right _ (List.mem_of_getElem? (i := 127) rfl)))) rfl
theorem tw_4_128 : Cond.selects RX6 yX6_digest yX6_digest ∈ wA := wA_of (w := Cond.selects RX6 yX6_digest yX6_digest) (List.mem_append_right _ (List.mem_append_right _ (List.mem_append_right _ (List.mem_of_getElem? (i := 128) rfl)))) rfl
theorem tw_4_129 : Cond.code yX6_digest cX6_digest 4 (some .long) ∈ wA := wA_of (w := Cond.code yX6_digest cX6_digest 4 (some .long)) (List.mem_append_right _ (List.mem_append_right _ (List.mem_append_right _ (List.mem_of_getElem? (i := 129) rfl)))) rfl
theorem tw_4_130 : Cond.constantLong RX6 223 (883 : Int64) ∈ wA := wA_of (w := Cond.constantLong RX6 223 (883 : Int64)) (List.mem_append_right _ (List.mem_append_right _ (List.mem_append_right _ (List.mem_of_getElem? (i := 130) rfl)))) rfl
theorem tw_4_131 : Cond.methodLink RX6 225 yX6_noteVictim ∈ wA := wA_of (w := Cond.methodLink RX6 225 yX6_noteVictim) (List.mem_append_right _ (List.mem_append_right _ (List.mem_append_right _ (List.mem_of_getElem? (i := 131) rfl)))) rfl
theorem tw_4_133 : Cond.instanceMethod yX6_noteVictim ∈ wA := wA_of (w := Cond.instanceMethod yX6_noteVictim) (List.mem_append_right _ (List.mem_append_right _ (List.mem_append_right _ (List.mem_of_getElem? (i := 133) rfl)))) rfl
theorem tw_4_134 : Cond.code yX6_noteVictim cX6_noteVictim 4 (some .int) ∈ wA := wA_of (w := Cond.code yX6_noteVictim cX6_noteVictim 4 (some .int)) (List.mem_append_right _ (List.mem_append_right _ (List.mem_append_right _ (List.mem_of_getElem? (i := 134) rfl)))) rfl
theorem tw_4_135 : Cond.methodLink RX6 219 yX6_note ∈ wA := wA_of (w := Cond.methodLink RX6 219 yX6_note) (List.mem_append_right _ (List.mem_append_right _ (List.mem_append_right _ (List.mem_of_getElem? (i := 135) rfl)))) rfl
theorem tw_4_137 : Cond.instanceMethod yX6_note ∈ wA := wA_of (w := Cond.instanceMethod yX6_note) (List.mem_append_right _ (List.mem_append_right _ (List.mem_append_right _ (List.mem_of_getElem? (i := 137) rfl)))) rfl
theorem tw_4_138 : Cond.code yX6_note cX6_note 3 none ∈ wA := wA_of (w := Cond.code yX6_note cX6_note 3 none) (List.mem_append_right _ (List.mem_append_right _ (List.mem_append_right _ (List.mem_of_getElem? (i := 138) rfl)))) rfl
theorem tw_4_139 : Cond.constantLong RX6 213 (31 : Int64) ∈ wA := wA_of (w := Cond.constantLong RX6 213 (31 : Int64)) (List.mem_append_right _ (List.mem_append_right _ (List.mem_append_right _ (List.mem_of_getElem? (i := 139) rfl)))) rfl
theorem tw_4_140 : Cond.fieldLink RJ0 9 "java/lang/String" "value" "[B" ∈ wA := wA_of (w := Cond.fieldLink RJ0 9 "java/lang/String" "value" "[B") (List.mem_append_right _ (List.mem_append_right _ (List.mem_append_right _ (List.mem_of_getElem? (i := 140) rfl)))) rfl
theorem tw_4_141 : Cond.fieldLink RJ0 15 "java/lang/String" "coder" "B" ∈ wA := wA_of (w := Cond.fieldLink RJ0 15 "java/lang/String" "coder" "B") (List.mem_append_right _ (List.mem_append_right _ (List.mem_append_right _ (List.mem_of_getElem? (i := 141) rfl)))) rfl
theorem tw_p0 : Cond.selects RX5 yX5_digitAt yX5_digitAt ∈ wA := wA_sel (q := (yX5_digitAt, _)) (List.mem_append_left _ (List.mem_of_getElem? (i := 0) rfl))
theorem tw_p1 : Cond.selects RX5 yX5_isVictim yX5_isVictim ∈ wA := wA_sel (q := (yX5_isVictim, _)) (List.mem_append_left _ (List.mem_of_getElem? (i := 1) rfl))
theorem tw_p2 : Cond.selects RX5 yX5_isConvict yX5_isConvict ∈ wA := wA_sel (q := (yX5_isConvict, _)) (List.mem_append_left _ (List.mem_of_getElem? (i := 2) rfl))
theorem tw_p3 : Cond.selects RX1 yX1_take yX1_take ∈ wA := wA_sel (q := (yX1_take, _)) (List.mem_append_left _ (List.mem_of_getElem? (i := 3) rfl))
theorem tw_p4 : Cond.selects RX1 yX1_mostAmong yX1_mostAmong ∈ wA := wA_sel (q := (yX1_mostAmong, _)) (List.mem_append_left _ (List.mem_of_getElem? (i := 4) rfl))
theorem tw_p5 : Cond.selects RX1 yX1_firstSayer yX1_firstSayer ∈ wA := wA_sel (q := (yX1_firstSayer, _)) (List.mem_append_left _ (List.mem_of_getElem? (i := 5) rfl))
theorem tw_p6 : Cond.selects RX4 yX4_talk yX4_talk ∈ wA := wA_sel (q := (yX4_talk, _)) (List.mem_append_left _ (List.mem_of_getElem? (i := 6) rfl))
theorem tw_p7 : Cond.selects RX4 yX4_draw yX4_draw ∈ wA := wA_sel (q := (yX4_draw, _)) (List.mem_append_left _ (List.mem_of_getElem? (i := 7) rfl))
theorem tw_p8 : Cond.selects RX5 yX5_withVictim yX5_withVictim ∈ wA := wA_sel (q := (yX5_withVictim, _)) (List.mem_append_left _ (List.mem_of_getElem? (i := 8) rfl))
theorem tw_p9 : Cond.selects RX6 yX6_faultOf yX6_faultOf ∈ wA := wA_sel (q := (yX6_faultOf, _)) (List.mem_append_left _ (List.mem_of_getElem? (i := 9) rfl))
theorem tw_p10 : Cond.selects RX6 yX6_trueAll yX6_trueAll ∈ wA := wA_sel (q := (yX6_trueAll, _)) (List.mem_append_left _ (List.mem_of_getElem? (i := 10) rfl))
theorem tw_p11 : Cond.selects RX6 yX6_isVictim yX6_isVictim ∈ wA := wA_sel (q := (yX6_isVictim, _)) (List.mem_append_left _ (List.mem_of_getElem? (i := 11) rfl))
theorem tw_p12 : Cond.selects RX6 yX6_tellVictim yX6_tellVictim ∈ wA := wA_sel (q := (yX6_tellVictim, _)) (List.mem_append_left _ (List.mem_of_getElem? (i := 12) rfl))
theorem tw_p13 : Cond.selects RX6 yX6_isConvict yX6_isConvict ∈ wA := wA_sel (q := (yX6_isConvict, _)) (List.mem_append_left _ (List.mem_of_getElem? (i := 13) rfl))
theorem tw_p14 : Cond.selects RX6 yX6_tell yX6_tell ∈ wA := wA_sel (q := (yX6_tell, _)) (List.mem_append_left _ (List.mem_of_getElem? (i := 14) rfl))
theorem tw_p15 : Cond.selects RX6 yX6_leftOf yX6_leftOf ∈ wA := wA_sel (q := (yX6_leftOf, _)) (List.mem_append_left _ (List.mem_of_getElem? (i := 15) rfl))
theorem tw_p16 : Cond.selects RX6 yX6_daysOf yX6_daysOf ∈ wA := wA_sel (q := (yX6_daysOf, _)) (List.mem_append_right _ (List.mem_append_left _ (List.mem_of_getElem? (i := 0) rfl)))
theorem tw_p17 : Cond.selects RX6 yX6_needsOf yX6_needsOf ∈ wA := wA_sel (q := (yX6_needsOf, _)) (List.mem_append_right _ (List.mem_append_left _ (List.mem_of_getElem? (i := 1) rfl)))
theorem tw_p18 : Cond.selects RX6 yX6_findOf yX6_findOf ∈ wA := wA_sel (q := (yX6_findOf, _)) (List.mem_append_right _ (List.mem_append_left _ (List.mem_of_getElem? (i := 2) rfl)))
theorem tw_p19 : Cond.selects RX6 yX6_knows yX6_knows ∈ wA := wA_sel (q := (yX6_knows, _)) (List.mem_append_right _ (List.mem_append_left _ (List.mem_of_getElem? (i := 3) rfl)))
theorem tw_p20 : Cond.selects RX6 yX6_says yX6_says ∈ wA := wA_sel (q := (yX6_says, _)) (List.mem_append_right _ (List.mem_append_left _ (List.mem_of_getElem? (i := 4) rfl)))
theorem tw_p21 : Cond.selects RX6 yX6_sleep yX6_sleep ∈ wA := wA_sel (q := (yX6_sleep, _)) (List.mem_append_right _ (List.mem_append_left _ (List.mem_of_getElem? (i := 5) rfl)))
theorem tw_p22 : Cond.selects RX6 yX6_mostOf yX6_mostOf ∈ wA := wA_sel (q := (yX6_mostOf, _)) (List.mem_append_right _ (List.mem_append_left _ (List.mem_of_getElem? (i := 6) rfl)))
theorem tw_p23 : Cond.selects RX6 yX6_layMost yX6_layMost ∈ wA := wA_sel (q := (yX6_layMost, _)) (List.mem_append_right _ (List.mem_append_left _ (List.mem_of_getElem? (i := 7) rfl)))
theorem tw_p24 : Cond.selects RX6 yX6_saidBy yX6_saidBy ∈ wA := wA_sel (q := (yX6_saidBy, _)) (List.mem_append_right _ (List.mem_append_left _ (List.mem_of_getElem? (i := 8) rfl)))
theorem tw_p25 : Cond.selects RX6 yX6_needsAll yX6_needsAll ∈ wA := wA_sel (q := (yX6_needsAll, _)) (List.mem_append_right _ (List.mem_append_left _ (List.mem_of_getElem? (i := 9) rfl)))
theorem tw_p26 : Cond.selects RX6 yX6_truthsOf yX6_truthsOf ∈ wA := wA_sel (q := (yX6_truthsOf, _)) (List.mem_append_right _ (List.mem_append_left _ (List.mem_of_getElem? (i := 10) rfl)))
theorem tw_p27 : Cond.selects RX6 yX6_isTried yX6_isTried ∈ wA := wA_sel (q := (yX6_isTried, _)) (List.mem_append_right _ (List.mem_append_left _ (List.mem_of_getElem? (i := 11) rfl)))
theorem tw_p28 : Cond.selects RX6 yX6_attemptOf yX6_attemptOf ∈ wA := wA_sel (q := (yX6_attemptOf, _)) (List.mem_append_right _ (List.mem_append_left _ (List.mem_of_getElem? (i := 12) rfl)))
theorem tw_p29 : Cond.selects RX6 yX6_dayOf yX6_dayOf ∈ wA := wA_sel (q := (yX6_dayOf, _)) (List.mem_append_right _ (List.mem_append_left _ (List.mem_of_getElem? (i := 13) rfl)))
theorem tw_p30 : Cond.selects RX6 yX6_draw yX6_draw ∈ wA := wA_sel (q := (yX6_draw, _)) (List.mem_append_right _ (List.mem_append_left _ (List.mem_of_getElem? (i := 14) rfl)))
theorem tw_p31 : Cond.selects RX6 yX6_paidMany yX6_paidMany ∈ wA := wA_sel (q := (yX6_paidMany, _)) (List.mem_append_right _ (List.mem_append_left _ (List.mem_of_getElem? (i := 15) rfl)))
theorem tw_p32 : Cond.selects RX6 yX6_countOf yX6_countOf ∈ wA := wA_sel (q := (yX6_countOf, _)) (List.mem_append_right _ (List.mem_append_right _ (List.mem_of_getElem? (i := 0) rfl)))
theorem tw_p33 : Cond.selects RX6 yX6_finesAll yX6_finesAll ∈ wA := wA_sel (q := (yX6_finesAll, _)) (List.mem_append_right _ (List.mem_append_right _ (List.mem_of_getElem? (i := 1) rfl)))
theorem tw_p34 : Cond.selects RX6 yX6_noteVictim yX6_noteVictim ∈ wA := wA_sel (q := (yX6_noteVictim, _)) (List.mem_append_right _ (List.mem_append_right _ (List.mem_of_getElem? (i := 2) rfl)))
theorem tw_p35 : Cond.selects RX6 yX6_note yX6_note ∈ wA := wA_sel (q := (yX6_note, _)) (List.mem_append_right _ (List.mem_append_right _ (List.mem_of_getElem? (i := 3) rfl)))
theorem inAX0 : ∀ k, k < 6 → u_lay RX0 TX0 k ∈ wA := fun k hk => match k, hk with
  | 0, _ => tw_1_80
  | 1, _ => tw_1_82
  | 2, _ => tw_1_84
  | 3, _ => tw_1_86
  | 4, _ => tw_1_88
  | 5, _ => tw_1_90
  | k + 6, h => absurd h (by omega)
theorem inWX0 {y : MethodName} {cc : ByteArray} {nL : Nat} {ret : Option FieldType} : ∀ w ∈ u_ws RX0 TX0 6, w ∈ wY y cc nL ret := fun w hw => by
  obtain ⟨k, hk, rfl⟩ := List.mem_map.mp hw
  exact List.mem_cons_of_mem _ (inAX0 k (List.mem_range.mp hk))
theorem inAX1 : ∀ k, k < 3 → u_lay RX1 TX1 k ∈ wA := fun k hk => match k, hk with
  | 0, _ => tw_1_152
  | 1, _ => tw_1_154
  | 2, _ => tw_1_156
  | k + 3, h => absurd h (by omega)
theorem inWX1 {y : MethodName} {cc : ByteArray} {nL : Nat} {ret : Option FieldType} : ∀ w ∈ u_ws RX1 TX1 3, w ∈ wY y cc nL ret := fun w hw => by
  obtain ⟨k, hk, rfl⟩ := List.mem_map.mp hw
  exact List.mem_cons_of_mem _ (inAX1 k (List.mem_range.mp hk))
theorem inAX2 : ∀ k, k < 6 → u_lay RX2 TX2 k ∈ wA := fun k hk => match k, hk with
  | 0, _ => tw_1_109
  | 1, _ => tw_1_111
  | 2, _ => tw_1_113
  | 3, _ => tw_1_115
  | 4, _ => tw_1_117
  | 5, _ => tw_1_119
  | k + 6, h => absurd h (by omega)
theorem inWX2 {y : MethodName} {cc : ByteArray} {nL : Nat} {ret : Option FieldType} : ∀ w ∈ u_ws RX2 TX2 6, w ∈ wY y cc nL ret := fun w hw => by
  obtain ⟨k, hk, rfl⟩ := List.mem_map.mp hw
  exact List.mem_cons_of_mem _ (inAX2 k (List.mem_range.mp hk))
theorem inAX3 : ∀ k, k < 4 → u_lay RX3 TX3 k ∈ wA := fun k hk => match k, hk with
  | 0, _ => tw_1_46
  | 1, _ => tw_1_48
  | 2, _ => tw_1_50
  | 3, _ => tw_1_52
  | k + 4, h => absurd h (by omega)
theorem inWX3 {y : MethodName} {cc : ByteArray} {nL : Nat} {ret : Option FieldType} : ∀ w ∈ u_ws RX3 TX3 4, w ∈ wY y cc nL ret := fun w hw => by
  obtain ⟨k, hk, rfl⟩ := List.mem_map.mp hw
  exact List.mem_cons_of_mem _ (inAX3 k (List.mem_range.mp hk))
theorem inAX4 : ∀ k, k < 3 → u_lay RX4 TX4 k ∈ wA := fun k hk => match k, hk with
  | 0, _ => tw_1_136
  | 1, _ => tw_1_138
  | 2, _ => tw_1_140
  | k + 3, h => absurd h (by omega)
theorem inWX4 {y : MethodName} {cc : ByteArray} {nL : Nat} {ret : Option FieldType} : ∀ w ∈ u_ws RX4 TX4 3, w ∈ wY y cc nL ret := fun w hw => by
  obtain ⟨k, hk, rfl⟩ := List.mem_map.mp hw
  exact List.mem_cons_of_mem _ (inAX4 k (List.mem_range.mp hk))
theorem inAX5 : ∀ k, k < 9 → u_lay RX5 TX5 k ∈ wA := fun k hk => match k, hk with
  | 0, _ => tw_1_169
  | 1, _ => tw_1_171
  | 2, _ => tw_1_173
  | 3, _ => tw_1_175
  | 4, _ => tw_1_177
  | 5, _ => tw_1_179
  | 6, _ => tw_1_181
  | 7, _ => tw_1_183
  | 8, _ => tw_1_185
  | k + 9, h => absurd h (by omega)
theorem inWX5 {y : MethodName} {cc : ByteArray} {nL : Nat} {ret : Option FieldType} : ∀ w ∈ u_ws RX5 TX5 9, w ∈ wY y cc nL ret := fun w hw => by
  obtain ⟨k, hk, rfl⟩ := List.mem_map.mp hw
  exact List.mem_cons_of_mem _ (inAX5 k (List.mem_range.mp hk))
theorem inAX6 : ∀ k, k < 27 → u_lay RX6 TX6 k ∈ wA := fun k hk => match k, hk with
  | 0, _ => tw_3_97
  | 1, _ => tw_3_99
  | 2, _ => tw_3_101
  | 3, _ => tw_3_103
  | 4, _ => tw_3_105
  | 5, _ => tw_3_107
  | 6, _ => tw_3_109
  | 7, _ => tw_3_111
  | 8, _ => tw_3_113
  | 9, _ => tw_3_115
  | 10, _ => tw_3_117
  | 11, _ => tw_3_119
  | 12, _ => tw_3_121
  | 13, _ => tw_3_123
  | 14, _ => tw_3_125
  | 15, _ => tw_3_127
  | 16, _ => tw_3_129
  | 17, _ => tw_3_131
  | 18, _ => tw_3_133
  | 19, _ => tw_3_135
  | 20, _ => tw_3_137
  | 21, _ => tw_3_139
  | 22, _ => tw_3_141
  | 23, _ => tw_3_143
  | 24, _ => tw_3_145
  | 25, _ => tw_3_147
  | 26, _ => tw_3_149
  | k + 27, h => absurd h (by omega)
theorem inWX6 {y : MethodName} {cc : ByteArray} {nL : Nat} {ret : Option FieldType} : ∀ w ∈ u_ws RX6 TX6 27, w ∈ wY y cc nL ret := fun w hw => by
  obtain ⟨k, hk, rfl⟩ := List.mem_map.mp hw
  exact List.mem_cons_of_mem _ (inAX6 k (List.mem_range.mp hk))
end
section
/-! THE LAYER. A memory is rows of ints by cell number, and one long; the world is its cells at fixed addresses; a method's answer is a pure Option: what is none is never asked for. -/
abbrev Mem : Type := (Nat → Nat → Int32) × Int64
def u2 (M : Mem) (i k : Nat) (x : Int32) : Mem := (fun j => if j = i then upd (M.1 i) k x else M.1 j, M.2)
def uh (M : Mem) (h : Int64) : Mem := (M.1, h)
abbrev KyG : Type := Launch × va_G × (Nat → Nat) × Nat × ((Nat → Int32) → Int64 → Nat → va_E) × List (ClassId × FieldType) × (State → Prop)
abbrev gL (G : KyG) : Launch := G.1
abbrev gD (G : KyG) : va_G := G.2.1
abbrev gA (G : KyG) : Nat → Nat := G.2.2.1
abbrev gN (G : KyG) : Nat := G.2.2.2.1
abbrev gW (G : KyG) : (Nat → Int32) → Int64 → Nat → va_E := G.2.2.2.2.1
abbrev gT (G : KyG) : List (ClassId × FieldType) := G.2.2.2.2.2.1
abbrev gX (G : KyG) : State → Prop := G.2.2.2.2.2.2
abbrev KyE : Type := Program × Env × State × MethodId × Array Value × List Frame × Method × Code × Room
abbrev eS (E : KyE) : State := E.2.2.1
def wG (G : KyG) (M : Mem) : va_W := (List.range (gN G)).map (fun i => (gA G i, gW G (M.1 i) M.2 i))
def aG (G : KyG) : Nat → Prop := fun q => ∃ i, i < gN G ∧ gA G i = q
def GOK (G : KyG) : Prop := (∀ i j, i < gN G → j < gN G → gA G i = gA G j → i = j) ∧ (∀ u U : State, U.vm = u.vm → U.heap = u.heap → gX G u → gX G U) ∧ (∀ u U : State, u.WarmedH U.vm → (∀ q : Nat, q < u.heap.size → ¬ aG G q → U.heap[q]? = u.heap[q]?) → gX G u → gX G U)
theorem wG_get {G : KyG} {M : Mem} {i : Nat} (h : i < gN G) : (wG G M)[i]? = some (gA G i, gW G (M.1 i) M.2 i) := by
  simp [wG, h]
theorem wG_some {G : KyG} {M : Mem} {i : Nat} {q : Nat × va_E} (h : (wG G M)[i]? = some q) : i < gN G ∧ q = (gA G i, gW G (M.1 i) M.2 i) := by
  by_cases hi : i < gN G
  · rw [wG_get hi] at h
    exact ⟨hi, (Option.some.inj h).symm⟩
  · simp [wG, hi] at h
theorem wG_D {G : KyG} {M : Mem} (h : GOK G) : va_D (aG G) (wG G M) := by
  refine ⟨fun i j p q hi hj e => ?_, fun k q hk => ?_⟩
  · obtain ⟨h1, rfl⟩ := wG_some hi
    obtain ⟨h2, rfl⟩ := wG_some hj
    exact h.1 i j h1 h2 e
  · obtain ⟨h1, rfl⟩ := wG_some hk
    exact ⟨k, h1, rfl⟩
theorem wG_set {G : KyG} {M M' : Mem} {i : Nat} {e : va_E} (hi : i < gN G) (h1 : gW G (M'.1 i) M'.2 i = e) (h2 : ∀ j, j < gN G → j ≠ i → gW G (M'.1 j) M'.2 j = gW G (M.1 j) M.2 j) : (wG G M).set i (gA G i, e) = wG G M' := by
  refine List.ext_getElem? (fun j => ?_)
  by_cases hj : j < gN G
  · by_cases hji : j = i
    · subst hji
      rw [List.getElem?_set_self (by simp [wG, hj]), wG_get hj, h1]
    · rw [List.getElem?_set_ne (Ne.symm hji), wG_get hj, wG_get hj, h2 j hj hji]
  · have a1 : ((wG G M).set i (gA G i, e))[j]? = none := by simp [wG, hj]
    have a2 : (wG G M')[j]? = none := by simp [wG, hj]
    rw [a1, a2]
theorem u2_self {M : Mem} {i k : Nat} {x : Int32} : (u2 M i k x).1 i = upd (M.1 i) k x := if_pos rfl
theorem u2_ne {M : Mem} {i j k : Nat} {x : Int32} (h : j ≠ i) : (u2 M i k x).1 j = M.1 j := if_neg h
theorem wG_u2 {G : KyG} {M : Mem} {i k : Nat} {x : Int32} {e : va_E} (hi : i < gN G) (h1 : gW G (upd (M.1 i) k x) M.2 i = e) : (wG G M).set i (gA G i, e) = wG G (u2 M i k x) :=
  wG_set hi (by rw [u2_self]; exact h1) (fun j _ hj => by rw [u2_ne hj]; rfl)
def Cx (G : KyG) (E : KyE) (cc : ByteArray) (nL : Nat) (own : String) (Ts : List Cond) (ret : Option FieldType) (rm : Room) : Prop :=
  CallFix E.1 E.2.2.2.1 E.2.2.2.2.2.2.2.1 cc nL E.2.2.1 E.2.2.2.2.1 Ts own ∧ E.2.2.2.2.2.2.1.sig.returnType = ret ∧ E.2.2.2.2.2.2.1.locks = false ∧ va_K (gD G) vwCl (gT G) E.2.2.1 ∧ gX G E.2.2.1 ∧ E.2.2.2.2.2.2.2.2 = rm ∧ GOK G
abbrev WE (G : KyG) (E : KyE) (H : Heap) (locs : List Loc) (Q : State → Prop) (g : JFrame) : Prop := W E.1 (gL G) E.2.1 E.2.2.2.2.2.2.2.2 E.2.2.1 E.2.2.2.1 E.2.2.2.2.1 E.2.2.2.2.2.1 E.2.2.2.2.2.2.1 E.2.2.2.2.2.2.2.1 H locs 0 0 Q g
def Qr (G : KyG) (v : Option Value) (M : Mem) : Array Value → State → Outcome → State → Prop := fun _ st oc t => oc = .returned v ∧ va_P (gD G) vwCl (wG G M) t.heap ∧ va_F (aG G) st t
/-- from pc, with these locals and this stack, over this memory: if the answer is some, the method ends with it -/
def Wo {ρ : Type} (G : KyG) (E : KyE) (nL : Nat) (rv : ρ → Option Value) (o : Option (ρ × Mem)) (M : Mem) (pc : Nat) (lv : List (Nat × Value)) (st : List Value) : Prop :=
  ∀ (r : ρ) (M' : Mem), o = some (r, M') → ∀ (H : Heap) (locs : List Loc) (ls : Array Slot), va_P (gD G) vwCl (wG G M) H → va_S (aG G) E.2.2.1.heap H locs → lv_has ls nL lv → WE G E H locs (MQ E.2.2.2.2.2.1 (Qr G (rv r) M') E.2.2.2.2.1 E.2.2.1 0 0 (aG G)) (F0 E.2.2.2.1 pc ls st)
/-- a contract -/
def Ct {ρ : Type} (G : KyG) (y : MethodName) (ws : List Cond) (rm : Room) (rv : ρ → Option Value) (av : List Value) (o : Option (ρ × Mem)) (M : Mem) : Prop :=
  ∀ (r : ρ) (M' : Mem), o = some (r, M') → Met (gL G) y ws rm (va_Pc av (fun U => va_P (gD G) vwCl (wG G M) U.heap ∧ va_K (gD G) vwCl (gT G) U ∧ gX G U)) (Qr G (rv r) M') 0 0 (aG G)
abbrev rI : Int32 → Option Value := fun r => some (.int r)
abbrev rL : Int64 → Option Value := fun r => some (.long r)
abbrev rV : Unit → Option Value := fun _ => none
def nm {α β : Type} (x : α) (k : α → β) : β := k x
def gi {α : Type} (i : Int32) (n : Nat) (k : Option α) : Option α := if i < 0 ∨ n ≤ i.toNatClampNeg then none else k
def gb {α : Type} (x : Int32) (k : Option α) : Option α := if x = 0 ∨ x = 1 then k else none
def bd {ρ ρ' : Type} (o : Option (ρ × Mem)) (k : ρ → Mem → Option (ρ' × Mem)) : Option (ρ' × Mem) := match o with
  | none => none
  | some q => k q.1 q.2
theorem gi_some {α : Type} {i : Int32} {n : Nat} {k : Option α} {a : α} (h : gi i n k = some a) : vp_in i n ∧ k = some a := by
  unfold gi at h
  by_cases hc : i < 0 ∨ n ≤ i.toNatClampNeg
  · rw [if_pos hc] at h; cases h
  · rw [if_neg hc] at h; exact ⟨hc, h⟩
theorem gb_some {α : Type} {x : Int32} {k : Option α} {a : α} (h : gb x k = some a) : (x = 0 ∨ x = 1) ∧ k = some a := by
  unfold gb at h
  by_cases hc : x = 0 ∨ x = 1
  · rw [if_pos hc] at h; exact ⟨hc, h⟩
  · rw [if_neg hc] at h; cases h
theorem Ct_of {ρ : Type} {G : KyG} {y : MethodName} {ws ws' : List Cond} {rm : Room} {rv : ρ → Option Value} {av : List Value} {o : Option (ρ × Mem)} {M : Mem} (cc : ByteArray) (nL : Nat) (ret : Option FieldType) (own : String) {lv : List (Nat × Value)} (hG : GOK G) (hy : plainName y.cls = true) (hw : ws = Cond.code y cc nL ret :: ws') (ho : y.cls = own) (hn : (lg_sl av).length ≤ nL) (hlv : lv_args 0 av = lv)
    (body : ∀ E : KyE, Cx G E cc nL own ws ret rm → Wo G E nL rv o M 0 lv []) : Ct G y ws rm rv av o M := by
  intro r M' h
  refine Met.ofW (cc := cc) (maxL := nL) (ret := ret) hy hw ?_
  intro p e s m args below meth c s₁ B hml hv
  obtain ⟨rfl, hP, hK, hX⟩ := hv
  have hl := lv_entry av (n := nL) hn
  rw [hlv] at hl
  rw [lg_entry_eq]
  exact body (p, e, s, m, av.toArray, below, meth, c, (headSpec ws rm).room) ⟨⟨B.exec, B.bytes, hml, by rw [← ho]; exact findClass_of_methodNamed B.named, atoms_spec (ws := ws) B.pre⟩, B.returns, B.notSynchronized, hK, hX, rfl, hG⟩ r M' h _ _ _ hP va_S.rf hl
section KYS
variable {ρ : Type} {G : KyG} {E : KyE} {cc : ByteArray} {nL : Nat} {own : String} {Ts : List Cond} {ret : Option FieldType} {rm : Room} {rv : ρ → Option Value} {o o1 o2 : Option (ρ × Mem)} {M : Mem} {pc : Nat} {lv : List (Nat × Value)} {st : List Value}
theorem ky_none : Wo G E nL rv (none : Option (ρ × Mem)) M pc lv st := fun _ _ h => by cases h
theorem ky_sub {lv' : List (Nat × Value)} (ks : List Nat) (hl : lv_pick lv ks = lv') (k : Wo G E nL rv o M pc lv' st) : Wo G E nL rv o M pc lv st := fun r M' h H locs ls hP hS hv => k r M' h H locs ls hP hS (lv_sub hv ks hl)
theorem ky_aload_n (C : Cx G E cc nL own Ts ret rm) {k : Fin 4} {x : Nat} (d : decode cc pc = .ok (.aload_n k, 1)) (j : Nat) (hj : lv[j]? = some (k.val, .ref x)) (kk : Wo G E nL rv o M (pc + 1) lv (.ref x :: st)) : Wo G E nL rv o M pc lv st := fun r M' h H locs ls hP hS hv => lv_aload_n C.1.1 C.1.2.1 d rfl (lv_at hv j hj) (kk r M' h H locs ls hP hS hv)
theorem ky_aload (C : Cx G E cc nL own Ts ret rm) {k : Nat} {x : Nat} (d : decode cc pc = .ok (.aload k, 2)) (j : Nat) (hj : lv[j]? = some (k, .ref x)) (kk : Wo G E nL rv o M (pc + 2) lv (.ref x :: st)) : Wo G E nL rv o M pc lv st := fun r M' h H locs ls hP hS hv => lv_aload C.1.1 C.1.2.1 d (lv_at hv j hj) (kk r M' h H locs ls hP hS hv)
theorem ky_iload_n (C : Cx G E cc nL own Ts ret rm) {k : Fin 4} {x : Int32} (d : decode cc pc = .ok (.iload_n k, 1)) (j : Nat) (hj : lv[j]? = some (k.val, .int x)) (kk : Wo G E nL rv o M (pc + 1) lv (.int x :: st)) : Wo G E nL rv o M pc lv st := fun r M' h H locs ls hP hS hv => lv_iload_n C.1.1 C.1.2.1 d rfl (lv_at hv j hj) (kk r M' h H locs ls hP hS hv)
theorem ky_iload (C : Cx G E cc nL own Ts ret rm) {k : Nat} {x : Int32} (d : decode cc pc = .ok (.iload k, 2)) (j : Nat) (hj : lv[j]? = some (k, .int x)) (kk : Wo G E nL rv o M (pc + 2) lv (.int x :: st)) : Wo G E nL rv o M pc lv st := fun r M' h H locs ls hP hS hv => lv_iload C.1.1 C.1.2.1 d (lv_at hv j hj) (kk r M' h H locs ls hP hS hv)
theorem ky_lload_n (C : Cx G E cc nL own Ts ret rm) {k : Fin 4} {x : Int64} (d : decode cc pc = .ok (.lload_n k, 1)) (j : Nat) (hj : lv[j]? = some (k.val, .long x)) (kk : Wo G E nL rv o M (pc + 1) lv (.long x :: st)) : Wo G E nL rv o M pc lv st := fun r M' h H locs ls hP hS hv => lv_lload_n C.1.1 C.1.2.1 d rfl (lv_at hv j hj) (kk r M' h H locs ls hP hS hv)
theorem ky_lload (C : Cx G E cc nL own Ts ret rm) {k : Nat} {x : Int64} (d : decode cc pc = .ok (.lload k, 2)) (j : Nat) (hj : lv[j]? = some (k, .long x)) (kk : Wo G E nL rv o M (pc + 2) lv (.long x :: st)) : Wo G E nL rv o M pc lv st := fun r M' h H locs ls hP hS hv => lv_lload C.1.1 C.1.2.1 d (lv_at hv j hj) (kk r M' h H locs ls hP hS hv)
/-- a number gets a name -/
theorem ky_nmi {x : Int32} {K : Int32 → Option (ρ × Mem)} (kk : ∀ y : Int32, Wo G E nL rv (K y) M pc lv (.int y :: st)) : Wo G E nL rv (nm x K) M pc lv (.int x :: st) := kk x
theorem ky_nml {x : Int64} {K : Int64 → Option (ρ × Mem)} (kk : ∀ y : Int64, Wo G E nL rv (K y) M pc lv (.long y :: st)) : Wo G E nL rv (nm x K) M pc lv (.long x :: st) := kk x
theorem ky_istore_n (C : Cx G E cc nL own Ts ret rm) {k : Fin 4} {x : Int32} {lv' : List (Nat × Value)} (d : decode cc pc = .ok (.istore_n k, 1)) (hn : k.val < nL) (hl : (k.val, Value.int x) :: lv.filter (fun q => !(q.1 == k.val) && !(q.1 + 1 == k.val && q.2.category == 2)) = lv') (kk : Wo G E nL rv o M (pc + 1) lv' st) : Wo G E nL rv o M pc lv (.int x :: st) := fun r M' h H locs ls hP hS hv => lv_istore_n C.1.1 C.1.2.1 d rfl hv hn hl (fun ls' h' => kk r M' h H locs ls' hP hS h')
theorem ky_istore (C : Cx G E cc nL own Ts ret rm) {k : Nat} {x : Int32} {lv' : List (Nat × Value)} (d : decode cc pc = .ok (.istore k, 2)) (hn : k < nL) (hl : (k, Value.int x) :: lv.filter (fun q => !(q.1 == k) && !(q.1 + 1 == k && q.2.category == 2)) = lv') (kk : Wo G E nL rv o M (pc + 2) lv' st) : Wo G E nL rv o M pc lv (.int x :: st) := fun r M' h H locs ls hP hS hv => lv_istore C.1.1 C.1.2.1 d hv hn hl (fun ls' h' => kk r M' h H locs ls' hP hS h')
theorem ky_astore_n (C : Cx G E cc nL own Ts ret rm) {k : Fin 4} {x : Nat} {lv' : List (Nat × Value)} (d : decode cc pc = .ok (.astore_n k, 1)) (hn : k.val < nL) (hl : (k.val, Value.ref x) :: lv.filter (fun q => !(q.1 == k.val) && !(q.1 + 1 == k.val && q.2.category == 2)) = lv') (kk : Wo G E nL rv o M (pc + 1) lv' st) : Wo G E nL rv o M pc lv (.ref x :: st) := fun r M' h H locs ls hP hS hv => lv_astore_n C.1.1 C.1.2.1 d rfl hv hn hl (fun ls' h' => kk r M' h H locs ls' hP hS h')
theorem ky_astore (C : Cx G E cc nL own Ts ret rm) {k : Nat} {x : Nat} {lv' : List (Nat × Value)} (d : decode cc pc = .ok (.astore k, 2)) (hn : k < nL) (hl : (k, Value.ref x) :: lv.filter (fun q => !(q.1 == k) && !(q.1 + 1 == k && q.2.category == 2)) = lv') (kk : Wo G E nL rv o M (pc + 2) lv' st) : Wo G E nL rv o M pc lv (.ref x :: st) := fun r M' h H locs ls hP hS hv => lv_astore C.1.1 C.1.2.1 d hv hn hl (fun ls' h' => kk r M' h H locs ls' hP hS h')
theorem ky_lstore_n (C : Cx G E cc nL own Ts ret rm) {k : Fin 4} {x : Int64} {lv' : List (Nat × Value)} (d : decode cc pc = .ok (.lstore_n k, 1)) (hn : k.val + 1 < nL) (hl : (k.val, Value.long x) :: lv.filter (fun q => !(q.1 == k.val) && (!(q.1 == k.val + 1) && !(q.1 + 1 == k.val && q.2.category == 2))) = lv') (kk : Wo G E nL rv o M (pc + 1) lv' st) : Wo G E nL rv o M pc lv (.long x :: st) := fun r M' h H locs ls hP hS hv => lv_lstore_n C.1.1 C.1.2.1 d rfl hv hn hl (fun ls' h' => kk r M' h H locs ls' hP hS h')
theorem ky_lstore (C : Cx G E cc nL own Ts ret rm) {k : Nat} {x : Int64} {lv' : List (Nat × Value)} (d : decode cc pc = .ok (.lstore k, 2)) (hn : k + 1 < nL) (hl : (k, Value.long x) :: lv.filter (fun q => !(q.1 == k) && (!(q.1 == k + 1) && !(q.1 + 1 == k && q.2.category == 2))) = lv') (kk : Wo G E nL rv o M (pc + 2) lv' st) : Wo G E nL rv o M pc lv (.long x :: st) := fun r M' h H locs ls hP hS hv => lv_lstore C.1.1 C.1.2.1 d hv hn hl (fun ls' h' => kk r M' h H locs ls' hP hS h')
theorem ky_iinc (C : Cx G E cc nL own Ts ret rm) {k : Nat} {n : Int} {x d1 : Int32} {lv' : Int32 → List (Nat × Value)} {K : Int32 → Option (ρ × Mem)} (d : decode cc pc = .ok (.iinc k n, 3)) (j : Nat) (hj : lv[j]? = some (k, .int x)) (hd : Int32.ofInt n = d1) (hn : k < nL) (hl : ∀ y : Int32, (k, Value.int y) :: lv.filter (fun q => !(q.1 == k) && !(q.1 + 1 == k && q.2.category == 2)) = lv' y) (kk : ∀ y : Int32, Wo G E nL rv (K y) M (pc + 3) (lv' y) st) : Wo G E nL rv (nm (x + d1) K) M pc lv st := by
  intro r M' h H locs ls hP hS hv
  subst hd
  exact lv_iinc (v := x + Int32.ofInt n) C.1.1 C.1.2.1 d hv hj rfl hn (hl _) (fun ls' h' => kk (x + Int32.ofInt n) r M' h H locs ls' hP hS h')
theorem ky_iconst (C : Cx G E cc nL own Ts ret rm) {n : Int} (v : Int32) (d : decode cc pc = .ok (.iconst n, 1)) (hv : Int32.ofInt n = v) (kk : Wo G E nL rv o M (pc + 1) lv (.int v :: st)) : Wo G E nL rv o M pc lv st := fun r M' h H locs ls hP hS hl => lv_iconst C.1.1 C.1.2.1 d hv (kk r M' h H locs ls hP hS hl)
theorem ky_bipush (C : Cx G E cc nL own Ts ret rm) {n : Int} (v : Int32) (d : decode cc pc = .ok (.bipush n, 2)) (hv : (Int8.ofInt n).toInt32 = v) (kk : Wo G E nL rv o M (pc + 2) lv (.int v :: st)) : Wo G E nL rv o M pc lv st := fun r M' h H locs ls hP hS hl => lv_bipush C.1.1 C.1.2.1 d hv (kk r M' h H locs ls hP hS hl)
theorem ky_sipush (C : Cx G E cc nL own Ts ret rm) {n : Int} (v : Int32) (d : decode cc pc = .ok (.sipush n, 3)) (hv : (Int16.ofInt n).toInt32 = v) (kk : Wo G E nL rv o M (pc + 3) lv (.int v :: st)) : Wo G E nL rv o M pc lv st := fun r M' h H locs ls hP hS hl => lv_sipush C.1.1 C.1.2.1 d hv (kk r M' h H locs ls hP hS hl)
theorem ky_lconst (C : Cx G E cc nL own Ts ret rm) {n : Fin 2} (v : Int64) (d : decode cc pc = .ok (.lconst n, 1)) (hv : Int64.ofNat (n : Nat) = v) (kk : Wo G E nL rv o M (pc + 1) lv (.long v :: st)) : Wo G E nL rv o M pc lv st := fun r M' h H locs ls hP hS hl => lv_lconst C.1.1 C.1.2.1 d hv (kk r M' h H locs ls hP hS hl)
theorem ky_ldc (C : Cx G E cc nL own Ts ret rm) {i : Nat} (v : Int32) (hm : Jvm.Cond.constant own i v ∈ Ts) (d : decode cc pc = .ok (.ldc i, 2)) (kk : Wo G E nL rv o M (pc + 2) lv (.int v :: st)) : Wo G E nL rv o M pc lv st := fun r M' h H locs ls hP hS hl => lv_ldc C.1.1 C.1.2.1 C.1.2.2.2.1 (C.1.2.2.2.2 _ hm) d (kk r M' h H locs ls hP hS hl)
theorem ky_ldcw (C : Cx G E cc nL own Ts ret rm) {i : Nat} (v : Int32) (hm : Jvm.Cond.constant own i v ∈ Ts) (d : decode cc pc = .ok (.ldc_w i, 3)) (kk : Wo G E nL rv o M (pc + 3) lv (.int v :: st)) : Wo G E nL rv o M pc lv st := fun r M' h H locs ls hP hS hl => lv_ldcw C.1.1 C.1.2.1 C.1.2.2.2.1 (C.1.2.2.2.2 _ hm) d (kk r M' h H locs ls hP hS hl)
theorem ky_ldc2 (C : Cx G E cc nL own Ts ret rm) {i : Nat} (v : Int64) (hm : Jvm.Cond.constantLong own i v ∈ Ts) (d : decode cc pc = .ok (.ldc2_w i, 3)) (kk : Wo G E nL rv o M (pc + 3) lv (.long v :: st)) : Wo G E nL rv o M pc lv st := fun r M' h H locs ls hP hS hl => lv_ldc2 C.1.1 C.1.2.1 C.1.2.2.2.1 (C.1.2.2.2.2 _ hm) d (kk r M' h H locs ls hP hS hl)
theorem ky_iadd (C : Cx G E cc nL own Ts ret rm) {x y : Int32} (d : decode cc pc = .ok (.iadd, 1)) (kk : Wo G E nL rv o M (pc + 1) lv (.int (x + y) :: st)) : Wo G E nL rv o M pc lv (.int y :: .int x :: st) := fun r M' h H locs ls hP hS hl => lv_iadd C.1.1 C.1.2.1 d (kk r M' h H locs ls hP hS hl)
theorem ky_isub (C : Cx G E cc nL own Ts ret rm) {x y : Int32} (d : decode cc pc = .ok (.isub, 1)) (kk : Wo G E nL rv o M (pc + 1) lv (.int (x - y) :: st)) : Wo G E nL rv o M pc lv (.int y :: .int x :: st) := fun r M' h H locs ls hP hS hl => lv_isub C.1.1 C.1.2.1 d (kk r M' h H locs ls hP hS hl)
theorem ky_imul (C : Cx G E cc nL own Ts ret rm) {x y : Int32} (d : decode cc pc = .ok (.imul, 1)) (kk : Wo G E nL rv o M (pc + 1) lv (.int (x * y) :: st)) : Wo G E nL rv o M pc lv (.int y :: .int x :: st) := fun r M' h H locs ls hP hS hl => lv_imul C.1.1 C.1.2.1 d (kk r M' h H locs ls hP hS hl)
theorem ky_iand (C : Cx G E cc nL own Ts ret rm) {x y : Int32} (d : decode cc pc = .ok (.iand, 1)) (kk : Wo G E nL rv o M (pc + 1) lv (.int (x &&& y) :: st)) : Wo G E nL rv o M pc lv (.int y :: .int x :: st) := fun r M' h H locs ls hP hS hl => lv_iand C.1.1 C.1.2.1 d (kk r M' h H locs ls hP hS hl)
theorem ky_ior (C : Cx G E cc nL own Ts ret rm) {x y : Int32} (d : decode cc pc = .ok (.ior, 1)) (kk : Wo G E nL rv o M (pc + 1) lv (.int (x ||| y) :: st)) : Wo G E nL rv o M pc lv (.int y :: .int x :: st) := fun r M' h H locs ls hP hS hl => lv_ior C.1.1 C.1.2.1 d (kk r M' h H locs ls hP hS hl)
theorem ky_ixor (C : Cx G E cc nL own Ts ret rm) {x y : Int32} (d : decode cc pc = .ok (.ixor, 1)) (kk : Wo G E nL rv o M (pc + 1) lv (.int (x ^^^ y) :: st)) : Wo G E nL rv o M pc lv (.int y :: .int x :: st) := fun r M' h H locs ls hP hS hl => lv_ixor C.1.1 C.1.2.1 d (kk r M' h H locs ls hP hS hl)
theorem ky_ishl (C : Cx G E cc nL own Ts ret rm) {x y : Int32} (d : decode cc pc = .ok (.ishl, 1)) (kk : Wo G E nL rv o M (pc + 1) lv (.int (x <<< (y &&& 31)) :: st)) : Wo G E nL rv o M pc lv (.int y :: .int x :: st) := fun r M' h H locs ls hP hS hl => lv_ishl C.1.1 C.1.2.1 d (kk r M' h H locs ls hP hS hl)
theorem ky_ishr (C : Cx G E cc nL own Ts ret rm) {x y : Int32} (d : decode cc pc = .ok (.ishr, 1)) (kk : Wo G E nL rv o M (pc + 1) lv (.int (x >>> (y &&& 31)) :: st)) : Wo G E nL rv o M pc lv (.int y :: .int x :: st) := fun r M' h H locs ls hP hS hl => lv_ishr C.1.1 C.1.2.1 d (kk r M' h H locs ls hP hS hl)
theorem ky_iushr (C : Cx G E cc nL own Ts ret rm) {x y : Int32} (d : decode cc pc = .ok (.iushr, 1)) (kk : Wo G E nL rv o M (pc + 1) lv (.int ((x.toUInt32 >>> (y.toUInt32 &&& Int32.toUInt32 31)).toInt32) :: st)) : Wo G E nL rv o M pc lv (.int y :: .int x :: st) := fun r M' h H locs ls hP hS hl => lv_iushr C.1.1 C.1.2.1 d rfl (kk r M' h H locs ls hP hS hl)
theorem ky_idiv (C : Cx G E cc nL own Ts ret rm) {x y : Int32} (d : decode cc pc = .ok (.idiv, 1)) (hne : ¬ y = 0) (kk : Wo G E nL rv o M (pc + 1) lv (.int (x / y) :: st)) : Wo G E nL rv o M pc lv (.int y :: .int x :: st) := fun r M' h H locs ls hP hS hl => lv_idiv C.1.1 C.1.2.1 d hne (kk r M' h H locs ls hP hS hl)
theorem ky_irem (C : Cx G E cc nL own Ts ret rm) {x y : Int32} (d : decode cc pc = .ok (.irem, 1)) (hne : ¬ y = 0) (kk : Wo G E nL rv o M (pc + 1) lv (.int (x - x / y * y) :: st)) : Wo G E nL rv o M pc lv (.int y :: .int x :: st) := fun r M' h H locs ls hP hS hl => lv_irem C.1.1 C.1.2.1 d hne (kk r M' h H locs ls hP hS hl)
/-- a division whose divisor isn't a constant -/
theorem ky_idivG (C : Cx G E cc nL own Ts ret rm) {x y : Int32} (d : decode cc pc = .ok (.idiv, 1)) (kk : Wo G E nL rv o M (pc + 1) lv (.int (x / y) :: st)) : Wo G E nL rv (if y = 0 then none else o) M pc lv (.int y :: .int x :: st) := by
  intro r M' h
  by_cases hy : y = 0
  · rw [if_pos hy] at h; cases h
  · rw [if_neg hy] at h; exact ky_idiv C d hy kk r M' h
theorem ky_iremG (C : Cx G E cc nL own Ts ret rm) {x y : Int32} (d : decode cc pc = .ok (.irem, 1)) (kk : Wo G E nL rv o M (pc + 1) lv (.int (x - x / y * y) :: st)) : Wo G E nL rv (if y = 0 then none else o) M pc lv (.int y :: .int x :: st) := by
  intro r M' h
  by_cases hy : y = 0
  · rw [if_pos hy] at h; cases h
  · rw [if_neg hy] at h; exact ky_irem C d hy kk r M' h
theorem ky_ladd (C : Cx G E cc nL own Ts ret rm) {x y : Int64} (d : decode cc pc = .ok (.ladd, 1)) (kk : Wo G E nL rv o M (pc + 1) lv (.long (x + y) :: st)) : Wo G E nL rv o M pc lv (.long y :: .long x :: st) := fun r M' h H locs ls hP hS hl => lv_ladd C.1.1 C.1.2.1 d (kk r M' h H locs ls hP hS hl)
theorem ky_lmul (C : Cx G E cc nL own Ts ret rm) {x y : Int64} (d : decode cc pc = .ok (.lmul, 1)) (kk : Wo G E nL rv o M (pc + 1) lv (.long (x * y) :: st)) : Wo G E nL rv o M pc lv (.long y :: .long x :: st) := fun r M' h H locs ls hP hS hl => lv_lmul C.1.1 C.1.2.1 d (kk r M' h H locs ls hP hS hl)
theorem ky_land (C : Cx G E cc nL own Ts ret rm) {x y : Int64} (d : decode cc pc = .ok (.land, 1)) (kk : Wo G E nL rv o M (pc + 1) lv (.long (x &&& y) :: st)) : Wo G E nL rv o M pc lv (.long y :: .long x :: st) := fun r M' h H locs ls hP hS hl => lv_land C.1.1 C.1.2.1 d (kk r M' h H locs ls hP hS hl)
theorem ky_lcmp (C : Cx G E cc nL own Ts ret rm) {x y : Int64} (d : decode cc pc = .ok (.lcmp, 1)) (kk : Wo G E nL rv o M (pc + 1) lv (.int (lg_cmp x y) :: st)) : Wo G E nL rv o M pc lv (.long y :: .long x :: st) := fun r M' h H locs ls hP hS hl => W.lcmp C.1.1 C.1.2.1 d (kk r M' h H locs ls hP hS hl)
theorem ky_i2l (C : Cx G E cc nL own Ts ret rm) {x : Int32} (d : decode cc pc = .ok (.i2l, 1)) (kk : Wo G E nL rv o M (pc + 1) lv (.long x.toInt64 :: st)) : Wo G E nL rv o M pc lv (.int x :: st) := fun r M' h H locs ls hP hS hl => lv_i2l C.1.1 C.1.2.1 d rfl (kk r M' h H locs ls hP hS hl)
theorem ky_l2i (C : Cx G E cc nL own Ts ret rm) {x : Int64} (d : decode cc pc = .ok (.l2i, 1)) (kk : Wo G E nL rv o M (pc + 1) lv (.int x.toInt32 :: st)) : Wo G E nL rv o M pc lv (.long x :: st) := fun r M' h H locs ls hP hS hl => lv_l2i C.1.1 C.1.2.1 d rfl (kk r M' h H locs ls hP hS hl)
theorem ky_i2c (C : Cx G E cc nL own Ts ret rm) {x : Int32} (d : decode cc pc = .ok (.i2c, 1)) (kk : Wo G E nL rv o M (pc + 1) lv (.int (x.toUInt32 % 65536).toInt32 :: st)) : Wo G E nL rv o M pc lv (.int x :: st) := fun r M' h H locs ls hP hS hl => lv_i2c C.1.1 C.1.2.1 d rfl (kk r M' h H locs ls hP hS hl)
theorem ky_dup (C : Cx G E cc nL own Ts ret rm) {a : Value} (d : decode cc pc = .ok (.dup, 1)) (ha : a.category = 1) (kk : Wo G E nL rv o M (pc + 1) lv (a :: a :: st)) : Wo G E nL rv o M pc lv (a :: st) := fun r M' h H locs ls hP hS hl => lv_dup C.1.1 C.1.2.1 d ha (kk r M' h H locs ls hP hS hl)
theorem ky_dup2 (C : Cx G E cc nL own Ts ret rm) {a b : Value} (d : decode cc pc = .ok (.dup2, 1)) (ha : a.category = 1) (hb : b.category = 1) (kk : Wo G E nL rv o M (pc + 1) lv (a :: b :: a :: b :: st)) : Wo G E nL rv o M pc lv (a :: b :: st) := fun r M' h H locs ls hP hS hl => lv_dup2_11 C.1.1 C.1.2.1 d ha hb (kk r M' h H locs ls hP hS hl)
theorem ky_pop (C : Cx G E cc nL own Ts ret rm) {a : Value} (d : decode cc pc = .ok (.pop, 1)) (ha : a.category = 1) (kk : Wo G E nL rv o M (pc + 1) lv st) : Wo G E nL rv o M pc lv (a :: st) := fun r M' h H locs ls hP hS hl => lv_pop C.1.1 C.1.2.1 d ha (kk r M' h H locs ls hP hS hl)
theorem ky_goto (C : Cx G E cc nL own Ts ret rm) {off : Int} (t : Nat) (d : decode cc pc = .ok (.goto off, 3)) (ht : (pc : Int) + off = (t : Int)) (kk : Wo G E nL rv o M t lv st) : Wo G E nL rv o M pc lv st := fun r M' h H locs ls hP hS hl => lv_goto C.1.1 C.1.2.1 d ht (kk r M' h H locs ls hP hS hl)
theorem ky_if_eq (C : Cx G E cc nL own Ts ret rm) {off : Int} {x : Int32} (t : Nat) (d : decode cc pc = .ok (.ifCond .eq off, 3)) (ht : (pc : Int) + off = (t : Int)) (k1 : Wo G E nL rv o1 M t lv st) (k2 : Wo G E nL rv o2 M (pc + 3) lv st) : Wo G E nL rv (if x = 0 then o1 else o2) M pc lv (.int x :: st) := fun r M' h H locs ls hP hS hl => lv_if_eq C.1.1 C.1.2.1 d ht (fun hc => k1 r M' (by rw [if_pos hc] at h; exact h) H locs ls hP hS hl) (fun hc => k2 r M' (by rw [if_neg hc] at h; exact h) H locs ls hP hS hl)
theorem ky_icmp_eq (C : Cx G E cc nL own Ts ret rm) {off : Int} {x y : Int32} (t : Nat) (d : decode cc pc = .ok (.if_icmp .eq off, 3)) (ht : (pc : Int) + off = (t : Int)) (k1 : Wo G E nL rv o1 M t lv st) (k2 : Wo G E nL rv o2 M (pc + 3) lv st) : Wo G E nL rv (if x = y then o1 else o2) M pc lv (.int y :: .int x :: st) := fun r M' h H locs ls hP hS hl => lv_icmp_eq C.1.1 C.1.2.1 d ht (fun hc => k1 r M' (by rw [if_pos hc] at h; exact h) H locs ls hP hS hl) (fun hc => k2 r M' (by rw [if_neg hc] at h; exact h) H locs ls hP hS hl)
theorem ky_if_ne (C : Cx G E cc nL own Ts ret rm) {off : Int} {x : Int32} (t : Nat) (d : decode cc pc = .ok (.ifCond .ne off, 3)) (ht : (pc : Int) + off = (t : Int)) (k1 : Wo G E nL rv o1 M (pc + 3) lv st) (k2 : Wo G E nL rv o2 M t lv st) : Wo G E nL rv (if x = 0 then o1 else o2) M pc lv (.int x :: st) := fun r M' h H locs ls hP hS hl => lv_if_ne C.1.1 C.1.2.1 d ht (fun hc => k2 r M' (by rw [if_neg hc] at h; exact h) H locs ls hP hS hl) (fun hc => k1 r M' (by rw [if_pos hc] at h; exact h) H locs ls hP hS hl)
theorem ky_icmp_ne (C : Cx G E cc nL own Ts ret rm) {off : Int} {x y : Int32} (t : Nat) (d : decode cc pc = .ok (.if_icmp .ne off, 3)) (ht : (pc : Int) + off = (t : Int)) (k1 : Wo G E nL rv o1 M (pc + 3) lv st) (k2 : Wo G E nL rv o2 M t lv st) : Wo G E nL rv (if x = y then o1 else o2) M pc lv (.int y :: .int x :: st) := fun r M' h H locs ls hP hS hl => lv_icmp_ne C.1.1 C.1.2.1 d ht (fun hc => k2 r M' (by rw [if_neg hc] at h; exact h) H locs ls hP hS hl) (fun hc => k1 r M' (by rw [if_pos hc] at h; exact h) H locs ls hP hS hl)
theorem ky_if_lt (C : Cx G E cc nL own Ts ret rm) {off : Int} {x : Int32} (t : Nat) (d : decode cc pc = .ok (.ifCond .lt off, 3)) (ht : (pc : Int) + off = (t : Int)) (k1 : Wo G E nL rv o1 M t lv st) (k2 : Wo G E nL rv o2 M (pc + 3) lv st) : Wo G E nL rv (if x < 0 then o1 else o2) M pc lv (.int x :: st) := fun r M' h H locs ls hP hS hl => lv_if_lt C.1.1 C.1.2.1 d ht (fun hc => k1 r M' (by rw [if_pos hc] at h; exact h) H locs ls hP hS hl) (fun hc => k2 r M' (by rw [if_neg hc] at h; exact h) H locs ls hP hS hl)
theorem ky_icmp_lt (C : Cx G E cc nL own Ts ret rm) {off : Int} {x y : Int32} (t : Nat) (d : decode cc pc = .ok (.if_icmp .lt off, 3)) (ht : (pc : Int) + off = (t : Int)) (k1 : Wo G E nL rv o1 M t lv st) (k2 : Wo G E nL rv o2 M (pc + 3) lv st) : Wo G E nL rv (if x < y then o1 else o2) M pc lv (.int y :: .int x :: st) := fun r M' h H locs ls hP hS hl => lv_icmp_lt C.1.1 C.1.2.1 d ht (fun hc => k1 r M' (by rw [if_pos hc] at h; exact h) H locs ls hP hS hl) (fun hc => k2 r M' (by rw [if_neg hc] at h; exact h) H locs ls hP hS hl)
theorem ky_if_ge (C : Cx G E cc nL own Ts ret rm) {off : Int} {x : Int32} (t : Nat) (d : decode cc pc = .ok (.ifCond .ge off, 3)) (ht : (pc : Int) + off = (t : Int)) (k1 : Wo G E nL rv o1 M t lv st) (k2 : Wo G E nL rv o2 M (pc + 3) lv st) : Wo G E nL rv (if 0 ≤ x then o1 else o2) M pc lv (.int x :: st) := fun r M' h H locs ls hP hS hl => lv_if_ge C.1.1 C.1.2.1 d ht (fun hc => k1 r M' (by rw [if_pos hc] at h; exact h) H locs ls hP hS hl) (fun hc => k2 r M' (by rw [if_neg hc] at h; exact h) H locs ls hP hS hl)
theorem ky_icmp_ge (C : Cx G E cc nL own Ts ret rm) {off : Int} {x y : Int32} (t : Nat) (d : decode cc pc = .ok (.if_icmp .ge off, 3)) (ht : (pc : Int) + off = (t : Int)) (k1 : Wo G E nL rv o1 M t lv st) (k2 : Wo G E nL rv o2 M (pc + 3) lv st) : Wo G E nL rv (if y ≤ x then o1 else o2) M pc lv (.int y :: .int x :: st) := fun r M' h H locs ls hP hS hl => lv_icmp_ge C.1.1 C.1.2.1 d ht (fun hc => k1 r M' (by rw [if_pos hc] at h; exact h) H locs ls hP hS hl) (fun hc => k2 r M' (by rw [if_neg hc] at h; exact h) H locs ls hP hS hl)
theorem ky_if_gt (C : Cx G E cc nL own Ts ret rm) {off : Int} {x : Int32} (t : Nat) (d : decode cc pc = .ok (.ifCond .gt off, 3)) (ht : (pc : Int) + off = (t : Int)) (k1 : Wo G E nL rv o1 M t lv st) (k2 : Wo G E nL rv o2 M (pc + 3) lv st) : Wo G E nL rv (if 0 < x then o1 else o2) M pc lv (.int x :: st) := fun r M' h H locs ls hP hS hl => lv_if_gt C.1.1 C.1.2.1 d ht (fun hc => k1 r M' (by rw [if_pos hc] at h; exact h) H locs ls hP hS hl) (fun hc => k2 r M' (by rw [if_neg hc] at h; exact h) H locs ls hP hS hl)
theorem ky_icmp_gt (C : Cx G E cc nL own Ts ret rm) {off : Int} {x y : Int32} (t : Nat) (d : decode cc pc = .ok (.if_icmp .gt off, 3)) (ht : (pc : Int) + off = (t : Int)) (k1 : Wo G E nL rv o1 M t lv st) (k2 : Wo G E nL rv o2 M (pc + 3) lv st) : Wo G E nL rv (if y < x then o1 else o2) M pc lv (.int y :: .int x :: st) := fun r M' h H locs ls hP hS hl => lv_icmp_gt C.1.1 C.1.2.1 d ht (fun hc => k1 r M' (by rw [if_pos hc] at h; exact h) H locs ls hP hS hl) (fun hc => k2 r M' (by rw [if_neg hc] at h; exact h) H locs ls hP hS hl)
theorem ky_if_le (C : Cx G E cc nL own Ts ret rm) {off : Int} {x : Int32} (t : Nat) (d : decode cc pc = .ok (.ifCond .le off, 3)) (ht : (pc : Int) + off = (t : Int)) (k1 : Wo G E nL rv o1 M t lv st) (k2 : Wo G E nL rv o2 M (pc + 3) lv st) : Wo G E nL rv (if x ≤ 0 then o1 else o2) M pc lv (.int x :: st) := fun r M' h H locs ls hP hS hl => lv_if_le C.1.1 C.1.2.1 d ht (fun hc => k1 r M' (by rw [if_pos hc] at h; exact h) H locs ls hP hS hl) (fun hc => k2 r M' (by rw [if_neg hc] at h; exact h) H locs ls hP hS hl)
theorem ky_icmp_le (C : Cx G E cc nL own Ts ret rm) {off : Int} {x y : Int32} (t : Nat) (d : decode cc pc = .ok (.if_icmp .le off, 3)) (ht : (pc : Int) + off = (t : Int)) (k1 : Wo G E nL rv o1 M t lv st) (k2 : Wo G E nL rv o2 M (pc + 3) lv st) : Wo G E nL rv (if x ≤ y then o1 else o2) M pc lv (.int y :: .int x :: st) := fun r M' h H locs ls hP hS hl => lv_icmp_le C.1.1 C.1.2.1 d ht (fun hc => k1 r M' (by rw [if_pos hc] at h; exact h) H locs ls hP hS hl) (fun hc => k2 r M' (by rw [if_neg hc] at h; exact h) H locs ls hP hS hl)
/-- a switch: one row a case, the rest is the default -/
theorem ky_swIn (C : Cx G E cc nL own Ts ret rm) {dflt lo hi : Int} {offs : Array Int} {len : Nat} {x : Int32} (v : Int32) {off : Int} (t : Nat) (d : decode cc pc = .ok (.tableswitch dflt lo hi offs, len)) (h1 : ¬ v.toInt < lo) (h2 : ¬ hi < v.toInt) (ho : offs[(v.toInt - lo).toNat]? = some off) (ht : (pc : Int) + off = (t : Int)) (k1 : Wo G E nL rv o1 M t lv st) (k2 : ¬ x = v → Wo G E nL rv o2 M pc lv (.int x :: st)) : Wo G E nL rv (if x = v then o1 else o2) M pc lv (.int x :: st) := by
  intro r M' h H locs ls hP hS hl
  by_cases hc : x = v
  · rw [if_pos hc] at h
    subst hc
    exact lv_tableIn C.1.1 C.1.2.1 d h1 h2 ho ht (k1 r M' h H locs ls hP hS hl)
  · rw [if_neg hc] at h
    exact k2 hc r M' h H locs ls hP hS hl
theorem ky_swOut (C : Cx G E cc nL own Ts ret rm) {dflt lo hi : Int} {offs : Array Int} {len : Nat} {x : Int32} (t : Nat) (d : decode cc pc = .ok (.tableswitch dflt lo hi offs, len)) (hx : x.toInt < lo ∨ hi < x.toInt) (ht : (pc : Int) + dflt = (t : Int)) (k1 : Wo G E nL rv o M t lv st) : Wo G E nL rv o M pc lv (.int x :: st) := fun r M' h H locs ls hP hS hl => lv_tableOut C.1.1 C.1.2.1 d hx ht (k1 r M' h H locs ls hP hS hl)
/-- a field is read -/
theorem ky_get (C : Cx G E cc nL own Ts ret rm) {i ci n index : Nat} {CN ref : String} {T : u_T} {fl : (Nat → Int32) → Int64 → List Value} {v : Value} (hi : i < gN G) (cw : ∀ r h, gW G r h i = .inr (ci, fl r h)) (hc : vwCl[ci]? = some (CN, T, n)) (hin : ∀ w ∈ u_ws CN T n, w ∈ Ts) (k : Nat) (hk : k < n) (hm : Cond.fieldLink own index ref (T k).2.1 (T k).2.2.1 ∈ Ts) (hf : (T k).1 = ref) (hv : (fl (M.1 i) M.2)[k]? = some v) (d : decode cc pc = .ok (.getfield index, 3)) (kk : Wo G E nL rv o M (pc + 3) lv (v :: st)) : Wo G E nL rv o M pc lv (.ref (gA G i) :: st) := by
  intro r M' h H locs ls hP hS hl
  subst hf
  exact va_get (C := CN) (T := T) (N := n) C.1.1 C.1.2.1 C.1.2.2.2.2 hin C.1.2.2.2.1 C.2.2.2.1 hP i (by rw [wG_get hi, cw]) hc k hk (C.1.2.2.2.2 _ hm) (fun _ h9 => h9) hv d (kk r M' h H locs ls hP hS hl)
/-- a number is put into a field -/
theorem ky_put (C : Cx G E cc nL own Ts ret rm) {i ci n index : Nat} {CN ref : String} {T : u_T} {fl : (Nat → Int32) → Int64 → List Value} {x : Int32} {ty0 : Nat → FieldType} {ty : FieldType} {K : Mem → Option (ρ × Mem)} (hi : i < gN G) (cw : ∀ r h, gW G r h i = .inr (ci, fl r h)) (hc : vwCl[ci]? = some (CN, T, n)) (hin : ∀ w ∈ u_ws CN T n, w ∈ Ts) (hty : ∀ k, k < n → parseFieldDescriptor (T k).2.2.1 = some (ty0 k)) (hnm : ∀ a, a < n → ∀ b, b < n → a ≠ b → (T a).2.1 ≠ (T b).2.1) (k : Nat) (hk : k < n) (hm : Cond.fieldLink own index ref (T k).2.1 (T k).2.2.1 ∈ Ts) (hf : (T k).1 = ref ∧ (T k).2.2.2 = false) (hd : parseFieldDescriptor (T k).2.2.1 = some ty) (hn : narrow ty (.int x) = .int x) (hfit : fits ty (.int x) = true) (hl0 : k < (fl (M.1 i) M.2).length) (hset : fl (upd (M.1 i) k x) M.2 = (fl (M.1 i) M.2).set k (.int x)) (d : decode cc pc = .ok (.putfield index, 3)) (kk : ∀ M1 : Mem, Wo G E nL rv (K M1) M1 (pc + 3) lv st) : Wo G E nL rv (nm (u2 M i k x) K) M pc lv (.int x :: .ref (gA G i) :: st) := by
  intro r M' h H locs ls hP hS hl
  obtain ⟨hf, hfin⟩ := hf
  subst hf
  refine va_put (C := CN) (T := T) (N := n) C.1.1 C.1.2.1 C.1.2.2.2.2 hin ty0 hty hnm C.1.2.2.2.1 C.2.2.2.1 hP (wG_D C.2.2.2.2.2.2) hS i (by rw [wG_get hi, cw]) hc k hk (C.1.2.2.2.2 _ hm) (fun _ h9 => h9) hfin hd hn hfit hl0 d (fun H1 locs1 hP1 hD1 hS1 => ?_)
  rw [wG_u2 (k := k) (x := x) hi (by rw [cw, hset])] at hP1
  exact kk _ r M' h H1 locs1 ls hP1 hS1 hl
/-- a long is put into a field -/
theorem ky_putl (C : Cx G E cc nL own Ts ret rm) {i ci n index : Nat} {CN ref : String} {T : u_T} {fl : (Nat → Int32) → Int64 → List Value} {x : Int64} {ty0 : Nat → FieldType} {K : Mem → Option (ρ × Mem)} (hi : i < gN G) (cw : ∀ r h, gW G r h i = .inr (ci, fl r h)) (hoth : ∀ r h h' j, j < gN G → j ≠ i → gW G r h j = gW G r h' j) (hc : vwCl[ci]? = some (CN, T, n)) (hin : ∀ w ∈ u_ws CN T n, w ∈ Ts) (hty : ∀ k, k < n → parseFieldDescriptor (T k).2.2.1 = some (ty0 k)) (hnm : ∀ a, a < n → ∀ b, b < n → a ≠ b → (T a).2.1 ≠ (T b).2.1) (k : Nat) (hk : k < n) (hm : Cond.fieldLink own index ref (T k).2.1 (T k).2.2.1 ∈ Ts) (hf : (T k).1 = ref ∧ (T k).2.2.2 = false) (hd : parseFieldDescriptor (T k).2.2.1 = some .long) (hl0 : k < (fl (M.1 i) M.2).length) (hset : fl (M.1 i) x = (fl (M.1 i) M.2).set k (.long x)) (d : decode cc pc = .ok (.putfield index, 3)) (kk : ∀ M1 : Mem, Wo G E nL rv (K M1) M1 (pc + 3) lv st) : Wo G E nL rv (nm (uh M x) K) M pc lv (.long x :: .ref (gA G i) :: st) := by
  intro r M' h H locs ls hP hS hl
  obtain ⟨hf, hfin⟩ := hf
  subst hf
  refine va_put (C := CN) (T := T) (N := n) (ty := .long) (v := .long x) C.1.1 C.1.2.1 C.1.2.2.2.2 hin ty0 hty hnm C.1.2.2.2.1 C.2.2.2.1 hP (wG_D C.2.2.2.2.2.2) hS i (by rw [wG_get hi, cw]) hc k hk (C.1.2.2.2.2 _ hm) (fun _ h9 => h9) hfin hd rfl rfl hl0 d (fun H1 locs1 hP1 hD1 hS1 => ?_)
  rw [wG_set (M := M) (M' := uh M x) (e := .inr (ci, (fl (M.1 i) M.2).set k (.long x))) hi (by show gW G (M.1 i) x i = _; rw [cw, hset]) (fun j hj hji => hoth _ _ _ j hj hji)] at hP1
  exact kk _ r M' h H1 locs1 ls hP1 hS1 hl
/-- arrays of ints and chars -/
theorem ky_iald (C : Cx G E cc nL own Ts ret rm) {i n t0 : Nat} {cA : ClassId} {x : Int32} (hi : i < gN G) (cw : ∀ r h, gW G r h i = .inl (cA, n, .inl r)) (ht : (gT G)[t0]? = some (cA, .int)) (d : decode cc pc = .ok (.iaload, 1)) (kk : vp_in x n → Wo G E nL rv o M (pc + 1) lv (.int (M.1 i x.toNatClampNeg) :: st)) : Wo G E nL rv (gi x n o) M pc lv (.int x :: .ref (gA G i) :: st) := by
  intro r M' h H locs ls hP hS hl
  obtain ⟨hx, h⟩ := gi_some h
  exact va_iald C.1.1 C.1.2.1 C.2.2.2.1 hP i t0 (by rw [wG_get hi, cw]) ht hx d (kk hx r M' h H locs ls hP hS hl)
theorem ky_cald (C : Cx G E cc nL own Ts ret rm) {i n t0 : Nat} {cA : ClassId} {x : Int32} (hi : i < gN G) (cw : ∀ r h, gW G r h i = .inl (cA, n, .inl r)) (ht : (gT G)[t0]? = some (cA, .char)) (d : decode cc pc = .ok (.caload, 1)) (kk : vp_in x n → Wo G E nL rv o M (pc + 1) lv (.int (M.1 i x.toNatClampNeg) :: st)) : Wo G E nL rv (gi x n o) M pc lv (.int x :: .ref (gA G i) :: st) := by
  intro r M' h H locs ls hP hS hl
  obtain ⟨hx, h⟩ := gi_some h
  exact va_cald C.1.1 C.1.2.1 C.2.2.2.1 hP i t0 (by rw [wG_get hi, cw]) ht hx d (kk hx r M' h H locs ls hP hS hl)
theorem ky_iast (C : Cx G E cc nL own Ts ret rm) {i n t0 : Nat} {cA : ClassId} {x y : Int32} {K : Mem → Option (ρ × Mem)} (hi : i < gN G) (cw : ∀ r h, gW G r h i = .inl (cA, n, .inl r)) (ht : (gT G)[t0]? = some (cA, .int)) (d : decode cc pc = .ok (.iastore, 1)) (kk : ∀ M1 : Mem, vp_in x n → Wo G E nL rv (K M1) M1 (pc + 1) lv st) : Wo G E nL rv (gi x n (nm (u2 M i x.toNatClampNeg y) K)) M pc lv (.int y :: .int x :: .ref (gA G i) :: st) := by
  intro r M' h H locs ls hP hS hl
  obtain ⟨hx, h⟩ := gi_some h
  refine va_iast C.1.1 C.1.2.1 C.2.2.2.1 hP (wG_D C.2.2.2.2.2.2) hS i t0 (by rw [wG_get hi, cw]) ht hx d (fun H1 locs1 hP1 hD1 hS1 => ?_)
  rw [wG_u2 (k := x.toNatClampNeg) (x := y) hi (by rw [cw])] at hP1
  exact kk _ hx r M' h H1 locs1 ls hP1 hS1 hl
theorem ky_cast (C : Cx G E cc nL own Ts ret rm) {i n t0 : Nat} {cA : ClassId} {x y : Int32} {K : Mem → Option (ρ × Mem)} (hi : i < gN G) (cw : ∀ r h, gW G r h i = .inl (cA, n, .inl r)) (ht : (gT G)[t0]? = some (cA, .char)) (d : decode cc pc = .ok (.castore, 1)) (kk : ∀ M1 : Mem, vp_in x n → Wo G E nL rv (K M1) M1 (pc + 1) lv st) : Wo G E nL rv (gi x n (nm (u2 M i x.toNatClampNeg (vp_nar .char y)) K)) M pc lv (.int y :: .int x :: .ref (gA G i) :: st) := by
  intro r M' h H locs ls hP hS hl
  obtain ⟨hx, h⟩ := gi_some h
  refine va_cast C.1.1 C.1.2.1 C.2.2.2.1 hP (wG_D C.2.2.2.2.2.2) hS i t0 (by rw [wG_get hi, cw]) ht hx d (fun H1 locs1 hP1 hD1 hS1 => ?_)
  rw [wG_u2 (k := x.toNatClampNeg) (x := vp_nar .char y) hi (by rw [cw])] at hP1
  exact kk _ hx r M' h H1 locs1 ls hP1 hS1 hl
theorem ky_alen (C : Cx G E cc nL own Ts ret rm) {i n t0 : Nat} {cA : ClassId} {ty : FieldType} (v : Int32) (hi : i < gN G) (cw : ∀ r h, gW G r h i = .inl (cA, n, .inl r)) (ht : (gT G)[t0]? = some (cA, ty)) (hv : Int32.ofNat n = v) (d : decode cc pc = .ok (.arraylength, 1)) (kk : Wo G E nL rv o M (pc + 1) lv (.int v :: st)) : Wo G E nL rv o M pc lv (.ref (gA G i) :: st) := by
  intro r M' h H locs ls hP hS hl
  exact va_alen C.1.1 C.1.2.1 C.2.2.2.1 hP i t0 (x := (n, .inl (M.1 i))) (by rw [wG_get hi, cw]) ht hv d (kk r M' h H locs ls hP hS hl)
/-- arrays of references -/
theorem ky_aald (C : Cx G E cc nL own Ts ret rm) {i n t0 : Nat} {cA : ClassId} {CN : String} {x : Int32} {f : Nat → Nat} (hi : i < gN G) (cw : ∀ r h, gW G r h i = .inl (cA, n, .inr (.inr (.inr (.inr (fun j => some (gA G (f j)))))))) (ht : (gT G)[t0]? = some (cA, .object CN)) (d : decode cc pc = .ok (.aaload, 1)) (kk : vp_in x n → Wo G E nL rv o M (pc + 1) lv (.ref (gA G (f x.toNatClampNeg)) :: st)) : Wo G E nL rv (gi x n o) M pc lv (.int x :: .ref (gA G i) :: st) := by
  intro r M' h H locs ls hP hS hl
  obtain ⟨hx, h⟩ := gi_some h
  exact va_aldq (f := fun j => some (gA G (f j))) C.1.1 C.1.2.1 C.2.2.2.1 hP i t0 (by rw [wG_get hi, cw]) ht hx d (kk hx r M' h H locs ls hP hS hl)
/-- ends -/
theorem ky_iret (C : Cx G E cc nL own Ts (some .int) rm) {x : Int32} (d : decode cc pc = .ok (.ireturn, 1)) : Wo G E nL rI (some (x, M)) M pc lv [.int x] := by
  intro r M' h H locs ls hP hS hl
  cases h
  exact W.iret C.1.1 C.1.2.1 C.2.1 (fun t ht hW => ⟨rfl, by rw [ht]; exact hP, hS.F ht⟩) hS.2.2 d C.2.2.1
theorem ky_zret (C : Cx G E cc nL own Ts (some .boolean) rm) {x : Int32} (hx : narrow .boolean (.int x) = .int x) (d : decode cc pc = .ok (.ireturn, 1)) : Wo G E nL rI (some (x, M)) M pc lv [.int x] := by
  intro r M' h H locs ls hP hS hl
  cases h
  exact W.zret C.1.1 C.1.2.1 C.2.1 hx (fun t ht hW => ⟨rfl, by rw [ht]; exact hP, hS.F ht⟩) hS.2.2 d C.2.2.1
theorem ky_zretG (C : Cx G E cc nL own Ts (some .boolean) rm) {x : Int32} (d : decode cc pc = .ok (.ireturn, 1)) : Wo G E nL rI (gb x (some (x, M))) M pc lv [.int x] := by
  intro r M' h
  obtain ⟨hx, h⟩ := gb_some h
  refine ky_zret C ?_ d r M' h
  rcases hx with rfl | rfl <;> decide
theorem ky_lret (C : Cx G E cc nL own Ts (some .long) rm) {x : Int64} (d : decode cc pc = .ok (.lreturn, 1)) : Wo G E nL rL (some (x, M)) M pc lv [.long x] := by
  intro r M' h H locs ls hP hS hl
  cases h
  exact W.lret C.1.1 C.1.2.1 C.2.1 (fun t ht hW => ⟨rfl, by rw [ht]; exact hP, hS.F ht⟩) hS.2.2 d C.2.2.1
theorem ky_vret (C : Cx G E cc nL own Ts none rm) (d : decode cc pc = .ok (.return_, 1)) : Wo G E nL rV (some ((), M)) M pc lv [] := by
  intro r M' h H locs ls hP hS hl
  cases h
  exact W.vret C.1.1 C.1.2.1 C.2.1 (fun t ht hW => ⟨rfl, by rw [ht]; exact hP, hS.F ht⟩) hS.2.2 d C.2.2.1
end KYS
theorem wl_word {w : Cond} (h : w ∈ wA) : goodWord w = true := (List.mem_filter.mp h).2
theorem wY_in {y : MethodName} {cc : ByteArray} {nL : Nat} {ret : Option FieldType} {w : Cond} (h : w ∈ wA) : w ∈ wY y cc nL ret := List.mem_cons_of_mem _ h
theorem wY_good {y y' : MethodName} {cc cc' : ByteArray} {nL nL' : Nat} {ret ret' : Option FieldType} (h5 : Cond.code y' cc' nL' ret' ∈ wA) : GoodIn (wY y cc nL ret) (wY y' cc' nL' ret') := by
  intro w hw
  have : w ∈ wA := (List.mem_cons.mp hw).elim (fun e => e ▸ h5) id
  exact ⟨wY_in this, good_of_word (wl_word this)⟩
theorem wY_goodV {y y' : MethodName} {cc cc' : ByteArray} {nL nL' idx : Nat} {ret ret' : Option FieldType} {own C : String} (h1 : Cond.methodLink own idx y' ∈ wA) (h2 : Cond.instanceMethod y' ∈ wA) (h3 : Cond.selects C y' y' ∈ wA) (h4 : Cond.initialized C ∈ wA) (h5 : Cond.code y' cc' nL' ret' ∈ wA) : GoodIn (wY y cc nL ret) (wsV own idx C y' (wY y' cc' nL' ret')) := by
  intro w hw
  unfold wsV at hw
  rcases List.mem_append.mp hw with h | h
  · have : w ∈ wA := by
      simp only [List.mem_cons, List.not_mem_nil, or_false] at h
      rcases h with rfl | rfl | rfl | rfl <;> assumption
    exact ⟨wY_in this, good_of_word (wl_word this)⟩
  · exact wY_good h5 w h
theorem wY_goodS {y y' : MethodName} {cc cc' : ByteArray} {nL nL' idx : Nat} {ret ret' : Option FieldType} {own : String} (h1 : Cond.methodLink own idx y' ∈ wA) (h2 : Cond.static y' ∈ wA) (h4 : Cond.initialized y'.cls ∈ wA) (h5 : Cond.code y' cc' nL' ret' ∈ wA) : GoodIn (wY y cc nL ret) (va_wsS own idx y' (wY y' cc' nL' ret')) := by
  intro w hw
  unfold va_wsS at hw
  rcases List.mem_append.mp hw with h | h
  · have : w ∈ wA := by
      simp only [List.mem_cons, List.not_mem_nil, or_false] at h
      rcases h with rfl | rfl | rfl <;> assumption
    exact ⟨wY_in this, good_of_word (wl_word this)⟩
  · exact wY_good h5 w h
section KYC
variable {ρ ρ' : Type} {G : KyG} {E : KyE} {cc : ByteArray} {nL : Nat} {own : String} {Ts : List Cond} {ret : Option FieldType} {rm : Room} {rv : ρ → Option Value} {o : Option (ρ × Mem)} {M : Mem} {pc : Nat} {lv : List (Nat × Value)} {st st0 : List Value}
theorem ky_after {H : Heap} {locs : List Loc} {ls : Array Slot} {a : Array Value} {M1 : Mem} {v : Option Value} {Q : State → Prop} (hr : va_Run E.1 (gL G) E.2.1 E.2.2.2.2.2.2.2.2 E.2.2.1 E.2.2.2.1 E.2.2.2.2.1 E.2.2.2.2.2.1 E.2.2.2.2.2.2.1 E.2.2.2.2.2.2.2.1 H locs 0 0 0 0 (F0 E.2.2.2.1 pc ls st0) st (Qr G v M1 a) (aG G)) (hS : va_S (aG G) E.2.2.1.heap H locs)
    (kk : ∀ (H1 : Heap) (locs1 : List Loc), va_P (gD G) vwCl (wG G M1) H1 → va_S (aG G) E.2.2.1.heap H1 locs1 → WE G E H1 locs1 Q (F0 E.2.2.2.1 (pc + 3) ls (v.toList ++ st))) : WE G E H locs Q (F0 E.2.2.2.1 pc ls st0) := by
  intro T hT X
  obtain ⟨v', st₀, t, T', L, h0, X', hL, e1, e2, ⟨hv, hP, hz, hk⟩, stp⟩ := hr T hT X
  cases hv
  rw [h0] at hz hk
  obtain ⟨t2, a1, b1⟩ := kk T'.heap (locs ++ L) (by rw [e1]; exact hP)
    ⟨Nat.le_trans hS.1 (by rw [e1]; exact hz), fun q h1 h2 => by rw [e1, hk q (Nat.lt_of_lt_of_le h1 hS.1) h2]; exact hS.2.1 q h1 h2, fun q hq => by
      rcases List.mem_append.mp hq with h | h
      · exact hS.2.2 q h
      · exact hL q h⟩ T' rfl X'
  exact ⟨t2, stp t2 a1, b1⟩
theorem ky_blind {av : List Value} (hG : GOK G) : FrameBlind (va_Pc av (fun U => va_P (gD G) vwCl (wG G M) U.heap ∧ va_K (gD G) vwCl (gT G) U ∧ gX G U)) := by
  intro a U g mk q
  obtain ⟨q0, q1, q2, q3⟩ := q
  exact ⟨q0, q1, va_K.moved (u := U) (U := U.calling g mk a) (Vm.Alike.refl U.vm) q2, hG.2.1 U (U.calling g mk a) rfl rfl q3⟩
theorem ky_bd {oc : Option (ρ' × Mem)} {K : ρ' → Mem → Option (ρ × Mem)} {q : ρ × Mem} (h : bd oc K = some q) : ∃ r M1, oc = some (r, M1) ∧ K r M1 = some q := by
  cases oc with
  | none => cases h
  | some p => exact ⟨p.1, p.2, rfl, h⟩
theorem ky_callV0 {y0 : MethodName} {c0 : ByteArray} {n0 : Nat} {r0 : Option FieldType} (C : Cx G E cc nL own (wY y0 c0 n0 r0) ret rm) {rv' : ρ' → Option Value} {oc : Option (ρ' × Mem)} {K : ρ' → Mem → Option (ρ × Mem)} {y' : MethodName} {cc' : ByteArray} {nL' index n : Nat} {ret' : Option FieldType} {rm' : Room} {As : List Value} {i ci N' : Nat} {CN : String} {T : u_T} {fl : (Nat → Int32) → Int64 → List Value} (hM : Ct G y' (wY y' cc' nL' ret') rm' rv' (.ref (gA G i) :: As) oc M) (hi : i < gN G) (cw : ∀ r h, gW G r h i = .inr (ci, fl r h)) (hc : vwCl[ci]? = some (CN, T, N')) (hg : GoodIn (wY y0 c0 n0 r0) (wsV own index CN y' (wY y' cc' nL' ret')))
    (hd : y'.cls = CN ∧ y'.cls ≠ "java/lang/invoke/MethodHandle" ∧ y'.cls ≠ "java/lang/invoke/VarHandle" ∧ (parseMethodDescriptor y'.desc).map (fun d => d.parameters.length) = some n) (hrm : rm'.cells = 0 ∧ rm'.slots = 0 ∧ rm'.frames + 1 ≤ rm.frames ∧ 8 + (nL' + 11) + rm'.locals ≤ rm.locals) (hn : As.length = n) (hst : st0 = As.reverse ++ .ref (gA G i) :: st) (hroom : (st.map fun v => v.category).sum ≤ 8) (d : decode cc pc = .ok (.invokevirtual index, 3))
    (kk : ∀ (r : ρ') (M1 : Mem), Wo G E nL rv (K r M1) M1 (pc + 3) lv ((rv' r).toList ++ st)) : Wo G E nL rv (bd oc K) M pc lv st0 := by
  intro r M' h H locs ls hP hS hl
  obtain ⟨r1, M1, rfl, h⟩ := ky_bd h
  subst hst
  obtain ⟨C1, C2, C3, C4, C5, C6, C7⟩ := C
  refine ky_after (va_runV (As := As) (rest := st) C1 (hM r1 M1 rfl) (cwV n C1.2.2.2.2 hg rfl hrm.1 hrm.2.1 hd (by rw [C6]; exact hrm.2.2)) ⟨ky_blind C7, va_recv C4 hP hc (by rw [wG_get hi, cw]), fun U hU hW => ⟨rfl, by rw [hU]; exact hP, va_K.moved hW.alike C4, C7.2.2 _ U hW (fun q h1 h2 => by rw [hU]; exact hS.2.1 q h1 h2) C5⟩⟩ rfl hn hl.1 rfl (lv_room hroom) d ⟨Nat.zero_le _, Nat.zero_le _⟩) hS (fun H1 locs1 hP1 hS1 => ?_)
  exact kk r1 M1 r M' h H1 locs1 ls hP1 hS1 hl
theorem ky_callS0 {y0 : MethodName} {c0 : ByteArray} {n0 : Nat} {r0 : Option FieldType} (C : Cx G E cc nL own (wY y0 c0 n0 r0) ret rm) {rv' : ρ' → Option Value} {oc : Option (ρ' × Mem)} {K : ρ' → Mem → Option (ρ × Mem)} {y' : MethodName} {cc' : ByteArray} {nL' index n : Nat} {ret' : Option FieldType} {rm' : Room} {As : List Value} (hM : Ct G y' (wY y' cc' nL' ret') rm' rv' As oc M) (hg : GoodIn (wY y0 c0 n0 r0) (va_wsS own index y' (wY y' cc' nL' ret')))
    (hd : y'.cls ≠ "java/lang/invoke/MethodHandle" ∧ y'.cls ≠ "java/lang/invoke/VarHandle" ∧ (parseMethodDescriptor y'.desc).map (fun d => d.parameters.length) = some n) (hrm : rm'.cells = 0 ∧ rm'.slots = 0 ∧ rm'.frames + 1 ≤ rm.frames ∧ 8 + (nL' + 11) + rm'.locals ≤ rm.locals) (hn : As.length = n) (hst : st0 = As.reverse ++ st) (hroom : (st.map fun v => v.category).sum ≤ 8) (d : decode cc pc = .ok (.invokestatic index, 3))
    (kk : ∀ (r : ρ') (M1 : Mem), Wo G E nL rv (K r M1) M1 (pc + 3) lv ((rv' r).toList ++ st)) : Wo G E nL rv (bd oc K) M pc lv st0 := by
  intro r M' h H locs ls hP hS hl
  obtain ⟨r1, M1, rfl, h⟩ := ky_bd h
  subst hst
  obtain ⟨C1, C2, C3, C4, C5, C6, C7⟩ := C
  refine ky_after (va_runS (As := As) (rest := st) C1 (hM r1 M1 rfl) (va_cwS n C1.2.2.2.2 hg rfl hrm.1 hrm.2.1 hd (by rw [C6]; exact hrm.2.2)) ⟨ky_blind C7, fun U hU hW => ⟨rfl, by rw [hU]; exact hP, va_K.moved hW.alike C4, C7.2.2 _ U hW (fun q h1 h2 => by rw [hU]; exact hS.2.1 q h1 h2) C5⟩⟩ rfl hn hl.1 rfl (lv_room hroom) d ⟨Nat.zero_le _, Nat.zero_le _⟩) hS (fun H1 locs1 hP1 hS1 => ?_)
  exact kk r1 M1 r M' h H1 locs1 ls hP1 hS1 hl
/-- Math.min -/
theorem ky_mmin {y0 : MethodName} {c0 : ByteArray} {n0 : Nat} {r0 : Option FieldType} (C : Cx G E cc nL own (wY y0 c0 n0 r0) ret rm) {index : Nat} {x y : Int32} (h1 : Cond.methodLink own index Lib.Math.min.name ∈ wA) (h2 : Cond.static Lib.Math.min.name ∈ wA) (h3 : Cond.initialized "java/lang/Math" ∈ wA) (h4 : Cond.code Lib.Math.min.name Lib.Math.min.code 2 (some .int) ∈ wA) (hf : 1 ≤ rm.frames) (hroom : (st.map fun v => v.category).sum + 13 ≤ rm.locals) (d : decode cc pc = .ok (.invokestatic index, 3)) (kk : Wo G E nL rv o M (pc + 3) lv (.int (if y < x then y else x) :: st)) : Wo G E nL rv o M pc lv (.int y :: .int x :: st) := by
  intro r M' h H locs ls hP hS hl
  obtain ⟨C1, C2, C3, C4, C5, C6, C7⟩ := C
  exact va_mmin C1.1 C1.2.1 (by rw [C1.2.2.1]; exact hl.1.symm) C1.2.2.2.1 (C1.2.2.2.2 _ (wY_in h1)) (C1.2.2.2.2 _ (wY_in h2)) (C1.2.2.2.2 _ (wY_in h3)) (C1.2.2.2.2 _ (wY_in h4)) (by rw [C6]; exact hf) (by rw [C6]; exact hroom) (Nat.zero_le _) (Nat.zero_le _) d (kk r M' h H locs ls hP hS hl)
end KYC
end
section
theorem dX0_init_0 : decode cX0_init 0 = .ok (.aload_n 0, 1) := by decide +kernel
theorem dX0_init_1 : decode cX0_init 1 = .ok (.invokespecial 3, 3) := by decide +kernel
theorem dX0_init_4 : decode cX0_init 4 = .ok (.return_, 1) := by decide +kernel
theorem dX0_begin_0 : decode cX0_begin 0 = .ok (.aload_n 0, 1) := by decide +kernel
theorem dX0_begin_1 : decode cX0_begin 1 = .ok (.iload_n 1, 1) := by decide +kernel
theorem dX0_begin_2 : decode cX0_begin 2 = .ok (.putfield 9, 3) := by decide +kernel
theorem dX0_begin_5 : decode cX0_begin 5 = .ok (.aload_n 0, 1) := by decide +kernel
theorem dX0_begin_6 : decode cX0_begin 6 = .ok (.iload_n 2, 1) := by decide +kernel
theorem dX0_begin_7 : decode cX0_begin 7 = .ok (.putfield 15, 3) := by decide +kernel
theorem dX0_begin_10 : decode cX0_begin 10 = .ok (.aload_n 0, 1) := by decide +kernel
theorem dX0_begin_11 : decode cX0_begin 11 = .ok (.iload_n 3, 1) := by decide +kernel
theorem dX0_begin_12 : decode cX0_begin 12 = .ok (.putfield 18, 3) := by decide +kernel
theorem dX0_begin_15 : decode cX0_begin 15 = .ok (.aload_n 0, 1) := by decide +kernel
theorem dX0_begin_16 : decode cX0_begin 16 = .ok (.iload 4, 2) := by decide +kernel
theorem dX0_begin_18 : decode cX0_begin 18 = .ok (.putfield 21, 3) := by decide +kernel
theorem dX0_begin_21 : decode cX0_begin 21 = .ok (.aload_n 0, 1) := by decide +kernel
theorem dX0_begin_22 : decode cX0_begin 22 = .ok (.aload_n 0, 1) := by decide +kernel
theorem dX0_begin_23 : decode cX0_begin 23 = .ok (.invokevirtual 24, 3) := by decide +kernel
theorem dX0_begin_26 : decode cX0_begin 26 = .ok (.putfield 28, 3) := by decide +kernel
theorem dX0_begin_29 : decode cX0_begin 29 = .ok (.aload_n 0, 1) := by decide +kernel
theorem dX0_begin_30 : decode cX0_begin 30 = .ok (.iconst 0, 1) := by decide +kernel
theorem dX0_begin_31 : decode cX0_begin 31 = .ok (.putfield 31, 3) := by decide +kernel
theorem dX0_begin_34 : decode cX0_begin 34 = .ok (.return_, 1) := by decide +kernel
theorem dX0_copy_0 : decode cX0_copy 0 = .ok (.aload_n 0, 1) := by decide +kernel
theorem dX0_copy_1 : decode cX0_copy 1 = .ok (.aload_n 1, 1) := by decide +kernel
theorem dX0_copy_2 : decode cX0_copy 2 = .ok (.getfield 9, 3) := by decide +kernel
theorem dX0_copy_5 : decode cX0_copy 5 = .ok (.putfield 9, 3) := by decide +kernel
theorem dX0_copy_8 : decode cX0_copy 8 = .ok (.aload_n 0, 1) := by decide +kernel
theorem dX0_copy_9 : decode cX0_copy 9 = .ok (.aload_n 1, 1) := by decide +kernel
theorem dX0_copy_10 : decode cX0_copy 10 = .ok (.getfield 15, 3) := by decide +kernel
theorem dX0_copy_13 : decode cX0_copy 13 = .ok (.putfield 15, 3) := by decide +kernel
theorem dX0_copy_16 : decode cX0_copy 16 = .ok (.aload_n 0, 1) := by decide +kernel
theorem dX0_copy_17 : decode cX0_copy 17 = .ok (.aload_n 1, 1) := by decide +kernel
theorem dX0_copy_18 : decode cX0_copy 18 = .ok (.getfield 18, 3) := by decide +kernel
theorem dX0_copy_21 : decode cX0_copy 21 = .ok (.putfield 18, 3) := by decide +kernel
theorem dX0_copy_24 : decode cX0_copy 24 = .ok (.aload_n 0, 1) := by decide +kernel
theorem dX0_copy_25 : decode cX0_copy 25 = .ok (.aload_n 1, 1) := by decide +kernel
theorem dX0_copy_26 : decode cX0_copy 26 = .ok (.getfield 21, 3) := by decide +kernel
theorem dX0_copy_29 : decode cX0_copy 29 = .ok (.putfield 21, 3) := by decide +kernel
theorem dX0_copy_32 : decode cX0_copy 32 = .ok (.aload_n 0, 1) := by decide +kernel
theorem dX0_copy_33 : decode cX0_copy 33 = .ok (.aload_n 1, 1) := by decide +kernel
theorem dX0_copy_34 : decode cX0_copy 34 = .ok (.getfield 28, 3) := by decide +kernel
theorem dX0_copy_37 : decode cX0_copy 37 = .ok (.putfield 28, 3) := by decide +kernel
theorem dX0_copy_40 : decode cX0_copy 40 = .ok (.aload_n 0, 1) := by decide +kernel
theorem dX0_copy_41 : decode cX0_copy 41 = .ok (.aload_n 1, 1) := by decide +kernel
theorem dX0_copy_42 : decode cX0_copy 42 = .ok (.getfield 31, 3) := by decide +kernel
theorem dX0_copy_45 : decode cX0_copy 45 = .ok (.putfield 31, 3) := by decide +kernel
theorem dX0_copy_48 : decode cX0_copy 48 = .ok (.return_, 1) := by decide +kernel
theorem dX0_isA_0 : decode cX0_isA 0 = .ok (.iload_n 1, 1) := by decide +kernel
theorem dX0_isA_1 : decode cX0_isA 1 = .ok (.ifCond .eq 24, 3) := by decide +kernel
theorem dX0_isA_4 : decode cX0_isA 4 = .ok (.iload_n 1, 1) := by decide +kernel
theorem dX0_isA_5 : decode cX0_isA 5 = .ok (.aload_n 0, 1) := by decide +kernel
theorem dX0_isA_6 : decode cX0_isA 6 = .ok (.getfield 9, 3) := by decide +kernel
theorem dX0_isA_9 : decode cX0_isA 9 = .ok (.if_icmp .eq 16, 3) := by decide +kernel
theorem dX0_isA_12 : decode cX0_isA 12 = .ok (.iload_n 1, 1) := by decide +kernel
theorem dX0_isA_13 : decode cX0_isA 13 = .ok (.iconst 1, 1) := by decide +kernel
theorem dX0_isA_14 : decode cX0_isA 14 = .ok (.if_icmp .ne 15, 3) := by decide +kernel
theorem dX0_isA_17 : decode cX0_isA 17 = .ok (.aload_n 0, 1) := by decide +kernel
theorem dX0_isA_18 : decode cX0_isA 18 = .ok (.getfield 9, 3) := by decide +kernel
theorem dX0_isA_21 : decode cX0_isA 21 = .ok (.iconst 4, 1) := by decide +kernel
theorem dX0_isA_22 : decode cX0_isA 22 = .ok (.if_icmp .ne 7, 3) := by decide +kernel
theorem dX0_isA_25 : decode cX0_isA 25 = .ok (.iconst 1, 1) := by decide +kernel
theorem dX0_isA_26 : decode cX0_isA 26 = .ok (.goto 4, 3) := by decide +kernel
theorem dX0_isA_29 : decode cX0_isA 29 = .ok (.iconst 0, 1) := by decide +kernel
theorem dX0_isA_30 : decode cX0_isA 30 = .ok (.ireturn, 1) := by decide +kernel
theorem dX0_mayEachDay_0 : decode cX0_mayEachDay 0 = .ok (.aload_n 0, 1) := by decide +kernel
theorem dX0_mayEachDay_1 : decode cX0_mayEachDay 1 = .ok (.getfield 9, 3) := by decide +kernel
theorem dX0_mayEachDay_4 : decode cX0_mayEachDay 4 = .ok (.iconst 4, 1) := by decide +kernel
theorem dX0_mayEachDay_5 : decode cX0_mayEachDay 5 = .ok (.if_icmp .ne 5, 3) := by decide +kernel
theorem dX0_mayEachDay_8 : decode cX0_mayEachDay 8 = .ok (.iconst 3, 1) := by decide +kernel
theorem dX0_mayEachDay_9 : decode cX0_mayEachDay 9 = .ok (.ireturn, 1) := by decide +kernel
theorem dX0_mayEachDay_10 : decode cX0_mayEachDay 10 = .ok (.aload_n 0, 1) := by decide +kernel
theorem dX0_mayEachDay_11 : decode cX0_mayEachDay 11 = .ok (.getfield 9, 3) := by decide +kernel
theorem dX0_mayEachDay_14 : decode cX0_mayEachDay 14 = .ok (.iconst 1, 1) := by decide +kernel
theorem dX0_mayEachDay_15 : decode cX0_mayEachDay 15 = .ok (.if_icmp .ne 7, 3) := by decide +kernel
theorem dX0_mayEachDay_18 : decode cX0_mayEachDay 18 = .ok (.iconst 2, 1) := by decide +kernel
theorem dX0_mayEachDay_19 : decode cX0_mayEachDay 19 = .ok (.goto 4, 3) := by decide +kernel
theorem dX0_mayEachDay_22 : decode cX0_mayEachDay 22 = .ok (.iconst 1, 1) := by decide +kernel
theorem dX0_mayEachDay_23 : decode cX0_mayEachDay 23 = .ok (.ireturn, 1) := by decide +kernel
theorem dX0_hasPaid_0 : decode cX0_hasPaid 0 = .ok (.aload_n 0, 1) := by decide +kernel
theorem dX0_hasPaid_1 : decode cX0_hasPaid 1 = .ok (.getfield 18, 3) := by decide +kernel
theorem dX0_hasPaid_4 : decode cX0_hasPaid 4 = .ok (.ifCond .ne 7, 3) := by decide +kernel
theorem dX0_hasPaid_7 : decode cX0_hasPaid 7 = .ok (.iconst 1, 1) := by decide +kernel
theorem dX0_hasPaid_8 : decode cX0_hasPaid 8 = .ok (.goto 4, 3) := by decide +kernel
theorem dX0_hasPaid_11 : decode cX0_hasPaid 11 = .ok (.iconst 0, 1) := by decide +kernel
theorem dX0_hasPaid_12 : decode cX0_hasPaid 12 = .ok (.ireturn, 1) := by decide +kernel
theorem dX0_knowsOf_0 : decode cX0_knowsOf 0 = .ok (.aload_n 0, 1) := by decide +kernel
theorem dX0_knowsOf_1 : decode cX0_knowsOf 1 = .ok (.getfield 21, 3) := by decide +kernel
theorem dX0_knowsOf_4 : decode cX0_knowsOf 4 = .ok (.iconst 1, 1) := by decide +kernel
theorem dX0_knowsOf_5 : decode cX0_knowsOf 5 = .ok (.iload_n 1, 1) := by decide +kernel
theorem dX0_knowsOf_6 : decode cX0_knowsOf 6 = .ok (.ishl, 1) := by decide +kernel
theorem dX0_knowsOf_7 : decode cX0_knowsOf 7 = .ok (.iand, 1) := by decide +kernel
theorem dX0_knowsOf_8 : decode cX0_knowsOf 8 = .ok (.ifCond .eq 7, 3) := by decide +kernel
theorem dX0_knowsOf_11 : decode cX0_knowsOf 11 = .ok (.iconst 1, 1) := by decide +kernel
theorem dX0_knowsOf_12 : decode cX0_knowsOf 12 = .ok (.goto 4, 3) := by decide +kernel
theorem dX0_knowsOf_15 : decode cX0_knowsOf 15 = .ok (.iconst 0, 1) := by decide +kernel
theorem dX0_knowsOf_16 : decode cX0_knowsOf 16 = .ok (.ireturn, 1) := by decide +kernel
theorem dX0_needs_0 : decode cX0_needs 0 = .ok (.aload_n 0, 1) := by decide +kernel
theorem dX0_needs_1 : decode cX0_needs 1 = .ok (.getfield 9, 3) := by decide +kernel
theorem dX0_needs_4 : decode cX0_needs 4 = .ok (.iconst 3, 1) := by decide +kernel
theorem dX0_needs_5 : decode cX0_needs 5 = .ok (.if_icmp .ne 10, 3) := by decide +kernel
theorem dX0_needs_8 : decode cX0_needs 8 = .ok (.aload_n 0, 1) := by decide +kernel
theorem dX0_needs_9 : decode cX0_needs 9 = .ok (.invokevirtual 34, 3) := by decide +kernel
theorem dX0_needs_12 : decode cX0_needs 12 = .ok (.ifCond .eq 8, 3) := by decide +kernel
theorem dX0_needs_15 : decode cX0_needs 15 = .ok (.aload_n 0, 1) := by decide +kernel
theorem dX0_needs_16 : decode cX0_needs 16 = .ok (.getfield 18, 3) := by decide +kernel
theorem dX0_needs_19 : decode cX0_needs 19 = .ok (.ireturn, 1) := by decide +kernel
theorem dX0_needs_20 : decode cX0_needs 20 = .ok (.iconst 2, 1) := by decide +kernel
theorem dX0_needs_21 : decode cX0_needs 21 = .ok (.aload_n 0, 1) := by decide +kernel
theorem dX0_needs_22 : decode cX0_needs 22 = .ok (.getfield 18, 3) := by decide +kernel
theorem dX0_needs_25 : decode cX0_needs 25 = .ok (.imul, 1) := by decide +kernel
theorem dX0_needs_26 : decode cX0_needs 26 = .ok (.aload_n 0, 1) := by decide +kernel
theorem dX0_needs_27 : decode cX0_needs 27 = .ok (.getfield 31, 3) := by decide +kernel
theorem dX0_needs_30 : decode cX0_needs 30 = .ok (.iconst 2, 1) := by decide +kernel
theorem dX0_needs_31 : decode cX0_needs 31 = .ok (.irem, 1) := by decide +kernel
theorem dX0_needs_32 : decode cX0_needs 32 = .ok (.isub, 1) := by decide +kernel
theorem dX0_needs_33 : decode cX0_needs 33 = .ok (.ireturn, 1) := by decide +kernel
theorem dX0_pay_0 : decode cX0_pay 0 = .ok (.aload_n 0, 1) := by decide +kernel
theorem dX0_pay_1 : decode cX0_pay 1 = .ok (.dup, 1) := by decide +kernel
theorem dX0_pay_2 : decode cX0_pay 2 = .ok (.getfield 31, 3) := by decide +kernel
theorem dX0_pay_5 : decode cX0_pay 5 = .ok (.iconst 1, 1) := by decide +kernel
theorem dX0_pay_6 : decode cX0_pay 6 = .ok (.iadd, 1) := by decide +kernel
theorem dX0_pay_7 : decode cX0_pay 7 = .ok (.putfield 31, 3) := by decide +kernel
theorem dX0_pay_10 : decode cX0_pay 10 = .ok (.aload_n 0, 1) := by decide +kernel
theorem dX0_pay_11 : decode cX0_pay 11 = .ok (.getfield 9, 3) := by decide +kernel
theorem dX0_pay_14 : decode cX0_pay 14 = .ok (.iconst 3, 1) := by decide +kernel
theorem dX0_pay_15 : decode cX0_pay 15 = .ok (.if_icmp .ne 12, 3) := by decide +kernel
theorem dX0_pay_18 : decode cX0_pay 18 = .ok (.aload_n 0, 1) := by decide +kernel
theorem dX0_pay_19 : decode cX0_pay 19 = .ok (.getfield 31, 3) := by decide +kernel
theorem dX0_pay_22 : decode cX0_pay 22 = .ok (.iconst 2, 1) := by decide +kernel
theorem dX0_pay_23 : decode cX0_pay 23 = .ok (.irem, 1) := by decide +kernel
theorem dX0_pay_24 : decode cX0_pay 24 = .ok (.ifCond .ne 13, 3) := by decide +kernel
theorem dX0_pay_27 : decode cX0_pay 27 = .ok (.aload_n 0, 1) := by decide +kernel
theorem dX0_pay_28 : decode cX0_pay 28 = .ok (.dup, 1) := by decide +kernel
theorem dX0_pay_29 : decode cX0_pay 29 = .ok (.getfield 18, 3) := by decide +kernel
theorem dX0_pay_32 : decode cX0_pay 32 = .ok (.iconst 1, 1) := by decide +kernel
theorem dX0_pay_33 : decode cX0_pay 33 = .ok (.isub, 1) := by decide +kernel
theorem dX0_pay_34 : decode cX0_pay 34 = .ok (.putfield 18, 3) := by decide +kernel
theorem dX0_pay_37 : decode cX0_pay 37 = .ok (.return_, 1) := by decide +kernel
theorem dX1_init_0 : decode cX1_init 0 = .ok (.aload_n 0, 1) := by decide +kernel
theorem dX1_init_1 : decode cX1_init 1 = .ok (.invokespecial 3, 3) := by decide +kernel
theorem dX1_init_4 : decode cX1_init 4 = .ok (.aload_n 0, 1) := by decide +kernel
theorem dX1_init_5 : decode cX1_init 5 = .ok (.iconst 4, 1) := by decide +kernel
theorem dX1_init_6 : decode cX1_init 6 = .ok (.newarray .int, 2) := by decide +kernel
theorem dX1_init_8 : decode cX1_init 8 = .ok (.putfield 9, 3) := by decide +kernel
theorem dX1_init_11 : decode cX1_init 11 = .ok (.aload_n 0, 1) := by decide +kernel
theorem dX1_init_12 : decode cX1_init 12 = .ok (.iconst 4, 1) := by decide +kernel
theorem dX1_init_13 : decode cX1_init 13 = .ok (.newarray .int, 2) := by decide +kernel
theorem dX1_init_15 : decode cX1_init 15 = .ok (.putfield 15, 3) := by decide +kernel
theorem dX1_init_18 : decode cX1_init 18 = .ok (.return_, 1) := by decide +kernel
theorem dX1_mostOfAll_0 : decode cX1_mostOfAll 0 = .ok (.iconst 0, 1) := by decide +kernel
theorem dX1_mostOfAll_1 : decode cX1_mostOfAll 1 = .ok (.istore_n 2, 1) := by decide +kernel
theorem dX1_mostOfAll_2 : decode cX1_mostOfAll 2 = .ok (.iconst 0, 1) := by decide +kernel
theorem dX1_mostOfAll_3 : decode cX1_mostOfAll 3 = .ok (.istore_n 3, 1) := by decide +kernel
theorem dX1_mostOfAll_4 : decode cX1_mostOfAll 4 = .ok (.iload_n 3, 1) := by decide +kernel
theorem dX1_mostOfAll_5 : decode cX1_mostOfAll 5 = .ok (.iconst 3, 1) := by decide +kernel
theorem dX1_mostOfAll_6 : decode cX1_mostOfAll 6 = .ok (.if_icmp .ge 24, 3) := by decide +kernel
theorem dX1_mostOfAll_9 : decode cX1_mostOfAll 9 = .ok (.aload_n 0, 1) := by decide +kernel
theorem dX1_mostOfAll_10 : decode cX1_mostOfAll 10 = .ok (.aload_n 1, 1) := by decide +kernel
theorem dX1_mostOfAll_11 : decode cX1_mostOfAll 11 = .ok (.iload_n 3, 1) := by decide +kernel
theorem dX1_mostOfAll_12 : decode cX1_mostOfAll 12 = .ok (.invokevirtual 18, 3) := by decide +kernel
theorem dX1_mostOfAll_15 : decode cX1_mostOfAll 15 = .ok (.iload_n 2, 1) := by decide +kernel
theorem dX1_mostOfAll_16 : decode cX1_mostOfAll 16 = .ok (.aload_n 0, 1) := by decide +kernel
theorem dX1_mostOfAll_17 : decode cX1_mostOfAll 17 = .ok (.bipush 63, 2) := by decide +kernel
theorem dX1_mostOfAll_19 : decode cX1_mostOfAll 19 = .ok (.invokevirtual 22, 3) := by decide +kernel
theorem dX1_mostOfAll_22 : decode cX1_mostOfAll 22 = .ok (.iadd, 1) := by decide +kernel
theorem dX1_mostOfAll_23 : decode cX1_mostOfAll 23 = .ok (.istore_n 2, 1) := by decide +kernel
theorem dX1_mostOfAll_24 : decode cX1_mostOfAll 24 = .ok (.iinc 3 1, 3) := by decide +kernel
theorem dX1_mostOfAll_27 : decode cX1_mostOfAll 27 = .ok (.goto (-23), 3) := by decide +kernel
theorem dX1_mostOfAll_30 : decode cX1_mostOfAll 30 = .ok (.iload_n 2, 1) := by decide +kernel
theorem dX1_mostOfAll_31 : decode cX1_mostOfAll 31 = .ok (.ireturn, 1) := by decide +kernel
theorem dX1_sayerOf_0 : decode cX1_sayerOf 0 = .ok (.aload_n 0, 1) := by decide +kernel
theorem dX1_sayerOf_1 : decode cX1_sayerOf 1 = .ok (.aload_n 1, 1) := by decide +kernel
theorem dX1_sayerOf_2 : decode cX1_sayerOf 2 = .ok (.iload_n 2, 1) := by decide +kernel
theorem dX1_sayerOf_3 : decode cX1_sayerOf 3 = .ok (.invokevirtual 18, 3) := by decide +kernel
theorem dX1_sayerOf_6 : decode cX1_sayerOf 6 = .ok (.bipush 63, 2) := by decide +kernel
theorem dX1_sayerOf_8 : decode cX1_sayerOf 8 = .ok (.istore 4, 2) := by decide +kernel
theorem dX1_sayerOf_10 : decode cX1_sayerOf 10 = .ok (.iconst (-1), 1) := by decide +kernel
theorem dX1_sayerOf_11 : decode cX1_sayerOf 11 = .ok (.istore 5, 2) := by decide +kernel
theorem dX1_sayerOf_13 : decode cX1_sayerOf 13 = .ok (.iconst 0, 1) := by decide +kernel
theorem dX1_sayerOf_14 : decode cX1_sayerOf 14 = .ok (.istore 6, 2) := by decide +kernel
theorem dX1_sayerOf_16 : decode cX1_sayerOf 16 = .ok (.iload 6, 2) := by decide +kernel
theorem dX1_sayerOf_18 : decode cX1_sayerOf 18 = .ok (.iload_n 3, 1) := by decide +kernel
theorem dX1_sayerOf_19 : decode cX1_sayerOf 19 = .ok (.if_icmp .gt 57, 3) := by decide +kernel
theorem dX1_sayerOf_22 : decode cX1_sayerOf 22 = .ok (.aload_n 0, 1) := by decide +kernel
theorem dX1_sayerOf_23 : decode cX1_sayerOf 23 = .ok (.iload 4, 2) := by decide +kernel
theorem dX1_sayerOf_25 : decode cX1_sayerOf 25 = .ok (.invokevirtual 22, 3) := by decide +kernel
theorem dX1_sayerOf_28 : decode cX1_sayerOf 28 = .ok (.istore 7, 2) := by decide +kernel
theorem dX1_sayerOf_30 : decode cX1_sayerOf 30 = .ok (.iload 4, 2) := by decide +kernel
theorem dX1_sayerOf_32 : decode cX1_sayerOf 32 = .ok (.iconst 1, 1) := by decide +kernel
theorem dX1_sayerOf_33 : decode cX1_sayerOf 33 = .ok (.iload 6, 2) := by decide +kernel
theorem dX1_sayerOf_35 : decode cX1_sayerOf 35 = .ok (.ishl, 1) := by decide +kernel
theorem dX1_sayerOf_36 : decode cX1_sayerOf 36 = .ok (.iconst (-1), 1) := by decide +kernel
theorem dX1_sayerOf_37 : decode cX1_sayerOf 37 = .ok (.ixor, 1) := by decide +kernel
theorem dX1_sayerOf_38 : decode cX1_sayerOf 38 = .ok (.iand, 1) := by decide +kernel
theorem dX1_sayerOf_39 : decode cX1_sayerOf 39 = .ok (.istore 4, 2) := by decide +kernel
theorem dX1_sayerOf_41 : decode cX1_sayerOf 41 = .ok (.aload_n 0, 1) := by decide +kernel
theorem dX1_sayerOf_42 : decode cX1_sayerOf 42 = .ok (.iload 6, 2) := by decide +kernel
theorem dX1_sayerOf_44 : decode cX1_sayerOf 44 = .ok (.iload 4, 2) := by decide +kernel
theorem dX1_sayerOf_46 : decode cX1_sayerOf 46 = .ok (.iload 7, 2) := by decide +kernel
theorem dX1_sayerOf_48 : decode cX1_sayerOf 48 = .ok (.invokevirtual 26, 3) := by decide +kernel
theorem dX1_sayerOf_51 : decode cX1_sayerOf 51 = .ok (.istore 5, 2) := by decide +kernel
theorem dX1_sayerOf_53 : decode cX1_sayerOf 53 = .ok (.iload 5, 2) := by decide +kernel
theorem dX1_sayerOf_55 : decode cX1_sayerOf 55 = .ok (.iconst (-1), 1) := by decide +kernel
theorem dX1_sayerOf_56 : decode cX1_sayerOf 56 = .ok (.if_icmp .eq 14, 3) := by decide +kernel
theorem dX1_sayerOf_59 : decode cX1_sayerOf 59 = .ok (.aload_n 0, 1) := by decide +kernel
theorem dX1_sayerOf_60 : decode cX1_sayerOf 60 = .ok (.getfield 9, 3) := by decide +kernel
theorem dX1_sayerOf_63 : decode cX1_sayerOf 63 = .ok (.iload 5, 2) := by decide +kernel
theorem dX1_sayerOf_65 : decode cX1_sayerOf 65 = .ok (.dup2, 1) := by decide +kernel
theorem dX1_sayerOf_66 : decode cX1_sayerOf 66 = .ok (.iaload, 1) := by decide +kernel
theorem dX1_sayerOf_67 : decode cX1_sayerOf 67 = .ok (.iconst 1, 1) := by decide +kernel
theorem dX1_sayerOf_68 : decode cX1_sayerOf 68 = .ok (.isub, 1) := by decide +kernel
theorem dX1_sayerOf_69 : decode cX1_sayerOf 69 = .ok (.iastore, 1) := by decide +kernel
theorem dX1_sayerOf_70 : decode cX1_sayerOf 70 = .ok (.iinc 6 1, 3) := by decide +kernel
theorem dX1_sayerOf_73 : decode cX1_sayerOf 73 = .ok (.goto (-57), 3) := by decide +kernel
theorem dX1_sayerOf_76 : decode cX1_sayerOf 76 = .ok (.iload 5, 2) := by decide +kernel
theorem dX1_sayerOf_78 : decode cX1_sayerOf 78 = .ok (.ireturn, 1) := by decide +kernel
theorem dX1_take_0 : decode cX1_take 0 = .ok (.aload_n 0, 1) := by decide +kernel
theorem dX1_take_1 : decode cX1_take 1 = .ok (.aload_n 1, 1) := by decide +kernel
theorem dX1_take_2 : decode cX1_take 2 = .ok (.getfield 30, 3) := by decide +kernel
theorem dX1_take_5 : decode cX1_take 5 = .ok (.putfield 36, 3) := by decide +kernel
theorem dX1_take_8 : decode cX1_take 8 = .ok (.iconst 0, 1) := by decide +kernel
theorem dX1_take_9 : decode cX1_take 9 = .ok (.istore_n 3, 1) := by decide +kernel
theorem dX1_take_10 : decode cX1_take 10 = .ok (.iload_n 3, 1) := by decide +kernel
theorem dX1_take_11 : decode cX1_take 11 = .ok (.aload_n 0, 1) := by decide +kernel
theorem dX1_take_12 : decode cX1_take 12 = .ok (.getfield 36, 3) := by decide +kernel
theorem dX1_take_15 : decode cX1_take 15 = .ok (.if_icmp .ge 53, 3) := by decide +kernel
theorem dX1_take_18 : decode cX1_take 18 = .ok (.aload_n 1, 1) := by decide +kernel
theorem dX1_take_19 : decode cX1_take 19 = .ok (.getfield 37, 3) := by decide +kernel
theorem dX1_take_22 : decode cX1_take 22 = .ok (.iload_n 3, 1) := by decide +kernel
theorem dX1_take_23 : decode cX1_take 23 = .ok (.aaload, 1) := by decide +kernel
theorem dX1_take_24 : decode cX1_take 24 = .ok (.astore 4, 2) := by decide +kernel
theorem dX1_take_26 : decode cX1_take 26 = .ok (.aload_n 0, 1) := by decide +kernel
theorem dX1_take_27 : decode cX1_take 27 = .ok (.getfield 9, 3) := by decide +kernel
theorem dX1_take_30 : decode cX1_take 30 = .ok (.iload_n 3, 1) := by decide +kernel
theorem dX1_take_31 : decode cX1_take 31 = .ok (.aload 4, 2) := by decide +kernel
theorem dX1_take_33 : decode cX1_take 33 = .ok (.invokevirtual 41, 3) := by decide +kernel
theorem dX1_take_36 : decode cX1_take 36 = .ok (.iastore, 1) := by decide +kernel
theorem dX1_take_37 : decode cX1_take 37 = .ok (.aload_n 0, 1) := by decide +kernel
theorem dX1_take_38 : decode cX1_take 38 = .ok (.getfield 15, 3) := by decide +kernel
theorem dX1_take_41 : decode cX1_take 41 = .ok (.iload_n 3, 1) := by decide +kernel
theorem dX1_take_42 : decode cX1_take 42 = .ok (.aload 4, 2) := by decide +kernel
theorem dX1_take_44 : decode cX1_take 44 = .ok (.getfield 46, 3) := by decide +kernel
theorem dX1_take_47 : decode cX1_take 47 = .ok (.iload_n 2, 1) := by decide +kernel
theorem dX1_take_48 : decode cX1_take 48 = .ok (.if_icmp .ne 12, 3) := by decide +kernel
theorem dX1_take_51 : decode cX1_take 51 = .ok (.aload_n 1, 1) := by decide +kernel
theorem dX1_take_52 : decode cX1_take 52 = .ok (.aload 4, 2) := by decide +kernel
theorem dX1_take_54 : decode cX1_take 54 = .ok (.invokevirtual 49, 3) := by decide +kernel
theorem dX1_take_57 : decode cX1_take 57 = .ok (.goto 4, 3) := by decide +kernel
theorem dX1_take_60 : decode cX1_take 60 = .ok (.iconst 0, 1) := by decide +kernel
theorem dX1_take_61 : decode cX1_take 61 = .ok (.iastore, 1) := by decide +kernel
theorem dX1_take_62 : decode cX1_take 62 = .ok (.iinc 3 1, 3) := by decide +kernel
theorem dX1_take_65 : decode cX1_take 65 = .ok (.goto (-55), 3) := by decide +kernel
theorem dX1_take_68 : decode cX1_take 68 = .ok (.return_, 1) := by decide +kernel
theorem dX1_firstSayer_0 : decode cX1_firstSayer 0 = .ok (.aload_n 0, 1) := by decide +kernel
theorem dX1_firstSayer_1 : decode cX1_firstSayer 1 = .ok (.iload_n 2, 1) := by decide +kernel
theorem dX1_firstSayer_2 : decode cX1_firstSayer 2 = .ok (.invokevirtual 22, 3) := by decide +kernel
theorem dX1_firstSayer_5 : decode cX1_firstSayer 5 = .ok (.iload_n 3, 1) := by decide +kernel
theorem dX1_firstSayer_6 : decode cX1_firstSayer 6 = .ok (.if_icmp .ne 5, 3) := by decide +kernel
theorem dX1_firstSayer_9 : decode cX1_firstSayer 9 = .ok (.iconst (-1), 1) := by decide +kernel
theorem dX1_firstSayer_10 : decode cX1_firstSayer 10 = .ok (.ireturn, 1) := by decide +kernel
theorem dX1_firstSayer_11 : decode cX1_firstSayer 11 = .ok (.iconst 0, 1) := by decide +kernel
theorem dX1_firstSayer_12 : decode cX1_firstSayer 12 = .ok (.istore 4, 2) := by decide +kernel
theorem dX1_firstSayer_14 : decode cX1_firstSayer 14 = .ok (.iload 4, 2) := by decide +kernel
theorem dX1_firstSayer_16 : decode cX1_firstSayer 16 = .ok (.aload_n 0, 1) := by decide +kernel
theorem dX1_firstSayer_17 : decode cX1_firstSayer 17 = .ok (.getfield 36, 3) := by decide +kernel
theorem dX1_firstSayer_20 : decode cX1_firstSayer 20 = .ok (.if_icmp .ge 73, 3) := by decide +kernel
theorem dX1_firstSayer_23 : decode cX1_firstSayer 23 = .ok (.aload_n 0, 1) := by decide +kernel
theorem dX1_firstSayer_24 : decode cX1_firstSayer 24 = .ok (.getfield 9, 3) := by decide +kernel
theorem dX1_firstSayer_27 : decode cX1_firstSayer 27 = .ok (.iload 4, 2) := by decide +kernel
theorem dX1_firstSayer_29 : decode cX1_firstSayer 29 = .ok (.iaload, 1) := by decide +kernel
theorem dX1_firstSayer_30 : decode cX1_firstSayer 30 = .ok (.ifCond .le 57, 3) := by decide +kernel
theorem dX1_firstSayer_33 : decode cX1_firstSayer 33 = .ok (.aload_n 0, 1) := by decide +kernel
theorem dX1_firstSayer_34 : decode cX1_firstSayer 34 = .ok (.getfield 15, 3) := by decide +kernel
theorem dX1_firstSayer_37 : decode cX1_firstSayer 37 = .ok (.iload 4, 2) := by decide +kernel
theorem dX1_firstSayer_39 : decode cX1_firstSayer 39 = .ok (.iaload, 1) := by decide +kernel
theorem dX1_firstSayer_40 : decode cX1_firstSayer 40 = .ok (.iconst 1, 1) := by decide +kernel
theorem dX1_firstSayer_41 : decode cX1_firstSayer 41 = .ok (.iload_n 1, 1) := by decide +kernel
theorem dX1_firstSayer_42 : decode cX1_firstSayer 42 = .ok (.ishl, 1) := by decide +kernel
theorem dX1_firstSayer_43 : decode cX1_firstSayer 43 = .ok (.iand, 1) := by decide +kernel
theorem dX1_firstSayer_44 : decode cX1_firstSayer 44 = .ok (.ifCond .eq 43, 3) := by decide +kernel
theorem dX1_firstSayer_47 : decode cX1_firstSayer 47 = .ok (.aload_n 0, 1) := by decide +kernel
theorem dX1_firstSayer_48 : decode cX1_firstSayer 48 = .ok (.getfield 9, 3) := by decide +kernel
theorem dX1_firstSayer_51 : decode cX1_firstSayer 51 = .ok (.iload 4, 2) := by decide +kernel
theorem dX1_firstSayer_53 : decode cX1_firstSayer 53 = .ok (.dup2, 1) := by decide +kernel
theorem dX1_firstSayer_54 : decode cX1_firstSayer 54 = .ok (.iaload, 1) := by decide +kernel
theorem dX1_firstSayer_55 : decode cX1_firstSayer 55 = .ok (.iconst 1, 1) := by decide +kernel
theorem dX1_firstSayer_56 : decode cX1_firstSayer 56 = .ok (.isub, 1) := by decide +kernel
theorem dX1_firstSayer_57 : decode cX1_firstSayer 57 = .ok (.iastore, 1) := by decide +kernel
theorem dX1_firstSayer_58 : decode cX1_firstSayer 58 = .ok (.aload_n 0, 1) := by decide +kernel
theorem dX1_firstSayer_59 : decode cX1_firstSayer 59 = .ok (.iload_n 2, 1) := by decide +kernel
theorem dX1_firstSayer_60 : decode cX1_firstSayer 60 = .ok (.invokevirtual 22, 3) := by decide +kernel
theorem dX1_firstSayer_63 : decode cX1_firstSayer 63 = .ok (.istore 5, 2) := by decide +kernel
theorem dX1_firstSayer_65 : decode cX1_firstSayer 65 = .ok (.aload_n 0, 1) := by decide +kernel
theorem dX1_firstSayer_66 : decode cX1_firstSayer 66 = .ok (.getfield 9, 3) := by decide +kernel
theorem dX1_firstSayer_69 : decode cX1_firstSayer 69 = .ok (.iload 4, 2) := by decide +kernel
theorem dX1_firstSayer_71 : decode cX1_firstSayer 71 = .ok (.dup2, 1) := by decide +kernel
theorem dX1_firstSayer_72 : decode cX1_firstSayer 72 = .ok (.iaload, 1) := by decide +kernel
theorem dX1_firstSayer_73 : decode cX1_firstSayer 73 = .ok (.iconst 1, 1) := by decide +kernel
theorem dX1_firstSayer_74 : decode cX1_firstSayer 74 = .ok (.iadd, 1) := by decide +kernel
theorem dX1_firstSayer_75 : decode cX1_firstSayer 75 = .ok (.iastore, 1) := by decide +kernel
theorem dX1_firstSayer_76 : decode cX1_firstSayer 76 = .ok (.iload 5, 2) := by decide +kernel
theorem dX1_firstSayer_78 : decode cX1_firstSayer 78 = .ok (.iconst 1, 1) := by decide +kernel
theorem dX1_firstSayer_79 : decode cX1_firstSayer 79 = .ok (.iadd, 1) := by decide +kernel
theorem dX1_firstSayer_80 : decode cX1_firstSayer 80 = .ok (.iload_n 3, 1) := by decide +kernel
theorem dX1_firstSayer_81 : decode cX1_firstSayer 81 = .ok (.if_icmp .ne 6, 3) := by decide +kernel
theorem dX1_firstSayer_84 : decode cX1_firstSayer 84 = .ok (.iload 4, 2) := by decide +kernel
theorem dX1_firstSayer_86 : decode cX1_firstSayer 86 = .ok (.ireturn, 1) := by decide +kernel
theorem dX1_firstSayer_87 : decode cX1_firstSayer 87 = .ok (.iinc 4 1, 3) := by decide +kernel
theorem dX1_firstSayer_90 : decode cX1_firstSayer 90 = .ok (.goto (-76), 3) := by decide +kernel
theorem dX1_firstSayer_93 : decode cX1_firstSayer 93 = .ok (.iconst (-1), 1) := by decide +kernel
theorem dX1_firstSayer_94 : decode cX1_firstSayer 94 = .ok (.ireturn, 1) := by decide +kernel
theorem dX1_mostAmong_0 : decode cX1_mostAmong 0 = .ok (.bipush 6, 2) := by decide +kernel
theorem dX1_mostAmong_2 : decode cX1_mostAmong 2 = .ok (.istore_n 2, 1) := by decide +kernel
theorem dX1_mostAmong_3 : decode cX1_mostAmong 3 = .ok (.iconst 0, 1) := by decide +kernel
theorem dX1_mostAmong_4 : decode cX1_mostAmong 4 = .ok (.istore_n 3, 1) := by decide +kernel
theorem dX1_mostAmong_5 : decode cX1_mostAmong 5 = .ok (.iload_n 3, 1) := by decide +kernel
theorem dX1_mostAmong_6 : decode cX1_mostAmong 6 = .ok (.iconst 1, 1) := by decide +kernel
theorem dX1_mostAmong_7 : decode cX1_mostAmong 7 = .ok (.aload_n 0, 1) := by decide +kernel
theorem dX1_mostAmong_8 : decode cX1_mostAmong 8 = .ok (.getfield 36, 3) := by decide +kernel
theorem dX1_mostAmong_11 : decode cX1_mostAmong 11 = .ok (.ishl, 1) := by decide +kernel
theorem dX1_mostAmong_12 : decode cX1_mostAmong 12 = .ok (.if_icmp .ge 84, 3) := by decide +kernel
theorem dX1_mostAmong_15 : decode cX1_mostAmong 15 = .ok (.iconst 0, 1) := by decide +kernel
theorem dX1_mostAmong_16 : decode cX1_mostAmong 16 = .ok (.istore 4, 2) := by decide +kernel
theorem dX1_mostAmong_18 : decode cX1_mostAmong 18 = .ok (.iconst 0, 1) := by decide +kernel
theorem dX1_mostAmong_19 : decode cX1_mostAmong 19 = .ok (.istore 5, 2) := by decide +kernel
theorem dX1_mostAmong_21 : decode cX1_mostAmong 21 = .ok (.iconst 0, 1) := by decide +kernel
theorem dX1_mostAmong_22 : decode cX1_mostAmong 22 = .ok (.istore 6, 2) := by decide +kernel
theorem dX1_mostAmong_24 : decode cX1_mostAmong 24 = .ok (.iload 6, 2) := by decide +kernel
theorem dX1_mostAmong_26 : decode cX1_mostAmong 26 = .ok (.aload_n 0, 1) := by decide +kernel
theorem dX1_mostAmong_27 : decode cX1_mostAmong 27 = .ok (.getfield 36, 3) := by decide +kernel
theorem dX1_mostAmong_30 : decode cX1_mostAmong 30 = .ok (.if_icmp .ge 47, 3) := by decide +kernel
theorem dX1_mostAmong_33 : decode cX1_mostAmong 33 = .ok (.iload_n 3, 1) := by decide +kernel
theorem dX1_mostAmong_34 : decode cX1_mostAmong 34 = .ok (.iconst 1, 1) := by decide +kernel
theorem dX1_mostAmong_35 : decode cX1_mostAmong 35 = .ok (.iload 6, 2) := by decide +kernel
theorem dX1_mostAmong_37 : decode cX1_mostAmong 37 = .ok (.ishl, 1) := by decide +kernel
theorem dX1_mostAmong_38 : decode cX1_mostAmong 38 = .ok (.iand, 1) := by decide +kernel
theorem dX1_mostAmong_39 : decode cX1_mostAmong 39 = .ok (.ifCond .eq 18, 3) := by decide +kernel
theorem dX1_mostAmong_42 : decode cX1_mostAmong 42 = .ok (.iload 4, 2) := by decide +kernel
theorem dX1_mostAmong_44 : decode cX1_mostAmong 44 = .ok (.aload_n 0, 1) := by decide +kernel
theorem dX1_mostAmong_45 : decode cX1_mostAmong 45 = .ok (.getfield 9, 3) := by decide +kernel
theorem dX1_mostAmong_48 : decode cX1_mostAmong 48 = .ok (.iload 6, 2) := by decide +kernel
theorem dX1_mostAmong_50 : decode cX1_mostAmong 50 = .ok (.iaload, 1) := by decide +kernel
theorem dX1_mostAmong_51 : decode cX1_mostAmong 51 = .ok (.iadd, 1) := by decide +kernel
theorem dX1_mostAmong_52 : decode cX1_mostAmong 52 = .ok (.istore 4, 2) := by decide +kernel
theorem dX1_mostAmong_54 : decode cX1_mostAmong 54 = .ok (.goto 17, 3) := by decide +kernel
theorem dX1_mostAmong_57 : decode cX1_mostAmong 57 = .ok (.iload 5, 2) := by decide +kernel
theorem dX1_mostAmong_59 : decode cX1_mostAmong 59 = .ok (.aload_n 0, 1) := by decide +kernel
theorem dX1_mostAmong_60 : decode cX1_mostAmong 60 = .ok (.getfield 15, 3) := by decide +kernel
theorem dX1_mostAmong_63 : decode cX1_mostAmong 63 = .ok (.iload 6, 2) := by decide +kernel
theorem dX1_mostAmong_65 : decode cX1_mostAmong 65 = .ok (.iaload, 1) := by decide +kernel
theorem dX1_mostAmong_66 : decode cX1_mostAmong 66 = .ok (.iload_n 1, 1) := by decide +kernel
theorem dX1_mostAmong_67 : decode cX1_mostAmong 67 = .ok (.iand, 1) := by decide +kernel
theorem dX1_mostAmong_68 : decode cX1_mostAmong 68 = .ok (.ior, 1) := by decide +kernel
theorem dX1_mostAmong_69 : decode cX1_mostAmong 69 = .ok (.istore 5, 2) := by decide +kernel
theorem dX1_mostAmong_71 : decode cX1_mostAmong 71 = .ok (.iinc 6 1, 3) := by decide +kernel
theorem dX1_mostAmong_74 : decode cX1_mostAmong 74 = .ok (.goto (-50), 3) := by decide +kernel
theorem dX1_mostAmong_77 : decode cX1_mostAmong 77 = .ok (.iload_n 2, 1) := by decide +kernel
theorem dX1_mostAmong_78 : decode cX1_mostAmong 78 = .ok (.iload 4, 2) := by decide +kernel
theorem dX1_mostAmong_80 : decode cX1_mostAmong 80 = .ok (.iload 5, 2) := by decide +kernel
theorem dX1_mostAmong_82 : decode cX1_mostAmong 82 = .ok (.invokestatic 53, 3) := by decide +kernel
theorem dX1_mostAmong_85 : decode cX1_mostAmong 85 = .ok (.iadd, 1) := by decide +kernel
theorem dX1_mostAmong_86 : decode cX1_mostAmong 86 = .ok (.invokestatic 58, 3) := by decide +kernel
theorem dX1_mostAmong_89 : decode cX1_mostAmong 89 = .ok (.istore_n 2, 1) := by decide +kernel
theorem dX1_mostAmong_90 : decode cX1_mostAmong 90 = .ok (.iinc 3 1, 3) := by decide +kernel
theorem dX1_mostAmong_93 : decode cX1_mostAmong 93 = .ok (.goto (-88), 3) := by decide +kernel
theorem dX1_mostAmong_96 : decode cX1_mostAmong 96 = .ok (.iload_n 2, 1) := by decide +kernel
theorem dX1_mostAmong_97 : decode cX1_mostAmong 97 = .ok (.ireturn, 1) := by decide +kernel
theorem dX2_init_0 : decode cX2_init 0 = .ok (.aload_n 0, 1) := by decide +kernel
theorem dX2_init_1 : decode cX2_init 1 = .ok (.invokespecial 3, 3) := by decide +kernel
theorem dX2_init_4 : decode cX2_init 4 = .ok (.aload_n 0, 1) := by decide +kernel
theorem dX2_init_5 : decode cX2_init 5 = .ok (.iconst 3, 1) := by decide +kernel
theorem dX2_init_6 : decode cX2_init 6 = .ok (.anewarray 9, 3) := by decide +kernel
theorem dX2_init_9 : decode cX2_init 9 = .ok (.putfield 11, 3) := by decide +kernel
theorem dX2_init_12 : decode cX2_init 12 = .ok (.aload_n 0, 1) := by decide +kernel
theorem dX2_init_13 : decode cX2_init 13 = .ok (.iconst 4, 1) := by decide +kernel
theorem dX2_init_14 : decode cX2_init 14 = .ok (.anewarray 17, 3) := by decide +kernel
theorem dX2_init_17 : decode cX2_init 17 = .ok (.putfield 19, 3) := by decide +kernel
theorem dX2_init_20 : decode cX2_init 20 = .ok (.iconst 0, 1) := by decide +kernel
theorem dX2_init_21 : decode cX2_init 21 = .ok (.istore_n 1, 1) := by decide +kernel
theorem dX2_init_22 : decode cX2_init 22 = .ok (.iload_n 1, 1) := by decide +kernel
theorem dX2_init_23 : decode cX2_init 23 = .ok (.iconst 3, 1) := by decide +kernel
theorem dX2_init_24 : decode cX2_init 24 = .ok (.if_icmp .ge 22, 3) := by decide +kernel
theorem dX2_init_27 : decode cX2_init 27 = .ok (.aload_n 0, 1) := by decide +kernel
theorem dX2_init_28 : decode cX2_init 28 = .ok (.getfield 11, 3) := by decide +kernel
theorem dX2_init_31 : decode cX2_init 31 = .ok (.iload_n 1, 1) := by decide +kernel
theorem dX2_init_32 : decode cX2_init 32 = .ok (.new 9, 3) := by decide +kernel
theorem dX2_init_35 : decode cX2_init 35 = .ok (.dup, 1) := by decide +kernel
theorem dX2_init_36 : decode cX2_init 36 = .ok (.invokespecial 23, 3) := by decide +kernel
theorem dX2_init_39 : decode cX2_init 39 = .ok (.aastore, 1) := by decide +kernel
theorem dX2_init_40 : decode cX2_init 40 = .ok (.iinc 1 1, 3) := by decide +kernel
theorem dX2_init_43 : decode cX2_init 43 = .ok (.goto (-21), 3) := by decide +kernel
theorem dX2_init_46 : decode cX2_init 46 = .ok (.iconst 0, 1) := by decide +kernel
theorem dX2_init_47 : decode cX2_init 47 = .ok (.istore_n 1, 1) := by decide +kernel
theorem dX2_init_48 : decode cX2_init 48 = .ok (.iload_n 1, 1) := by decide +kernel
theorem dX2_init_49 : decode cX2_init 49 = .ok (.iconst 4, 1) := by decide +kernel
theorem dX2_init_50 : decode cX2_init 50 = .ok (.if_icmp .ge 22, 3) := by decide +kernel
theorem dX2_init_53 : decode cX2_init 53 = .ok (.aload_n 0, 1) := by decide +kernel
theorem dX2_init_54 : decode cX2_init 54 = .ok (.getfield 19, 3) := by decide +kernel
theorem dX2_init_57 : decode cX2_init 57 = .ok (.iload_n 1, 1) := by decide +kernel
theorem dX2_init_58 : decode cX2_init 58 = .ok (.new 17, 3) := by decide +kernel
theorem dX2_init_61 : decode cX2_init 61 = .ok (.dup, 1) := by decide +kernel
theorem dX2_init_62 : decode cX2_init 62 = .ok (.invokespecial 24, 3) := by decide +kernel
theorem dX2_init_65 : decode cX2_init 65 = .ok (.aastore, 1) := by decide +kernel
theorem dX2_init_66 : decode cX2_init 66 = .ok (.iinc 1 1, 3) := by decide +kernel
theorem dX2_init_69 : decode cX2_init 69 = .ok (.goto (-21), 3) := by decide +kernel
theorem dX2_init_72 : decode cX2_init 72 = .ok (.return_, 1) := by decide +kernel
theorem dX2_clear_0 : decode cX2_clear 0 = .ok (.iconst 0, 1) := by decide +kernel
theorem dX2_clear_1 : decode cX2_clear 1 = .ok (.istore_n 1, 1) := by decide +kernel
theorem dX2_clear_2 : decode cX2_clear 2 = .ok (.iload_n 1, 1) := by decide +kernel
theorem dX2_clear_3 : decode cX2_clear 3 = .ok (.iconst 3, 1) := by decide +kernel
theorem dX2_clear_4 : decode cX2_clear 4 = .ok (.if_icmp .ge 18, 3) := by decide +kernel
theorem dX2_clear_7 : decode cX2_clear 7 = .ok (.aload_n 0, 1) := by decide +kernel
theorem dX2_clear_8 : decode cX2_clear 8 = .ok (.getfield 11, 3) := by decide +kernel
theorem dX2_clear_11 : decode cX2_clear 11 = .ok (.iload_n 1, 1) := by decide +kernel
theorem dX2_clear_12 : decode cX2_clear 12 = .ok (.aaload, 1) := by decide +kernel
theorem dX2_clear_13 : decode cX2_clear 13 = .ok (.invokevirtual 25, 3) := by decide +kernel
theorem dX2_clear_16 : decode cX2_clear 16 = .ok (.iinc 1 1, 3) := by decide +kernel
theorem dX2_clear_19 : decode cX2_clear 19 = .ok (.goto (-17), 3) := by decide +kernel
theorem dX2_clear_22 : decode cX2_clear 22 = .ok (.aload_n 0, 1) := by decide +kernel
theorem dX2_clear_23 : decode cX2_clear 23 = .ok (.iconst 0, 1) := by decide +kernel
theorem dX2_clear_24 : decode cX2_clear 24 = .ok (.putfield 28, 3) := by decide +kernel
theorem dX2_clear_27 : decode cX2_clear 27 = .ok (.aload_n 0, 1) := by decide +kernel
theorem dX2_clear_28 : decode cX2_clear 28 = .ok (.iconst 0, 1) := by decide +kernel
theorem dX2_clear_29 : decode cX2_clear 29 = .ok (.putfield 32, 3) := by decide +kernel
theorem dX2_clear_32 : decode cX2_clear 32 = .ok (.aload_n 0, 1) := by decide +kernel
theorem dX2_clear_33 : decode cX2_clear 33 = .ok (.iconst 0, 1) := by decide +kernel
theorem dX2_clear_34 : decode cX2_clear 34 = .ok (.putfield 35, 3) := by decide +kernel
theorem dX2_clear_37 : decode cX2_clear 37 = .ok (.aload_n 0, 1) := by decide +kernel
theorem dX2_clear_38 : decode cX2_clear 38 = .ok (.iconst 0, 1) := by decide +kernel
theorem dX2_clear_39 : decode cX2_clear 39 = .ok (.putfield 38, 3) := by decide +kernel
theorem dX2_clear_42 : decode cX2_clear 42 = .ok (.return_, 1) := by decide +kernel
theorem dX2_copy_0 : decode cX2_copy 0 = .ok (.iconst 0, 1) := by decide +kernel
theorem dX2_copy_1 : decode cX2_copy 1 = .ok (.istore_n 2, 1) := by decide +kernel
theorem dX2_copy_2 : decode cX2_copy 2 = .ok (.iload_n 2, 1) := by decide +kernel
theorem dX2_copy_3 : decode cX2_copy 3 = .ok (.iconst 3, 1) := by decide +kernel
theorem dX2_copy_4 : decode cX2_copy 4 = .ok (.if_icmp .ge 24, 3) := by decide +kernel
theorem dX2_copy_7 : decode cX2_copy 7 = .ok (.aload_n 0, 1) := by decide +kernel
theorem dX2_copy_8 : decode cX2_copy 8 = .ok (.getfield 11, 3) := by decide +kernel
theorem dX2_copy_11 : decode cX2_copy 11 = .ok (.iload_n 2, 1) := by decide +kernel
theorem dX2_copy_12 : decode cX2_copy 12 = .ok (.aaload, 1) := by decide +kernel
theorem dX2_copy_13 : decode cX2_copy 13 = .ok (.aload_n 1, 1) := by decide +kernel
theorem dX2_copy_14 : decode cX2_copy 14 = .ok (.getfield 11, 3) := by decide +kernel
theorem dX2_copy_17 : decode cX2_copy 17 = .ok (.iload_n 2, 1) := by decide +kernel
theorem dX2_copy_18 : decode cX2_copy 18 = .ok (.aaload, 1) := by decide +kernel
theorem dX2_copy_19 : decode cX2_copy 19 = .ok (.invokevirtual 41, 3) := by decide +kernel
theorem dX2_copy_22 : decode cX2_copy 22 = .ok (.iinc 2 1, 3) := by decide +kernel
theorem dX2_copy_25 : decode cX2_copy 25 = .ok (.goto (-23), 3) := by decide +kernel
theorem dX2_copy_28 : decode cX2_copy 28 = .ok (.iconst 0, 1) := by decide +kernel
theorem dX2_copy_29 : decode cX2_copy 29 = .ok (.istore_n 2, 1) := by decide +kernel
theorem dX2_copy_30 : decode cX2_copy 30 = .ok (.iload_n 2, 1) := by decide +kernel
theorem dX2_copy_31 : decode cX2_copy 31 = .ok (.iconst 4, 1) := by decide +kernel
theorem dX2_copy_32 : decode cX2_copy 32 = .ok (.if_icmp .ge 24, 3) := by decide +kernel
theorem dX2_copy_35 : decode cX2_copy 35 = .ok (.aload_n 0, 1) := by decide +kernel
theorem dX2_copy_36 : decode cX2_copy 36 = .ok (.getfield 19, 3) := by decide +kernel
theorem dX2_copy_39 : decode cX2_copy 39 = .ok (.iload_n 2, 1) := by decide +kernel
theorem dX2_copy_40 : decode cX2_copy 40 = .ok (.aaload, 1) := by decide +kernel
theorem dX2_copy_41 : decode cX2_copy 41 = .ok (.aload_n 1, 1) := by decide +kernel
theorem dX2_copy_42 : decode cX2_copy 42 = .ok (.getfield 19, 3) := by decide +kernel
theorem dX2_copy_45 : decode cX2_copy 45 = .ok (.iload_n 2, 1) := by decide +kernel
theorem dX2_copy_46 : decode cX2_copy 46 = .ok (.aaload, 1) := by decide +kernel
theorem dX2_copy_47 : decode cX2_copy 47 = .ok (.invokevirtual 45, 3) := by decide +kernel
theorem dX2_copy_50 : decode cX2_copy 50 = .ok (.iinc 2 1, 3) := by decide +kernel
theorem dX2_copy_53 : decode cX2_copy 53 = .ok (.goto (-23), 3) := by decide +kernel
theorem dX2_copy_56 : decode cX2_copy 56 = .ok (.aload_n 0, 1) := by decide +kernel
theorem dX2_copy_57 : decode cX2_copy 57 = .ok (.aload_n 1, 1) := by decide +kernel
theorem dX2_copy_58 : decode cX2_copy 58 = .ok (.getfield 28, 3) := by decide +kernel
theorem dX2_copy_61 : decode cX2_copy 61 = .ok (.putfield 28, 3) := by decide +kernel
theorem dX2_copy_64 : decode cX2_copy 64 = .ok (.aload_n 0, 1) := by decide +kernel
theorem dX2_copy_65 : decode cX2_copy 65 = .ok (.aload_n 1, 1) := by decide +kernel
theorem dX2_copy_66 : decode cX2_copy 66 = .ok (.getfield 32, 3) := by decide +kernel
theorem dX2_copy_69 : decode cX2_copy 69 = .ok (.putfield 32, 3) := by decide +kernel
theorem dX2_copy_72 : decode cX2_copy 72 = .ok (.aload_n 0, 1) := by decide +kernel
theorem dX2_copy_73 : decode cX2_copy 73 = .ok (.aload_n 1, 1) := by decide +kernel
theorem dX2_copy_74 : decode cX2_copy 74 = .ok (.getfield 35, 3) := by decide +kernel
theorem dX2_copy_77 : decode cX2_copy 77 = .ok (.putfield 35, 3) := by decide +kernel
theorem dX2_copy_80 : decode cX2_copy 80 = .ok (.aload_n 0, 1) := by decide +kernel
theorem dX2_copy_81 : decode cX2_copy 81 = .ok (.aload_n 1, 1) := by decide +kernel
theorem dX2_copy_82 : decode cX2_copy 82 = .ok (.getfield 38, 3) := by decide +kernel
theorem dX2_copy_85 : decode cX2_copy 85 = .ok (.putfield 38, 3) := by decide +kernel
theorem dX2_copy_88 : decode cX2_copy 88 = .ok (.return_, 1) := by decide +kernel
theorem dX2_forgetTrials_0 : decode cX2_forgetTrials 0 = .ok (.iconst 0, 1) := by decide +kernel
theorem dX2_forgetTrials_1 : decode cX2_forgetTrials 1 = .ok (.istore_n 1, 1) := by decide +kernel
theorem dX2_forgetTrials_2 : decode cX2_forgetTrials 2 = .ok (.iload_n 1, 1) := by decide +kernel
theorem dX2_forgetTrials_3 : decode cX2_forgetTrials 3 = .ok (.iconst 3, 1) := by decide +kernel
theorem dX2_forgetTrials_4 : decode cX2_forgetTrials 4 = .ok (.if_icmp .ge 18, 3) := by decide +kernel
theorem dX2_forgetTrials_7 : decode cX2_forgetTrials 7 = .ok (.aload_n 0, 1) := by decide +kernel
theorem dX2_forgetTrials_8 : decode cX2_forgetTrials 8 = .ok (.getfield 11, 3) := by decide +kernel
theorem dX2_forgetTrials_11 : decode cX2_forgetTrials 11 = .ok (.iload_n 1, 1) := by decide +kernel
theorem dX2_forgetTrials_12 : decode cX2_forgetTrials 12 = .ok (.aaload, 1) := by decide +kernel
theorem dX2_forgetTrials_13 : decode cX2_forgetTrials 13 = .ok (.invokevirtual 48, 3) := by decide +kernel
theorem dX2_forgetTrials_16 : decode cX2_forgetTrials 16 = .ok (.iinc 1 1, 3) := by decide +kernel
theorem dX2_forgetTrials_19 : decode cX2_forgetTrials 19 = .ok (.goto (-17), 3) := by decide +kernel
theorem dX2_forgetTrials_22 : decode cX2_forgetTrials 22 = .ok (.aload_n 0, 1) := by decide +kernel
theorem dX2_forgetTrials_23 : decode cX2_forgetTrials 23 = .ok (.iconst 0, 1) := by decide +kernel
theorem dX2_forgetTrials_24 : decode cX2_forgetTrials 24 = .ok (.putfield 38, 3) := by decide +kernel
theorem dX2_forgetTrials_27 : decode cX2_forgetTrials 27 = .ok (.return_, 1) := by decide +kernel
theorem dX2_beginNextDay_0 : decode cX2_beginNextDay 0 = .ok (.aload_n 0, 1) := by decide +kernel
theorem dX2_beginNextDay_1 : decode cX2_beginNextDay 1 = .ok (.dup, 1) := by decide +kernel
theorem dX2_beginNextDay_2 : decode cX2_beginNextDay 2 = .ok (.getfield 35, 3) := by decide +kernel
theorem dX2_beginNextDay_5 : decode cX2_beginNextDay 5 = .ok (.iconst 1, 1) := by decide +kernel
theorem dX2_beginNextDay_6 : decode cX2_beginNextDay 6 = .ok (.iadd, 1) := by decide +kernel
theorem dX2_beginNextDay_7 : decode cX2_beginNextDay 7 = .ok (.putfield 35, 3) := by decide +kernel
theorem dX2_beginNextDay_10 : decode cX2_beginNextDay 10 = .ok (.iconst 0, 1) := by decide +kernel
theorem dX2_beginNextDay_11 : decode cX2_beginNextDay 11 = .ok (.istore_n 1, 1) := by decide +kernel
theorem dX2_beginNextDay_12 : decode cX2_beginNextDay 12 = .ok (.iload_n 1, 1) := by decide +kernel
theorem dX2_beginNextDay_13 : decode cX2_beginNextDay 13 = .ok (.aload_n 0, 1) := by decide +kernel
theorem dX2_beginNextDay_14 : decode cX2_beginNextDay 14 = .ok (.getfield 28, 3) := by decide +kernel
theorem dX2_beginNextDay_17 : decode cX2_beginNextDay 17 = .ok (.if_icmp .ge 27, 3) := by decide +kernel
theorem dX2_beginNextDay_20 : decode cX2_beginNextDay 20 = .ok (.aload_n 0, 1) := by decide +kernel
theorem dX2_beginNextDay_21 : decode cX2_beginNextDay 21 = .ok (.getfield 19, 3) := by decide +kernel
theorem dX2_beginNextDay_24 : decode cX2_beginNextDay 24 = .ok (.iload_n 1, 1) := by decide +kernel
theorem dX2_beginNextDay_25 : decode cX2_beginNextDay 25 = .ok (.aaload, 1) := by decide +kernel
theorem dX2_beginNextDay_26 : decode cX2_beginNextDay 26 = .ok (.aload_n 0, 1) := by decide +kernel
theorem dX2_beginNextDay_27 : decode cX2_beginNextDay 27 = .ok (.getfield 19, 3) := by decide +kernel
theorem dX2_beginNextDay_30 : decode cX2_beginNextDay 30 = .ok (.iload_n 1, 1) := by decide +kernel
theorem dX2_beginNextDay_31 : decode cX2_beginNextDay 31 = .ok (.aaload, 1) := by decide +kernel
theorem dX2_beginNextDay_32 : decode cX2_beginNextDay 32 = .ok (.invokevirtual 51, 3) := by decide +kernel
theorem dX2_beginNextDay_35 : decode cX2_beginNextDay 35 = .ok (.putfield 55, 3) := by decide +kernel
theorem dX2_beginNextDay_38 : decode cX2_beginNextDay 38 = .ok (.iinc 1 1, 3) := by decide +kernel
theorem dX2_beginNextDay_41 : decode cX2_beginNextDay 41 = .ok (.goto (-29), 3) := by decide +kernel
theorem dX2_beginNextDay_44 : decode cX2_beginNextDay 44 = .ok (.return_, 1) := by decide +kernel
theorem dX2_hear_0 : decode cX2_hear 0 = .ok (.aload_n 1, 1) := by decide +kernel
theorem dX2_hear_1 : decode cX2_hear 1 = .ok (.dup, 1) := by decide +kernel
theorem dX2_hear_2 : decode cX2_hear 2 = .ok (.getfield 55, 3) := by decide +kernel
theorem dX2_hear_5 : decode cX2_hear 5 = .ok (.iconst 1, 1) := by decide +kernel
theorem dX2_hear_6 : decode cX2_hear 6 = .ok (.isub, 1) := by decide +kernel
theorem dX2_hear_7 : decode cX2_hear 7 = .ok (.putfield 55, 3) := by decide +kernel
theorem dX2_hear_10 : decode cX2_hear 10 = .ok (.aload_n 0, 1) := by decide +kernel
theorem dX2_hear_11 : decode cX2_hear 11 = .ok (.getfield 11, 3) := by decide +kernel
theorem dX2_hear_14 : decode cX2_hear 14 = .ok (.aload_n 1, 1) := by decide +kernel
theorem dX2_hear_15 : decode cX2_hear 15 = .ok (.getfield 58, 3) := by decide +kernel
theorem dX2_hear_18 : decode cX2_hear 18 = .ok (.aaload, 1) := by decide +kernel
theorem dX2_hear_19 : decode cX2_hear 19 = .ok (.astore_n 3, 1) := by decide +kernel
theorem dX2_hear_20 : decode cX2_hear 20 = .ok (.iconst 1, 1) := by decide +kernel
theorem dX2_hear_21 : decode cX2_hear 21 = .ok (.iload_n 2, 1) := by decide +kernel
theorem dX2_hear_22 : decode cX2_hear 22 = .ok (.ishl, 1) := by decide +kernel
theorem dX2_hear_23 : decode cX2_hear 23 = .ok (.istore 4, 2) := by decide +kernel
theorem dX2_hear_25 : decode cX2_hear 25 = .ok (.aload_n 3, 1) := by decide +kernel
theorem dX2_hear_26 : decode cX2_hear 26 = .ok (.getfield 61, 3) := by decide +kernel
theorem dX2_hear_29 : decode cX2_hear 29 = .ok (.iload 4, 2) := by decide +kernel
theorem dX2_hear_31 : decode cX2_hear 31 = .ok (.iand, 1) := by decide +kernel
theorem dX2_hear_32 : decode cX2_hear 32 = .ok (.ifCond .eq 5, 3) := by decide +kernel
theorem dX2_hear_35 : decode cX2_hear 35 = .ok (.iconst 0, 1) := by decide +kernel
theorem dX2_hear_36 : decode cX2_hear 36 = .ok (.ireturn, 1) := by decide +kernel
theorem dX2_hear_37 : decode cX2_hear 37 = .ok (.aload_n 3, 1) := by decide +kernel
theorem dX2_hear_38 : decode cX2_hear 38 = .ok (.getfield 64, 3) := by decide +kernel
theorem dX2_hear_41 : decode cX2_hear 41 = .ok (.iload 4, 2) := by decide +kernel
theorem dX2_hear_43 : decode cX2_hear 43 = .ok (.iand, 1) := by decide +kernel
theorem dX2_hear_44 : decode cX2_hear 44 = .ok (.ifCond .ne 30, 3) := by decide +kernel
theorem dX2_hear_47 : decode cX2_hear 47 = .ok (.aload_n 1, 1) := by decide +kernel
theorem dX2_hear_48 : decode cX2_hear 48 = .ok (.getfield 67, 3) := by decide +kernel
theorem dX2_hear_51 : decode cX2_hear 51 = .ok (.iconst 2, 1) := by decide +kernel
theorem dX2_hear_52 : decode cX2_hear 52 = .ok (.if_icmp .ne 10, 3) := by decide +kernel
theorem dX2_hear_55 : decode cX2_hear 55 = .ok (.aload_n 0, 1) := by decide +kernel
theorem dX2_hear_56 : decode cX2_hear 56 = .ok (.getfield 32, 3) := by decide +kernel
theorem dX2_hear_59 : decode cX2_hear 59 = .ok (.ifCond .ne 5, 3) := by decide +kernel
theorem dX2_hear_62 : decode cX2_hear 62 = .ok (.iconst 0, 1) := by decide +kernel
theorem dX2_hear_63 : decode cX2_hear 63 = .ok (.ireturn, 1) := by decide +kernel
theorem dX2_hear_64 : decode cX2_hear 64 = .ok (.aload_n 0, 1) := by decide +kernel
theorem dX2_hear_65 : decode cX2_hear 65 = .ok (.dup, 1) := by decide +kernel
theorem dX2_hear_66 : decode cX2_hear 66 = .ok (.getfield 32, 3) := by decide +kernel
theorem dX2_hear_69 : decode cX2_hear 69 = .ok (.iconst 1, 1) := by decide +kernel
theorem dX2_hear_70 : decode cX2_hear 70 = .ok (.isub, 1) := by decide +kernel
theorem dX2_hear_71 : decode cX2_hear 71 = .ok (.putfield 32, 3) := by decide +kernel
theorem dX2_hear_74 : decode cX2_hear 74 = .ok (.aload_n 3, 1) := by decide +kernel
theorem dX2_hear_75 : decode cX2_hear 75 = .ok (.dup, 1) := by decide +kernel
theorem dX2_hear_76 : decode cX2_hear 76 = .ok (.getfield 61, 3) := by decide +kernel
theorem dX2_hear_79 : decode cX2_hear 79 = .ok (.iload 4, 2) := by decide +kernel
theorem dX2_hear_81 : decode cX2_hear 81 = .ok (.ior, 1) := by decide +kernel
theorem dX2_hear_82 : decode cX2_hear 82 = .ok (.putfield 61, 3) := by decide +kernel
theorem dX2_hear_85 : decode cX2_hear 85 = .ok (.aload_n 1, 1) := by decide +kernel
theorem dX2_hear_86 : decode cX2_hear 86 = .ok (.invokevirtual 70, 3) := by decide +kernel
theorem dX2_hear_89 : decode cX2_hear 89 = .ok (.iconst 1, 1) := by decide +kernel
theorem dX2_hear_90 : decode cX2_hear 90 = .ok (.ireturn, 1) := by decide +kernel
theorem dX2_leftTo_0 : decode cX2_leftTo 0 = .ok (.aload_n 1, 1) := by decide +kernel
theorem dX2_leftTo_1 : decode cX2_leftTo 1 = .ok (.getfield 73, 3) := by decide +kernel
theorem dX2_leftTo_4 : decode cX2_leftTo 4 = .ok (.aload_n 0, 1) := by decide +kernel
theorem dX2_leftTo_5 : decode cX2_leftTo 5 = .ok (.getfield 11, 3) := by decide +kernel
theorem dX2_leftTo_8 : decode cX2_leftTo 8 = .ok (.aload_n 1, 1) := by decide +kernel
theorem dX2_leftTo_9 : decode cX2_leftTo 9 = .ok (.getfield 58, 3) := by decide +kernel
theorem dX2_leftTo_12 : decode cX2_leftTo 12 = .ok (.aaload, 1) := by decide +kernel
theorem dX2_leftTo_13 : decode cX2_leftTo 13 = .ok (.invokevirtual 76, 3) := by decide +kernel
theorem dX2_leftTo_16 : decode cX2_leftTo 16 = .ok (.iand, 1) := by decide +kernel
theorem dX2_leftTo_17 : decode cX2_leftTo 17 = .ok (.ireturn, 1) := by decide +kernel
theorem dX2_daysFor_0 : decode cX2_daysFor 0 = .ok (.aload_n 1, 1) := by decide +kernel
theorem dX2_daysFor_1 : decode cX2_daysFor 1 = .ok (.invokevirtual 79, 3) := by decide +kernel
theorem dX2_daysFor_4 : decode cX2_daysFor 4 = .ok (.ifCond .eq 5, 3) := by decide +kernel
theorem dX2_daysFor_7 : decode cX2_daysFor 7 = .ok (.iconst 0, 1) := by decide +kernel
theorem dX2_daysFor_8 : decode cX2_daysFor 8 = .ok (.ireturn, 1) := by decide +kernel
theorem dX2_daysFor_9 : decode cX2_daysFor 9 = .ok (.aload_n 1, 1) := by decide +kernel
theorem dX2_daysFor_10 : decode cX2_daysFor 10 = .ok (.invokevirtual 83, 3) := by decide +kernel
theorem dX2_daysFor_13 : decode cX2_daysFor 13 = .ok (.istore_n 2, 1) := by decide +kernel
theorem dX2_daysFor_14 : decode cX2_daysFor 14 = .ok (.aload_n 0, 1) := by decide +kernel
theorem dX2_daysFor_15 : decode cX2_daysFor 15 = .ok (.aload_n 1, 1) := by decide +kernel
theorem dX2_daysFor_16 : decode cX2_daysFor 16 = .ok (.invokevirtual 86, 3) := by decide +kernel
theorem dX2_daysFor_19 : decode cX2_daysFor 19 = .ok (.invokestatic 90, 3) := by decide +kernel
theorem dX2_daysFor_22 : decode cX2_daysFor 22 = .ok (.iload_n 2, 1) := by decide +kernel
theorem dX2_daysFor_23 : decode cX2_daysFor 23 = .ok (.if_icmp .ge 5, 3) := by decide +kernel
theorem dX2_daysFor_26 : decode cX2_daysFor 26 = .ok (.iconst (-1), 1) := by decide +kernel
theorem dX2_daysFor_27 : decode cX2_daysFor 27 = .ok (.ireturn, 1) := by decide +kernel
theorem dX2_daysFor_28 : decode cX2_daysFor 28 = .ok (.iconst 1, 1) := by decide +kernel
theorem dX2_daysFor_29 : decode cX2_daysFor 29 = .ok (.istore_n 3, 1) := by decide +kernel
theorem dX2_daysFor_30 : decode cX2_daysFor 30 = .ok (.aload_n 1, 1) := by decide +kernel
theorem dX2_daysFor_31 : decode cX2_daysFor 31 = .ok (.getfield 55, 3) := by decide +kernel
theorem dX2_daysFor_34 : decode cX2_daysFor 34 = .ok (.istore 4, 2) := by decide +kernel
theorem dX2_daysFor_36 : decode cX2_daysFor 36 = .ok (.iload 4, 2) := by decide +kernel
theorem dX2_daysFor_38 : decode cX2_daysFor 38 = .ok (.iload_n 2, 1) := by decide +kernel
theorem dX2_daysFor_39 : decode cX2_daysFor 39 = .ok (.if_icmp .ge 24, 3) := by decide +kernel
theorem dX2_daysFor_42 : decode cX2_daysFor 42 = .ok (.iload_n 3, 1) := by decide +kernel
theorem dX2_daysFor_43 : decode cX2_daysFor 43 = .ok (.bipush 6, 2) := by decide +kernel
theorem dX2_daysFor_45 : decode cX2_daysFor 45 = .ok (.if_icmp .gt 18, 3) := by decide +kernel
theorem dX2_daysFor_48 : decode cX2_daysFor 48 = .ok (.iload 4, 2) := by decide +kernel
theorem dX2_daysFor_50 : decode cX2_daysFor 50 = .ok (.aload_n 1, 1) := by decide +kernel
theorem dX2_daysFor_51 : decode cX2_daysFor 51 = .ok (.invokevirtual 51, 3) := by decide +kernel
theorem dX2_daysFor_54 : decode cX2_daysFor 54 = .ok (.iadd, 1) := by decide +kernel
theorem dX2_daysFor_55 : decode cX2_daysFor 55 = .ok (.istore 4, 2) := by decide +kernel
theorem dX2_daysFor_57 : decode cX2_daysFor 57 = .ok (.iinc 3 1, 3) := by decide +kernel
theorem dX2_daysFor_60 : decode cX2_daysFor 60 = .ok (.goto (-24), 3) := by decide +kernel
theorem dX2_daysFor_63 : decode cX2_daysFor 63 = .ok (.iload_n 3, 1) := by decide +kernel
theorem dX2_daysFor_64 : decode cX2_daysFor 64 = .ok (.ireturn, 1) := by decide +kernel
theorem dX2_findFor_0 : decode cX2_findFor 0 = .ok (.aload_n 1, 1) := by decide +kernel
theorem dX2_findFor_1 : decode cX2_findFor 1 = .ok (.invokevirtual 83, 3) := by decide +kernel
theorem dX2_findFor_4 : decode cX2_findFor 4 = .ok (.aload_n 0, 1) := by decide +kernel
theorem dX2_findFor_5 : decode cX2_findFor 5 = .ok (.aload_n 1, 1) := by decide +kernel
theorem dX2_findFor_6 : decode cX2_findFor 6 = .ok (.invokevirtual 86, 3) := by decide +kernel
theorem dX2_findFor_9 : decode cX2_findFor 9 = .ok (.invokestatic 90, 3) := by decide +kernel
theorem dX2_findFor_12 : decode cX2_findFor 12 = .ok (.isub, 1) := by decide +kernel
theorem dX2_findFor_13 : decode cX2_findFor 13 = .ok (.istore_n 2, 1) := by decide +kernel
theorem dX2_findFor_14 : decode cX2_findFor 14 = .ok (.iload_n 2, 1) := by decide +kernel
theorem dX2_findFor_15 : decode cX2_findFor 15 = .ok (.ifCond .gt 5, 3) := by decide +kernel
theorem dX2_findFor_18 : decode cX2_findFor 18 = .ok (.iconst 0, 1) := by decide +kernel
theorem dX2_findFor_19 : decode cX2_findFor 19 = .ok (.ireturn, 1) := by decide +kernel
theorem dX2_findFor_20 : decode cX2_findFor 20 = .ok (.aload_n 0, 1) := by decide +kernel
theorem dX2_findFor_21 : decode cX2_findFor 21 = .ok (.getfield 11, 3) := by decide +kernel
theorem dX2_findFor_24 : decode cX2_findFor 24 = .ok (.aload_n 1, 1) := by decide +kernel
theorem dX2_findFor_25 : decode cX2_findFor 25 = .ok (.getfield 58, 3) := by decide +kernel
theorem dX2_findFor_28 : decode cX2_findFor 28 = .ok (.aaload, 1) := by decide +kernel
theorem dX2_findFor_29 : decode cX2_findFor 29 = .ok (.invokevirtual 76, 3) := by decide +kernel
theorem dX2_findFor_32 : decode cX2_findFor 32 = .ok (.aload_n 1, 1) := by decide +kernel
theorem dX2_findFor_33 : decode cX2_findFor 33 = .ok (.getfield 73, 3) := by decide +kernel
theorem dX2_findFor_36 : decode cX2_findFor 36 = .ok (.iconst (-1), 1) := by decide +kernel
theorem dX2_findFor_37 : decode cX2_findFor 37 = .ok (.ixor, 1) := by decide +kernel
theorem dX2_findFor_38 : decode cX2_findFor 38 = .ok (.iand, 1) := by decide +kernel
theorem dX2_findFor_39 : decode cX2_findFor 39 = .ok (.istore_n 3, 1) := by decide +kernel
theorem dX2_findFor_40 : decode cX2_findFor 40 = .ok (.iload_n 2, 1) := by decide +kernel
theorem dX2_findFor_41 : decode cX2_findFor 41 = .ok (.iload_n 3, 1) := by decide +kernel
theorem dX2_findFor_42 : decode cX2_findFor 42 = .ok (.invokestatic 90, 3) := by decide +kernel
theorem dX2_findFor_45 : decode cX2_findFor 45 = .ok (.if_icmp .gt 7, 3) := by decide +kernel
theorem dX2_findFor_48 : decode cX2_findFor 48 = .ok (.iload_n 2, 1) := by decide +kernel
theorem dX2_findFor_49 : decode cX2_findFor 49 = .ok (.goto 4, 3) := by decide +kernel
theorem dX2_findFor_52 : decode cX2_findFor 52 = .ok (.iconst (-1), 1) := by decide +kernel
theorem dX2_findFor_53 : decode cX2_findFor 53 = .ok (.ireturn, 1) := by decide +kernel
theorem dX2_allConvicts_0 : decode cX2_allConvicts 0 = .ok (.iconst 1, 1) := by decide +kernel
theorem dX2_allConvicts_1 : decode cX2_allConvicts 1 = .ok (.aload_n 0, 1) := by decide +kernel
theorem dX2_allConvicts_2 : decode cX2_allConvicts 2 = .ok (.getfield 28, 3) := by decide +kernel
theorem dX2_allConvicts_5 : decode cX2_allConvicts 5 = .ok (.ishl, 1) := by decide +kernel
theorem dX2_allConvicts_6 : decode cX2_allConvicts 6 = .ok (.iconst 1, 1) := by decide +kernel
theorem dX2_allConvicts_7 : decode cX2_allConvicts 7 = .ok (.isub, 1) := by decide +kernel
theorem dX2_allConvicts_8 : decode cX2_allConvicts 8 = .ok (.ireturn, 1) := by decide +kernel
theorem dX2_convictsOf_0 : decode cX2_convictsOf 0 = .ok (.iconst 0, 1) := by decide +kernel
theorem dX2_convictsOf_1 : decode cX2_convictsOf 1 = .ok (.istore_n 2, 1) := by decide +kernel
theorem dX2_convictsOf_2 : decode cX2_convictsOf 2 = .ok (.iconst 0, 1) := by decide +kernel
theorem dX2_convictsOf_3 : decode cX2_convictsOf 3 = .ok (.istore_n 3, 1) := by decide +kernel
theorem dX2_convictsOf_4 : decode cX2_convictsOf 4 = .ok (.iload_n 3, 1) := by decide +kernel
theorem dX2_convictsOf_5 : decode cX2_convictsOf 5 = .ok (.aload_n 0, 1) := by decide +kernel
theorem dX2_convictsOf_6 : decode cX2_convictsOf 6 = .ok (.getfield 28, 3) := by decide +kernel
theorem dX2_convictsOf_9 : decode cX2_convictsOf 9 = .ok (.if_icmp .ge 28, 3) := by decide +kernel
theorem dX2_convictsOf_12 : decode cX2_convictsOf 12 = .ok (.aload_n 0, 1) := by decide +kernel
theorem dX2_convictsOf_13 : decode cX2_convictsOf 13 = .ok (.getfield 19, 3) := by decide +kernel
theorem dX2_convictsOf_16 : decode cX2_convictsOf 16 = .ok (.iload_n 3, 1) := by decide +kernel
theorem dX2_convictsOf_17 : decode cX2_convictsOf 17 = .ok (.aaload, 1) := by decide +kernel
theorem dX2_convictsOf_18 : decode cX2_convictsOf 18 = .ok (.getfield 58, 3) := by decide +kernel
theorem dX2_convictsOf_21 : decode cX2_convictsOf 21 = .ok (.iload_n 1, 1) := by decide +kernel
theorem dX2_convictsOf_22 : decode cX2_convictsOf 22 = .ok (.if_icmp .ne 9, 3) := by decide +kernel
theorem dX2_convictsOf_25 : decode cX2_convictsOf 25 = .ok (.iload_n 2, 1) := by decide +kernel
theorem dX2_convictsOf_26 : decode cX2_convictsOf 26 = .ok (.iconst 1, 1) := by decide +kernel
theorem dX2_convictsOf_27 : decode cX2_convictsOf 27 = .ok (.iload_n 3, 1) := by decide +kernel
theorem dX2_convictsOf_28 : decode cX2_convictsOf 28 = .ok (.ishl, 1) := by decide +kernel
theorem dX2_convictsOf_29 : decode cX2_convictsOf 29 = .ok (.ior, 1) := by decide +kernel
theorem dX2_convictsOf_30 : decode cX2_convictsOf 30 = .ok (.istore_n 2, 1) := by decide +kernel
theorem dX2_convictsOf_31 : decode cX2_convictsOf 31 = .ok (.iinc 3 1, 3) := by decide +kernel
theorem dX2_convictsOf_34 : decode cX2_convictsOf 34 = .ok (.goto (-30), 3) := by decide +kernel
theorem dX2_convictsOf_37 : decode cX2_convictsOf 37 = .ok (.iload_n 2, 1) := by decide +kernel
theorem dX2_convictsOf_38 : decode cX2_convictsOf 38 = .ok (.ireturn, 1) := by decide +kernel
theorem dX2_finesOf_0 : decode cX2_finesOf 0 = .ok (.iconst 0, 1) := by decide +kernel
theorem dX2_finesOf_1 : decode cX2_finesOf 1 = .ok (.istore_n 2, 1) := by decide +kernel
theorem dX2_finesOf_2 : decode cX2_finesOf 2 = .ok (.iconst 0, 1) := by decide +kernel
theorem dX2_finesOf_3 : decode cX2_finesOf 3 = .ok (.istore_n 3, 1) := by decide +kernel
theorem dX2_finesOf_4 : decode cX2_finesOf 4 = .ok (.iload_n 3, 1) := by decide +kernel
theorem dX2_finesOf_5 : decode cX2_finesOf 5 = .ok (.aload_n 0, 1) := by decide +kernel
theorem dX2_finesOf_6 : decode cX2_finesOf 6 = .ok (.getfield 28, 3) := by decide +kernel
theorem dX2_finesOf_9 : decode cX2_finesOf 9 = .ok (.if_icmp .ge 29, 3) := by decide +kernel
theorem dX2_finesOf_12 : decode cX2_finesOf 12 = .ok (.iload_n 1, 1) := by decide +kernel
theorem dX2_finesOf_13 : decode cX2_finesOf 13 = .ok (.iconst 1, 1) := by decide +kernel
theorem dX2_finesOf_14 : decode cX2_finesOf 14 = .ok (.iload_n 3, 1) := by decide +kernel
theorem dX2_finesOf_15 : decode cX2_finesOf 15 = .ok (.ishl, 1) := by decide +kernel
theorem dX2_finesOf_16 : decode cX2_finesOf 16 = .ok (.iand, 1) := by decide +kernel
theorem dX2_finesOf_17 : decode cX2_finesOf 17 = .ok (.ifCond .eq 15, 3) := by decide +kernel
theorem dX2_finesOf_20 : decode cX2_finesOf 20 = .ok (.iload_n 2, 1) := by decide +kernel
theorem dX2_finesOf_21 : decode cX2_finesOf 21 = .ok (.aload_n 0, 1) := by decide +kernel
theorem dX2_finesOf_22 : decode cX2_finesOf 22 = .ok (.getfield 19, 3) := by decide +kernel
theorem dX2_finesOf_25 : decode cX2_finesOf 25 = .ok (.iload_n 3, 1) := by decide +kernel
theorem dX2_finesOf_26 : decode cX2_finesOf 26 = .ok (.aaload, 1) := by decide +kernel
theorem dX2_finesOf_27 : decode cX2_finesOf 27 = .ok (.getfield 96, 3) := by decide +kernel
theorem dX2_finesOf_30 : decode cX2_finesOf 30 = .ok (.iadd, 1) := by decide +kernel
theorem dX2_finesOf_31 : decode cX2_finesOf 31 = .ok (.istore_n 2, 1) := by decide +kernel
theorem dX2_finesOf_32 : decode cX2_finesOf 32 = .ok (.iinc 3 1, 3) := by decide +kernel
theorem dX2_finesOf_35 : decode cX2_finesOf 35 = .ok (.goto (-31), 3) := by decide +kernel
theorem dX2_finesOf_38 : decode cX2_finesOf 38 = .ok (.iload_n 2, 1) := by decide +kernel
theorem dX2_finesOf_39 : decode cX2_finesOf 39 = .ok (.ireturn, 1) := by decide +kernel
theorem dX2_needsOfAll_0 : decode cX2_needsOfAll 0 = .ok (.iconst 0, 1) := by decide +kernel
theorem dX2_needsOfAll_1 : decode cX2_needsOfAll 1 = .ok (.istore_n 1, 1) := by decide +kernel
theorem dX2_needsOfAll_2 : decode cX2_needsOfAll 2 = .ok (.iconst 0, 1) := by decide +kernel
theorem dX2_needsOfAll_3 : decode cX2_needsOfAll 3 = .ok (.istore_n 2, 1) := by decide +kernel
theorem dX2_needsOfAll_4 : decode cX2_needsOfAll 4 = .ok (.iload_n 2, 1) := by decide +kernel
theorem dX2_needsOfAll_5 : decode cX2_needsOfAll 5 = .ok (.aload_n 0, 1) := by decide +kernel
theorem dX2_needsOfAll_6 : decode cX2_needsOfAll 6 = .ok (.getfield 28, 3) := by decide +kernel
theorem dX2_needsOfAll_9 : decode cX2_needsOfAll 9 = .ok (.if_icmp .ge 21, 3) := by decide +kernel
theorem dX2_needsOfAll_12 : decode cX2_needsOfAll 12 = .ok (.iload_n 1, 1) := by decide +kernel
theorem dX2_needsOfAll_13 : decode cX2_needsOfAll 13 = .ok (.aload_n 0, 1) := by decide +kernel
theorem dX2_needsOfAll_14 : decode cX2_needsOfAll 14 = .ok (.getfield 19, 3) := by decide +kernel
theorem dX2_needsOfAll_17 : decode cX2_needsOfAll 17 = .ok (.iload_n 2, 1) := by decide +kernel
theorem dX2_needsOfAll_18 : decode cX2_needsOfAll 18 = .ok (.aaload, 1) := by decide +kernel
theorem dX2_needsOfAll_19 : decode cX2_needsOfAll 19 = .ok (.invokevirtual 83, 3) := by decide +kernel
theorem dX2_needsOfAll_22 : decode cX2_needsOfAll 22 = .ok (.iadd, 1) := by decide +kernel
theorem dX2_needsOfAll_23 : decode cX2_needsOfAll 23 = .ok (.istore_n 1, 1) := by decide +kernel
theorem dX2_needsOfAll_24 : decode cX2_needsOfAll 24 = .ok (.iinc 2 1, 3) := by decide +kernel
theorem dX2_needsOfAll_27 : decode cX2_needsOfAll 27 = .ok (.goto (-23), 3) := by decide +kernel
theorem dX2_needsOfAll_30 : decode cX2_needsOfAll 30 = .ok (.iload_n 1, 1) := by decide +kernel
theorem dX2_needsOfAll_31 : decode cX2_needsOfAll 31 = .ok (.ireturn, 1) := by decide +kernel
theorem dX2_paidCount_0 : decode cX2_paidCount 0 = .ok (.iconst 0, 1) := by decide +kernel
theorem dX2_paidCount_1 : decode cX2_paidCount 1 = .ok (.istore_n 1, 1) := by decide +kernel
theorem dX2_paidCount_2 : decode cX2_paidCount 2 = .ok (.iconst 0, 1) := by decide +kernel
theorem dX2_paidCount_3 : decode cX2_paidCount 3 = .ok (.istore_n 2, 1) := by decide +kernel
theorem dX2_paidCount_4 : decode cX2_paidCount 4 = .ok (.iload_n 2, 1) := by decide +kernel
theorem dX2_paidCount_5 : decode cX2_paidCount 5 = .ok (.aload_n 0, 1) := by decide +kernel
theorem dX2_paidCount_6 : decode cX2_paidCount 6 = .ok (.getfield 28, 3) := by decide +kernel
theorem dX2_paidCount_9 : decode cX2_paidCount 9 = .ok (.if_icmp .ge 24, 3) := by decide +kernel
theorem dX2_paidCount_12 : decode cX2_paidCount 12 = .ok (.aload_n 0, 1) := by decide +kernel
theorem dX2_paidCount_13 : decode cX2_paidCount 13 = .ok (.getfield 19, 3) := by decide +kernel
theorem dX2_paidCount_16 : decode cX2_paidCount 16 = .ok (.iload_n 2, 1) := by decide +kernel
theorem dX2_paidCount_17 : decode cX2_paidCount 17 = .ok (.aaload, 1) := by decide +kernel
theorem dX2_paidCount_18 : decode cX2_paidCount 18 = .ok (.invokevirtual 79, 3) := by decide +kernel
theorem dX2_paidCount_21 : decode cX2_paidCount 21 = .ok (.ifCond .eq 6, 3) := by decide +kernel
theorem dX2_paidCount_24 : decode cX2_paidCount 24 = .ok (.iinc 1 1, 3) := by decide +kernel
theorem dX2_paidCount_27 : decode cX2_paidCount 27 = .ok (.iinc 2 1, 3) := by decide +kernel
theorem dX2_paidCount_30 : decode cX2_paidCount 30 = .ok (.goto (-26), 3) := by decide +kernel
theorem dX2_paidCount_33 : decode cX2_paidCount 33 = .ok (.iload_n 1, 1) := by decide +kernel
theorem dX2_paidCount_34 : decode cX2_paidCount 34 = .ok (.ireturn, 1) := by decide +kernel
theorem dX2_truthsOfAll_0 : decode cX2_truthsOfAll 0 = .ok (.iconst 0, 1) := by decide +kernel
theorem dX2_truthsOfAll_1 : decode cX2_truthsOfAll 1 = .ok (.istore_n 1, 1) := by decide +kernel
theorem dX2_truthsOfAll_2 : decode cX2_truthsOfAll 2 = .ok (.iconst 0, 1) := by decide +kernel
theorem dX2_truthsOfAll_3 : decode cX2_truthsOfAll 3 = .ok (.istore_n 2, 1) := by decide +kernel
theorem dX2_truthsOfAll_4 : decode cX2_truthsOfAll 4 = .ok (.iload_n 2, 1) := by decide +kernel
theorem dX2_truthsOfAll_5 : decode cX2_truthsOfAll 5 = .ok (.iconst 3, 1) := by decide +kernel
theorem dX2_truthsOfAll_6 : decode cX2_truthsOfAll 6 = .ok (.if_icmp .ge 24, 3) := by decide +kernel
theorem dX2_truthsOfAll_9 : decode cX2_truthsOfAll 9 = .ok (.iload_n 1, 1) := by decide +kernel
theorem dX2_truthsOfAll_10 : decode cX2_truthsOfAll 10 = .ok (.aload_n 0, 1) := by decide +kernel
theorem dX2_truthsOfAll_11 : decode cX2_truthsOfAll 11 = .ok (.getfield 11, 3) := by decide +kernel
theorem dX2_truthsOfAll_14 : decode cX2_truthsOfAll 14 = .ok (.iload_n 2, 1) := by decide +kernel
theorem dX2_truthsOfAll_15 : decode cX2_truthsOfAll 15 = .ok (.aaload, 1) := by decide +kernel
theorem dX2_truthsOfAll_16 : decode cX2_truthsOfAll 16 = .ok (.getfield 64, 3) := by decide +kernel
theorem dX2_truthsOfAll_19 : decode cX2_truthsOfAll 19 = .ok (.invokestatic 90, 3) := by decide +kernel
theorem dX2_truthsOfAll_22 : decode cX2_truthsOfAll 22 = .ok (.iadd, 1) := by decide +kernel
theorem dX2_truthsOfAll_23 : decode cX2_truthsOfAll 23 = .ok (.istore_n 1, 1) := by decide +kernel
theorem dX2_truthsOfAll_24 : decode cX2_truthsOfAll 24 = .ok (.iinc 2 1, 3) := by decide +kernel
theorem dX2_truthsOfAll_27 : decode cX2_truthsOfAll 27 = .ok (.goto (-23), 3) := by decide +kernel
theorem dX2_truthsOfAll_30 : decode cX2_truthsOfAll 30 = .ok (.iload_n 1, 1) := by decide +kernel
theorem dX2_truthsOfAll_31 : decode cX2_truthsOfAll 31 = .ok (.ireturn, 1) := by decide +kernel
theorem dX2_usedOfAll_0 : decode cX2_usedOfAll 0 = .ok (.iconst 0, 1) := by decide +kernel
theorem dX2_usedOfAll_1 : decode cX2_usedOfAll 1 = .ok (.istore_n 1, 1) := by decide +kernel
theorem dX2_usedOfAll_2 : decode cX2_usedOfAll 2 = .ok (.iconst 0, 1) := by decide +kernel
theorem dX2_usedOfAll_3 : decode cX2_usedOfAll 3 = .ok (.istore_n 2, 1) := by decide +kernel
theorem dX2_usedOfAll_4 : decode cX2_usedOfAll 4 = .ok (.iload_n 2, 1) := by decide +kernel
theorem dX2_usedOfAll_5 : decode cX2_usedOfAll 5 = .ok (.iconst 3, 1) := by decide +kernel
theorem dX2_usedOfAll_6 : decode cX2_usedOfAll 6 = .ok (.if_icmp .ge 24, 3) := by decide +kernel
theorem dX2_usedOfAll_9 : decode cX2_usedOfAll 9 = .ok (.iload_n 1, 1) := by decide +kernel
theorem dX2_usedOfAll_10 : decode cX2_usedOfAll 10 = .ok (.aload_n 0, 1) := by decide +kernel
theorem dX2_usedOfAll_11 : decode cX2_usedOfAll 11 = .ok (.getfield 11, 3) := by decide +kernel
theorem dX2_usedOfAll_14 : decode cX2_usedOfAll 14 = .ok (.iload_n 2, 1) := by decide +kernel
theorem dX2_usedOfAll_15 : decode cX2_usedOfAll 15 = .ok (.aaload, 1) := by decide +kernel
theorem dX2_usedOfAll_16 : decode cX2_usedOfAll 16 = .ok (.getfield 61, 3) := by decide +kernel
theorem dX2_usedOfAll_19 : decode cX2_usedOfAll 19 = .ok (.invokestatic 90, 3) := by decide +kernel
theorem dX2_usedOfAll_22 : decode cX2_usedOfAll 22 = .ok (.iadd, 1) := by decide +kernel
theorem dX2_usedOfAll_23 : decode cX2_usedOfAll 23 = .ok (.istore_n 1, 1) := by decide +kernel
theorem dX2_usedOfAll_24 : decode cX2_usedOfAll 24 = .ok (.iinc 2 1, 3) := by decide +kernel
theorem dX2_usedOfAll_27 : decode cX2_usedOfAll 27 = .ok (.goto (-23), 3) := by decide +kernel
theorem dX2_usedOfAll_30 : decode cX2_usedOfAll 30 = .ok (.iload_n 1, 1) := by decide +kernel
theorem dX2_usedOfAll_31 : decode cX2_usedOfAll 31 = .ok (.ireturn, 1) := by decide +kernel
theorem dX3_init_0 : decode cX3_init 0 = .ok (.aload_n 0, 1) := by decide +kernel
theorem dX3_init_1 : decode cX3_init 1 = .ok (.invokespecial 3, 3) := by decide +kernel
theorem dX3_init_4 : decode cX3_init 4 = .ok (.return_, 1) := by decide +kernel
theorem dX3_clear_0 : decode cX3_clear 0 = .ok (.aload_n 0, 1) := by decide +kernel
theorem dX3_clear_1 : decode cX3_clear 1 = .ok (.iconst 0, 1) := by decide +kernel
theorem dX3_clear_2 : decode cX3_clear 2 = .ok (.putfield 9, 3) := by decide +kernel
theorem dX3_clear_5 : decode cX3_clear 5 = .ok (.aload_n 0, 1) := by decide +kernel
theorem dX3_clear_6 : decode cX3_clear 6 = .ok (.iconst 0, 1) := by decide +kernel
theorem dX3_clear_7 : decode cX3_clear 7 = .ok (.putfield 15, 3) := by decide +kernel
theorem dX3_clear_10 : decode cX3_clear 10 = .ok (.aload_n 0, 1) := by decide +kernel
theorem dX3_clear_11 : decode cX3_clear 11 = .ok (.invokevirtual 18, 3) := by decide +kernel
theorem dX3_clear_14 : decode cX3_clear 14 = .ok (.return_, 1) := by decide +kernel
theorem dX3_copy_0 : decode cX3_copy 0 = .ok (.aload_n 0, 1) := by decide +kernel
theorem dX3_copy_1 : decode cX3_copy 1 = .ok (.aload_n 1, 1) := by decide +kernel
theorem dX3_copy_2 : decode cX3_copy 2 = .ok (.getfield 9, 3) := by decide +kernel
theorem dX3_copy_5 : decode cX3_copy 5 = .ok (.putfield 9, 3) := by decide +kernel
theorem dX3_copy_8 : decode cX3_copy 8 = .ok (.aload_n 0, 1) := by decide +kernel
theorem dX3_copy_9 : decode cX3_copy 9 = .ok (.aload_n 1, 1) := by decide +kernel
theorem dX3_copy_10 : decode cX3_copy 10 = .ok (.getfield 15, 3) := by decide +kernel
theorem dX3_copy_13 : decode cX3_copy 13 = .ok (.putfield 15, 3) := by decide +kernel
theorem dX3_copy_16 : decode cX3_copy 16 = .ok (.aload_n 0, 1) := by decide +kernel
theorem dX3_copy_17 : decode cX3_copy 17 = .ok (.aload_n 1, 1) := by decide +kernel
theorem dX3_copy_18 : decode cX3_copy 18 = .ok (.getfield 21, 3) := by decide +kernel
theorem dX3_copy_21 : decode cX3_copy 21 = .ok (.putfield 21, 3) := by decide +kernel
theorem dX3_copy_24 : decode cX3_copy 24 = .ok (.aload_n 0, 1) := by decide +kernel
theorem dX3_copy_25 : decode cX3_copy 25 = .ok (.aload_n 1, 1) := by decide +kernel
theorem dX3_copy_26 : decode cX3_copy 26 = .ok (.getfield 24, 3) := by decide +kernel
theorem dX3_copy_29 : decode cX3_copy 29 = .ok (.putfield 24, 3) := by decide +kernel
theorem dX3_copy_32 : decode cX3_copy 32 = .ok (.return_, 1) := by decide +kernel
theorem dX3_forgetTrials_0 : decode cX3_forgetTrials 0 = .ok (.aload_n 0, 1) := by decide +kernel
theorem dX3_forgetTrials_1 : decode cX3_forgetTrials 1 = .ok (.iconst 0, 1) := by decide +kernel
theorem dX3_forgetTrials_2 : decode cX3_forgetTrials 2 = .ok (.putfield 21, 3) := by decide +kernel
theorem dX3_forgetTrials_5 : decode cX3_forgetTrials 5 = .ok (.aload_n 0, 1) := by decide +kernel
theorem dX3_forgetTrials_6 : decode cX3_forgetTrials 6 = .ok (.iconst 0, 1) := by decide +kernel
theorem dX3_forgetTrials_7 : decode cX3_forgetTrials 7 = .ok (.putfield 24, 3) := by decide +kernel
theorem dX3_forgetTrials_10 : decode cX3_forgetTrials 10 = .ok (.return_, 1) := by decide +kernel
theorem dX3_tried_0 : decode cX3_tried 0 = .ok (.iload_n 2, 1) := by decide +kernel
theorem dX3_tried_1 : decode cX3_tried 1 = .ok (.ifCond .eq 18, 3) := by decide +kernel
theorem dX3_tried_4 : decode cX3_tried 4 = .ok (.aload_n 0, 1) := by decide +kernel
theorem dX3_tried_5 : decode cX3_tried 5 = .ok (.dup, 1) := by decide +kernel
theorem dX3_tried_6 : decode cX3_tried 6 = .ok (.getfield 21, 3) := by decide +kernel
theorem dX3_tried_9 : decode cX3_tried 9 = .ok (.iconst 1, 1) := by decide +kernel
theorem dX3_tried_10 : decode cX3_tried 10 = .ok (.iload_n 1, 1) := by decide +kernel
theorem dX3_tried_11 : decode cX3_tried 11 = .ok (.ishl, 1) := by decide +kernel
theorem dX3_tried_12 : decode cX3_tried 12 = .ok (.ior, 1) := by decide +kernel
theorem dX3_tried_13 : decode cX3_tried 13 = .ok (.putfield 21, 3) := by decide +kernel
theorem dX3_tried_16 : decode cX3_tried 16 = .ok (.goto 15, 3) := by decide +kernel
theorem dX3_tried_19 : decode cX3_tried 19 = .ok (.aload_n 0, 1) := by decide +kernel
theorem dX3_tried_20 : decode cX3_tried 20 = .ok (.dup, 1) := by decide +kernel
theorem dX3_tried_21 : decode cX3_tried 21 = .ok (.getfield 24, 3) := by decide +kernel
theorem dX3_tried_24 : decode cX3_tried 24 = .ok (.iconst 1, 1) := by decide +kernel
theorem dX3_tried_25 : decode cX3_tried 25 = .ok (.iload_n 1, 1) := by decide +kernel
theorem dX3_tried_26 : decode cX3_tried 26 = .ok (.ishl, 1) := by decide +kernel
theorem dX3_tried_27 : decode cX3_tried 27 = .ok (.ior, 1) := by decide +kernel
theorem dX3_tried_28 : decode cX3_tried 28 = .ok (.putfield 24, 3) := by decide +kernel
theorem dX3_tried_31 : decode cX3_tried 31 = .ok (.return_, 1) := by decide +kernel
theorem dX3_trueAndNew_0 : decode cX3_trueAndNew 0 = .ok (.aload_n 0, 1) := by decide +kernel
theorem dX3_trueAndNew_1 : decode cX3_trueAndNew 1 = .ok (.getfield 9, 3) := by decide +kernel
theorem dX3_trueAndNew_4 : decode cX3_trueAndNew 4 = .ok (.aload_n 0, 1) := by decide +kernel
theorem dX3_trueAndNew_5 : decode cX3_trueAndNew 5 = .ok (.getfield 15, 3) := by decide +kernel
theorem dX3_trueAndNew_8 : decode cX3_trueAndNew 8 = .ok (.iconst (-1), 1) := by decide +kernel
theorem dX3_trueAndNew_9 : decode cX3_trueAndNew 9 = .ok (.ixor, 1) := by decide +kernel
theorem dX3_trueAndNew_10 : decode cX3_trueAndNew 10 = .ok (.iand, 1) := by decide +kernel
theorem dX3_trueAndNew_11 : decode cX3_trueAndNew 11 = .ok (.ireturn, 1) := by decide +kernel
theorem dX3_possibleSets_0 : decode cX3_possibleSets 0 = .ok (.aload_n 0, 1) := by decide +kernel
theorem dX3_possibleSets_1 : decode cX3_possibleSets 1 = .ok (.getfield 21, 3) := by decide +kernel
theorem dX3_possibleSets_4 : decode cX3_possibleSets 4 = .ok (.aload_n 0, 1) := by decide +kernel
theorem dX3_possibleSets_5 : decode cX3_possibleSets 5 = .ok (.getfield 24, 3) := by decide +kernel
theorem dX3_possibleSets_8 : decode cX3_possibleSets 8 = .ok (.iand, 1) := by decide +kernel
theorem dX3_possibleSets_9 : decode cX3_possibleSets 9 = .ok (.ifCond .eq 5, 3) := by decide +kernel
theorem dX3_possibleSets_12 : decode cX3_possibleSets 12 = .ok (.iconst 0, 1) := by decide +kernel
theorem dX3_possibleSets_13 : decode cX3_possibleSets 13 = .ok (.ireturn, 1) := by decide +kernel
theorem dX3_possibleSets_14 : decode cX3_possibleSets 14 = .ok (.iconst 1, 1) := by decide +kernel
theorem dX3_possibleSets_15 : decode cX3_possibleSets 15 = .ok (.bipush 6, 2) := by decide +kernel
theorem dX3_possibleSets_17 : decode cX3_possibleSets 17 = .ok (.aload_n 0, 1) := by decide +kernel
theorem dX3_possibleSets_18 : decode cX3_possibleSets 18 = .ok (.getfield 21, 3) := by decide +kernel
theorem dX3_possibleSets_21 : decode cX3_possibleSets 21 = .ok (.aload_n 0, 1) := by decide +kernel
theorem dX3_possibleSets_22 : decode cX3_possibleSets 22 = .ok (.getfield 24, 3) := by decide +kernel
theorem dX3_possibleSets_25 : decode cX3_possibleSets 25 = .ok (.ior, 1) := by decide +kernel
theorem dX3_possibleSets_26 : decode cX3_possibleSets 26 = .ok (.invokestatic 27, 3) := by decide +kernel
theorem dX3_possibleSets_29 : decode cX3_possibleSets 29 = .ok (.isub, 1) := by decide +kernel
theorem dX3_possibleSets_30 : decode cX3_possibleSets 30 = .ok (.ishl, 1) := by decide +kernel
theorem dX3_possibleSets_31 : decode cX3_possibleSets 31 = .ok (.ireturn, 1) := by decide +kernel
theorem dX3_sayingToTry_0 : decode cX3_sayingToTry 0 = .ok (.aload_n 0, 1) := by decide +kernel
theorem dX3_sayingToTry_1 : decode cX3_sayingToTry 1 = .ok (.invokevirtual 33, 3) := by decide +kernel
theorem dX3_sayingToTry_4 : decode cX3_sayingToTry 4 = .ok (.ifCond .ne 5, 3) := by decide +kernel
theorem dX3_sayingToTry_7 : decode cX3_sayingToTry 7 = .ok (.iconst (-1), 1) := by decide +kernel
theorem dX3_sayingToTry_8 : decode cX3_sayingToTry 8 = .ok (.ireturn, 1) := by decide +kernel
theorem dX3_sayingToTry_9 : decode cX3_sayingToTry 9 = .ok (.aload_n 0, 1) := by decide +kernel
theorem dX3_sayingToTry_10 : decode cX3_sayingToTry 10 = .ok (.getfield 21, 3) := by decide +kernel
theorem dX3_sayingToTry_13 : decode cX3_sayingToTry 13 = .ok (.aload_n 0, 1) := by decide +kernel
theorem dX3_sayingToTry_14 : decode cX3_sayingToTry 14 = .ok (.getfield 24, 3) := by decide +kernel
theorem dX3_sayingToTry_17 : decode cX3_sayingToTry 17 = .ok (.ior, 1) := by decide +kernel
theorem dX3_sayingToTry_18 : decode cX3_sayingToTry 18 = .ok (.istore_n 1, 1) := by decide +kernel
theorem dX3_sayingToTry_19 : decode cX3_sayingToTry 19 = .ok (.iconst 0, 1) := by decide +kernel
theorem dX3_sayingToTry_20 : decode cX3_sayingToTry 20 = .ok (.istore_n 2, 1) := by decide +kernel
theorem dX3_sayingToTry_21 : decode cX3_sayingToTry 21 = .ok (.iload_n 2, 1) := by decide +kernel
theorem dX3_sayingToTry_22 : decode cX3_sayingToTry 22 = .ok (.bipush 6, 2) := by decide +kernel
theorem dX3_sayingToTry_24 : decode cX3_sayingToTry 24 = .ok (.if_icmp .ge 19, 3) := by decide +kernel
theorem dX3_sayingToTry_27 : decode cX3_sayingToTry 27 = .ok (.iload_n 1, 1) := by decide +kernel
theorem dX3_sayingToTry_28 : decode cX3_sayingToTry 28 = .ok (.iconst 1, 1) := by decide +kernel
theorem dX3_sayingToTry_29 : decode cX3_sayingToTry 29 = .ok (.iload_n 2, 1) := by decide +kernel
theorem dX3_sayingToTry_30 : decode cX3_sayingToTry 30 = .ok (.ishl, 1) := by decide +kernel
theorem dX3_sayingToTry_31 : decode cX3_sayingToTry 31 = .ok (.iand, 1) := by decide +kernel
theorem dX3_sayingToTry_32 : decode cX3_sayingToTry 32 = .ok (.ifCond .ne 5, 3) := by decide +kernel
theorem dX3_sayingToTry_35 : decode cX3_sayingToTry 35 = .ok (.iload_n 2, 1) := by decide +kernel
theorem dX3_sayingToTry_36 : decode cX3_sayingToTry 36 = .ok (.ireturn, 1) := by decide +kernel
theorem dX3_sayingToTry_37 : decode cX3_sayingToTry 37 = .ok (.iinc 2 1, 3) := by decide +kernel
theorem dX3_sayingToTry_40 : decode cX3_sayingToTry 40 = .ok (.goto (-19), 3) := by decide +kernel
theorem dX3_sayingToTry_43 : decode cX3_sayingToTry 43 = .ok (.iconst 0, 1) := by decide +kernel
theorem dX3_sayingToTry_44 : decode cX3_sayingToTry 44 = .ok (.ireturn, 1) := by decide +kernel
theorem dX4_init_0 : decode cX4_init 0 = .ok (.aload_n 0, 1) := by decide +kernel
theorem dX4_init_1 : decode cX4_init 1 = .ok (.invokespecial 3, 3) := by decide +kernel
theorem dX4_init_4 : decode cX4_init 4 = .ok (.aload_n 0, 1) := by decide +kernel
theorem dX4_init_5 : decode cX4_init 5 = .ok (.new 9, 3) := by decide +kernel
theorem dX4_init_8 : decode cX4_init 8 = .ok (.dup, 1) := by decide +kernel
theorem dX4_init_9 : decode cX4_init 9 = .ok (.invokespecial 11, 3) := by decide +kernel
theorem dX4_init_12 : decode cX4_init 12 = .ok (.putfield 12, 3) := by decide +kernel
theorem dX4_init_15 : decode cX4_init 15 = .ok (.return_, 1) := by decide +kernel
theorem dX4_run_0 : decode cX4_run 0 = .ok (.aload_n 0, 1) := by decide +kernel
theorem dX4_run_1 : decode cX4_run 1 = .ok (.getfield 12, 3) := by decide +kernel
theorem dX4_run_4 : decode cX4_run 4 = .ok (.aload_n 1, 1) := by decide +kernel
theorem dX4_run_5 : decode cX4_run 5 = .ok (.invokevirtual 18, 3) := by decide +kernel
theorem dX4_run_8 : decode cX4_run 8 = .ok (.aload_n 0, 1) := by decide +kernel
theorem dX4_run_9 : decode cX4_run 9 = .ok (.iload_n 3, 1) := by decide +kernel
theorem dX4_run_10 : decode cX4_run 10 = .ok (.putfield 22, 3) := by decide +kernel
theorem dX4_run_13 : decode cX4_run 13 = .ok (.aload_n 0, 1) := by decide +kernel
theorem dX4_run_14 : decode cX4_run 14 = .ok (.iconst 0, 1) := by decide +kernel
theorem dX4_run_15 : decode cX4_run 15 = .ok (.putfield 26, 3) := by decide +kernel
theorem dX4_run_18 : decode cX4_run 18 = .ok (.iconst 0, 1) := by decide +kernel
theorem dX4_run_19 : decode cX4_run 19 = .ok (.istore 4, 2) := by decide +kernel
theorem dX4_run_21 : decode cX4_run 21 = .ok (.iload 4, 2) := by decide +kernel
theorem dX4_run_23 : decode cX4_run 23 = .ok (.iload_n 2, 1) := by decide +kernel
theorem dX4_run_24 : decode cX4_run 24 = .ok (.if_icmp .ge 51, 3) := by decide +kernel
theorem dX4_run_27 : decode cX4_run 27 = .ok (.iconst 0, 1) := by decide +kernel
theorem dX4_run_28 : decode cX4_run 28 = .ok (.istore 5, 2) := by decide +kernel
theorem dX4_run_30 : decode cX4_run 30 = .ok (.iload 5, 2) := by decide +kernel
theorem dX4_run_32 : decode cX4_run 32 = .ok (.aload_n 0, 1) := by decide +kernel
theorem dX4_run_33 : decode cX4_run 33 = .ok (.getfield 12, 3) := by decide +kernel
theorem dX4_run_36 : decode cX4_run 36 = .ok (.getfield 29, 3) := by decide +kernel
theorem dX4_run_39 : decode cX4_run 39 = .ok (.if_icmp .ge 23, 3) := by decide +kernel
theorem dX4_run_42 : decode cX4_run 42 = .ok (.aload_n 0, 1) := by decide +kernel
theorem dX4_run_43 : decode cX4_run 43 = .ok (.aload_n 0, 1) := by decide +kernel
theorem dX4_run_44 : decode cX4_run 44 = .ok (.getfield 12, 3) := by decide +kernel
theorem dX4_run_47 : decode cX4_run 47 = .ok (.getfield 32, 3) := by decide +kernel
theorem dX4_run_50 : decode cX4_run 50 = .ok (.iload 5, 2) := by decide +kernel
theorem dX4_run_52 : decode cX4_run 52 = .ok (.aaload, 1) := by decide +kernel
theorem dX4_run_53 : decode cX4_run 53 = .ok (.invokevirtual 36, 3) := by decide +kernel
theorem dX4_run_56 : decode cX4_run 56 = .ok (.iinc 5 1, 3) := by decide +kernel
theorem dX4_run_59 : decode cX4_run 59 = .ok (.goto (-29), 3) := by decide +kernel
theorem dX4_run_62 : decode cX4_run 62 = .ok (.aload_n 0, 1) := by decide +kernel
theorem dX4_run_63 : decode cX4_run 63 = .ok (.getfield 12, 3) := by decide +kernel
theorem dX4_run_66 : decode cX4_run 66 = .ok (.invokevirtual 40, 3) := by decide +kernel
theorem dX4_run_69 : decode cX4_run 69 = .ok (.iinc 4 1, 3) := by decide +kernel
theorem dX4_run_72 : decode cX4_run 72 = .ok (.goto (-51), 3) := by decide +kernel
theorem dX4_run_75 : decode cX4_run 75 = .ok (.return_, 1) := by decide +kernel
theorem dX4_talk_0 : decode cX4_talk 0 = .ok (.aload_n 1, 1) := by decide +kernel
theorem dX4_talk_1 : decode cX4_talk 1 = .ok (.getfield 43, 3) := by decide +kernel
theorem dX4_talk_4 : decode cX4_talk 4 = .ok (.istore_n 2, 1) := by decide +kernel
theorem dX4_talk_5 : decode cX4_talk 5 = .ok (.iload_n 2, 1) := by decide +kernel
theorem dX4_talk_6 : decode cX4_talk 6 = .ok (.ifCond .le 51, 3) := by decide +kernel
theorem dX4_talk_9 : decode cX4_talk 9 = .ok (.aload_n 1, 1) := by decide +kernel
theorem dX4_talk_10 : decode cX4_talk 10 = .ok (.invokevirtual 48, 3) := by decide +kernel
theorem dX4_talk_13 : decode cX4_talk 13 = .ok (.ifCond .ne 44, 3) := by decide +kernel
theorem dX4_talk_16 : decode cX4_talk 16 = .ok (.aload_n 0, 1) := by decide +kernel
theorem dX4_talk_17 : decode cX4_talk 17 = .ok (.invokevirtual 52, 3) := by decide +kernel
theorem dX4_talk_20 : decode cX4_talk 20 = .ok (.istore_n 3, 1) := by decide +kernel
theorem dX4_talk_21 : decode cX4_talk 21 = .ok (.aload_n 1, 1) := by decide +kernel
theorem dX4_talk_22 : decode cX4_talk 22 = .ok (.iload_n 3, 1) := by decide +kernel
theorem dX4_talk_23 : decode cX4_talk 23 = .ok (.invokevirtual 56, 3) := by decide +kernel
theorem dX4_talk_26 : decode cX4_talk 26 = .ok (.ifCond .eq 25, 3) := by decide +kernel
theorem dX4_talk_29 : decode cX4_talk 29 = .ok (.aload_n 0, 1) := by decide +kernel
theorem dX4_talk_30 : decode cX4_talk 30 = .ok (.getfield 12, 3) := by decide +kernel
theorem dX4_talk_33 : decode cX4_talk 33 = .ok (.aload_n 1, 1) := by decide +kernel
theorem dX4_talk_34 : decode cX4_talk 34 = .ok (.iload_n 3, 1) := by decide +kernel
theorem dX4_talk_35 : decode cX4_talk 35 = .ok (.invokevirtual 60, 3) := by decide +kernel
theorem dX4_talk_38 : decode cX4_talk 38 = .ok (.ifCond .eq 13, 3) := by decide +kernel
theorem dX4_talk_41 : decode cX4_talk 41 = .ok (.aload_n 0, 1) := by decide +kernel
theorem dX4_talk_42 : decode cX4_talk 42 = .ok (.dup, 1) := by decide +kernel
theorem dX4_talk_43 : decode cX4_talk 43 = .ok (.getfield 26, 3) := by decide +kernel
theorem dX4_talk_46 : decode cX4_talk 46 = .ok (.iconst 1, 1) := by decide +kernel
theorem dX4_talk_47 : decode cX4_talk 47 = .ok (.iadd, 1) := by decide +kernel
theorem dX4_talk_48 : decode cX4_talk 48 = .ok (.putfield 26, 3) := by decide +kernel
theorem dX4_talk_51 : decode cX4_talk 51 = .ok (.iinc 2 (-1), 3) := by decide +kernel
theorem dX4_talk_54 : decode cX4_talk 54 = .ok (.goto (-49), 3) := by decide +kernel
theorem dX4_talk_57 : decode cX4_talk 57 = .ok (.return_, 1) := by decide +kernel
theorem dX4_draw_0 : decode cX4_draw 0 = .ok (.aload_n 0, 1) := by decide +kernel
theorem dX4_draw_1 : decode cX4_draw 1 = .ok (.ldc2_w 64, 3) := by decide +kernel
theorem dX4_draw_4 : decode cX4_draw 4 = .ok (.aload_n 0, 1) := by decide +kernel
theorem dX4_draw_5 : decode cX4_draw 5 = .ok (.getfield 22, 3) := by decide +kernel
theorem dX4_draw_8 : decode cX4_draw 8 = .ok (.i2l, 1) := by decide +kernel
theorem dX4_draw_9 : decode cX4_draw 9 = .ok (.lmul, 1) := by decide +kernel
theorem dX4_draw_10 : decode cX4_draw 10 = .ok (.ldc2_w 66, 3) := by decide +kernel
theorem dX4_draw_13 : decode cX4_draw 13 = .ok (.ladd, 1) := by decide +kernel
theorem dX4_draw_14 : decode cX4_draw 14 = .ok (.ldc2_w 68, 3) := by decide +kernel
theorem dX4_draw_17 : decode cX4_draw 17 = .ok (.land, 1) := by decide +kernel
theorem dX4_draw_18 : decode cX4_draw 18 = .ok (.l2i, 1) := by decide +kernel
theorem dX4_draw_19 : decode cX4_draw 19 = .ok (.putfield 22, 3) := by decide +kernel
theorem dX4_draw_22 : decode cX4_draw 22 = .ok (.aload_n 0, 1) := by decide +kernel
theorem dX4_draw_23 : decode cX4_draw 23 = .ok (.getfield 22, 3) := by decide +kernel
theorem dX4_draw_26 : decode cX4_draw 26 = .ok (.ldc 70, 2) := by decide +kernel
theorem dX4_draw_28 : decode cX4_draw 28 = .ok (.idiv, 1) := by decide +kernel
theorem dX4_draw_29 : decode cX4_draw 29 = .ok (.bipush 6, 2) := by decide +kernel
theorem dX4_draw_31 : decode cX4_draw 31 = .ok (.irem, 1) := by decide +kernel
theorem dX4_draw_32 : decode cX4_draw 32 = .ok (.ireturn, 1) := by decide +kernel
theorem dX5_init_0 : decode cX5_init 0 = .ok (.aload_n 0, 1) := by decide +kernel
theorem dX5_init_1 : decode cX5_init 1 = .ok (.invokespecial 1, 3) := by decide +kernel
theorem dX5_init_4 : decode cX5_init 4 = .ok (.aload_n 0, 1) := by decide +kernel
theorem dX5_init_5 : decode cX5_init 5 = .ok (.bipush 12, 2) := by decide +kernel
theorem dX5_init_7 : decode cX5_init 7 = .ok (.newarray .char, 2) := by decide +kernel
theorem dX5_init_9 : decode cX5_init 9 = .ok (.putfield 9, 3) := by decide +kernel
theorem dX5_init_12 : decode cX5_init 12 = .ok (.aload_n 0, 1) := by decide +kernel
theorem dX5_init_13 : decode cX5_init 13 = .ok (.new 13, 3) := by decide +kernel
theorem dX5_init_16 : decode cX5_init 16 = .ok (.dup, 1) := by decide +kernel
theorem dX5_init_17 : decode cX5_init 17 = .ok (.invokespecial 15, 3) := by decide +kernel
theorem dX5_init_20 : decode cX5_init 20 = .ok (.putfield 16, 3) := by decide +kernel
theorem dX5_init_23 : decode cX5_init 23 = .ok (.aload_n 0, 1) := by decide +kernel
theorem dX5_init_24 : decode cX5_init 24 = .ok (.new 13, 3) := by decide +kernel
theorem dX5_init_27 : decode cX5_init 27 = .ok (.dup, 1) := by decide +kernel
theorem dX5_init_28 : decode cX5_init 28 = .ok (.invokespecial 15, 3) := by decide +kernel
theorem dX5_init_31 : decode cX5_init 31 = .ok (.putfield 20, 3) := by decide +kernel
theorem dX5_init_34 : decode cX5_init 34 = .ok (.aload_n 0, 1) := by decide +kernel
theorem dX5_init_35 : decode cX5_init 35 = .ok (.new 23, 3) := by decide +kernel
theorem dX5_init_38 : decode cX5_init 38 = .ok (.dup, 1) := by decide +kernel
theorem dX5_init_39 : decode cX5_init 39 = .ok (.invokespecial 25, 3) := by decide +kernel
theorem dX5_init_42 : decode cX5_init 42 = .ok (.putfield 26, 3) := by decide +kernel
theorem dX5_init_45 : decode cX5_init 45 = .ok (.aload_n 0, 1) := by decide +kernel
theorem dX5_init_46 : decode cX5_init 46 = .ok (.new 30, 3) := by decide +kernel
theorem dX5_init_49 : decode cX5_init 49 = .ok (.dup, 1) := by decide +kernel
theorem dX5_init_50 : decode cX5_init 50 = .ok (.invokespecial 32, 3) := by decide +kernel
theorem dX5_init_53 : decode cX5_init 53 = .ok (.putfield 33, 3) := by decide +kernel
theorem dX5_init_56 : decode cX5_init 56 = .ok (.return_, 1) := by decide +kernel
theorem dX5_letter_0 : decode cX5_letter 0 = .ok (.iload_n 1, 1) := by decide +kernel
theorem dX5_letter_1 : decode cX5_letter 1 = .ok (.iconst 1, 1) := by decide +kernel
theorem dX5_letter_2 : decode cX5_letter 2 = .ok (.if_icmp .lt 9, 3) := by decide +kernel
theorem dX5_letter_5 : decode cX5_letter 5 = .ok (.iload_n 1, 1) := by decide +kernel
theorem dX5_letter_6 : decode cX5_letter 6 = .ok (.bipush 126, 2) := by decide +kernel
theorem dX5_letter_8 : decode cX5_letter 8 = .ok (.if_icmp .le 6, 3) := by decide +kernel
theorem dX5_letter_11 : decode cX5_letter 11 = .ok (.bipush (-102), 2) := by decide +kernel
theorem dX5_letter_13 : decode cX5_letter 13 = .ok (.ireturn, 1) := by decide +kernel
theorem dX5_letter_14 : decode cX5_letter 14 = .ok (.aload_n 0, 1) := by decide +kernel
theorem dX5_letter_15 : decode cX5_letter 15 = .ok (.getfield 37, 3) := by decide +kernel
theorem dX5_letter_18 : decode cX5_letter 18 = .ok (.bipush 12, 2) := by decide +kernel
theorem dX5_letter_20 : decode cX5_letter 20 = .ok (.if_icmp .lt 6, 3) := by decide +kernel
theorem dX5_letter_23 : decode cX5_letter 23 = .ok (.bipush (-104), 2) := by decide +kernel
theorem dX5_letter_25 : decode cX5_letter 25 = .ok (.ireturn, 1) := by decide +kernel
theorem dX5_letter_26 : decode cX5_letter 26 = .ok (.aload_n 0, 1) := by decide +kernel
theorem dX5_letter_27 : decode cX5_letter 27 = .ok (.getfield 9, 3) := by decide +kernel
theorem dX5_letter_30 : decode cX5_letter 30 = .ok (.aload_n 0, 1) := by decide +kernel
theorem dX5_letter_31 : decode cX5_letter 31 = .ok (.getfield 37, 3) := by decide +kernel
theorem dX5_letter_34 : decode cX5_letter 34 = .ok (.iload_n 1, 1) := by decide +kernel
theorem dX5_letter_35 : decode cX5_letter 35 = .ok (.i2c, 1) := by decide +kernel
theorem dX5_letter_36 : decode cX5_letter 36 = .ok (.castore, 1) := by decide +kernel
theorem dX5_letter_37 : decode cX5_letter 37 = .ok (.aload_n 0, 1) := by decide +kernel
theorem dX5_letter_38 : decode cX5_letter 38 = .ok (.dup, 1) := by decide +kernel
theorem dX5_letter_39 : decode cX5_letter 39 = .ok (.getfield 37, 3) := by decide +kernel
theorem dX5_letter_42 : decode cX5_letter 42 = .ok (.iconst 1, 1) := by decide +kernel
theorem dX5_letter_43 : decode cX5_letter 43 = .ok (.iadd, 1) := by decide +kernel
theorem dX5_letter_44 : decode cX5_letter 44 = .ok (.putfield 37, 3) := by decide +kernel
theorem dX5_letter_47 : decode cX5_letter 47 = .ok (.aload_n 0, 1) := by decide +kernel
theorem dX5_letter_48 : decode cX5_letter 48 = .ok (.getfield 37, 3) := by decide +kernel
theorem dX5_letter_51 : decode cX5_letter 51 = .ok (.ireturn, 1) := by decide +kernel
theorem dX5_blank_0 : decode cX5_blank 0 = .ok (.aload_n 0, 1) := by decide +kernel
theorem dX5_blank_1 : decode cX5_blank 1 = .ok (.getfield 37, 3) := by decide +kernel
theorem dX5_blank_4 : decode cX5_blank 4 = .ok (.istore_n 1, 1) := by decide +kernel
theorem dX5_blank_5 : decode cX5_blank 5 = .ok (.aload_n 0, 1) := by decide +kernel
theorem dX5_blank_6 : decode cX5_blank 6 = .ok (.iconst 0, 1) := by decide +kernel
theorem dX5_blank_7 : decode cX5_blank 7 = .ok (.putfield 37, 3) := by decide +kernel
theorem dX5_blank_10 : decode cX5_blank 10 = .ok (.iload_n 1, 1) := by decide +kernel
theorem dX5_blank_11 : decode cX5_blank 11 = .ok (.ireturn, 1) := by decide +kernel
theorem dX5_fault_0 : decode cX5_fault 0 = .ok (.iconst 0, 1) := by decide +kernel
theorem dX5_fault_1 : decode cX5_fault 1 = .ok (.istore_n 1, 1) := by decide +kernel
theorem dX5_fault_2 : decode cX5_fault 2 = .ok (.iload_n 1, 1) := by decide +kernel
theorem dX5_fault_3 : decode cX5_fault 3 = .ok (.aload_n 0, 1) := by decide +kernel
theorem dX5_fault_4 : decode cX5_fault 4 = .ok (.getfield 37, 3) := by decide +kernel
theorem dX5_fault_7 : decode cX5_fault 7 = .ok (.if_icmp .ge 24, 3) := by decide +kernel
theorem dX5_fault_10 : decode cX5_fault 10 = .ok (.iload_n 1, 1) := by decide +kernel
theorem dX5_fault_11 : decode cX5_fault 11 = .ok (.aload_n 0, 1) := by decide +kernel
theorem dX5_fault_12 : decode cX5_fault 12 = .ok (.getfield 9, 3) := by decide +kernel
theorem dX5_fault_15 : decode cX5_fault 15 = .ok (.iload_n 1, 1) := by decide +kernel
theorem dX5_fault_16 : decode cX5_fault 16 = .ok (.caload, 1) := by decide +kernel
theorem dX5_fault_17 : decode cX5_fault 17 = .ok (.invokestatic 41, 3) := by decide +kernel
theorem dX5_fault_20 : decode cX5_fault 20 = .ok (.ifCond .ne 5, 3) := by decide +kernel
theorem dX5_fault_23 : decode cX5_fault 23 = .ok (.iload_n 1, 1) := by decide +kernel
theorem dX5_fault_24 : decode cX5_fault 24 = .ok (.ireturn, 1) := by decide +kernel
theorem dX5_fault_25 : decode cX5_fault 25 = .ok (.iinc 1 1, 3) := by decide +kernel
theorem dX5_fault_28 : decode cX5_fault 28 = .ok (.goto (-26), 3) := by decide +kernel
theorem dX5_fault_31 : decode cX5_fault 31 = .ok (.aload_n 0, 1) := by decide +kernel
theorem dX5_fault_32 : decode cX5_fault 32 = .ok (.getfield 37, 3) := by decide +kernel
theorem dX5_fault_35 : decode cX5_fault 35 = .ok (.ireturn, 1) := by decide +kernel
theorem dX5_town_0 : decode cX5_town 0 = .ok (.aload_n 0, 1) := by decide +kernel
theorem dX5_town_1 : decode cX5_town 1 = .ok (.getfield 37, 3) := by decide +kernel
theorem dX5_town_4 : decode cX5_town 4 = .ok (.ldc 45, 2) := by decide +kernel
theorem dX5_town_6 : decode cX5_town 6 = .ok (.invokevirtual 47, 3) := by decide +kernel
theorem dX5_town_9 : decode cX5_town 9 = .ok (.if_icmp .ne 14, 3) := by decide +kernel
theorem dX5_town_12 : decode cX5_town 12 = .ok (.aload_n 0, 1) := by decide +kernel
theorem dX5_town_13 : decode cX5_town 13 = .ok (.invokevirtual 53, 3) := by decide +kernel
theorem dX5_town_16 : decode cX5_town 16 = .ok (.aload_n 0, 1) := by decide +kernel
theorem dX5_town_17 : decode cX5_town 17 = .ok (.getfield 37, 3) := by decide +kernel
theorem dX5_town_20 : decode cX5_town 20 = .ok (.if_icmp .eq 6, 3) := by decide +kernel
theorem dX5_town_23 : decode cX5_town 23 = .ok (.bipush (-103), 2) := by decide +kernel
theorem dX5_town_25 : decode cX5_town 25 = .ok (.ireturn, 1) := by decide +kernel
theorem dX5_town_26 : decode cX5_town 26 = .ok (.aload_n 0, 1) := by decide +kernel
theorem dX5_town_27 : decode cX5_town 27 = .ok (.getfield 16, 3) := by decide +kernel
theorem dX5_town_30 : decode cX5_town 30 = .ok (.invokevirtual 56, 3) := by decide +kernel
theorem dX5_town_33 : decode cX5_town 33 = .ok (.iconst 0, 1) := by decide +kernel
theorem dX5_town_34 : decode cX5_town 34 = .ok (.istore_n 1, 1) := by decide +kernel
theorem dX5_town_35 : decode cX5_town 35 = .ok (.iload_n 1, 1) := by decide +kernel
theorem dX5_town_36 : decode cX5_town 36 = .ok (.iconst 3, 1) := by decide +kernel
theorem dX5_town_37 : decode cX5_town 37 = .ok (.if_icmp .ge 41, 3) := by decide +kernel
theorem dX5_town_40 : decode cX5_town 40 = .ok (.iconst 3, 1) := by decide +kernel
theorem dX5_town_41 : decode cX5_town 41 = .ok (.iload_n 1, 1) := by decide +kernel
theorem dX5_town_42 : decode cX5_town 42 = .ok (.imul, 1) := by decide +kernel
theorem dX5_town_43 : decode cX5_town 43 = .ok (.istore_n 2, 1) := by decide +kernel
theorem dX5_town_44 : decode cX5_town 44 = .ok (.aload_n 0, 1) := by decide +kernel
theorem dX5_town_45 : decode cX5_town 45 = .ok (.getfield 16, 3) := by decide +kernel
theorem dX5_town_48 : decode cX5_town 48 = .ok (.getfield 59, 3) := by decide +kernel
theorem dX5_town_51 : decode cX5_town 51 = .ok (.iload_n 1, 1) := by decide +kernel
theorem dX5_town_52 : decode cX5_town 52 = .ok (.aaload, 1) := by decide +kernel
theorem dX5_town_53 : decode cX5_town 53 = .ok (.bipush 8, 2) := by decide +kernel
theorem dX5_town_55 : decode cX5_town 55 = .ok (.aload_n 0, 1) := by decide +kernel
theorem dX5_town_56 : decode cX5_town 56 = .ok (.iload_n 2, 1) := by decide +kernel
theorem dX5_town_57 : decode cX5_town 57 = .ok (.invokevirtual 63, 3) := by decide +kernel
theorem dX5_town_60 : decode cX5_town 60 = .ok (.imul, 1) := by decide +kernel
theorem dX5_town_61 : decode cX5_town 61 = .ok (.aload_n 0, 1) := by decide +kernel
theorem dX5_town_62 : decode cX5_town 62 = .ok (.iload_n 2, 1) := by decide +kernel
theorem dX5_town_63 : decode cX5_town 63 = .ok (.iconst 1, 1) := by decide +kernel
theorem dX5_town_64 : decode cX5_town 64 = .ok (.iadd, 1) := by decide +kernel
theorem dX5_town_65 : decode cX5_town 65 = .ok (.invokevirtual 63, 3) := by decide +kernel
theorem dX5_town_68 : decode cX5_town 68 = .ok (.iadd, 1) := by decide +kernel
theorem dX5_town_69 : decode cX5_town 69 = .ok (.putfield 67, 3) := by decide +kernel
theorem dX5_town_72 : decode cX5_town 72 = .ok (.iinc 1 1, 3) := by decide +kernel
theorem dX5_town_75 : decode cX5_town 75 = .ok (.goto (-40), 3) := by decide +kernel
theorem dX5_town_78 : decode cX5_town 78 = .ok (.aload_n 0, 1) := by decide +kernel
theorem dX5_town_79 : decode cX5_town 79 = .ok (.getfield 16, 3) := by decide +kernel
theorem dX5_town_82 : decode cX5_town 82 = .ok (.aload_n 0, 1) := by decide +kernel
theorem dX5_town_83 : decode cX5_town 83 = .ok (.bipush 9, 2) := by decide +kernel
theorem dX5_town_85 : decode cX5_town 85 = .ok (.invokevirtual 63, 3) := by decide +kernel
theorem dX5_town_88 : decode cX5_town 88 = .ok (.putfield 72, 3) := by decide +kernel
theorem dX5_town_91 : decode cX5_town 91 = .ok (.aload_n 0, 1) := by decide +kernel
theorem dX5_town_92 : decode cX5_town 92 = .ok (.iconst 0, 1) := by decide +kernel
theorem dX5_town_93 : decode cX5_town 93 = .ok (.putfield 37, 3) := by decide +kernel
theorem dX5_town_96 : decode cX5_town 96 = .ok (.aload_n 0, 1) := by decide +kernel
theorem dX5_town_97 : decode cX5_town 97 = .ok (.iconst 1, 1) := by decide +kernel
theorem dX5_town_98 : decode cX5_town 98 = .ok (.putfield 75, 3) := by decide +kernel
theorem dX5_town_101 : decode cX5_town 101 = .ok (.aload_n 0, 1) := by decide +kernel
theorem dX5_town_102 : decode cX5_town 102 = .ok (.iconst 0, 1) := by decide +kernel
theorem dX5_town_103 : decode cX5_town 103 = .ok (.putfield 79, 3) := by decide +kernel
theorem dX5_town_106 : decode cX5_town 106 = .ok (.aload_n 0, 1) := by decide +kernel
theorem dX5_town_107 : decode cX5_town 107 = .ok (.dup, 1) := by decide +kernel
theorem dX5_town_108 : decode cX5_town 108 = .ok (.getfield 82, 3) := by decide +kernel
theorem dX5_town_111 : decode cX5_town 111 = .ok (.iconst 1, 1) := by decide +kernel
theorem dX5_town_112 : decode cX5_town 112 = .ok (.iadd, 1) := by decide +kernel
theorem dX5_town_113 : decode cX5_town 113 = .ok (.putfield 82, 3) := by decide +kernel
theorem dX5_town_116 : decode cX5_town 116 = .ok (.aload_n 0, 1) := by decide +kernel
theorem dX5_town_117 : decode cX5_town 117 = .ok (.getfield 16, 3) := by decide +kernel
theorem dX5_town_120 : decode cX5_town 120 = .ok (.invokevirtual 85, 3) := by decide +kernel
theorem dX5_town_123 : decode cX5_town 123 = .ok (.ireturn, 1) := by decide +kernel
theorem dX5_victim_0 : decode cX5_victim 0 = .ok (.aload_n 0, 1) := by decide +kernel
theorem dX5_victim_1 : decode cX5_victim 1 = .ok (.iload_n 1, 1) := by decide +kernel
theorem dX5_victim_2 : decode cX5_victim 2 = .ok (.invokevirtual 88, 3) := by decide +kernel
theorem dX5_victim_5 : decode cX5_victim 5 = .ok (.ifCond .ne 6, 3) := by decide +kernel
theorem dX5_victim_8 : decode cX5_victim 8 = .ok (.bipush (-101), 2) := by decide +kernel
theorem dX5_victim_10 : decode cX5_victim 10 = .ok (.ireturn, 1) := by decide +kernel
theorem dX5_victim_11 : decode cX5_victim 11 = .ok (.iload_n 2, 1) := by decide +kernel
theorem dX5_victim_12 : decode cX5_victim 12 = .ok (.ifCond .lt 8, 3) := by decide +kernel
theorem dX5_victim_15 : decode cX5_victim 15 = .ok (.iload_n 2, 1) := by decide +kernel
theorem dX5_victim_16 : decode cX5_victim 16 = .ok (.iconst 3, 1) := by decide +kernel
theorem dX5_victim_17 : decode cX5_victim 17 = .ok (.if_icmp .le 6, 3) := by decide +kernel
theorem dX5_victim_20 : decode cX5_victim 20 = .ok (.bipush (-102), 2) := by decide +kernel
theorem dX5_victim_22 : decode cX5_victim 22 = .ok (.ireturn, 1) := by decide +kernel
theorem dX5_victim_23 : decode cX5_victim 23 = .ok (.iload_n 2, 1) := by decide +kernel
theorem dX5_victim_24 : decode cX5_victim 24 = .ok (.tableswitch 63 0 2 #[28, 41, 54], 28) := by decide +kernel
theorem dX5_victim_52 : decode cX5_victim 52 = .ok (.aload_n 0, 1) := by decide +kernel
theorem dX5_victim_53 : decode cX5_victim 53 = .ok (.getfield 16, 3) := by decide +kernel
theorem dX5_victim_56 : decode cX5_victim 56 = .ok (.getfield 59, 3) := by decide +kernel
theorem dX5_victim_59 : decode cX5_victim 59 = .ok (.iload_n 1, 1) := by decide +kernel
theorem dX5_victim_60 : decode cX5_victim 60 = .ok (.aaload, 1) := by decide +kernel
theorem dX5_victim_61 : decode cX5_victim 61 = .ok (.getfield 67, 3) := by decide +kernel
theorem dX5_victim_64 : decode cX5_victim 64 = .ok (.ireturn, 1) := by decide +kernel
theorem dX5_victim_65 : decode cX5_victim 65 = .ok (.aload_n 0, 1) := by decide +kernel
theorem dX5_victim_66 : decode cX5_victim 66 = .ok (.getfield 16, 3) := by decide +kernel
theorem dX5_victim_69 : decode cX5_victim 69 = .ok (.getfield 59, 3) := by decide +kernel
theorem dX5_victim_72 : decode cX5_victim 72 = .ok (.iload_n 1, 1) := by decide +kernel
theorem dX5_victim_73 : decode cX5_victim 73 = .ok (.aaload, 1) := by decide +kernel
theorem dX5_victim_74 : decode cX5_victim 74 = .ok (.getfield 92, 3) := by decide +kernel
theorem dX5_victim_77 : decode cX5_victim 77 = .ok (.ireturn, 1) := by decide +kernel
theorem dX5_victim_78 : decode cX5_victim 78 = .ok (.aload_n 0, 1) := by decide +kernel
theorem dX5_victim_79 : decode cX5_victim 79 = .ok (.getfield 16, 3) := by decide +kernel
theorem dX5_victim_82 : decode cX5_victim 82 = .ok (.iload_n 1, 1) := by decide +kernel
theorem dX5_victim_83 : decode cX5_victim 83 = .ok (.invokevirtual 95, 3) := by decide +kernel
theorem dX5_victim_86 : decode cX5_victim 86 = .ok (.ireturn, 1) := by decide +kernel
theorem dX5_victim_87 : decode cX5_victim 87 = .ok (.aload_n 0, 1) := by decide +kernel
theorem dX5_victim_88 : decode cX5_victim 88 = .ok (.getfield 16, 3) := by decide +kernel
theorem dX5_victim_91 : decode cX5_victim 91 = .ok (.aload_n 0, 1) := by decide +kernel
theorem dX5_victim_92 : decode cX5_victim 92 = .ok (.getfield 16, 3) := by decide +kernel
theorem dX5_victim_95 : decode cX5_victim 95 = .ok (.iload_n 1, 1) := by decide +kernel
theorem dX5_victim_96 : decode cX5_victim 96 = .ok (.invokevirtual 95, 3) := by decide +kernel
theorem dX5_victim_99 : decode cX5_victim 99 = .ok (.invokevirtual 98, 3) := by decide +kernel
theorem dX5_victim_102 : decode cX5_victim 102 = .ok (.ireturn, 1) := by decide +kernel
theorem dX5_convict_0 : decode cX5_convict 0 = .ok (.iload_n 1, 1) := by decide +kernel
theorem dX5_convict_1 : decode cX5_convict 1 = .ok (.invokestatic 101, 3) := by decide +kernel
theorem dX5_convict_4 : decode cX5_convict 4 = .ok (.ifCond .eq 26, 3) := by decide +kernel
theorem dX5_convict_7 : decode cX5_convict 7 = .ok (.iload_n 3, 1) := by decide +kernel
theorem dX5_convict_8 : decode cX5_convict 8 = .ok (.iconst 1, 1) := by decide +kernel
theorem dX5_convict_9 : decode cX5_convict 9 = .ok (.if_icmp .lt 21, 3) := by decide +kernel
theorem dX5_convict_12 : decode cX5_convict 12 = .ok (.iload_n 3, 1) := by decide +kernel
theorem dX5_convict_13 : decode cX5_convict 13 = .ok (.bipush 9, 2) := by decide +kernel
theorem dX5_convict_15 : decode cX5_convict 15 = .ok (.if_icmp .gt 15, 3) := by decide +kernel
theorem dX5_convict_18 : decode cX5_convict 18 = .ok (.iload 4, 2) := by decide +kernel
end
section
theorem dX5_convict_20 : decode cX5_convict 20 = .ok (.ifCond .lt 10, 3) := by decide +kernel
theorem dX5_convict_23 : decode cX5_convict 23 = .ok (.iload 4, 2) := by decide +kernel
theorem dX5_convict_25 : decode cX5_convict 25 = .ok (.bipush 63, 2) := by decide +kernel
theorem dX5_convict_27 : decode cX5_convict 27 = .ok (.if_icmp .le 6, 3) := by decide +kernel
theorem dX5_convict_30 : decode cX5_convict 30 = .ok (.bipush (-102), 2) := by decide +kernel
theorem dX5_convict_32 : decode cX5_convict 32 = .ok (.ireturn, 1) := by decide +kernel
theorem dX5_convict_33 : decode cX5_convict 33 = .ok (.aload_n 0, 1) := by decide +kernel
theorem dX5_convict_34 : decode cX5_convict 34 = .ok (.iload_n 2, 1) := by decide +kernel
theorem dX5_convict_35 : decode cX5_convict 35 = .ok (.invokevirtual 88, 3) := by decide +kernel
theorem dX5_convict_38 : decode cX5_convict 38 = .ok (.ifCond .ne 6, 3) := by decide +kernel
theorem dX5_convict_41 : decode cX5_convict 41 = .ok (.bipush (-101), 2) := by decide +kernel
theorem dX5_convict_43 : decode cX5_convict 43 = .ok (.ireturn, 1) := by decide +kernel
theorem dX5_convict_44 : decode cX5_convict 44 = .ok (.aload_n 0, 1) := by decide +kernel
theorem dX5_convict_45 : decode cX5_convict 45 = .ok (.getfield 16, 3) := by decide +kernel
theorem dX5_convict_48 : decode cX5_convict 48 = .ok (.getfield 104, 3) := by decide +kernel
theorem dX5_convict_51 : decode cX5_convict 51 = .ok (.iconst 4, 1) := by decide +kernel
theorem dX5_convict_52 : decode cX5_convict 52 = .ok (.if_icmp .lt 6, 3) := by decide +kernel
theorem dX5_convict_55 : decode cX5_convict 55 = .ok (.bipush (-104), 2) := by decide +kernel
theorem dX5_convict_57 : decode cX5_convict 57 = .ok (.ireturn, 1) := by decide +kernel
theorem dX5_convict_58 : decode cX5_convict 58 = .ok (.aload_n 0, 1) := by decide +kernel
theorem dX5_convict_59 : decode cX5_convict 59 = .ok (.getfield 16, 3) := by decide +kernel
theorem dX5_convict_62 : decode cX5_convict 62 = .ok (.getfield 104, 3) := by decide +kernel
theorem dX5_convict_65 : decode cX5_convict 65 = .ok (.istore 5, 2) := by decide +kernel
theorem dX5_convict_67 : decode cX5_convict 67 = .ok (.aload_n 0, 1) := by decide +kernel
theorem dX5_convict_68 : decode cX5_convict 68 = .ok (.getfield 16, 3) := by decide +kernel
theorem dX5_convict_71 : decode cX5_convict 71 = .ok (.getfield 107, 3) := by decide +kernel
theorem dX5_convict_74 : decode cX5_convict 74 = .ok (.iload 5, 2) := by decide +kernel
theorem dX5_convict_76 : decode cX5_convict 76 = .ok (.aaload, 1) := by decide +kernel
theorem dX5_convict_77 : decode cX5_convict 77 = .ok (.iload_n 1, 1) := by decide +kernel
theorem dX5_convict_78 : decode cX5_convict 78 = .ok (.iload_n 2, 1) := by decide +kernel
theorem dX5_convict_79 : decode cX5_convict 79 = .ok (.iload_n 3, 1) := by decide +kernel
theorem dX5_convict_80 : decode cX5_convict 80 = .ok (.iload 4, 2) := by decide +kernel
theorem dX5_convict_82 : decode cX5_convict 82 = .ok (.invokevirtual 111, 3) := by decide +kernel
theorem dX5_convict_85 : decode cX5_convict 85 = .ok (.aload_n 0, 1) := by decide +kernel
theorem dX5_convict_86 : decode cX5_convict 86 = .ok (.getfield 16, 3) := by decide +kernel
theorem dX5_convict_89 : decode cX5_convict 89 = .ok (.dup, 1) := by decide +kernel
theorem dX5_convict_90 : decode cX5_convict 90 = .ok (.getfield 104, 3) := by decide +kernel
theorem dX5_convict_93 : decode cX5_convict 93 = .ok (.iconst 1, 1) := by decide +kernel
theorem dX5_convict_94 : decode cX5_convict 94 = .ok (.iadd, 1) := by decide +kernel
theorem dX5_convict_95 : decode cX5_convict 95 = .ok (.putfield 104, 3) := by decide +kernel
theorem dX5_convict_98 : decode cX5_convict 98 = .ok (.iload 5, 2) := by decide +kernel
theorem dX5_convict_100 : decode cX5_convict 100 = .ok (.ireturn, 1) := by decide +kernel
theorem dX5_about_0 : decode cX5_about 0 = .ok (.aload_n 0, 1) := by decide +kernel
theorem dX5_about_1 : decode cX5_about 1 = .ok (.iload_n 1, 1) := by decide +kernel
theorem dX5_about_2 : decode cX5_about 2 = .ok (.invokevirtual 117, 3) := by decide +kernel
theorem dX5_about_5 : decode cX5_about 5 = .ok (.ifCond .ne 6, 3) := by decide +kernel
theorem dX5_about_8 : decode cX5_about 8 = .ok (.bipush (-101), 2) := by decide +kernel
theorem dX5_about_10 : decode cX5_about 10 = .ok (.ireturn, 1) := by decide +kernel
theorem dX5_about_11 : decode cX5_about 11 = .ok (.iload_n 2, 1) := by decide +kernel
theorem dX5_about_12 : decode cX5_about 12 = .ok (.ifCond .lt 9, 3) := by decide +kernel
theorem dX5_about_15 : decode cX5_about 15 = .ok (.iload_n 2, 1) := by decide +kernel
theorem dX5_about_16 : decode cX5_about 16 = .ok (.bipush 8, 2) := by decide +kernel
theorem dX5_about_18 : decode cX5_about 18 = .ok (.if_icmp .le 6, 3) := by decide +kernel
theorem dX5_about_21 : decode cX5_about 21 = .ok (.bipush (-102), 2) := by decide +kernel
theorem dX5_about_23 : decode cX5_about 23 = .ok (.ireturn, 1) := by decide +kernel
theorem dX5_about_24 : decode cX5_about 24 = .ok (.aload_n 0, 1) := by decide +kernel
theorem dX5_about_25 : decode cX5_about 25 = .ok (.getfield 16, 3) := by decide +kernel
theorem dX5_about_28 : decode cX5_about 28 = .ok (.getfield 107, 3) := by decide +kernel
theorem dX5_about_31 : decode cX5_about 31 = .ok (.iload_n 1, 1) := by decide +kernel
theorem dX5_about_32 : decode cX5_about 32 = .ok (.aaload, 1) := by decide +kernel
theorem dX5_about_33 : decode cX5_about 33 = .ok (.astore_n 3, 1) := by decide +kernel
theorem dX5_about_34 : decode cX5_about 34 = .ok (.iload_n 2, 1) := by decide +kernel
theorem dX5_about_35 : decode cX5_about 35 = .ok (.tableswitch 93 0 7 #[45, 50, 55, 60, 65, 74, 79, 84], 45) := by decide +kernel
theorem dX5_about_80 : decode cX5_about 80 = .ok (.aload_n 3, 1) := by decide +kernel
theorem dX5_about_81 : decode cX5_about 81 = .ok (.getfield 120, 3) := by decide +kernel
theorem dX5_about_84 : decode cX5_about 84 = .ok (.ireturn, 1) := by decide +kernel
theorem dX5_about_85 : decode cX5_about 85 = .ok (.aload_n 3, 1) := by decide +kernel
theorem dX5_about_86 : decode cX5_about 86 = .ok (.getfield 123, 3) := by decide +kernel
theorem dX5_about_89 : decode cX5_about 89 = .ok (.ireturn, 1) := by decide +kernel
theorem dX5_about_90 : decode cX5_about 90 = .ok (.aload_n 3, 1) := by decide +kernel
theorem dX5_about_91 : decode cX5_about 91 = .ok (.getfield 126, 3) := by decide +kernel
theorem dX5_about_94 : decode cX5_about 94 = .ok (.ireturn, 1) := by decide +kernel
theorem dX5_about_95 : decode cX5_about 95 = .ok (.aload_n 3, 1) := by decide +kernel
theorem dX5_about_96 : decode cX5_about 96 = .ok (.getfield 129, 3) := by decide +kernel
theorem dX5_about_99 : decode cX5_about 99 = .ok (.ireturn, 1) := by decide +kernel
theorem dX5_about_100 : decode cX5_about 100 = .ok (.aload_n 0, 1) := by decide +kernel
theorem dX5_about_101 : decode cX5_about 101 = .ok (.getfield 16, 3) := by decide +kernel
theorem dX5_about_104 : decode cX5_about 104 = .ok (.aload_n 3, 1) := by decide +kernel
theorem dX5_about_105 : decode cX5_about 105 = .ok (.invokevirtual 132, 3) := by decide +kernel
theorem dX5_about_108 : decode cX5_about 108 = .ok (.ireturn, 1) := by decide +kernel
theorem dX5_about_109 : decode cX5_about 109 = .ok (.aload_n 3, 1) := by decide +kernel
theorem dX5_about_110 : decode cX5_about 110 = .ok (.getfield 136, 3) := by decide +kernel
theorem dX5_about_113 : decode cX5_about 113 = .ok (.ireturn, 1) := by decide +kernel
theorem dX5_about_114 : decode cX5_about 114 = .ok (.aload_n 3, 1) := by decide +kernel
theorem dX5_about_115 : decode cX5_about 115 = .ok (.getfield 139, 3) := by decide +kernel
theorem dX5_about_118 : decode cX5_about 118 = .ok (.ireturn, 1) := by decide +kernel
theorem dX5_about_119 : decode cX5_about 119 = .ok (.aload_n 0, 1) := by decide +kernel
theorem dX5_about_120 : decode cX5_about 120 = .ok (.getfield 16, 3) := by decide +kernel
theorem dX5_about_123 : decode cX5_about 123 = .ok (.aload_n 3, 1) := by decide +kernel
theorem dX5_about_124 : decode cX5_about 124 = .ok (.invokevirtual 142, 3) := by decide +kernel
theorem dX5_about_127 : decode cX5_about 127 = .ok (.ireturn, 1) := by decide +kernel
theorem dX5_about_128 : decode cX5_about 128 = .ok (.aload_n 0, 1) := by decide +kernel
theorem dX5_about_129 : decode cX5_about 129 = .ok (.getfield 16, 3) := by decide +kernel
theorem dX5_about_132 : decode cX5_about 132 = .ok (.aload_n 3, 1) := by decide +kernel
theorem dX5_about_133 : decode cX5_about 133 = .ok (.invokevirtual 145, 3) := by decide +kernel
theorem dX5_about_136 : decode cX5_about 136 = .ok (.ireturn, 1) := by decide +kernel
theorem dX5_as_0 : decode cX5_as 0 = .ok (.aload_n 0, 1) := by decide +kernel
theorem dX5_as_1 : decode cX5_as 1 = .ok (.iload_n 1, 1) := by decide +kernel
theorem dX5_as_2 : decode cX5_as 2 = .ok (.invokevirtual 117, 3) := by decide +kernel
theorem dX5_as_5 : decode cX5_as 5 = .ok (.ifCond .ne 6, 3) := by decide +kernel
theorem dX5_as_8 : decode cX5_as 8 = .ok (.bipush (-101), 2) := by decide +kernel
theorem dX5_as_10 : decode cX5_as 10 = .ok (.ireturn, 1) := by decide +kernel
theorem dX5_as_11 : decode cX5_as 11 = .ok (.iload_n 2, 1) := by decide +kernel
theorem dX5_as_12 : decode cX5_as 12 = .ok (.invokestatic 101, 3) := by decide +kernel
theorem dX5_as_15 : decode cX5_as 15 = .ok (.ifCond .ne 6, 3) := by decide +kernel
theorem dX5_as_18 : decode cX5_as 18 = .ok (.bipush (-102), 2) := by decide +kernel
theorem dX5_as_20 : decode cX5_as 20 = .ok (.ireturn, 1) := by decide +kernel
theorem dX5_as_21 : decode cX5_as 21 = .ok (.aload_n 0, 1) := by decide +kernel
theorem dX5_as_22 : decode cX5_as 22 = .ok (.getfield 16, 3) := by decide +kernel
theorem dX5_as_25 : decode cX5_as 25 = .ok (.getfield 107, 3) := by decide +kernel
theorem dX5_as_28 : decode cX5_as 28 = .ok (.iload_n 1, 1) := by decide +kernel
theorem dX5_as_29 : decode cX5_as 29 = .ok (.aaload, 1) := by decide +kernel
theorem dX5_as_30 : decode cX5_as 30 = .ok (.iload_n 2, 1) := by decide +kernel
theorem dX5_as_31 : decode cX5_as 31 = .ok (.invokevirtual 148, 3) := by decide +kernel
theorem dX5_as_34 : decode cX5_as 34 = .ok (.ifCond .eq 7, 3) := by decide +kernel
theorem dX5_as_37 : decode cX5_as 37 = .ok (.iload_n 1, 1) := by decide +kernel
theorem dX5_as_38 : decode cX5_as 38 = .ok (.goto 4, 3) := by decide +kernel
theorem dX5_as_41 : decode cX5_as 41 = .ok (.iconst (-1), 1) := by decide +kernel
theorem dX5_as_42 : decode cX5_as 42 = .ok (.ireturn, 1) := by decide +kernel
theorem dX5_say_0 : decode cX5_say 0 = .ok (.aload_n 0, 1) := by decide +kernel
theorem dX5_say_1 : decode cX5_say 1 = .ok (.iload_n 1, 1) := by decide +kernel
theorem dX5_say_2 : decode cX5_say 2 = .ok (.invokevirtual 117, 3) := by decide +kernel
theorem dX5_say_5 : decode cX5_say 5 = .ok (.ifCond .eq 10, 3) := by decide +kernel
theorem dX5_say_8 : decode cX5_say 8 = .ok (.iload_n 2, 1) := by decide +kernel
theorem dX5_say_9 : decode cX5_say 9 = .ok (.invokestatic 151, 3) := by decide +kernel
theorem dX5_say_12 : decode cX5_say 12 = .ok (.ifCond .ne 6, 3) := by decide +kernel
theorem dX5_say_15 : decode cX5_say 15 = .ok (.bipush (-101), 2) := by decide +kernel
theorem dX5_say_17 : decode cX5_say 17 = .ok (.ireturn, 1) := by decide +kernel
theorem dX5_say_18 : decode cX5_say 18 = .ok (.aload_n 0, 1) := by decide +kernel
theorem dX5_say_19 : decode cX5_say 19 = .ok (.getfield 16, 3) := by decide +kernel
theorem dX5_say_22 : decode cX5_say 22 = .ok (.getfield 107, 3) := by decide +kernel
theorem dX5_say_25 : decode cX5_say 25 = .ok (.iload_n 1, 1) := by decide +kernel
theorem dX5_say_26 : decode cX5_say 26 = .ok (.aaload, 1) := by decide +kernel
theorem dX5_say_27 : decode cX5_say 27 = .ok (.astore_n 3, 1) := by decide +kernel
theorem dX5_say_28 : decode cX5_say 28 = .ok (.aload_n 3, 1) := by decide +kernel
theorem dX5_say_29 : decode cX5_say 29 = .ok (.invokevirtual 154, 3) := by decide +kernel
theorem dX5_say_32 : decode cX5_say 32 = .ok (.ifCond .ne 18, 3) := by decide +kernel
theorem dX5_say_35 : decode cX5_say 35 = .ok (.aload_n 3, 1) := by decide +kernel
theorem dX5_say_36 : decode cX5_say 36 = .ok (.getfield 136, 3) := by decide +kernel
theorem dX5_say_39 : decode cX5_say 39 = .ok (.ifCond .le 11, 3) := by decide +kernel
theorem dX5_say_42 : decode cX5_say 42 = .ok (.aload_n 3, 1) := by decide +kernel
theorem dX5_say_43 : decode cX5_say 43 = .ok (.iload_n 2, 1) := by decide +kernel
theorem dX5_say_44 : decode cX5_say 44 = .ok (.invokevirtual 158, 3) := by decide +kernel
theorem dX5_say_47 : decode cX5_say 47 = .ok (.ifCond .ne 6, 3) := by decide +kernel
theorem dX5_say_50 : decode cX5_say 50 = .ok (.bipush (-103), 2) := by decide +kernel
theorem dX5_say_52 : decode cX5_say 52 = .ok (.ireturn, 1) := by decide +kernel
theorem dX5_say_53 : decode cX5_say 53 = .ok (.aload_n 0, 1) := by decide +kernel
theorem dX5_say_54 : decode cX5_say 54 = .ok (.getfield 16, 3) := by decide +kernel
theorem dX5_say_57 : decode cX5_say 57 = .ok (.aload_n 3, 1) := by decide +kernel
theorem dX5_say_58 : decode cX5_say 58 = .ok (.iload_n 2, 1) := by decide +kernel
theorem dX5_say_59 : decode cX5_say 59 = .ok (.invokevirtual 161, 3) := by decide +kernel
theorem dX5_say_62 : decode cX5_say 62 = .ok (.ifCond .eq 7, 3) := by decide +kernel
theorem dX5_say_65 : decode cX5_say 65 = .ok (.iconst 1, 1) := by decide +kernel
theorem dX5_say_66 : decode cX5_say 66 = .ok (.goto 4, 3) := by decide +kernel
theorem dX5_say_69 : decode cX5_say 69 = .ok (.iconst 0, 1) := by decide +kernel
theorem dX5_say_70 : decode cX5_say 70 = .ok (.ireturn, 1) := by decide +kernel
theorem dX5_learn_0 : decode cX5_learn 0 = .ok (.aload_n 0, 1) := by decide +kernel
theorem dX5_learn_1 : decode cX5_learn 1 = .ok (.iload_n 1, 1) := by decide +kernel
theorem dX5_learn_2 : decode cX5_learn 2 = .ok (.invokevirtual 117, 3) := by decide +kernel
theorem dX5_learn_5 : decode cX5_learn 5 = .ok (.ifCond .eq 10, 3) := by decide +kernel
theorem dX5_learn_8 : decode cX5_learn 8 = .ok (.iload_n 2, 1) := by decide +kernel
theorem dX5_learn_9 : decode cX5_learn 9 = .ok (.invokestatic 151, 3) := by decide +kernel
theorem dX5_learn_12 : decode cX5_learn 12 = .ok (.ifCond .ne 6, 3) := by decide +kernel
theorem dX5_learn_15 : decode cX5_learn 15 = .ok (.bipush (-101), 2) := by decide +kernel
theorem dX5_learn_17 : decode cX5_learn 17 = .ok (.ireturn, 1) := by decide +kernel
theorem dX5_learn_18 : decode cX5_learn 18 = .ok (.aload_n 0, 1) := by decide +kernel
theorem dX5_learn_19 : decode cX5_learn 19 = .ok (.getfield 16, 3) := by decide +kernel
theorem dX5_learn_22 : decode cX5_learn 22 = .ok (.getfield 107, 3) := by decide +kernel
theorem dX5_learn_25 : decode cX5_learn 25 = .ok (.iload_n 1, 1) := by decide +kernel
theorem dX5_learn_26 : decode cX5_learn 26 = .ok (.aaload, 1) := by decide +kernel
theorem dX5_learn_27 : decode cX5_learn 27 = .ok (.astore_n 3, 1) := by decide +kernel
theorem dX5_learn_28 : decode cX5_learn 28 = .ok (.aload_n 3, 1) := by decide +kernel
theorem dX5_learn_29 : decode cX5_learn 29 = .ok (.iload_n 2, 1) := by decide +kernel
theorem dX5_learn_30 : decode cX5_learn 30 = .ok (.invokevirtual 158, 3) := by decide +kernel
theorem dX5_learn_33 : decode cX5_learn 33 = .ok (.ifCond .eq 5, 3) := by decide +kernel
theorem dX5_learn_36 : decode cX5_learn 36 = .ok (.iconst 0, 1) := by decide +kernel
theorem dX5_learn_37 : decode cX5_learn 37 = .ok (.ireturn, 1) := by decide +kernel
theorem dX5_learn_38 : decode cX5_learn 38 = .ok (.aload_n 3, 1) := by decide +kernel
theorem dX5_learn_39 : decode cX5_learn 39 = .ok (.dup, 1) := by decide +kernel
theorem dX5_learn_40 : decode cX5_learn 40 = .ok (.getfield 129, 3) := by decide +kernel
theorem dX5_learn_43 : decode cX5_learn 43 = .ok (.iconst 1, 1) := by decide +kernel
theorem dX5_learn_44 : decode cX5_learn 44 = .ok (.iload_n 2, 1) := by decide +kernel
theorem dX5_learn_45 : decode cX5_learn 45 = .ok (.ishl, 1) := by decide +kernel
theorem dX5_learn_46 : decode cX5_learn 46 = .ok (.ior, 1) := by decide +kernel
theorem dX5_learn_47 : decode cX5_learn 47 = .ok (.putfield 129, 3) := by decide +kernel
theorem dX5_learn_50 : decode cX5_learn 50 = .ok (.iconst 1, 1) := by decide +kernel
theorem dX5_learn_51 : decode cX5_learn 51 = .ok (.ireturn, 1) := by decide +kernel
theorem dX5_night_0 : decode cX5_night 0 = .ok (.aload_n 0, 1) := by decide +kernel
theorem dX5_night_1 : decode cX5_night 1 = .ok (.getfield 75, 3) := by decide +kernel
theorem dX5_night_4 : decode cX5_night 4 = .ok (.ifCond .ne 6, 3) := by decide +kernel
theorem dX5_night_7 : decode cX5_night 7 = .ok (.bipush (-103), 2) := by decide +kernel
theorem dX5_night_9 : decode cX5_night 9 = .ok (.ireturn, 1) := by decide +kernel
theorem dX5_night_10 : decode cX5_night 10 = .ok (.aload_n 0, 1) := by decide +kernel
theorem dX5_night_11 : decode cX5_night 11 = .ok (.getfield 16, 3) := by decide +kernel
theorem dX5_night_14 : decode cX5_night 14 = .ok (.invokevirtual 165, 3) := by decide +kernel
theorem dX5_night_17 : decode cX5_night 17 = .ok (.aload_n 0, 1) := by decide +kernel
theorem dX5_night_18 : decode cX5_night 18 = .ok (.getfield 16, 3) := by decide +kernel
theorem dX5_night_21 : decode cX5_night 21 = .ok (.getfield 168, 3) := by decide +kernel
theorem dX5_night_24 : decode cX5_night 24 = .ok (.ireturn, 1) := by decide +kernel
theorem dX5_most_0 : decode cX5_most 0 = .ok (.iload_n 1, 1) := by decide +kernel
theorem dX5_most_1 : decode cX5_most 1 = .ok (.ifCond .lt 8, 3) := by decide +kernel
theorem dX5_most_4 : decode cX5_most 4 = .ok (.iload_n 1, 1) := by decide +kernel
theorem dX5_most_5 : decode cX5_most 5 = .ok (.iconst 1, 1) := by decide +kernel
theorem dX5_most_6 : decode cX5_most 6 = .ok (.if_icmp .le 6, 3) := by decide +kernel
theorem dX5_most_9 : decode cX5_most 9 = .ok (.bipush (-102), 2) := by decide +kernel
theorem dX5_most_11 : decode cX5_most 11 = .ok (.ireturn, 1) := by decide +kernel
theorem dX5_most_12 : decode cX5_most 12 = .ok (.aload_n 0, 1) := by decide +kernel
theorem dX5_most_13 : decode cX5_most 13 = .ok (.getfield 75, 3) := by decide +kernel
theorem dX5_most_16 : decode cX5_most 16 = .ok (.ifCond .ne 6, 3) := by decide +kernel
theorem dX5_most_19 : decode cX5_most 19 = .ok (.bipush (-103), 2) := by decide +kernel
theorem dX5_most_21 : decode cX5_most 21 = .ok (.ireturn, 1) := by decide +kernel
theorem dX5_most_22 : decode cX5_most 22 = .ok (.aload_n 0, 1) := by decide +kernel
theorem dX5_most_23 : decode cX5_most 23 = .ok (.getfield 33, 3) := by decide +kernel
theorem dX5_most_26 : decode cX5_most 26 = .ok (.aload_n 0, 1) := by decide +kernel
theorem dX5_most_27 : decode cX5_most 27 = .ok (.getfield 16, 3) := by decide +kernel
theorem dX5_most_30 : decode cX5_most 30 = .ok (.invokevirtual 171, 3) := by decide +kernel
theorem dX5_most_33 : decode cX5_most 33 = .ok (.istore_n 2, 1) := by decide +kernel
theorem dX5_most_34 : decode cX5_most 34 = .ok (.iload_n 1, 1) := by decide +kernel
theorem dX5_most_35 : decode cX5_most 35 = .ok (.ifCond .ne 5, 3) := by decide +kernel
theorem dX5_most_38 : decode cX5_most 38 = .ok (.iload_n 2, 1) := by decide +kernel
theorem dX5_most_39 : decode cX5_most 39 = .ok (.ireturn, 1) := by decide +kernel
theorem dX5_most_40 : decode cX5_most 40 = .ok (.iload_n 2, 1) := by decide +kernel
theorem dX5_most_41 : decode cX5_most 41 = .ok (.aload_n 0, 1) := by decide +kernel
theorem dX5_most_42 : decode cX5_most 42 = .ok (.getfield 16, 3) := by decide +kernel
theorem dX5_most_45 : decode cX5_most 45 = .ok (.invokevirtual 175, 3) := by decide +kernel
theorem dX5_most_48 : decode cX5_most 48 = .ok (.if_icmp .ne 7, 3) := by decide +kernel
theorem dX5_most_51 : decode cX5_most 51 = .ok (.iconst 1, 1) := by decide +kernel
theorem dX5_most_52 : decode cX5_most 52 = .ok (.goto 4, 3) := by decide +kernel
theorem dX5_most_55 : decode cX5_most 55 = .ok (.iconst 0, 1) := by decide +kernel
theorem dX5_most_56 : decode cX5_most 56 = .ok (.ireturn, 1) := by decide +kernel
theorem dX5_who_0 : decode cX5_who 0 = .ok (.aload_n 0, 1) := by decide +kernel
theorem dX5_who_1 : decode cX5_who 1 = .ok (.iload_n 1, 1) := by decide +kernel
theorem dX5_who_2 : decode cX5_who 2 = .ok (.invokevirtual 88, 3) := by decide +kernel
theorem dX5_who_5 : decode cX5_who 5 = .ok (.ifCond .eq 10, 3) := by decide +kernel
theorem dX5_who_8 : decode cX5_who 8 = .ok (.iload_n 2, 1) := by decide +kernel
theorem dX5_who_9 : decode cX5_who 9 = .ok (.invokestatic 151, 3) := by decide +kernel
theorem dX5_who_12 : decode cX5_who 12 = .ok (.ifCond .ne 6, 3) := by decide +kernel
theorem dX5_who_15 : decode cX5_who 15 = .ok (.bipush (-101), 2) := by decide +kernel
theorem dX5_who_17 : decode cX5_who 17 = .ok (.ireturn, 1) := by decide +kernel
theorem dX5_who_18 : decode cX5_who 18 = .ok (.aload_n 0, 1) := by decide +kernel
theorem dX5_who_19 : decode cX5_who 19 = .ok (.getfield 33, 3) := by decide +kernel
theorem dX5_who_22 : decode cX5_who 22 = .ok (.aload_n 0, 1) := by decide +kernel
theorem dX5_who_23 : decode cX5_who 23 = .ok (.getfield 16, 3) := by decide +kernel
theorem dX5_who_26 : decode cX5_who 26 = .ok (.iload_n 1, 1) := by decide +kernel
theorem dX5_who_27 : decode cX5_who 27 = .ok (.iload_n 2, 1) := by decide +kernel
theorem dX5_who_28 : decode cX5_who 28 = .ok (.invokevirtual 178, 3) := by decide +kernel
theorem dX5_who_31 : decode cX5_who 31 = .ok (.ireturn, 1) := by decide +kernel
theorem dX5_trial_0 : decode cX5_trial 0 = .ok (.aload_n 0, 1) := by decide +kernel
theorem dX5_trial_1 : decode cX5_trial 1 = .ok (.iload_n 1, 1) := by decide +kernel
theorem dX5_trial_2 : decode cX5_trial 2 = .ok (.invokevirtual 88, 3) := by decide +kernel
theorem dX5_trial_5 : decode cX5_trial 5 = .ok (.ifCond .eq 10, 3) := by decide +kernel
theorem dX5_trial_8 : decode cX5_trial 8 = .ok (.iload_n 2, 1) := by decide +kernel
theorem dX5_trial_9 : decode cX5_trial 9 = .ok (.invokestatic 151, 3) := by decide +kernel
theorem dX5_trial_12 : decode cX5_trial 12 = .ok (.ifCond .ne 6, 3) := by decide +kernel
theorem dX5_trial_15 : decode cX5_trial 15 = .ok (.bipush (-101), 2) := by decide +kernel
theorem dX5_trial_17 : decode cX5_trial 17 = .ok (.ireturn, 1) := by decide +kernel
theorem dX5_trial_18 : decode cX5_trial 18 = .ok (.aload_n 0, 1) := by decide +kernel
theorem dX5_trial_19 : decode cX5_trial 19 = .ok (.getfield 16, 3) := by decide +kernel
theorem dX5_trial_22 : decode cX5_trial 22 = .ok (.getfield 182, 3) := by decide +kernel
theorem dX5_trial_25 : decode cX5_trial 25 = .ok (.bipush 8, 2) := by decide +kernel
theorem dX5_trial_27 : decode cX5_trial 27 = .ok (.if_icmp .lt 6, 3) := by decide +kernel
theorem dX5_trial_30 : decode cX5_trial 30 = .ok (.bipush (-104), 2) := by decide +kernel
theorem dX5_trial_32 : decode cX5_trial 32 = .ok (.ireturn, 1) := by decide +kernel
theorem dX5_trial_33 : decode cX5_trial 33 = .ok (.aload_n 0, 1) := by decide +kernel
theorem dX5_trial_34 : decode cX5_trial 34 = .ok (.getfield 16, 3) := by decide +kernel
theorem dX5_trial_37 : decode cX5_trial 37 = .ok (.getfield 59, 3) := by decide +kernel
theorem dX5_trial_40 : decode cX5_trial 40 = .ok (.iload_n 1, 1) := by decide +kernel
theorem dX5_trial_41 : decode cX5_trial 41 = .ok (.aaload, 1) := by decide +kernel
theorem dX5_trial_42 : decode cX5_trial 42 = .ok (.iload_n 2, 1) := by decide +kernel
theorem dX5_trial_43 : decode cX5_trial 43 = .ok (.iload_n 3, 1) := by decide +kernel
theorem dX5_trial_44 : decode cX5_trial 44 = .ok (.invokevirtual 185, 3) := by decide +kernel
theorem dX5_trial_47 : decode cX5_trial 47 = .ok (.aload_n 0, 1) := by decide +kernel
theorem dX5_trial_48 : decode cX5_trial 48 = .ok (.getfield 16, 3) := by decide +kernel
theorem dX5_trial_51 : decode cX5_trial 51 = .ok (.dup, 1) := by decide +kernel
theorem dX5_trial_52 : decode cX5_trial 52 = .ok (.getfield 182, 3) := by decide +kernel
theorem dX5_trial_55 : decode cX5_trial 55 = .ok (.iconst 1, 1) := by decide +kernel
theorem dX5_trial_56 : decode cX5_trial 56 = .ok (.iadd, 1) := by decide +kernel
theorem dX5_trial_57 : decode cX5_trial 57 = .ok (.putfield 182, 3) := by decide +kernel
theorem dX5_trial_60 : decode cX5_trial 60 = .ok (.aload_n 0, 1) := by decide +kernel
theorem dX5_trial_61 : decode cX5_trial 61 = .ok (.getfield 16, 3) := by decide +kernel
theorem dX5_trial_64 : decode cX5_trial 64 = .ok (.getfield 182, 3) := by decide +kernel
theorem dX5_trial_67 : decode cX5_trial 67 = .ok (.ireturn, 1) := by decide +kernel
theorem dX5_forget_0 : decode cX5_forget 0 = .ok (.aload_n 0, 1) := by decide +kernel
theorem dX5_forget_1 : decode cX5_forget 1 = .ok (.getfield 16, 3) := by decide +kernel
theorem dX5_forget_4 : decode cX5_forget 4 = .ok (.getfield 182, 3) := by decide +kernel
theorem dX5_forget_7 : decode cX5_forget 7 = .ok (.istore_n 1, 1) := by decide +kernel
theorem dX5_forget_8 : decode cX5_forget 8 = .ok (.aload_n 0, 1) := by decide +kernel
theorem dX5_forget_9 : decode cX5_forget 9 = .ok (.getfield 16, 3) := by decide +kernel
theorem dX5_forget_12 : decode cX5_forget 12 = .ok (.invokevirtual 189, 3) := by decide +kernel
theorem dX5_forget_15 : decode cX5_forget 15 = .ok (.iload_n 1, 1) := by decide +kernel
theorem dX5_forget_16 : decode cX5_forget 16 = .ok (.ireturn, 1) := by decide +kernel
theorem dX5_truths_0 : decode cX5_truths 0 = .ok (.aload_n 0, 1) := by decide +kernel
theorem dX5_truths_1 : decode cX5_truths 1 = .ok (.iload_n 1, 1) := by decide +kernel
theorem dX5_truths_2 : decode cX5_truths 2 = .ok (.invokevirtual 88, 3) := by decide +kernel
theorem dX5_truths_5 : decode cX5_truths 5 = .ok (.ifCond .ne 6, 3) := by decide +kernel
theorem dX5_truths_8 : decode cX5_truths 8 = .ok (.bipush (-101), 2) := by decide +kernel
theorem dX5_truths_10 : decode cX5_truths 10 = .ok (.ireturn, 1) := by decide +kernel
theorem dX5_truths_11 : decode cX5_truths 11 = .ok (.iload_n 2, 1) := by decide +kernel
theorem dX5_truths_12 : decode cX5_truths 12 = .ok (.ifCond .lt 8, 3) := by decide +kernel
theorem dX5_truths_15 : decode cX5_truths 15 = .ok (.iload_n 2, 1) := by decide +kernel
theorem dX5_truths_16 : decode cX5_truths 16 = .ok (.iconst 2, 1) := by decide +kernel
theorem dX5_truths_17 : decode cX5_truths 17 = .ok (.if_icmp .le 6, 3) := by decide +kernel
theorem dX5_truths_20 : decode cX5_truths 20 = .ok (.bipush (-102), 2) := by decide +kernel
theorem dX5_truths_22 : decode cX5_truths 22 = .ok (.ireturn, 1) := by decide +kernel
theorem dX5_truths_23 : decode cX5_truths 23 = .ok (.aload_n 0, 1) := by decide +kernel
theorem dX5_truths_24 : decode cX5_truths 24 = .ok (.getfield 16, 3) := by decide +kernel
theorem dX5_truths_27 : decode cX5_truths 27 = .ok (.getfield 59, 3) := by decide +kernel
theorem dX5_truths_30 : decode cX5_truths 30 = .ok (.iload_n 1, 1) := by decide +kernel
theorem dX5_truths_31 : decode cX5_truths 31 = .ok (.aaload, 1) := by decide +kernel
theorem dX5_truths_32 : decode cX5_truths 32 = .ok (.astore_n 3, 1) := by decide +kernel
theorem dX5_truths_33 : decode cX5_truths 33 = .ok (.iload_n 2, 1) := by decide +kernel
theorem dX5_truths_34 : decode cX5_truths 34 = .ok (.ifCond .ne 8, 3) := by decide +kernel
theorem dX5_truths_37 : decode cX5_truths 37 = .ok (.aload_n 3, 1) := by decide +kernel
theorem dX5_truths_38 : decode cX5_truths 38 = .ok (.invokevirtual 192, 3) := by decide +kernel
theorem dX5_truths_41 : decode cX5_truths 41 = .ok (.ireturn, 1) := by decide +kernel
theorem dX5_truths_42 : decode cX5_truths 42 = .ok (.aload_n 3, 1) := by decide +kernel
theorem dX5_truths_43 : decode cX5_truths 43 = .ok (.invokevirtual 192, 3) := by decide +kernel
theorem dX5_truths_46 : decode cX5_truths 46 = .ok (.ifCond .ne 7, 3) := by decide +kernel
theorem dX5_truths_49 : decode cX5_truths 49 = .ok (.iconst (-1), 1) := by decide +kernel
theorem dX5_truths_50 : decode cX5_truths 50 = .ok (.goto 7, 3) := by decide +kernel
theorem dX5_truths_53 : decode cX5_truths 53 = .ok (.aload_n 3, 1) := by decide +kernel
theorem dX5_truths_54 : decode cX5_truths 54 = .ok (.getfield 195, 3) := by decide +kernel
theorem dX5_truths_57 : decode cX5_truths 57 = .ok (.ireturn, 1) := by decide +kernel
theorem dX5_attempt_0 : decode cX5_attempt 0 = .ok (.aload_n 0, 1) := by decide +kernel
theorem dX5_attempt_1 : decode cX5_attempt 1 = .ok (.iload_n 1, 1) := by decide +kernel
theorem dX5_attempt_2 : decode cX5_attempt 2 = .ok (.invokevirtual 88, 3) := by decide +kernel
theorem dX5_attempt_5 : decode cX5_attempt 5 = .ok (.ifCond .ne 6, 3) := by decide +kernel
theorem dX5_attempt_8 : decode cX5_attempt 8 = .ok (.bipush (-101), 2) := by decide +kernel
theorem dX5_attempt_10 : decode cX5_attempt 10 = .ok (.ireturn, 1) := by decide +kernel
theorem dX5_attempt_11 : decode cX5_attempt 11 = .ok (.aload_n 0, 1) := by decide +kernel
theorem dX5_attempt_12 : decode cX5_attempt 12 = .ok (.getfield 16, 3) := by decide +kernel
theorem dX5_attempt_15 : decode cX5_attempt 15 = .ok (.getfield 59, 3) := by decide +kernel
theorem dX5_attempt_18 : decode cX5_attempt 18 = .ok (.iload_n 1, 1) := by decide +kernel
theorem dX5_attempt_19 : decode cX5_attempt 19 = .ok (.aaload, 1) := by decide +kernel
theorem dX5_attempt_20 : decode cX5_attempt 20 = .ok (.invokevirtual 198, 3) := by decide +kernel
theorem dX5_attempt_23 : decode cX5_attempt 23 = .ok (.ireturn, 1) := by decide +kernel
theorem dX5_weeks_0 : decode cX5_weeks 0 = .ok (.iload_n 1, 1) := by decide +kernel
theorem dX5_weeks_1 : decode cX5_weeks 1 = .ok (.iconst 1, 1) := by decide +kernel
theorem dX5_weeks_2 : decode cX5_weeks 2 = .ok (.if_icmp .lt 22, 3) := by decide +kernel
theorem dX5_weeks_5 : decode cX5_weeks 5 = .ok (.iload_n 1, 1) := by decide +kernel
theorem dX5_weeks_6 : decode cX5_weeks 6 = .ok (.bipush 40, 2) := by decide +kernel
theorem dX5_weeks_8 : decode cX5_weeks 8 = .ok (.if_icmp .gt 16, 3) := by decide +kernel
theorem dX5_weeks_11 : decode cX5_weeks 11 = .ok (.iload_n 2, 1) := by decide +kernel
theorem dX5_weeks_12 : decode cX5_weeks 12 = .ok (.ifCond .lt 12, 3) := by decide +kernel
theorem dX5_weeks_15 : decode cX5_weeks 15 = .ok (.iload_n 3, 1) := by decide +kernel
theorem dX5_weeks_16 : decode cX5_weeks 16 = .ok (.ifCond .lt 8, 3) := by decide +kernel
theorem dX5_weeks_19 : decode cX5_weeks 19 = .ok (.iload_n 3, 1) := by decide +kernel
theorem dX5_weeks_20 : decode cX5_weeks 20 = .ok (.iconst 2, 1) := by decide +kernel
theorem dX5_weeks_21 : decode cX5_weeks 21 = .ok (.if_icmp .le 6, 3) := by decide +kernel
theorem dX5_weeks_24 : decode cX5_weeks 24 = .ok (.bipush (-102), 2) := by decide +kernel
theorem dX5_weeks_26 : decode cX5_weeks 26 = .ok (.ireturn, 1) := by decide +kernel
theorem dX5_weeks_27 : decode cX5_weeks 27 = .ok (.aload_n 0, 1) := by decide +kernel
theorem dX5_weeks_28 : decode cX5_weeks 28 = .ok (.getfield 16, 3) := by decide +kernel
theorem dX5_weeks_31 : decode cX5_weeks 31 = .ok (.getfield 104, 3) := by decide +kernel
theorem dX5_weeks_34 : decode cX5_weeks 34 = .ok (.ifCond .ne 6, 3) := by decide +kernel
theorem dX5_weeks_37 : decode cX5_weeks 37 = .ok (.bipush (-103), 2) := by decide +kernel
theorem dX5_weeks_39 : decode cX5_weeks 39 = .ok (.ireturn, 1) := by decide +kernel
theorem dX5_weeks_40 : decode cX5_weeks 40 = .ok (.aload_n 0, 1) := by decide +kernel
theorem dX5_weeks_41 : decode cX5_weeks 41 = .ok (.getfield 26, 3) := by decide +kernel
theorem dX5_weeks_44 : decode cX5_weeks 44 = .ok (.aload_n 0, 1) := by decide +kernel
theorem dX5_weeks_45 : decode cX5_weeks 45 = .ok (.getfield 16, 3) := by decide +kernel
theorem dX5_weeks_48 : decode cX5_weeks 48 = .ok (.iload_n 1, 1) := by decide +kernel
theorem dX5_weeks_49 : decode cX5_weeks 49 = .ok (.iload_n 2, 1) := by decide +kernel
theorem dX5_weeks_50 : decode cX5_weeks 50 = .ok (.invokevirtual 201, 3) := by decide +kernel
theorem dX5_weeks_53 : decode cX5_weeks 53 = .ok (.iload_n 3, 1) := by decide +kernel
theorem dX5_weeks_54 : decode cX5_weeks 54 = .ok (.lookupswitch 45 #[(0, 26), (1, 34)], 26) := by decide +kernel
theorem dX5_weeks_80 : decode cX5_weeks 80 = .ok (.aload_n 0, 1) := by decide +kernel
theorem dX5_weeks_81 : decode cX5_weeks 81 = .ok (.getfield 26, 3) := by decide +kernel
theorem dX5_weeks_84 : decode cX5_weeks 84 = .ok (.getfield 205, 3) := by decide +kernel
theorem dX5_weeks_87 : decode cX5_weeks 87 = .ok (.ireturn, 1) := by decide +kernel
theorem dX5_weeks_88 : decode cX5_weeks 88 = .ok (.aload_n 0, 1) := by decide +kernel
theorem dX5_weeks_89 : decode cX5_weeks 89 = .ok (.getfield 26, 3) := by decide +kernel
theorem dX5_weeks_92 : decode cX5_weeks 92 = .ok (.getfield 206, 3) := by decide +kernel
theorem dX5_weeks_95 : decode cX5_weeks 95 = .ok (.invokevirtual 209, 3) := by decide +kernel
theorem dX5_weeks_98 : decode cX5_weeks 98 = .ok (.ireturn, 1) := by decide +kernel
theorem dX5_weeks_99 : decode cX5_weeks 99 = .ok (.aload_n 0, 1) := by decide +kernel
theorem dX5_weeks_100 : decode cX5_weeks 100 = .ok (.getfield 26, 3) := by decide +kernel
theorem dX5_weeks_103 : decode cX5_weeks 103 = .ok (.getfield 212, 3) := by decide +kernel
theorem dX5_weeks_106 : decode cX5_weeks 106 = .ok (.ireturn, 1) := by decide +kernel
theorem dX5_image_0 : decode cX5_image 0 = .ok (.aload_n 0, 1) := by decide +kernel
theorem dX5_image_1 : decode cX5_image 1 = .ok (.getfield 75, 3) := by decide +kernel
theorem dX5_image_4 : decode cX5_image 4 = .ok (.ifCond .ne 6, 3) := by decide +kernel
theorem dX5_image_7 : decode cX5_image 7 = .ok (.bipush (-103), 2) := by decide +kernel
theorem dX5_image_9 : decode cX5_image 9 = .ok (.ireturn, 1) := by decide +kernel
theorem dX5_image_10 : decode cX5_image 10 = .ok (.aload_n 0, 1) := by decide +kernel
theorem dX5_image_11 : decode cX5_image 11 = .ok (.getfield 20, 3) := by decide +kernel
theorem dX5_image_14 : decode cX5_image 14 = .ok (.aload_n 0, 1) := by decide +kernel
theorem dX5_image_15 : decode cX5_image 15 = .ok (.getfield 16, 3) := by decide +kernel
theorem dX5_image_18 : decode cX5_image 18 = .ok (.invokevirtual 215, 3) := by decide +kernel
theorem dX5_image_21 : decode cX5_image 21 = .ok (.aload_n 0, 1) := by decide +kernel
theorem dX5_image_22 : decode cX5_image 22 = .ok (.iconst 1, 1) := by decide +kernel
theorem dX5_image_23 : decode cX5_image 23 = .ok (.putfield 79, 3) := by decide +kernel
theorem dX5_image_26 : decode cX5_image 26 = .ok (.aload_n 0, 1) := by decide +kernel
theorem dX5_image_27 : decode cX5_image 27 = .ok (.getfield 16, 3) := by decide +kernel
theorem dX5_image_30 : decode cX5_image 30 = .ok (.getfield 168, 3) := by decide +kernel
theorem dX5_image_33 : decode cX5_image 33 = .ok (.ireturn, 1) := by decide +kernel
theorem dX5_restore_0 : decode cX5_restore 0 = .ok (.aload_n 0, 1) := by decide +kernel
theorem dX5_restore_1 : decode cX5_restore 1 = .ok (.getfield 79, 3) := by decide +kernel
theorem dX5_restore_4 : decode cX5_restore 4 = .ok (.ifCond .ne 6, 3) := by decide +kernel
theorem dX5_restore_7 : decode cX5_restore 7 = .ok (.bipush (-103), 2) := by decide +kernel
theorem dX5_restore_9 : decode cX5_restore 9 = .ok (.ireturn, 1) := by decide +kernel
theorem dX5_restore_10 : decode cX5_restore 10 = .ok (.aload_n 0, 1) := by decide +kernel
theorem dX5_restore_11 : decode cX5_restore 11 = .ok (.getfield 16, 3) := by decide +kernel
theorem dX5_restore_14 : decode cX5_restore 14 = .ok (.aload_n 0, 1) := by decide +kernel
theorem dX5_restore_15 : decode cX5_restore 15 = .ok (.getfield 20, 3) := by decide +kernel
theorem dX5_restore_18 : decode cX5_restore 18 = .ok (.invokevirtual 215, 3) := by decide +kernel
theorem dX5_restore_21 : decode cX5_restore 21 = .ok (.aload_n 0, 1) := by decide +kernel
theorem dX5_restore_22 : decode cX5_restore 22 = .ok (.getfield 16, 3) := by decide +kernel
theorem dX5_restore_25 : decode cX5_restore 25 = .ok (.getfield 168, 3) := by decide +kernel
theorem dX5_restore_28 : decode cX5_restore 28 = .ok (.ireturn, 1) := by decide +kernel
theorem dX5_count_0 : decode cX5_count 0 = .ok (.iload_n 1, 1) := by decide +kernel
theorem dX5_count_1 : decode cX5_count 1 = .ok (.ifCond .lt 9, 3) := by decide +kernel
theorem dX5_count_4 : decode cX5_count 4 = .ok (.iload_n 1, 1) := by decide +kernel
theorem dX5_count_5 : decode cX5_count 5 = .ok (.bipush 9, 2) := by decide +kernel
theorem dX5_count_7 : decode cX5_count 7 = .ok (.if_icmp .le 6, 3) := by decide +kernel
theorem dX5_count_10 : decode cX5_count 10 = .ok (.bipush (-102), 2) := by decide +kernel
theorem dX5_count_12 : decode cX5_count 12 = .ok (.ireturn, 1) := by decide +kernel
theorem dX5_count_13 : decode cX5_count 13 = .ok (.iload_n 1, 1) := by decide +kernel
theorem dX5_count_14 : decode cX5_count 14 = .ok (.tableswitch 126 0 8 #[50, 58, 66, 74, 82, 97, 105, 113, 121], 50) := by decide +kernel
theorem dX5_count_64 : decode cX5_count 64 = .ok (.aload_n 0, 1) := by decide +kernel
theorem dX5_count_65 : decode cX5_count 65 = .ok (.getfield 16, 3) := by decide +kernel
theorem dX5_count_68 : decode cX5_count 68 = .ok (.invokevirtual 85, 3) := by decide +kernel
theorem dX5_count_71 : decode cX5_count 71 = .ok (.ireturn, 1) := by decide +kernel
theorem dX5_count_72 : decode cX5_count 72 = .ok (.aload_n 0, 1) := by decide +kernel
theorem dX5_count_73 : decode cX5_count 73 = .ok (.getfield 16, 3) := by decide +kernel
theorem dX5_count_76 : decode cX5_count 76 = .ok (.getfield 72, 3) := by decide +kernel
theorem dX5_count_79 : decode cX5_count 79 = .ok (.ireturn, 1) := by decide +kernel
theorem dX5_count_80 : decode cX5_count 80 = .ok (.aload_n 0, 1) := by decide +kernel
theorem dX5_count_81 : decode cX5_count 81 = .ok (.getfield 16, 3) := by decide +kernel
theorem dX5_count_84 : decode cX5_count 84 = .ok (.getfield 104, 3) := by decide +kernel
theorem dX5_count_87 : decode cX5_count 87 = .ok (.ireturn, 1) := by decide +kernel
theorem dX5_count_88 : decode cX5_count 88 = .ok (.aload_n 0, 1) := by decide +kernel
theorem dX5_count_89 : decode cX5_count 89 = .ok (.getfield 16, 3) := by decide +kernel
theorem dX5_count_92 : decode cX5_count 92 = .ok (.invokevirtual 209, 3) := by decide +kernel
theorem dX5_count_95 : decode cX5_count 95 = .ok (.ireturn, 1) := by decide +kernel
theorem dX5_count_96 : decode cX5_count 96 = .ok (.aload_n 0, 1) := by decide +kernel
theorem dX5_count_97 : decode cX5_count 97 = .ok (.getfield 16, 3) := by decide +kernel
theorem dX5_count_100 : decode cX5_count 100 = .ok (.aload_n 0, 1) := by decide +kernel
theorem dX5_count_101 : decode cX5_count 101 = .ok (.getfield 16, 3) := by decide +kernel
theorem dX5_count_104 : decode cX5_count 104 = .ok (.invokevirtual 219, 3) := by decide +kernel
theorem dX5_count_107 : decode cX5_count 107 = .ok (.invokevirtual 98, 3) := by decide +kernel
theorem dX5_count_110 : decode cX5_count 110 = .ok (.ireturn, 1) := by decide +kernel
theorem dX5_count_111 : decode cX5_count 111 = .ok (.aload_n 0, 1) := by decide +kernel
theorem dX5_count_112 : decode cX5_count 112 = .ok (.getfield 16, 3) := by decide +kernel
theorem dX5_count_115 : decode cX5_count 115 = .ok (.invokevirtual 222, 3) := by decide +kernel
theorem dX5_count_118 : decode cX5_count 118 = .ok (.ireturn, 1) := by decide +kernel
theorem dX5_count_119 : decode cX5_count 119 = .ok (.aload_n 0, 1) := by decide +kernel
theorem dX5_count_120 : decode cX5_count 120 = .ok (.getfield 16, 3) := by decide +kernel
theorem dX5_count_123 : decode cX5_count 123 = .ok (.getfield 168, 3) := by decide +kernel
theorem dX5_count_126 : decode cX5_count 126 = .ok (.ireturn, 1) := by decide +kernel
theorem dX5_count_127 : decode cX5_count 127 = .ok (.aload_n 0, 1) := by decide +kernel
theorem dX5_count_128 : decode cX5_count 128 = .ok (.getfield 16, 3) := by decide +kernel
theorem dX5_count_131 : decode cX5_count 131 = .ok (.getfield 182, 3) := by decide +kernel
theorem dX5_count_134 : decode cX5_count 134 = .ok (.ireturn, 1) := by decide +kernel
theorem dX5_count_135 : decode cX5_count 135 = .ok (.aload_n 0, 1) := by decide +kernel
theorem dX5_count_136 : decode cX5_count 136 = .ok (.getfield 37, 3) := by decide +kernel
theorem dX5_count_139 : decode cX5_count 139 = .ok (.ireturn, 1) := by decide +kernel
theorem dX5_count_140 : decode cX5_count 140 = .ok (.aload_n 0, 1) := by decide +kernel
theorem dX5_count_141 : decode cX5_count 141 = .ok (.getfield 82, 3) := by decide +kernel
theorem dX5_count_144 : decode cX5_count 144 = .ok (.ireturn, 1) := by decide +kernel
theorem dX5_digest_0 : decode cX5_digest 0 = .ok (.ldc2_w 225, 3) := by decide +kernel
theorem dX5_digest_3 : decode cX5_digest 3 = .ok (.lstore_n 1, 1) := by decide +kernel
theorem dX5_digest_4 : decode cX5_digest 4 = .ok (.aload_n 0, 1) := by decide +kernel
theorem dX5_digest_5 : decode cX5_digest 5 = .ok (.getfield 75, 3) := by decide +kernel
theorem dX5_digest_8 : decode cX5_digest 8 = .ok (.ifCond .eq 46, 3) := by decide +kernel
theorem dX5_digest_11 : decode cX5_digest 11 = .ok (.iconst 0, 1) := by decide +kernel
theorem dX5_digest_12 : decode cX5_digest 12 = .ok (.istore_n 3, 1) := by decide +kernel
theorem dX5_digest_13 : decode cX5_digest 13 = .ok (.iload_n 3, 1) := by decide +kernel
theorem dX5_digest_14 : decode cX5_digest 14 = .ok (.iconst 3, 1) := by decide +kernel
theorem dX5_digest_15 : decode cX5_digest 15 = .ok (.if_icmp .ge 16, 3) := by decide +kernel
theorem dX5_digest_18 : decode cX5_digest 18 = .ok (.aload_n 0, 1) := by decide +kernel
theorem dX5_digest_19 : decode cX5_digest 19 = .ok (.lload_n 1, 1) := by decide +kernel
theorem dX5_digest_20 : decode cX5_digest 20 = .ok (.iload_n 3, 1) := by decide +kernel
theorem dX5_digest_21 : decode cX5_digest 21 = .ok (.invokevirtual 227, 3) := by decide +kernel
theorem dX5_digest_24 : decode cX5_digest 24 = .ok (.lstore_n 1, 1) := by decide +kernel
theorem dX5_digest_25 : decode cX5_digest 25 = .ok (.iinc 3 1, 3) := by decide +kernel
theorem dX5_digest_28 : decode cX5_digest 28 = .ok (.goto (-15), 3) := by decide +kernel
theorem dX5_digest_31 : decode cX5_digest 31 = .ok (.iconst 0, 1) := by decide +kernel
theorem dX5_digest_32 : decode cX5_digest 32 = .ok (.istore_n 3, 1) := by decide +kernel
theorem dX5_digest_33 : decode cX5_digest 33 = .ok (.iload_n 3, 1) := by decide +kernel
theorem dX5_digest_34 : decode cX5_digest 34 = .ok (.iconst 1, 1) := by decide +kernel
theorem dX5_digest_35 : decode cX5_digest 35 = .ok (.if_icmp .gt 19, 3) := by decide +kernel
theorem dX5_digest_38 : decode cX5_digest 38 = .ok (.lload_n 1, 1) := by decide +kernel
theorem dX5_digest_39 : decode cX5_digest 39 = .ok (.aload_n 0, 1) := by decide +kernel
theorem dX5_digest_40 : decode cX5_digest 40 = .ok (.iload_n 3, 1) := by decide +kernel
theorem dX5_digest_41 : decode cX5_digest 41 = .ok (.invokevirtual 231, 3) := by decide +kernel
theorem dX5_digest_44 : decode cX5_digest 44 = .ok (.invokestatic 234, 3) := by decide +kernel
theorem dX5_digest_47 : decode cX5_digest 47 = .ok (.lstore_n 1, 1) := by decide +kernel
theorem dX5_digest_48 : decode cX5_digest 48 = .ok (.iinc 3 1, 3) := by decide +kernel
theorem dX5_digest_51 : decode cX5_digest 51 = .ok (.goto (-18), 3) := by decide +kernel
theorem dX5_digest_54 : decode cX5_digest 54 = .ok (.iconst 0, 1) := by decide +kernel
theorem dX5_digest_55 : decode cX5_digest 55 = .ok (.istore_n 3, 1) := by decide +kernel
theorem dX5_digest_56 : decode cX5_digest 56 = .ok (.iload_n 3, 1) := by decide +kernel
theorem dX5_digest_57 : decode cX5_digest 57 = .ok (.aload_n 0, 1) := by decide +kernel
theorem dX5_digest_58 : decode cX5_digest 58 = .ok (.getfield 16, 3) := by decide +kernel
theorem dX5_digest_61 : decode cX5_digest 61 = .ok (.getfield 104, 3) := by decide +kernel
theorem dX5_digest_64 : decode cX5_digest 64 = .ok (.if_icmp .ge 37, 3) := by decide +kernel
theorem dX5_digest_67 : decode cX5_digest 67 = .ok (.iconst 0, 1) := by decide +kernel
theorem dX5_digest_68 : decode cX5_digest 68 = .ok (.istore 4, 2) := by decide +kernel
theorem dX5_digest_70 : decode cX5_digest 70 = .ok (.iload 4, 2) := by decide +kernel
theorem dX5_digest_72 : decode cX5_digest 72 = .ok (.bipush 8, 2) := by decide +kernel
theorem dX5_digest_74 : decode cX5_digest 74 = .ok (.if_icmp .gt 21, 3) := by decide +kernel
theorem dX5_digest_77 : decode cX5_digest 77 = .ok (.lload_n 1, 1) := by decide +kernel
theorem dX5_digest_78 : decode cX5_digest 78 = .ok (.aload_n 0, 1) := by decide +kernel
theorem dX5_digest_79 : decode cX5_digest 79 = .ok (.iload_n 3, 1) := by decide +kernel
theorem dX5_digest_80 : decode cX5_digest 80 = .ok (.iload 4, 2) := by decide +kernel
theorem dX5_digest_82 : decode cX5_digest 82 = .ok (.invokevirtual 237, 3) := by decide +kernel
theorem dX5_digest_85 : decode cX5_digest 85 = .ok (.invokestatic 234, 3) := by decide +kernel
theorem dX5_digest_88 : decode cX5_digest 88 = .ok (.lstore_n 1, 1) := by decide +kernel
theorem dX5_digest_89 : decode cX5_digest 89 = .ok (.iinc 4 1, 3) := by decide +kernel
theorem dX5_digest_92 : decode cX5_digest 92 = .ok (.goto (-22), 3) := by decide +kernel
theorem dX5_digest_95 : decode cX5_digest 95 = .ok (.iinc 3 1, 3) := by decide +kernel
theorem dX5_digest_98 : decode cX5_digest 98 = .ok (.goto (-42), 3) := by decide +kernel
theorem dX5_digest_101 : decode cX5_digest 101 = .ok (.iconst 0, 1) := by decide +kernel
theorem dX5_digest_102 : decode cX5_digest 102 = .ok (.istore_n 3, 1) := by decide +kernel
theorem dX5_digest_103 : decode cX5_digest 103 = .ok (.iload_n 3, 1) := by decide +kernel
theorem dX5_digest_104 : decode cX5_digest 104 = .ok (.aload_n 0, 1) := by decide +kernel
theorem dX5_digest_105 : decode cX5_digest 105 = .ok (.getfield 37, 3) := by decide +kernel
theorem dX5_digest_108 : decode cX5_digest 108 = .ok (.if_icmp .ge 20, 3) := by decide +kernel
theorem dX5_digest_111 : decode cX5_digest 111 = .ok (.lload_n 1, 1) := by decide +kernel
theorem dX5_digest_112 : decode cX5_digest 112 = .ok (.aload_n 0, 1) := by decide +kernel
theorem dX5_digest_113 : decode cX5_digest 113 = .ok (.getfield 9, 3) := by decide +kernel
theorem dX5_digest_116 : decode cX5_digest 116 = .ok (.iload_n 3, 1) := by decide +kernel
theorem dX5_digest_117 : decode cX5_digest 117 = .ok (.caload, 1) := by decide +kernel
theorem dX5_digest_118 : decode cX5_digest 118 = .ok (.invokestatic 234, 3) := by decide +kernel
theorem dX5_digest_121 : decode cX5_digest 121 = .ok (.lstore_n 1, 1) := by decide +kernel
theorem dX5_digest_122 : decode cX5_digest 122 = .ok (.iinc 3 1, 3) := by decide +kernel
theorem dX5_digest_125 : decode cX5_digest 125 = .ok (.goto (-22), 3) := by decide +kernel
theorem dX5_digest_128 : decode cX5_digest 128 = .ok (.iconst 0, 1) := by decide +kernel
theorem dX5_digest_129 : decode cX5_digest 129 = .ok (.istore_n 3, 1) := by decide +kernel
theorem dX5_digest_130 : decode cX5_digest 130 = .ok (.iload_n 3, 1) := by decide +kernel
theorem dX5_digest_131 : decode cX5_digest 131 = .ok (.bipush 9, 2) := by decide +kernel
theorem dX5_digest_133 : decode cX5_digest 133 = .ok (.if_icmp .gt 19, 3) := by decide +kernel
theorem dX5_digest_136 : decode cX5_digest 136 = .ok (.lload_n 1, 1) := by decide +kernel
theorem dX5_digest_137 : decode cX5_digest 137 = .ok (.aload_n 0, 1) := by decide +kernel
theorem dX5_digest_138 : decode cX5_digest 138 = .ok (.iload_n 3, 1) := by decide +kernel
theorem dX5_digest_139 : decode cX5_digest 139 = .ok (.invokevirtual 241, 3) := by decide +kernel
theorem dX5_digest_142 : decode cX5_digest 142 = .ok (.invokestatic 234, 3) := by decide +kernel
theorem dX5_digest_145 : decode cX5_digest 145 = .ok (.lstore_n 1, 1) := by decide +kernel
theorem dX5_digest_146 : decode cX5_digest 146 = .ok (.iinc 3 1, 3) := by decide +kernel
theorem dX5_digest_149 : decode cX5_digest 149 = .ok (.goto (-19), 3) := by decide +kernel
theorem dX5_digest_152 : decode cX5_digest 152 = .ok (.lload_n 1, 1) := by decide +kernel
theorem dX5_digest_153 : decode cX5_digest 153 = .ok (.lreturn, 1) := by decide +kernel
theorem dX5_withVictim_0 : decode cX5_withVictim 0 = .ok (.lload_n 1, 1) := by decide +kernel
theorem dX5_withVictim_1 : decode cX5_withVictim 1 = .ok (.lstore 4, 2) := by decide +kernel
theorem dX5_withVictim_3 : decode cX5_withVictim 3 = .ok (.iconst 0, 1) := by decide +kernel
theorem dX5_withVictim_4 : decode cX5_withVictim 4 = .ok (.istore 6, 2) := by decide +kernel
theorem dX5_withVictim_6 : decode cX5_withVictim 6 = .ok (.iload 6, 2) := by decide +kernel
theorem dX5_withVictim_8 : decode cX5_withVictim 8 = .ok (.iconst 3, 1) := by decide +kernel
theorem dX5_withVictim_9 : decode cX5_withVictim 9 = .ok (.if_icmp .gt 23, 3) := by decide +kernel
theorem dX5_withVictim_12 : decode cX5_withVictim 12 = .ok (.lload 4, 2) := by decide +kernel
theorem dX5_withVictim_14 : decode cX5_withVictim 14 = .ok (.aload_n 0, 1) := by decide +kernel
theorem dX5_withVictim_15 : decode cX5_withVictim 15 = .ok (.iload_n 3, 1) := by decide +kernel
theorem dX5_withVictim_16 : decode cX5_withVictim 16 = .ok (.iload 6, 2) := by decide +kernel
theorem dX5_withVictim_18 : decode cX5_withVictim 18 = .ok (.invokevirtual 244, 3) := by decide +kernel
theorem dX5_withVictim_21 : decode cX5_withVictim 21 = .ok (.invokestatic 234, 3) := by decide +kernel
theorem dX5_withVictim_24 : decode cX5_withVictim 24 = .ok (.lstore 4, 2) := by decide +kernel
theorem dX5_withVictim_26 : decode cX5_withVictim 26 = .ok (.iinc 6 1, 3) := by decide +kernel
theorem dX5_withVictim_29 : decode cX5_withVictim 29 = .ok (.goto (-23), 3) := by decide +kernel
theorem dX5_withVictim_32 : decode cX5_withVictim 32 = .ok (.iconst 0, 1) := by decide +kernel
theorem dX5_withVictim_33 : decode cX5_withVictim 33 = .ok (.istore 6, 2) := by decide +kernel
theorem dX5_withVictim_35 : decode cX5_withVictim 35 = .ok (.iload 6, 2) := by decide +kernel
theorem dX5_withVictim_37 : decode cX5_withVictim 37 = .ok (.bipush 6, 2) := by decide +kernel
theorem dX5_withVictim_39 : decode cX5_withVictim 39 = .ok (.if_icmp .ge 23, 3) := by decide +kernel
theorem dX5_withVictim_42 : decode cX5_withVictim 42 = .ok (.lload 4, 2) := by decide +kernel
theorem dX5_withVictim_44 : decode cX5_withVictim 44 = .ok (.aload_n 0, 1) := by decide +kernel
theorem dX5_withVictim_45 : decode cX5_withVictim 45 = .ok (.iload_n 3, 1) := by decide +kernel
theorem dX5_withVictim_46 : decode cX5_withVictim 46 = .ok (.iload 6, 2) := by decide +kernel
theorem dX5_withVictim_48 : decode cX5_withVictim 48 = .ok (.invokevirtual 246, 3) := by decide +kernel
theorem dX5_withVictim_51 : decode cX5_withVictim 51 = .ok (.invokestatic 234, 3) := by decide +kernel
theorem dX5_withVictim_54 : decode cX5_withVictim 54 = .ok (.lstore 4, 2) := by decide +kernel
theorem dX5_withVictim_56 : decode cX5_withVictim 56 = .ok (.iinc 6 1, 3) := by decide +kernel
theorem dX5_withVictim_59 : decode cX5_withVictim 59 = .ok (.goto (-24), 3) := by decide +kernel
theorem dX5_withVictim_62 : decode cX5_withVictim 62 = .ok (.iconst 0, 1) := by decide +kernel
theorem dX5_withVictim_63 : decode cX5_withVictim 63 = .ok (.istore 6, 2) := by decide +kernel
theorem dX5_withVictim_65 : decode cX5_withVictim 65 = .ok (.iload 6, 2) := by decide +kernel
theorem dX5_withVictim_67 : decode cX5_withVictim 67 = .ok (.iconst 2, 1) := by decide +kernel
theorem dX5_withVictim_68 : decode cX5_withVictim 68 = .ok (.if_icmp .gt 23, 3) := by decide +kernel
theorem dX5_withVictim_71 : decode cX5_withVictim 71 = .ok (.lload 4, 2) := by decide +kernel
theorem dX5_withVictim_73 : decode cX5_withVictim 73 = .ok (.aload_n 0, 1) := by decide +kernel
theorem dX5_withVictim_74 : decode cX5_withVictim 74 = .ok (.iload_n 3, 1) := by decide +kernel
theorem dX5_withVictim_75 : decode cX5_withVictim 75 = .ok (.iload 6, 2) := by decide +kernel
theorem dX5_withVictim_77 : decode cX5_withVictim 77 = .ok (.invokevirtual 249, 3) := by decide +kernel
theorem dX5_withVictim_80 : decode cX5_withVictim 80 = .ok (.invokestatic 234, 3) := by decide +kernel
theorem dX5_withVictim_83 : decode cX5_withVictim 83 = .ok (.lstore 4, 2) := by decide +kernel
theorem dX5_withVictim_85 : decode cX5_withVictim 85 = .ok (.iinc 6 1, 3) := by decide +kernel
theorem dX5_withVictim_88 : decode cX5_withVictim 88 = .ok (.goto (-23), 3) := by decide +kernel
theorem dX5_withVictim_91 : decode cX5_withVictim 91 = .ok (.lload 4, 2) := by decide +kernel
theorem dX5_withVictim_93 : decode cX5_withVictim 93 = .ok (.aload_n 0, 1) := by decide +kernel
theorem dX5_withVictim_94 : decode cX5_withVictim 94 = .ok (.iload_n 3, 1) := by decide +kernel
theorem dX5_withVictim_95 : decode cX5_withVictim 95 = .ok (.invokevirtual 252, 3) := by decide +kernel
theorem dX5_withVictim_98 : decode cX5_withVictim 98 = .ok (.invokestatic 234, 3) := by decide +kernel
theorem dX5_withVictim_101 : decode cX5_withVictim 101 = .ok (.lreturn, 1) := by decide +kernel
theorem dX5_with_0 : decode cX5_with 0 = .ok (.ldc2_w 255, 3) := by decide +kernel
theorem dX5_with_3 : decode cX5_with 3 = .ok (.lload_n 0, 1) := by decide +kernel
theorem dX5_with_4 : decode cX5_with 4 = .ok (.lmul, 1) := by decide +kernel
theorem dX5_with_5 : decode cX5_with 5 = .ok (.iload_n 2, 1) := by decide +kernel
theorem dX5_with_6 : decode cX5_with 6 = .ok (.i2l, 1) := by decide +kernel
theorem dX5_with_7 : decode cX5_with 7 = .ok (.ladd, 1) := by decide +kernel
theorem dX5_with_8 : decode cX5_with 8 = .ok (.lreturn, 1) := by decide +kernel
theorem dX5_fits_0 : decode cX5_fits 0 = .ok (.iload_n 0, 1) := by decide +kernel
theorem dX5_fits_1 : decode cX5_fits 1 = .ok (.ldc 45, 2) := by decide +kernel
theorem dX5_fits_3 : decode cX5_fits 3 = .ok (.invokevirtual 47, 3) := by decide +kernel
theorem dX5_fits_6 : decode cX5_fits 6 = .ok (.if_icmp .lt 5, 3) := by decide +kernel
theorem dX5_fits_9 : decode cX5_fits 9 = .ok (.iconst 0, 1) := by decide +kernel
theorem dX5_fits_10 : decode cX5_fits 10 = .ok (.ireturn, 1) := by decide +kernel
theorem dX5_fits_11 : decode cX5_fits 11 = .ok (.ldc 45, 2) := by decide +kernel
theorem dX5_fits_13 : decode cX5_fits 13 = .ok (.iload_n 0, 1) := by decide +kernel
theorem dX5_fits_14 : decode cX5_fits 14 = .ok (.invokevirtual 257, 3) := by decide +kernel
theorem dX5_fits_17 : decode cX5_fits 17 = .ok (.istore_n 2, 1) := by decide +kernel
theorem dX5_fits_18 : decode cX5_fits 18 = .ok (.iload_n 2, 1) := by decide +kernel
theorem dX5_fits_19 : decode cX5_fits 19 = .ok (.bipush 48, 2) := by decide +kernel
theorem dX5_fits_21 : decode cX5_fits 21 = .ok (.if_icmp .lt 13, 3) := by decide +kernel
theorem dX5_fits_24 : decode cX5_fits 24 = .ok (.iload_n 2, 1) := by decide +kernel
theorem dX5_fits_25 : decode cX5_fits 25 = .ok (.bipush 57, 2) := by decide +kernel
theorem dX5_fits_27 : decode cX5_fits 27 = .ok (.if_icmp .gt 7, 3) := by decide +kernel
theorem dX5_fits_30 : decode cX5_fits 30 = .ok (.iconst 1, 1) := by decide +kernel
theorem dX5_fits_31 : decode cX5_fits 31 = .ok (.goto 4, 3) := by decide +kernel
theorem dX5_fits_34 : decode cX5_fits 34 = .ok (.iconst 0, 1) := by decide +kernel
theorem dX5_fits_35 : decode cX5_fits 35 = .ok (.istore_n 3, 1) := by decide +kernel
theorem dX5_fits_36 : decode cX5_fits 36 = .ok (.iload_n 3, 1) := by decide +kernel
theorem dX5_fits_37 : decode cX5_fits 37 = .ok (.ifCond .eq 22, 3) := by decide +kernel
theorem dX5_fits_40 : decode cX5_fits 40 = .ok (.iload_n 1, 1) := by decide +kernel
theorem dX5_fits_41 : decode cX5_fits 41 = .ok (.bipush 48, 2) := by decide +kernel
theorem dX5_fits_43 : decode cX5_fits 43 = .ok (.if_icmp .lt 12, 3) := by decide +kernel
theorem dX5_fits_46 : decode cX5_fits 46 = .ok (.iload_n 1, 1) := by decide +kernel
theorem dX5_fits_47 : decode cX5_fits 47 = .ok (.iload_n 2, 1) := by decide +kernel
theorem dX5_fits_48 : decode cX5_fits 48 = .ok (.if_icmp .gt 7, 3) := by decide +kernel
theorem dX5_fits_51 : decode cX5_fits 51 = .ok (.iconst 1, 1) := by decide +kernel
theorem dX5_fits_52 : decode cX5_fits 52 = .ok (.goto 17, 3) := by decide +kernel
theorem dX5_fits_55 : decode cX5_fits 55 = .ok (.iconst 0, 1) := by decide +kernel
theorem dX5_fits_56 : decode cX5_fits 56 = .ok (.goto 13, 3) := by decide +kernel
theorem dX5_fits_59 : decode cX5_fits 59 = .ok (.iload_n 1, 1) := by decide +kernel
theorem dX5_fits_60 : decode cX5_fits 60 = .ok (.iload_n 2, 1) := by decide +kernel
theorem dX5_fits_61 : decode cX5_fits 61 = .ok (.if_icmp .ne 7, 3) := by decide +kernel
theorem dX5_fits_64 : decode cX5_fits 64 = .ok (.iconst 1, 1) := by decide +kernel
theorem dX5_fits_65 : decode cX5_fits 65 = .ok (.goto 4, 3) := by decide +kernel
theorem dX5_fits_68 : decode cX5_fits 68 = .ok (.iconst 0, 1) := by decide +kernel
theorem dX5_fits_69 : decode cX5_fits 69 = .ok (.ireturn, 1) := by decide +kernel
theorem dX5_digitAt_0 : decode cX5_digitAt 0 = .ok (.aload_n 0, 1) := by decide +kernel
theorem dX5_digitAt_1 : decode cX5_digitAt 1 = .ok (.getfield 9, 3) := by decide +kernel
theorem dX5_digitAt_4 : decode cX5_digitAt 4 = .ok (.iload_n 1, 1) := by decide +kernel
theorem dX5_digitAt_5 : decode cX5_digitAt 5 = .ok (.caload, 1) := by decide +kernel
theorem dX5_digitAt_6 : decode cX5_digitAt 6 = .ok (.bipush 48, 2) := by decide +kernel
theorem dX5_digitAt_8 : decode cX5_digitAt 8 = .ok (.isub, 1) := by decide +kernel
theorem dX5_digitAt_9 : decode cX5_digitAt 9 = .ok (.ireturn, 1) := by decide +kernel
theorem dX5_isVictim_0 : decode cX5_isVictim 0 = .ok (.aload_n 0, 1) := by decide +kernel
theorem dX5_isVictim_1 : decode cX5_isVictim 1 = .ok (.getfield 75, 3) := by decide +kernel
theorem dX5_isVictim_4 : decode cX5_isVictim 4 = .ok (.ifCond .eq 16, 3) := by decide +kernel
theorem dX5_isVictim_7 : decode cX5_isVictim 7 = .ok (.iload_n 1, 1) := by decide +kernel
theorem dX5_isVictim_8 : decode cX5_isVictim 8 = .ok (.ifCond .lt 12, 3) := by decide +kernel
theorem dX5_isVictim_11 : decode cX5_isVictim 11 = .ok (.iload_n 1, 1) := by decide +kernel
theorem dX5_isVictim_12 : decode cX5_isVictim 12 = .ok (.iconst 3, 1) := by decide +kernel
theorem dX5_isVictim_13 : decode cX5_isVictim 13 = .ok (.if_icmp .ge 7, 3) := by decide +kernel
theorem dX5_isVictim_16 : decode cX5_isVictim 16 = .ok (.iconst 1, 1) := by decide +kernel
theorem dX5_isVictim_17 : decode cX5_isVictim 17 = .ok (.goto 4, 3) := by decide +kernel
theorem dX5_isVictim_20 : decode cX5_isVictim 20 = .ok (.iconst 0, 1) := by decide +kernel
theorem dX5_isVictim_21 : decode cX5_isVictim 21 = .ok (.ireturn, 1) := by decide +kernel
theorem dX5_isConvict_0 : decode cX5_isConvict 0 = .ok (.iload_n 1, 1) := by decide +kernel
theorem dX5_isConvict_1 : decode cX5_isConvict 1 = .ok (.ifCond .lt 18, 3) := by decide +kernel
theorem dX5_isConvict_4 : decode cX5_isConvict 4 = .ok (.iload_n 1, 1) := by decide +kernel
theorem dX5_isConvict_5 : decode cX5_isConvict 5 = .ok (.aload_n 0, 1) := by decide +kernel
theorem dX5_isConvict_6 : decode cX5_isConvict 6 = .ok (.getfield 16, 3) := by decide +kernel
theorem dX5_isConvict_9 : decode cX5_isConvict 9 = .ok (.getfield 104, 3) := by decide +kernel
theorem dX5_isConvict_12 : decode cX5_isConvict 12 = .ok (.if_icmp .ge 7, 3) := by decide +kernel
theorem dX5_isConvict_15 : decode cX5_isConvict 15 = .ok (.iconst 1, 1) := by decide +kernel
theorem dX5_isConvict_16 : decode cX5_isConvict 16 = .ok (.goto 4, 3) := by decide +kernel
theorem dX5_isConvict_19 : decode cX5_isConvict 19 = .ok (.iconst 0, 1) := by decide +kernel
theorem dX5_isConvict_20 : decode cX5_isConvict 20 = .ok (.ireturn, 1) := by decide +kernel
theorem dX5_isSaying_0 : decode cX5_isSaying 0 = .ok (.iload_n 0, 1) := by decide +kernel
theorem dX5_isSaying_1 : decode cX5_isSaying 1 = .ok (.ifCond .lt 13, 3) := by decide +kernel
theorem dX5_isSaying_4 : decode cX5_isSaying 4 = .ok (.iload_n 0, 1) := by decide +kernel
theorem dX5_isSaying_5 : decode cX5_isSaying 5 = .ok (.bipush 6, 2) := by decide +kernel
theorem dX5_isSaying_7 : decode cX5_isSaying 7 = .ok (.if_icmp .ge 7, 3) := by decide +kernel
theorem dX5_isSaying_10 : decode cX5_isSaying 10 = .ok (.iconst 1, 1) := by decide +kernel
theorem dX5_isSaying_11 : decode cX5_isSaying 11 = .ok (.goto 4, 3) := by decide +kernel
theorem dX5_isSaying_14 : decode cX5_isSaying 14 = .ok (.iconst 0, 1) := by decide +kernel
theorem dX5_isSaying_15 : decode cX5_isSaying 15 = .ok (.ireturn, 1) := by decide +kernel
theorem dX5_isKind_0 : decode cX5_isKind 0 = .ok (.iload_n 0, 1) := by decide +kernel
theorem dX5_isKind_1 : decode cX5_isKind 1 = .ok (.ifCond .lt 12, 3) := by decide +kernel
theorem dX5_isKind_4 : decode cX5_isKind 4 = .ok (.iload_n 0, 1) := by decide +kernel
theorem dX5_isKind_5 : decode cX5_isKind 5 = .ok (.iconst 4, 1) := by decide +kernel
theorem dX5_isKind_6 : decode cX5_isKind 6 = .ok (.if_icmp .gt 7, 3) := by decide +kernel
theorem dX5_isKind_9 : decode cX5_isKind 9 = .ok (.iconst 1, 1) := by decide +kernel
theorem dX5_isKind_10 : decode cX5_isKind 10 = .ok (.goto 4, 3) := by decide +kernel
theorem dX5_isKind_13 : decode cX5_isKind 13 = .ok (.iconst 0, 1) := by decide +kernel
theorem dX5_isKind_14 : decode cX5_isKind 14 = .ok (.ireturn, 1) := by decide +kernel
theorem dX6_init_0 : decode cX6_init 0 = .ok (.aload_n 0, 1) := by decide +kernel
theorem dX6_init_1 : decode cX6_init 1 = .ok (.invokespecial 1, 3) := by decide +kernel
theorem dX6_init_4 : decode cX6_init 4 = .ok (.aload_n 0, 1) := by decide +kernel
theorem dX6_init_5 : decode cX6_init 5 = .ok (.bipush 12, 2) := by decide +kernel
theorem dX6_init_7 : decode cX6_init 7 = .ok (.newarray .int, 2) := by decide +kernel
theorem dX6_init_9 : decode cX6_init 9 = .ok (.putfield 7, 3) := by decide +kernel
theorem dX6_init_12 : decode cX6_init 12 = .ok (.aload_n 0, 1) := by decide +kernel
theorem dX6_init_13 : decode cX6_init 13 = .ok (.iconst 3, 1) := by decide +kernel
theorem dX6_init_14 : decode cX6_init 14 = .ok (.newarray .int, 2) := by decide +kernel
theorem dX6_init_16 : decode cX6_init 16 = .ok (.putfield 13, 3) := by decide +kernel
theorem dX6_init_19 : decode cX6_init 19 = .ok (.aload_n 0, 1) := by decide +kernel
theorem dX6_init_20 : decode cX6_init 20 = .ok (.iconst 3, 1) := by decide +kernel
theorem dX6_init_21 : decode cX6_init 21 = .ok (.newarray .int, 2) := by decide +kernel
theorem dX6_init_23 : decode cX6_init 23 = .ok (.putfield 16, 3) := by decide +kernel
theorem dX6_init_26 : decode cX6_init 26 = .ok (.aload_n 0, 1) := by decide +kernel
theorem dX6_init_27 : decode cX6_init 27 = .ok (.bipush 24, 2) := by decide +kernel
theorem dX6_init_29 : decode cX6_init 29 = .ok (.newarray .int, 2) := by decide +kernel
theorem dX6_init_31 : decode cX6_init 31 = .ok (.putfield 19, 3) := by decide +kernel
theorem dX6_init_34 : decode cX6_init 34 = .ok (.aload_n 0, 1) := by decide +kernel
theorem dX6_init_35 : decode cX6_init 35 = .ok (.bipush 6, 2) := by decide +kernel
theorem dX6_init_37 : decode cX6_init 37 = .ok (.newarray .int, 2) := by decide +kernel
theorem dX6_init_39 : decode cX6_init 39 = .ok (.putfield 22, 3) := by decide +kernel
theorem dX6_init_42 : decode cX6_init 42 = .ok (.aload_n 0, 1) := by decide +kernel
theorem dX6_init_43 : decode cX6_init 43 = .ok (.bipush 6, 2) := by decide +kernel
theorem dX6_init_45 : decode cX6_init 45 = .ok (.newarray .int, 2) := by decide +kernel
theorem dX6_init_47 : decode cX6_init 47 = .ok (.putfield 25, 3) := by decide +kernel
theorem dX6_init_50 : decode cX6_init 50 = .ok (.aload_n 0, 1) := by decide +kernel
theorem dX6_init_51 : decode cX6_init 51 = .ok (.iconst 4, 1) := by decide +kernel
theorem dX6_init_52 : decode cX6_init 52 = .ok (.newarray .int, 2) := by decide +kernel
theorem dX6_init_54 : decode cX6_init 54 = .ok (.putfield 28, 3) := by decide +kernel
theorem dX6_init_57 : decode cX6_init 57 = .ok (.aload_n 0, 1) := by decide +kernel
theorem dX6_init_58 : decode cX6_init 58 = .ok (.bipush 24, 2) := by decide +kernel
theorem dX6_init_60 : decode cX6_init 60 = .ok (.newarray .int, 2) := by decide +kernel
theorem dX6_init_62 : decode cX6_init 62 = .ok (.putfield 31, 3) := by decide +kernel
theorem dX6_init_65 : decode cX6_init 65 = .ok (.aload_n 0, 1) := by decide +kernel
theorem dX6_init_66 : decode cX6_init 66 = .ok (.bipush 24, 2) := by decide +kernel
theorem dX6_init_68 : decode cX6_init 68 = .ok (.newarray .int, 2) := by decide +kernel
theorem dX6_init_70 : decode cX6_init 70 = .ok (.putfield 34, 3) := by decide +kernel
theorem dX6_init_73 : decode cX6_init 73 = .ok (.aload_n 0, 1) := by decide +kernel
theorem dX6_init_74 : decode cX6_init 74 = .ok (.iconst 3, 1) := by decide +kernel
theorem dX6_init_75 : decode cX6_init 75 = .ok (.newarray .int, 2) := by decide +kernel
theorem dX6_init_77 : decode cX6_init 77 = .ok (.putfield 37, 3) := by decide +kernel
theorem dX6_init_80 : decode cX6_init 80 = .ok (.aload_n 0, 1) := by decide +kernel
theorem dX6_init_81 : decode cX6_init 81 = .ok (.bipush 24, 2) := by decide +kernel
theorem dX6_init_83 : decode cX6_init 83 = .ok (.newarray .int, 2) := by decide +kernel
theorem dX6_init_85 : decode cX6_init 85 = .ok (.putfield 40, 3) := by decide +kernel
theorem dX6_init_88 : decode cX6_init 88 = .ok (.aload_n 0, 1) := by decide +kernel
theorem dX6_init_89 : decode cX6_init 89 = .ok (.iconst 3, 1) := by decide +kernel
theorem dX6_init_90 : decode cX6_init 90 = .ok (.newarray .int, 2) := by decide +kernel
theorem dX6_init_92 : decode cX6_init 92 = .ok (.putfield 43, 3) := by decide +kernel
theorem dX6_init_95 : decode cX6_init 95 = .ok (.aload_n 0, 1) := by decide +kernel
theorem dX6_init_96 : decode cX6_init 96 = .ok (.bipush 24, 2) := by decide +kernel
theorem dX6_init_98 : decode cX6_init 98 = .ok (.newarray .int, 2) := by decide +kernel
theorem dX6_init_100 : decode cX6_init 100 = .ok (.putfield 46, 3) := by decide +kernel
theorem dX6_init_103 : decode cX6_init 103 = .ok (.aload_n 0, 1) := by decide +kernel
theorem dX6_init_104 : decode cX6_init 104 = .ok (.iconst (-1), 1) := by decide +kernel
theorem dX6_init_105 : decode cX6_init 105 = .ok (.putfield 49, 3) := by decide +kernel
theorem dX6_init_108 : decode cX6_init 108 = .ok (.return_, 1) := by decide +kernel
theorem dX6_in_0 : decode cX6_in 0 = .ok (.lload_n 0, 1) := by decide +kernel
theorem dX6_in_1 : decode cX6_in 1 = .ok (.lload_n 2, 1) := by decide +kernel
theorem dX6_in_2 : decode cX6_in 2 = .ok (.lcmp, 1) := by decide +kernel
theorem dX6_in_3 : decode cX6_in 3 = .ok (.ifCond .lt 14, 3) := by decide +kernel
theorem dX6_in_6 : decode cX6_in 6 = .ok (.lload_n 0, 1) := by decide +kernel
theorem dX6_in_7 : decode cX6_in 7 = .ok (.lload 4, 2) := by decide +kernel
theorem dX6_in_9 : decode cX6_in 9 = .ok (.lcmp, 1) := by decide +kernel
theorem dX6_in_10 : decode cX6_in 10 = .ok (.ifCond .gt 7, 3) := by decide +kernel
theorem dX6_in_13 : decode cX6_in 13 = .ok (.iconst 1, 1) := by decide +kernel
theorem dX6_in_14 : decode cX6_in 14 = .ok (.goto 4, 3) := by decide +kernel
theorem dX6_in_17 : decode cX6_in 17 = .ok (.iconst 0, 1) := by decide +kernel
theorem dX6_in_18 : decode cX6_in 18 = .ok (.ireturn, 1) := by decide +kernel
theorem dX6_copy_0 : decode cX6_copy 0 = .ok (.iconst 0, 1) := by decide +kernel
theorem dX6_copy_1 : decode cX6_copy 1 = .ok (.istore_n 2, 1) := by decide +kernel
theorem dX6_copy_2 : decode cX6_copy 2 = .ok (.iload_n 2, 1) := by decide +kernel
theorem dX6_copy_3 : decode cX6_copy 3 = .ok (.aload_n 0, 1) := by decide +kernel
theorem dX6_copy_4 : decode cX6_copy 4 = .ok (.arraylength, 1) := by decide +kernel
theorem dX6_copy_5 : decode cX6_copy 5 = .ok (.if_icmp .ge 15, 3) := by decide +kernel
theorem dX6_copy_8 : decode cX6_copy 8 = .ok (.aload_n 1, 1) := by decide +kernel
theorem dX6_copy_9 : decode cX6_copy 9 = .ok (.iload_n 2, 1) := by decide +kernel
theorem dX6_copy_10 : decode cX6_copy 10 = .ok (.aload_n 0, 1) := by decide +kernel
theorem dX6_copy_11 : decode cX6_copy 11 = .ok (.iload_n 2, 1) := by decide +kernel
theorem dX6_copy_12 : decode cX6_copy 12 = .ok (.iaload, 1) := by decide +kernel
theorem dX6_copy_13 : decode cX6_copy 13 = .ok (.iastore, 1) := by decide +kernel
theorem dX6_copy_14 : decode cX6_copy 14 = .ok (.iinc 2 1, 3) := by decide +kernel
theorem dX6_copy_17 : decode cX6_copy 17 = .ok (.goto (-15), 3) := by decide +kernel
theorem dX6_copy_20 : decode cX6_copy 20 = .ok (.return_, 1) := by decide +kernel
theorem dX6_ones_0 : decode cX6_ones 0 = .ok (.iconst 0, 1) := by decide +kernel
theorem dX6_ones_1 : decode cX6_ones 1 = .ok (.istore_n 1, 1) := by decide +kernel
theorem dX6_ones_2 : decode cX6_ones 2 = .ok (.iconst 0, 1) := by decide +kernel
theorem dX6_ones_3 : decode cX6_ones 3 = .ok (.istore_n 2, 1) := by decide +kernel
theorem dX6_ones_4 : decode cX6_ones 4 = .ok (.iload_n 2, 1) := by decide +kernel
theorem dX6_ones_5 : decode cX6_ones 5 = .ok (.bipush 6, 2) := by decide +kernel
theorem dX6_ones_7 : decode cX6_ones 7 = .ok (.if_icmp .ge 17, 3) := by decide +kernel
theorem dX6_ones_10 : decode cX6_ones 10 = .ok (.iload_n 1, 1) := by decide +kernel
theorem dX6_ones_11 : decode cX6_ones 11 = .ok (.iload_n 0, 1) := by decide +kernel
theorem dX6_ones_12 : decode cX6_ones 12 = .ok (.iload_n 2, 1) := by decide +kernel
theorem dX6_ones_13 : decode cX6_ones 13 = .ok (.ishr, 1) := by decide +kernel
theorem dX6_ones_14 : decode cX6_ones 14 = .ok (.iconst 1, 1) := by decide +kernel
theorem dX6_ones_15 : decode cX6_ones 15 = .ok (.iand, 1) := by decide +kernel
theorem dX6_ones_16 : decode cX6_ones 16 = .ok (.iadd, 1) := by decide +kernel
theorem dX6_ones_17 : decode cX6_ones 17 = .ok (.istore_n 1, 1) := by decide +kernel
theorem dX6_ones_18 : decode cX6_ones 18 = .ok (.iinc 2 1, 3) := by decide +kernel
theorem dX6_ones_21 : decode cX6_ones 21 = .ok (.goto (-17), 3) := by decide +kernel
theorem dX6_ones_24 : decode cX6_ones 24 = .ok (.iload_n 1, 1) := by decide +kernel
theorem dX6_ones_25 : decode cX6_ones 25 = .ok (.ireturn, 1) := by decide +kernel
theorem dX6_letter_0 : decode cX6_letter 0 = .ok (.iload_n 1, 1) := by decide +kernel
theorem dX6_letter_1 : decode cX6_letter 1 = .ok (.i2l, 1) := by decide +kernel
theorem dX6_letter_2 : decode cX6_letter 2 = .ok (.lconst 1, 1) := by decide +kernel
theorem dX6_letter_3 : decode cX6_letter 3 = .ok (.ldc2_w 53, 3) := by decide +kernel
theorem dX6_letter_6 : decode cX6_letter 6 = .ok (.invokestatic 55, 3) := by decide +kernel
theorem dX6_letter_9 : decode cX6_letter 9 = .ok (.ifCond .ne 6, 3) := by decide +kernel
theorem dX6_letter_12 : decode cX6_letter 12 = .ok (.bipush (-102), 2) := by decide +kernel
theorem dX6_letter_14 : decode cX6_letter 14 = .ok (.ireturn, 1) := by decide +kernel
theorem dX6_letter_15 : decode cX6_letter 15 = .ok (.aload_n 0, 1) := by decide +kernel
theorem dX6_letter_16 : decode cX6_letter 16 = .ok (.getfield 59, 3) := by decide +kernel
theorem dX6_letter_19 : decode cX6_letter 19 = .ok (.bipush 12, 2) := by decide +kernel
theorem dX6_letter_21 : decode cX6_letter 21 = .ok (.if_icmp .ne 6, 3) := by decide +kernel
theorem dX6_letter_24 : decode cX6_letter 24 = .ok (.bipush (-104), 2) := by decide +kernel
theorem dX6_letter_26 : decode cX6_letter 26 = .ok (.ireturn, 1) := by decide +kernel
theorem dX6_letter_27 : decode cX6_letter 27 = .ok (.aload_n 0, 1) := by decide +kernel
theorem dX6_letter_28 : decode cX6_letter 28 = .ok (.getfield 7, 3) := by decide +kernel
theorem dX6_letter_31 : decode cX6_letter 31 = .ok (.aload_n 0, 1) := by decide +kernel
theorem dX6_letter_32 : decode cX6_letter 32 = .ok (.getfield 59, 3) := by decide +kernel
theorem dX6_letter_35 : decode cX6_letter 35 = .ok (.iload_n 1, 1) := by decide +kernel
theorem dX6_letter_36 : decode cX6_letter 36 = .ok (.iastore, 1) := by decide +kernel
theorem dX6_letter_37 : decode cX6_letter 37 = .ok (.aload_n 0, 1) := by decide +kernel
theorem dX6_letter_38 : decode cX6_letter 38 = .ok (.dup, 1) := by decide +kernel
theorem dX6_letter_39 : decode cX6_letter 39 = .ok (.getfield 59, 3) := by decide +kernel
theorem dX6_letter_42 : decode cX6_letter 42 = .ok (.iconst 1, 1) := by decide +kernel
theorem dX6_letter_43 : decode cX6_letter 43 = .ok (.iadd, 1) := by decide +kernel
theorem dX6_letter_44 : decode cX6_letter 44 = .ok (.putfield 59, 3) := by decide +kernel
theorem dX6_letter_47 : decode cX6_letter 47 = .ok (.aload_n 0, 1) := by decide +kernel
theorem dX6_letter_48 : decode cX6_letter 48 = .ok (.getfield 59, 3) := by decide +kernel
theorem dX6_letter_51 : decode cX6_letter 51 = .ok (.ireturn, 1) := by decide +kernel
theorem dX6_blank_0 : decode cX6_blank 0 = .ok (.aload_n 0, 1) := by decide +kernel
theorem dX6_blank_1 : decode cX6_blank 1 = .ok (.getfield 59, 3) := by decide +kernel
theorem dX6_blank_4 : decode cX6_blank 4 = .ok (.istore_n 1, 1) := by decide +kernel
theorem dX6_blank_5 : decode cX6_blank 5 = .ok (.aload_n 0, 1) := by decide +kernel
theorem dX6_blank_6 : decode cX6_blank 6 = .ok (.iconst 0, 1) := by decide +kernel
theorem dX6_blank_7 : decode cX6_blank 7 = .ok (.putfield 59, 3) := by decide +kernel
theorem dX6_blank_10 : decode cX6_blank 10 = .ok (.iload_n 1, 1) := by decide +kernel
theorem dX6_blank_11 : decode cX6_blank 11 = .ok (.ireturn, 1) := by decide +kernel
theorem dX6_isGood_0 : decode cX6_isGood 0 = .ok (.iload_n 1, 1) := by decide +kernel
theorem dX6_isGood_1 : decode cX6_isGood 1 = .ok (.bipush 48, 2) := by decide +kernel
theorem dX6_isGood_3 : decode cX6_isGood 3 = .ok (.isub, 1) := by decide +kernel
theorem dX6_isGood_4 : decode cX6_isGood 4 = .ok (.istore_n 2, 1) := by decide +kernel
theorem dX6_isGood_5 : decode cX6_isGood 5 = .ok (.iload_n 0, 1) := by decide +kernel
theorem dX6_isGood_6 : decode cX6_isGood 6 = .ok (.bipush 7, 2) := by decide +kernel
theorem dX6_isGood_8 : decode cX6_isGood 8 = .ok (.if_icmp .le 47, 3) := by decide +kernel
theorem dX6_isGood_11 : decode cX6_isGood 11 = .ok (.iload_n 0, 1) := by decide +kernel
theorem dX6_isGood_12 : decode cX6_isGood 12 = .ok (.bipush 8, 2) := by decide +kernel
theorem dX6_isGood_14 : decode cX6_isGood 14 = .ok (.if_icmp .ne 17, 3) := by decide +kernel
theorem dX6_isGood_17 : decode cX6_isGood 17 = .ok (.iload_n 1, 1) := by decide +kernel
theorem dX6_isGood_18 : decode cX6_isGood 18 = .ok (.bipush 59, 2) := by decide +kernel
theorem dX6_isGood_20 : decode cX6_isGood 20 = .ok (.if_icmp .ne 7, 3) := by decide +kernel
theorem dX6_isGood_23 : decode cX6_isGood 23 = .ok (.iconst 1, 1) := by decide +kernel
theorem dX6_isGood_24 : decode cX6_isGood 24 = .ok (.goto 30, 3) := by decide +kernel
theorem dX6_isGood_27 : decode cX6_isGood 27 = .ok (.iconst 0, 1) := by decide +kernel
theorem dX6_isGood_28 : decode cX6_isGood 28 = .ok (.goto 26, 3) := by decide +kernel
theorem dX6_isGood_31 : decode cX6_isGood 31 = .ok (.iload_n 0, 1) := by decide +kernel
theorem dX6_isGood_32 : decode cX6_isGood 32 = .ok (.bipush 9, 2) := by decide +kernel
theorem dX6_isGood_34 : decode cX6_isGood 34 = .ok (.if_icmp .ne 19, 3) := by decide +kernel
theorem dX6_isGood_37 : decode cX6_isGood 37 = .ok (.iload_n 2, 1) := by decide +kernel
theorem dX6_isGood_38 : decode cX6_isGood 38 = .ok (.i2l, 1) := by decide +kernel
theorem dX6_isGood_39 : decode cX6_isGood 39 = .ok (.lconst 0, 1) := by decide +kernel
theorem dX6_isGood_40 : decode cX6_isGood 40 = .ok (.ldc2_w 62, 3) := by decide +kernel
theorem dX6_isGood_43 : decode cX6_isGood 43 = .ok (.invokestatic 55, 3) := by decide +kernel
theorem dX6_isGood_46 : decode cX6_isGood 46 = .ok (.ifCond .eq 7, 3) := by decide +kernel
theorem dX6_isGood_49 : decode cX6_isGood 49 = .ok (.iconst 1, 1) := by decide +kernel
theorem dX6_isGood_50 : decode cX6_isGood 50 = .ok (.goto 4, 3) := by decide +kernel
theorem dX6_isGood_53 : decode cX6_isGood 53 = .ok (.iconst 0, 1) := by decide +kernel
theorem dX6_isGood_54 : decode cX6_isGood 54 = .ok (.ireturn, 1) := by decide +kernel
theorem dX6_isGood_55 : decode cX6_isGood 55 = .ok (.iload_n 0, 1) := by decide +kernel
theorem dX6_isGood_56 : decode cX6_isGood 56 = .ok (.iconst 3, 1) := by decide +kernel
theorem dX6_isGood_57 : decode cX6_isGood 57 = .ok (.irem, 1) := by decide +kernel
theorem dX6_isGood_58 : decode cX6_isGood 58 = .ok (.iconst 2, 1) := by decide +kernel
theorem dX6_isGood_59 : decode cX6_isGood 59 = .ok (.if_icmp .ne 17, 3) := by decide +kernel
theorem dX6_isGood_62 : decode cX6_isGood 62 = .ok (.iload_n 1, 1) := by decide +kernel
theorem dX6_isGood_63 : decode cX6_isGood 63 = .ok (.bipush 44, 2) := by decide +kernel
theorem dX6_isGood_65 : decode cX6_isGood 65 = .ok (.if_icmp .ne 7, 3) := by decide +kernel
theorem dX6_isGood_68 : decode cX6_isGood 68 = .ok (.iconst 1, 1) := by decide +kernel
theorem dX6_isGood_69 : decode cX6_isGood 69 = .ok (.goto 16, 3) := by decide +kernel
theorem dX6_isGood_72 : decode cX6_isGood 72 = .ok (.iconst 0, 1) := by decide +kernel
theorem dX6_isGood_73 : decode cX6_isGood 73 = .ok (.goto 12, 3) := by decide +kernel
theorem dX6_isGood_76 : decode cX6_isGood 76 = .ok (.iload_n 2, 1) := by decide +kernel
theorem dX6_isGood_77 : decode cX6_isGood 77 = .ok (.i2l, 1) := by decide +kernel
theorem dX6_isGood_78 : decode cX6_isGood 78 = .ok (.lconst 0, 1) := by decide +kernel
theorem dX6_isGood_79 : decode cX6_isGood 79 = .ok (.ldc2_w 64, 3) := by decide +kernel
theorem dX6_isGood_82 : decode cX6_isGood 82 = .ok (.invokestatic 55, 3) := by decide +kernel
theorem dX6_isGood_85 : decode cX6_isGood 85 = .ok (.ireturn, 1) := by decide +kernel
theorem dX6_faultOf_0 : decode cX6_faultOf 0 = .ok (.iconst 0, 1) := by decide +kernel
theorem dX6_faultOf_1 : decode cX6_faultOf 1 = .ok (.istore_n 1, 1) := by decide +kernel
theorem dX6_faultOf_2 : decode cX6_faultOf 2 = .ok (.iload_n 1, 1) := by decide +kernel
theorem dX6_faultOf_3 : decode cX6_faultOf 3 = .ok (.aload_n 0, 1) := by decide +kernel
theorem dX6_faultOf_4 : decode cX6_faultOf 4 = .ok (.getfield 59, 3) := by decide +kernel
theorem dX6_faultOf_7 : decode cX6_faultOf 7 = .ok (.if_icmp .ge 22, 3) := by decide +kernel
theorem dX6_faultOf_10 : decode cX6_faultOf 10 = .ok (.iload_n 1, 1) := by decide +kernel
theorem dX6_faultOf_11 : decode cX6_faultOf 11 = .ok (.aload_n 0, 1) := by decide +kernel
theorem dX6_faultOf_12 : decode cX6_faultOf 12 = .ok (.getfield 7, 3) := by decide +kernel
theorem dX6_faultOf_15 : decode cX6_faultOf 15 = .ok (.iload_n 1, 1) := by decide +kernel
theorem dX6_faultOf_16 : decode cX6_faultOf 16 = .ok (.iaload, 1) := by decide +kernel
theorem dX6_faultOf_17 : decode cX6_faultOf 17 = .ok (.invokestatic 66, 3) := by decide +kernel
theorem dX6_faultOf_20 : decode cX6_faultOf 20 = .ok (.ifCond .eq 9, 3) := by decide +kernel
theorem dX6_faultOf_23 : decode cX6_faultOf 23 = .ok (.iinc 1 1, 3) := by decide +kernel
theorem dX6_faultOf_26 : decode cX6_faultOf 26 = .ok (.goto (-24), 3) := by decide +kernel
theorem dX6_faultOf_29 : decode cX6_faultOf 29 = .ok (.iload_n 1, 1) := by decide +kernel
theorem dX6_faultOf_30 : decode cX6_faultOf 30 = .ok (.ireturn, 1) := by decide +kernel
theorem dX6_fault_0 : decode cX6_fault 0 = .ok (.aload_n 0, 1) := by decide +kernel
theorem dX6_fault_1 : decode cX6_fault 1 = .ok (.invokevirtual 70, 3) := by decide +kernel
theorem dX6_fault_4 : decode cX6_fault 4 = .ok (.ireturn, 1) := by decide +kernel
theorem dX6_trueAll_0 : decode cX6_trueAll 0 = .ok (.iconst 0, 1) := by decide +kernel
theorem dX6_trueAll_1 : decode cX6_trueAll 1 = .ok (.istore_n 1, 1) := by decide +kernel
theorem dX6_trueAll_2 : decode cX6_trueAll 2 = .ok (.iconst 0, 1) := by decide +kernel
theorem dX6_trueAll_3 : decode cX6_trueAll 3 = .ok (.istore_n 2, 1) := by decide +kernel
theorem dX6_trueAll_4 : decode cX6_trueAll 4 = .ok (.iload_n 2, 1) := by decide +kernel
theorem dX6_trueAll_5 : decode cX6_trueAll 5 = .ok (.iconst 3, 1) := by decide +kernel
theorem dX6_trueAll_6 : decode cX6_trueAll 6 = .ok (.if_icmp .ge 21, 3) := by decide +kernel
theorem dX6_trueAll_9 : decode cX6_trueAll 9 = .ok (.iload_n 1, 1) := by decide +kernel
theorem dX6_trueAll_10 : decode cX6_trueAll 10 = .ok (.aload_n 0, 1) := by decide +kernel
theorem dX6_trueAll_11 : decode cX6_trueAll 11 = .ok (.getfield 13, 3) := by decide +kernel
theorem dX6_trueAll_14 : decode cX6_trueAll 14 = .ok (.iload_n 2, 1) := by decide +kernel
theorem dX6_trueAll_15 : decode cX6_trueAll 15 = .ok (.iaload, 1) := by decide +kernel
theorem dX6_trueAll_16 : decode cX6_trueAll 16 = .ok (.invokestatic 74, 3) := by decide +kernel
theorem dX6_trueAll_19 : decode cX6_trueAll 19 = .ok (.iadd, 1) := by decide +kernel
theorem dX6_trueAll_20 : decode cX6_trueAll 20 = .ok (.istore_n 1, 1) := by decide +kernel
theorem dX6_trueAll_21 : decode cX6_trueAll 21 = .ok (.iinc 2 1, 3) := by decide +kernel
theorem dX6_trueAll_24 : decode cX6_trueAll 24 = .ok (.goto (-20), 3) := by decide +kernel
theorem dX6_trueAll_27 : decode cX6_trueAll 27 = .ok (.iload_n 1, 1) := by decide +kernel
theorem dX6_trueAll_28 : decode cX6_trueAll 28 = .ok (.ireturn, 1) := by decide +kernel
theorem dX6_town_0 : decode cX6_town 0 = .ok (.aload_n 0, 1) := by decide +kernel
theorem dX6_town_1 : decode cX6_town 1 = .ok (.getfield 59, 3) := by decide +kernel
theorem dX6_town_4 : decode cX6_town 4 = .ok (.bipush 10, 2) := by decide +kernel
theorem dX6_town_6 : decode cX6_town 6 = .ok (.if_icmp .ne 12, 3) := by decide +kernel
theorem dX6_town_9 : decode cX6_town 9 = .ok (.aload_n 0, 1) := by decide +kernel
theorem dX6_town_10 : decode cX6_town 10 = .ok (.invokevirtual 70, 3) := by decide +kernel
theorem dX6_town_13 : decode cX6_town 13 = .ok (.bipush 10, 2) := by decide +kernel
theorem dX6_town_15 : decode cX6_town 15 = .ok (.if_icmp .ge 6, 3) := by decide +kernel
theorem dX6_town_18 : decode cX6_town 18 = .ok (.bipush (-103), 2) := by decide +kernel
theorem dX6_town_20 : decode cX6_town 20 = .ok (.ireturn, 1) := by decide +kernel
theorem dX6_town_21 : decode cX6_town 21 = .ok (.iconst 0, 1) := by decide +kernel
theorem dX6_town_22 : decode cX6_town 22 = .ok (.istore_n 1, 1) := by decide +kernel
theorem dX6_town_23 : decode cX6_town 23 = .ok (.iload_n 1, 1) := by decide +kernel
theorem dX6_town_24 : decode cX6_town 24 = .ok (.iconst 3, 1) := by decide +kernel
theorem dX6_town_25 : decode cX6_town 25 = .ok (.if_icmp .ge 50, 3) := by decide +kernel
theorem dX6_town_28 : decode cX6_town 28 = .ok (.aload_n 0, 1) := by decide +kernel
theorem dX6_town_29 : decode cX6_town 29 = .ok (.getfield 13, 3) := by decide +kernel
theorem dX6_town_32 : decode cX6_town 32 = .ok (.iload_n 1, 1) := by decide +kernel
theorem dX6_town_33 : decode cX6_town 33 = .ok (.bipush 8, 2) := by decide +kernel
theorem dX6_town_35 : decode cX6_town 35 = .ok (.aload_n 0, 1) := by decide +kernel
theorem dX6_town_36 : decode cX6_town 36 = .ok (.getfield 7, 3) := by decide +kernel
theorem dX6_town_39 : decode cX6_town 39 = .ok (.iconst 3, 1) := by decide +kernel
theorem dX6_town_40 : decode cX6_town 40 = .ok (.iload_n 1, 1) := by decide +kernel
theorem dX6_town_41 : decode cX6_town 41 = .ok (.imul, 1) := by decide +kernel
theorem dX6_town_42 : decode cX6_town 42 = .ok (.iaload, 1) := by decide +kernel
theorem dX6_town_43 : decode cX6_town 43 = .ok (.bipush 48, 2) := by decide +kernel
theorem dX6_town_45 : decode cX6_town 45 = .ok (.isub, 1) := by decide +kernel
theorem dX6_town_46 : decode cX6_town 46 = .ok (.imul, 1) := by decide +kernel
theorem dX6_town_47 : decode cX6_town 47 = .ok (.aload_n 0, 1) := by decide +kernel
theorem dX6_town_48 : decode cX6_town 48 = .ok (.getfield 7, 3) := by decide +kernel
theorem dX6_town_51 : decode cX6_town 51 = .ok (.iconst 3, 1) := by decide +kernel
theorem dX6_town_52 : decode cX6_town 52 = .ok (.iload_n 1, 1) := by decide +kernel
theorem dX6_town_53 : decode cX6_town 53 = .ok (.imul, 1) := by decide +kernel
theorem dX6_town_54 : decode cX6_town 54 = .ok (.iconst 1, 1) := by decide +kernel
theorem dX6_town_55 : decode cX6_town 55 = .ok (.iadd, 1) := by decide +kernel
theorem dX6_town_56 : decode cX6_town 56 = .ok (.iaload, 1) := by decide +kernel
theorem dX6_town_57 : decode cX6_town 57 = .ok (.iadd, 1) := by decide +kernel
theorem dX6_town_58 : decode cX6_town 58 = .ok (.bipush 48, 2) := by decide +kernel
theorem dX6_town_60 : decode cX6_town 60 = .ok (.isub, 1) := by decide +kernel
theorem dX6_town_61 : decode cX6_town 61 = .ok (.iastore, 1) := by decide +kernel
theorem dX6_town_62 : decode cX6_town 62 = .ok (.aload_n 0, 1) := by decide +kernel
theorem dX6_town_63 : decode cX6_town 63 = .ok (.getfield 16, 3) := by decide +kernel
theorem dX6_town_66 : decode cX6_town 66 = .ok (.iload_n 1, 1) := by decide +kernel
theorem dX6_town_67 : decode cX6_town 67 = .ok (.iconst 0, 1) := by decide +kernel
theorem dX6_town_68 : decode cX6_town 68 = .ok (.iastore, 1) := by decide +kernel
theorem dX6_town_69 : decode cX6_town 69 = .ok (.iinc 1 1, 3) := by decide +kernel
theorem dX6_town_72 : decode cX6_town 72 = .ok (.goto (-49), 3) := by decide +kernel
theorem dX6_town_75 : decode cX6_town 75 = .ok (.aload_n 0, 1) := by decide +kernel
theorem dX6_town_76 : decode cX6_town 76 = .ok (.aload_n 0, 1) := by decide +kernel
theorem dX6_town_77 : decode cX6_town 77 = .ok (.getfield 7, 3) := by decide +kernel
theorem dX6_town_80 : decode cX6_town 80 = .ok (.bipush 9, 2) := by decide +kernel
theorem dX6_town_82 : decode cX6_town 82 = .ok (.iaload, 1) := by decide +kernel
theorem dX6_town_83 : decode cX6_town 83 = .ok (.bipush 48, 2) := by decide +kernel
theorem dX6_town_85 : decode cX6_town 85 = .ok (.isub, 1) := by decide +kernel
theorem dX6_town_86 : decode cX6_town 86 = .ok (.putfield 78, 3) := by decide +kernel
theorem dX6_town_89 : decode cX6_town 89 = .ok (.aload_n 0, 1) := by decide +kernel
theorem dX6_town_90 : decode cX6_town 90 = .ok (.iconst 1, 1) := by decide +kernel
theorem dX6_town_91 : decode cX6_town 91 = .ok (.putfield 81, 3) := by decide +kernel
theorem dX6_town_94 : decode cX6_town 94 = .ok (.aload_n 0, 1) := by decide +kernel
theorem dX6_town_95 : decode cX6_town 95 = .ok (.iconst 0, 1) := by decide +kernel
theorem dX6_town_96 : decode cX6_town 96 = .ok (.putfield 85, 3) := by decide +kernel
theorem dX6_town_99 : decode cX6_town 99 = .ok (.aload_n 0, 1) := by decide +kernel
theorem dX6_town_100 : decode cX6_town 100 = .ok (.iconst 0, 1) := by decide +kernel
theorem dX6_town_101 : decode cX6_town 101 = .ok (.putfield 88, 3) := by decide +kernel
theorem dX6_town_104 : decode cX6_town 104 = .ok (.aload_n 0, 1) := by decide +kernel
theorem dX6_town_105 : decode cX6_town 105 = .ok (.iconst 0, 1) := by decide +kernel
theorem dX6_town_106 : decode cX6_town 106 = .ok (.putfield 91, 3) := by decide +kernel
theorem dX6_town_109 : decode cX6_town 109 = .ok (.aload_n 0, 1) := by decide +kernel
theorem dX6_town_110 : decode cX6_town 110 = .ok (.dup, 1) := by decide +kernel
theorem dX6_town_111 : decode cX6_town 111 = .ok (.getfield 94, 3) := by decide +kernel
theorem dX6_town_114 : decode cX6_town 114 = .ok (.iconst 1, 1) := by decide +kernel
theorem dX6_town_115 : decode cX6_town 115 = .ok (.iadd, 1) := by decide +kernel
theorem dX6_town_116 : decode cX6_town 116 = .ok (.putfield 94, 3) := by decide +kernel
theorem dX6_town_119 : decode cX6_town 119 = .ok (.aload_n 0, 1) := by decide +kernel
theorem dX6_town_120 : decode cX6_town 120 = .ok (.iconst 0, 1) := by decide +kernel
theorem dX6_town_121 : decode cX6_town 121 = .ok (.putfield 59, 3) := by decide +kernel
theorem dX6_town_124 : decode cX6_town 124 = .ok (.aload_n 0, 1) := by decide +kernel
theorem dX6_town_125 : decode cX6_town 125 = .ok (.invokevirtual 97, 3) := by decide +kernel
theorem dX6_town_128 : decode cX6_town 128 = .ok (.ireturn, 1) := by decide +kernel
theorem dX6_isVictim_0 : decode cX6_isVictim 0 = .ok (.aload_n 0, 1) := by decide +kernel
theorem dX6_isVictim_1 : decode cX6_isVictim 1 = .ok (.getfield 81, 3) := by decide +kernel
theorem dX6_isVictim_4 : decode cX6_isVictim 4 = .ok (.ifCond .eq 19, 3) := by decide +kernel
theorem dX6_isVictim_7 : decode cX6_isVictim 7 = .ok (.iload_n 1, 1) := by decide +kernel
theorem dX6_isVictim_8 : decode cX6_isVictim 8 = .ok (.i2l, 1) := by decide +kernel
theorem dX6_isVictim_9 : decode cX6_isVictim 9 = .ok (.lconst 0, 1) := by decide +kernel
theorem dX6_isVictim_10 : decode cX6_isVictim 10 = .ok (.ldc2_w 100, 3) := by decide +kernel
theorem dX6_isVictim_13 : decode cX6_isVictim 13 = .ok (.invokestatic 55, 3) := by decide +kernel
theorem dX6_isVictim_16 : decode cX6_isVictim 16 = .ok (.ifCond .eq 7, 3) := by decide +kernel
theorem dX6_isVictim_19 : decode cX6_isVictim 19 = .ok (.iconst 1, 1) := by decide +kernel
theorem dX6_isVictim_20 : decode cX6_isVictim 20 = .ok (.goto 4, 3) := by decide +kernel
theorem dX6_isVictim_23 : decode cX6_isVictim 23 = .ok (.iconst 0, 1) := by decide +kernel
theorem dX6_isVictim_24 : decode cX6_isVictim 24 = .ok (.ireturn, 1) := by decide +kernel
theorem dX6_isSaying_0 : decode cX6_isSaying 0 = .ok (.iload_n 0, 1) := by decide +kernel
theorem dX6_isSaying_1 : decode cX6_isSaying 1 = .ok (.i2l, 1) := by decide +kernel
theorem dX6_isSaying_2 : decode cX6_isSaying 2 = .ok (.lconst 0, 1) := by decide +kernel
theorem dX6_isSaying_3 : decode cX6_isSaying 3 = .ok (.ldc2_w 102, 3) := by decide +kernel
theorem dX6_isSaying_6 : decode cX6_isSaying 6 = .ok (.invokestatic 55, 3) := by decide +kernel
theorem dX6_isSaying_9 : decode cX6_isSaying 9 = .ok (.ireturn, 1) := by decide +kernel
theorem dX6_isConvict_0 : decode cX6_isConvict 0 = .ok (.iload_n 1, 1) := by decide +kernel
theorem dX6_isConvict_1 : decode cX6_isConvict 1 = .ok (.i2l, 1) := by decide +kernel
theorem dX6_isConvict_2 : decode cX6_isConvict 2 = .ok (.lconst 0, 1) := by decide +kernel
theorem dX6_isConvict_3 : decode cX6_isConvict 3 = .ok (.aload_n 0, 1) := by decide +kernel
theorem dX6_isConvict_4 : decode cX6_isConvict 4 = .ok (.getfield 88, 3) := by decide +kernel
theorem dX6_isConvict_7 : decode cX6_isConvict 7 = .ok (.iconst 1, 1) := by decide +kernel
theorem dX6_isConvict_8 : decode cX6_isConvict 8 = .ok (.isub, 1) := by decide +kernel
theorem dX6_isConvict_9 : decode cX6_isConvict 9 = .ok (.i2l, 1) := by decide +kernel
theorem dX6_isConvict_10 : decode cX6_isConvict 10 = .ok (.invokestatic 55, 3) := by decide +kernel
theorem dX6_isConvict_13 : decode cX6_isConvict 13 = .ok (.ireturn, 1) := by decide +kernel
theorem dX6_aDay_0 : decode cX6_aDay 0 = .ok (.iload_n 0, 1) := by decide +kernel
theorem dX6_aDay_1 : decode cX6_aDay 1 = .ok (.iconst 1, 1) := by decide +kernel
theorem dX6_aDay_2 : decode cX6_aDay 2 = .ok (.if_icmp .ne 7, 3) := by decide +kernel
theorem dX6_aDay_5 : decode cX6_aDay 5 = .ok (.iconst 2, 1) := by decide +kernel
theorem dX6_aDay_6 : decode cX6_aDay 6 = .ok (.goto 13, 3) := by decide +kernel
theorem dX6_aDay_9 : decode cX6_aDay 9 = .ok (.iload_n 0, 1) := by decide +kernel
theorem dX6_aDay_10 : decode cX6_aDay 10 = .ok (.iconst 4, 1) := by decide +kernel
theorem dX6_aDay_11 : decode cX6_aDay 11 = .ok (.if_icmp .ne 7, 3) := by decide +kernel
theorem dX6_aDay_14 : decode cX6_aDay 14 = .ok (.iconst 3, 1) := by decide +kernel
theorem dX6_aDay_15 : decode cX6_aDay 15 = .ok (.goto 4, 3) := by decide +kernel
theorem dX6_aDay_18 : decode cX6_aDay 18 = .ok (.iconst 1, 1) := by decide +kernel
theorem dX6_aDay_19 : decode cX6_aDay 19 = .ok (.ireturn, 1) := by decide +kernel
theorem dX6_tellVictim_0 : decode cX6_tellVictim 0 = .ok (.iconst 0, 1) := by decide +kernel
theorem dX6_tellVictim_1 : decode cX6_tellVictim 1 = .ok (.istore_n 3, 1) := by decide +kernel
theorem dX6_tellVictim_2 : decode cX6_tellVictim 2 = .ok (.iconst 0, 1) := by decide +kernel
theorem dX6_tellVictim_3 : decode cX6_tellVictim 3 = .ok (.istore 4, 2) := by decide +kernel
theorem dX6_tellVictim_5 : decode cX6_tellVictim 5 = .ok (.iconst 0, 1) := by decide +kernel
theorem dX6_tellVictim_6 : decode cX6_tellVictim 6 = .ok (.istore 5, 2) := by decide +kernel
theorem dX6_tellVictim_8 : decode cX6_tellVictim 8 = .ok (.iload 5, 2) := by decide +kernel
theorem dX6_tellVictim_10 : decode cX6_tellVictim 10 = .ok (.aload_n 0, 1) := by decide +kernel
theorem dX6_tellVictim_11 : decode cX6_tellVictim 11 = .ok (.getfield 88, 3) := by decide +kernel
theorem dX6_tellVictim_14 : decode cX6_tellVictim 14 = .ok (.if_icmp .ge 73, 3) := by decide +kernel
theorem dX6_tellVictim_17 : decode cX6_tellVictim 17 = .ok (.iload_n 3, 1) := by decide +kernel
theorem dX6_tellVictim_18 : decode cX6_tellVictim 18 = .ok (.aload_n 0, 1) := by decide +kernel
theorem dX6_tellVictim_19 : decode cX6_tellVictim 19 = .ok (.getfield 19, 3) := by decide +kernel
theorem dX6_tellVictim_22 : decode cX6_tellVictim 22 = .ok (.bipush 6, 2) := by decide +kernel
theorem dX6_tellVictim_24 : decode cX6_tellVictim 24 = .ok (.iload 5, 2) := by decide +kernel
theorem dX6_tellVictim_26 : decode cX6_tellVictim 26 = .ok (.imul, 1) := by decide +kernel
theorem dX6_tellVictim_27 : decode cX6_tellVictim 27 = .ok (.iconst 1, 1) := by decide +kernel
theorem dX6_tellVictim_28 : decode cX6_tellVictim 28 = .ok (.iadd, 1) := by decide +kernel
theorem dX6_tellVictim_29 : decode cX6_tellVictim 29 = .ok (.iaload, 1) := by decide +kernel
theorem dX6_tellVictim_30 : decode cX6_tellVictim 30 = .ok (.iload_n 1, 1) := by decide +kernel
theorem dX6_tellVictim_31 : decode cX6_tellVictim 31 = .ok (.if_icmp .ne 10, 3) := by decide +kernel
theorem dX6_tellVictim_34 : decode cX6_tellVictim 34 = .ok (.iconst 1, 1) := by decide +kernel
theorem dX6_tellVictim_35 : decode cX6_tellVictim 35 = .ok (.iload 5, 2) := by decide +kernel
theorem dX6_tellVictim_37 : decode cX6_tellVictim 37 = .ok (.ishl, 1) := by decide +kernel
theorem dX6_tellVictim_38 : decode cX6_tellVictim 38 = .ok (.goto 4, 3) := by decide +kernel
theorem dX6_tellVictim_41 : decode cX6_tellVictim 41 = .ok (.iconst 0, 1) := by decide +kernel
theorem dX6_tellVictim_42 : decode cX6_tellVictim 42 = .ok (.ior, 1) := by decide +kernel
theorem dX6_tellVictim_43 : decode cX6_tellVictim 43 = .ok (.istore_n 3, 1) := by decide +kernel
theorem dX6_tellVictim_44 : decode cX6_tellVictim 44 = .ok (.iload 4, 2) := by decide +kernel
theorem dX6_tellVictim_46 : decode cX6_tellVictim 46 = .ok (.aload_n 0, 1) := by decide +kernel
theorem dX6_tellVictim_47 : decode cX6_tellVictim 47 = .ok (.getfield 19, 3) := by decide +kernel
theorem dX6_tellVictim_50 : decode cX6_tellVictim 50 = .ok (.bipush 6, 2) := by decide +kernel
theorem dX6_tellVictim_52 : decode cX6_tellVictim 52 = .ok (.iload 5, 2) := by decide +kernel
theorem dX6_tellVictim_54 : decode cX6_tellVictim 54 = .ok (.imul, 1) := by decide +kernel
theorem dX6_tellVictim_55 : decode cX6_tellVictim 55 = .ok (.iconst 1, 1) := by decide +kernel
theorem dX6_tellVictim_56 : decode cX6_tellVictim 56 = .ok (.iadd, 1) := by decide +kernel
theorem dX6_tellVictim_57 : decode cX6_tellVictim 57 = .ok (.iaload, 1) := by decide +kernel
theorem dX6_tellVictim_58 : decode cX6_tellVictim 58 = .ok (.iload_n 1, 1) := by decide +kernel
theorem dX6_tellVictim_59 : decode cX6_tellVictim 59 = .ok (.if_icmp .ne 18, 3) := by decide +kernel
theorem dX6_tellVictim_62 : decode cX6_tellVictim 62 = .ok (.aload_n 0, 1) := by decide +kernel
theorem dX6_tellVictim_63 : decode cX6_tellVictim 63 = .ok (.getfield 19, 3) := by decide +kernel
theorem dX6_tellVictim_66 : decode cX6_tellVictim 66 = .ok (.bipush 6, 2) := by decide +kernel
theorem dX6_tellVictim_68 : decode cX6_tellVictim 68 = .ok (.iload 5, 2) := by decide +kernel
theorem dX6_tellVictim_70 : decode cX6_tellVictim 70 = .ok (.imul, 1) := by decide +kernel
theorem dX6_tellVictim_71 : decode cX6_tellVictim 71 = .ok (.iconst 2, 1) := by decide +kernel
theorem dX6_tellVictim_72 : decode cX6_tellVictim 72 = .ok (.iadd, 1) := by decide +kernel
theorem dX6_tellVictim_73 : decode cX6_tellVictim 73 = .ok (.iaload, 1) := by decide +kernel
theorem dX6_tellVictim_74 : decode cX6_tellVictim 74 = .ok (.goto 4, 3) := by decide +kernel
theorem dX6_tellVictim_77 : decode cX6_tellVictim 77 = .ok (.iconst 0, 1) := by decide +kernel
theorem dX6_tellVictim_78 : decode cX6_tellVictim 78 = .ok (.iadd, 1) := by decide +kernel
theorem dX6_tellVictim_79 : decode cX6_tellVictim 79 = .ok (.istore 4, 2) := by decide +kernel
theorem dX6_tellVictim_81 : decode cX6_tellVictim 81 = .ok (.iinc 5 1, 3) := by decide +kernel
theorem dX6_tellVictim_84 : decode cX6_tellVictim 84 = .ok (.goto (-76), 3) := by decide +kernel
theorem dX6_tellVictim_87 : decode cX6_tellVictim 87 = .ok (.iload_n 2, 1) := by decide +kernel
theorem dX6_tellVictim_88 : decode cX6_tellVictim 88 = .ok (.ifCond .ne 12, 3) := by decide +kernel
theorem dX6_tellVictim_91 : decode cX6_tellVictim 91 = .ok (.aload_n 0, 1) := by decide +kernel
theorem dX6_tellVictim_92 : decode cX6_tellVictim 92 = .ok (.getfield 13, 3) := by decide +kernel
theorem dX6_tellVictim_95 : decode cX6_tellVictim 95 = .ok (.iload_n 1, 1) := by decide +kernel
theorem dX6_tellVictim_96 : decode cX6_tellVictim 96 = .ok (.iaload, 1) := by decide +kernel
theorem dX6_tellVictim_97 : decode cX6_tellVictim 97 = .ok (.goto 38, 3) := by decide +kernel
theorem dX6_tellVictim_100 : decode cX6_tellVictim 100 = .ok (.iload_n 2, 1) := by decide +kernel
theorem dX6_tellVictim_101 : decode cX6_tellVictim 101 = .ok (.iconst 1, 1) := by decide +kernel
theorem dX6_tellVictim_102 : decode cX6_tellVictim 102 = .ok (.if_icmp .ne 12, 3) := by decide +kernel
theorem dX6_tellVictim_105 : decode cX6_tellVictim 105 = .ok (.aload_n 0, 1) := by decide +kernel
theorem dX6_tellVictim_106 : decode cX6_tellVictim 106 = .ok (.getfield 16, 3) := by decide +kernel
theorem dX6_tellVictim_109 : decode cX6_tellVictim 109 = .ok (.iload_n 1, 1) := by decide +kernel
theorem dX6_tellVictim_110 : decode cX6_tellVictim 110 = .ok (.iaload, 1) := by decide +kernel
theorem dX6_tellVictim_111 : decode cX6_tellVictim 111 = .ok (.goto 24, 3) := by decide +kernel
theorem dX6_tellVictim_114 : decode cX6_tellVictim 114 = .ok (.iload_n 2, 1) := by decide +kernel
theorem dX6_tellVictim_115 : decode cX6_tellVictim 115 = .ok (.iconst 2, 1) := by decide +kernel
theorem dX6_tellVictim_116 : decode cX6_tellVictim 116 = .ok (.if_icmp .ne 7, 3) := by decide +kernel
theorem dX6_tellVictim_119 : decode cX6_tellVictim 119 = .ok (.iload_n 3, 1) := by decide +kernel
theorem dX6_tellVictim_120 : decode cX6_tellVictim 120 = .ok (.goto 15, 3) := by decide +kernel
theorem dX6_tellVictim_123 : decode cX6_tellVictim 123 = .ok (.iload_n 2, 1) := by decide +kernel
theorem dX6_tellVictim_124 : decode cX6_tellVictim 124 = .ok (.iconst 3, 1) := by decide +kernel
theorem dX6_tellVictim_125 : decode cX6_tellVictim 125 = .ok (.if_icmp .ne 8, 3) := by decide +kernel
theorem dX6_tellVictim_128 : decode cX6_tellVictim 128 = .ok (.iload 4, 2) := by decide +kernel
theorem dX6_tellVictim_130 : decode cX6_tellVictim 130 = .ok (.goto 5, 3) := by decide +kernel
theorem dX6_tellVictim_133 : decode cX6_tellVictim 133 = .ok (.bipush (-102), 2) := by decide +kernel
theorem dX6_tellVictim_135 : decode cX6_tellVictim 135 = .ok (.ireturn, 1) := by decide +kernel
theorem dX6_victim_0 : decode cX6_victim 0 = .ok (.aload_n 0, 1) := by decide +kernel
theorem dX6_victim_1 : decode cX6_victim 1 = .ok (.iload_n 1, 1) := by decide +kernel
theorem dX6_victim_2 : decode cX6_victim 2 = .ok (.invokevirtual 104, 3) := by decide +kernel
theorem dX6_victim_5 : decode cX6_victim 5 = .ok (.ifCond .eq 12, 3) := by decide +kernel
theorem dX6_victim_8 : decode cX6_victim 8 = .ok (.aload_n 0, 1) := by decide +kernel
theorem dX6_victim_9 : decode cX6_victim 9 = .ok (.iload_n 1, 1) := by decide +kernel
theorem dX6_victim_10 : decode cX6_victim 10 = .ok (.iload_n 2, 1) := by decide +kernel
theorem dX6_victim_11 : decode cX6_victim 11 = .ok (.invokevirtual 108, 3) := by decide +kernel
theorem dX6_victim_14 : decode cX6_victim 14 = .ok (.goto 5, 3) := by decide +kernel
theorem dX6_victim_17 : decode cX6_victim 17 = .ok (.bipush (-101), 2) := by decide +kernel
theorem dX6_victim_19 : decode cX6_victim 19 = .ok (.ireturn, 1) := by decide +kernel
theorem dX6_convict_0 : decode cX6_convict 0 = .ok (.iload_n 1, 1) := by decide +kernel
theorem dX6_convict_1 : decode cX6_convict 1 = .ok (.i2l, 1) := by decide +kernel
theorem dX6_convict_2 : decode cX6_convict 2 = .ok (.lconst 0, 1) := by decide +kernel
theorem dX6_convict_3 : decode cX6_convict 3 = .ok (.ldc2_w 112, 3) := by decide +kernel
theorem dX6_convict_6 : decode cX6_convict 6 = .ok (.invokestatic 55, 3) := by decide +kernel
theorem dX6_convict_9 : decode cX6_convict 9 = .ok (.ifCond .eq 28, 3) := by decide +kernel
theorem dX6_convict_12 : decode cX6_convict 12 = .ok (.iload_n 3, 1) := by decide +kernel
theorem dX6_convict_13 : decode cX6_convict 13 = .ok (.i2l, 1) := by decide +kernel
theorem dX6_convict_14 : decode cX6_convict 14 = .ok (.lconst 1, 1) := by decide +kernel
theorem dX6_convict_15 : decode cX6_convict 15 = .ok (.ldc2_w 62, 3) := by decide +kernel
theorem dX6_convict_18 : decode cX6_convict 18 = .ok (.invokestatic 55, 3) := by decide +kernel
theorem dX6_convict_21 : decode cX6_convict 21 = .ok (.ifCond .eq 16, 3) := by decide +kernel
theorem dX6_convict_24 : decode cX6_convict 24 = .ok (.iload 4, 2) := by decide +kernel
theorem dX6_convict_26 : decode cX6_convict 26 = .ok (.i2l, 1) := by decide +kernel
theorem dX6_convict_27 : decode cX6_convict 27 = .ok (.lconst 0, 1) := by decide +kernel
theorem dX6_convict_28 : decode cX6_convict 28 = .ok (.ldc2_w 114, 3) := by decide +kernel
theorem dX6_convict_31 : decode cX6_convict 31 = .ok (.invokestatic 55, 3) := by decide +kernel
theorem dX6_convict_34 : decode cX6_convict 34 = .ok (.ifCond .ne 6, 3) := by decide +kernel
theorem dX6_convict_37 : decode cX6_convict 37 = .ok (.bipush (-102), 2) := by decide +kernel
theorem dX6_convict_39 : decode cX6_convict 39 = .ok (.ireturn, 1) := by decide +kernel
theorem dX6_convict_40 : decode cX6_convict 40 = .ok (.aload_n 0, 1) := by decide +kernel
theorem dX6_convict_41 : decode cX6_convict 41 = .ok (.iload_n 2, 1) := by decide +kernel
theorem dX6_convict_42 : decode cX6_convict 42 = .ok (.invokevirtual 104, 3) := by decide +kernel
theorem dX6_convict_45 : decode cX6_convict 45 = .ok (.ifCond .ne 6, 3) := by decide +kernel
theorem dX6_convict_48 : decode cX6_convict 48 = .ok (.bipush (-101), 2) := by decide +kernel
theorem dX6_convict_50 : decode cX6_convict 50 = .ok (.ireturn, 1) := by decide +kernel
theorem dX6_convict_51 : decode cX6_convict 51 = .ok (.aload_n 0, 1) := by decide +kernel
theorem dX6_convict_52 : decode cX6_convict 52 = .ok (.getfield 88, 3) := by decide +kernel
theorem dX6_convict_55 : decode cX6_convict 55 = .ok (.iconst 4, 1) := by decide +kernel
theorem dX6_convict_56 : decode cX6_convict 56 = .ok (.if_icmp .ne 6, 3) := by decide +kernel
theorem dX6_convict_59 : decode cX6_convict 59 = .ok (.bipush (-104), 2) := by decide +kernel
theorem dX6_convict_61 : decode cX6_convict 61 = .ok (.ireturn, 1) := by decide +kernel
theorem dX6_convict_62 : decode cX6_convict 62 = .ok (.aload_n 0, 1) := by decide +kernel
theorem dX6_convict_63 : decode cX6_convict 63 = .ok (.getfield 19, 3) := by decide +kernel
theorem dX6_convict_66 : decode cX6_convict 66 = .ok (.bipush 6, 2) := by decide +kernel
theorem dX6_convict_68 : decode cX6_convict 68 = .ok (.aload_n 0, 1) := by decide +kernel
theorem dX6_convict_69 : decode cX6_convict 69 = .ok (.getfield 88, 3) := by decide +kernel
theorem dX6_convict_72 : decode cX6_convict 72 = .ok (.imul, 1) := by decide +kernel
theorem dX6_convict_73 : decode cX6_convict 73 = .ok (.iload_n 1, 1) := by decide +kernel
theorem dX6_convict_74 : decode cX6_convict 74 = .ok (.iastore, 1) := by decide +kernel
theorem dX6_convict_75 : decode cX6_convict 75 = .ok (.aload_n 0, 1) := by decide +kernel
theorem dX6_convict_76 : decode cX6_convict 76 = .ok (.getfield 19, 3) := by decide +kernel
theorem dX6_convict_79 : decode cX6_convict 79 = .ok (.bipush 6, 2) := by decide +kernel
theorem dX6_convict_81 : decode cX6_convict 81 = .ok (.aload_n 0, 1) := by decide +kernel
theorem dX6_convict_82 : decode cX6_convict 82 = .ok (.getfield 88, 3) := by decide +kernel
theorem dX6_convict_85 : decode cX6_convict 85 = .ok (.imul, 1) := by decide +kernel
theorem dX6_convict_86 : decode cX6_convict 86 = .ok (.iconst 1, 1) := by decide +kernel
theorem dX6_convict_87 : decode cX6_convict 87 = .ok (.iadd, 1) := by decide +kernel
theorem dX6_convict_88 : decode cX6_convict 88 = .ok (.iload_n 2, 1) := by decide +kernel
theorem dX6_convict_89 : decode cX6_convict 89 = .ok (.iastore, 1) := by decide +kernel
theorem dX6_convict_90 : decode cX6_convict 90 = .ok (.aload_n 0, 1) := by decide +kernel
theorem dX6_convict_91 : decode cX6_convict 91 = .ok (.getfield 19, 3) := by decide +kernel
theorem dX6_convict_94 : decode cX6_convict 94 = .ok (.bipush 6, 2) := by decide +kernel
theorem dX6_convict_96 : decode cX6_convict 96 = .ok (.aload_n 0, 1) := by decide +kernel
theorem dX6_convict_97 : decode cX6_convict 97 = .ok (.getfield 88, 3) := by decide +kernel
theorem dX6_convict_100 : decode cX6_convict 100 = .ok (.imul, 1) := by decide +kernel
theorem dX6_convict_101 : decode cX6_convict 101 = .ok (.iconst 2, 1) := by decide +kernel
theorem dX6_convict_102 : decode cX6_convict 102 = .ok (.iadd, 1) := by decide +kernel
theorem dX6_convict_103 : decode cX6_convict 103 = .ok (.iload_n 3, 1) := by decide +kernel
theorem dX6_convict_104 : decode cX6_convict 104 = .ok (.iastore, 1) := by decide +kernel
theorem dX6_convict_105 : decode cX6_convict 105 = .ok (.aload_n 0, 1) := by decide +kernel
theorem dX6_convict_106 : decode cX6_convict 106 = .ok (.getfield 19, 3) := by decide +kernel
theorem dX6_convict_109 : decode cX6_convict 109 = .ok (.bipush 6, 2) := by decide +kernel
theorem dX6_convict_111 : decode cX6_convict 111 = .ok (.aload_n 0, 1) := by decide +kernel
theorem dX6_convict_112 : decode cX6_convict 112 = .ok (.getfield 88, 3) := by decide +kernel
theorem dX6_convict_115 : decode cX6_convict 115 = .ok (.imul, 1) := by decide +kernel
theorem dX6_convict_116 : decode cX6_convict 116 = .ok (.iconst 3, 1) := by decide +kernel
theorem dX6_convict_117 : decode cX6_convict 117 = .ok (.iadd, 1) := by decide +kernel
theorem dX6_convict_118 : decode cX6_convict 118 = .ok (.iload 4, 2) := by decide +kernel
theorem dX6_convict_120 : decode cX6_convict 120 = .ok (.iastore, 1) := by decide +kernel
theorem dX6_convict_121 : decode cX6_convict 121 = .ok (.aload_n 0, 1) := by decide +kernel
theorem dX6_convict_122 : decode cX6_convict 122 = .ok (.getfield 19, 3) := by decide +kernel
theorem dX6_convict_125 : decode cX6_convict 125 = .ok (.bipush 6, 2) := by decide +kernel
theorem dX6_convict_127 : decode cX6_convict 127 = .ok (.aload_n 0, 1) := by decide +kernel
end
section
theorem dX6_convict_128 : decode cX6_convict 128 = .ok (.getfield 88, 3) := by decide +kernel
theorem dX6_convict_131 : decode cX6_convict 131 = .ok (.imul, 1) := by decide +kernel
theorem dX6_convict_132 : decode cX6_convict 132 = .ok (.iconst 4, 1) := by decide +kernel
theorem dX6_convict_133 : decode cX6_convict 133 = .ok (.iadd, 1) := by decide +kernel
theorem dX6_convict_134 : decode cX6_convict 134 = .ok (.iload_n 1, 1) := by decide +kernel
theorem dX6_convict_135 : decode cX6_convict 135 = .ok (.invokestatic 116, 3) := by decide +kernel
theorem dX6_convict_138 : decode cX6_convict 138 = .ok (.iastore, 1) := by decide +kernel
theorem dX6_convict_139 : decode cX6_convict 139 = .ok (.aload_n 0, 1) := by decide +kernel
theorem dX6_convict_140 : decode cX6_convict 140 = .ok (.getfield 19, 3) := by decide +kernel
theorem dX6_convict_143 : decode cX6_convict 143 = .ok (.bipush 6, 2) := by decide +kernel
theorem dX6_convict_145 : decode cX6_convict 145 = .ok (.aload_n 0, 1) := by decide +kernel
theorem dX6_convict_146 : decode cX6_convict 146 = .ok (.getfield 88, 3) := by decide +kernel
theorem dX6_convict_149 : decode cX6_convict 149 = .ok (.imul, 1) := by decide +kernel
theorem dX6_convict_150 : decode cX6_convict 150 = .ok (.iconst 5, 1) := by decide +kernel
theorem dX6_convict_151 : decode cX6_convict 151 = .ok (.iadd, 1) := by decide +kernel
theorem dX6_convict_152 : decode cX6_convict 152 = .ok (.iconst 0, 1) := by decide +kernel
theorem dX6_convict_153 : decode cX6_convict 153 = .ok (.iastore, 1) := by decide +kernel
theorem dX6_convict_154 : decode cX6_convict 154 = .ok (.aload_n 0, 1) := by decide +kernel
theorem dX6_convict_155 : decode cX6_convict 155 = .ok (.dup, 1) := by decide +kernel
theorem dX6_convict_156 : decode cX6_convict 156 = .ok (.getfield 88, 3) := by decide +kernel
theorem dX6_convict_159 : decode cX6_convict 159 = .ok (.iconst 1, 1) := by decide +kernel
theorem dX6_convict_160 : decode cX6_convict 160 = .ok (.iadd, 1) := by decide +kernel
theorem dX6_convict_161 : decode cX6_convict 161 = .ok (.putfield 88, 3) := by decide +kernel
theorem dX6_convict_164 : decode cX6_convict 164 = .ok (.aload_n 0, 1) := by decide +kernel
theorem dX6_convict_165 : decode cX6_convict 165 = .ok (.getfield 88, 3) := by decide +kernel
theorem dX6_convict_168 : decode cX6_convict 168 = .ok (.iconst 1, 1) := by decide +kernel
theorem dX6_convict_169 : decode cX6_convict 169 = .ok (.isub, 1) := by decide +kernel
theorem dX6_convict_170 : decode cX6_convict 170 = .ok (.ireturn, 1) := by decide +kernel
theorem dX6_leftOf_0 : decode cX6_leftOf 0 = .ok (.aload_n 0, 1) := by decide +kernel
theorem dX6_leftOf_1 : decode cX6_leftOf 1 = .ok (.getfield 19, 3) := by decide +kernel
theorem dX6_leftOf_4 : decode cX6_leftOf 4 = .ok (.bipush 6, 2) := by decide +kernel
theorem dX6_leftOf_6 : decode cX6_leftOf 6 = .ok (.iload_n 1, 1) := by decide +kernel
theorem dX6_leftOf_7 : decode cX6_leftOf 7 = .ok (.imul, 1) := by decide +kernel
theorem dX6_leftOf_8 : decode cX6_leftOf 8 = .ok (.iconst 1, 1) := by decide +kernel
theorem dX6_leftOf_9 : decode cX6_leftOf 9 = .ok (.iadd, 1) := by decide +kernel
theorem dX6_leftOf_10 : decode cX6_leftOf 10 = .ok (.iaload, 1) := by decide +kernel
theorem dX6_leftOf_11 : decode cX6_leftOf 11 = .ok (.istore_n 2, 1) := by decide +kernel
theorem dX6_leftOf_12 : decode cX6_leftOf 12 = .ok (.aload_n 0, 1) := by decide +kernel
theorem dX6_leftOf_13 : decode cX6_leftOf 13 = .ok (.getfield 19, 3) := by decide +kernel
theorem dX6_leftOf_16 : decode cX6_leftOf 16 = .ok (.bipush 6, 2) := by decide +kernel
theorem dX6_leftOf_18 : decode cX6_leftOf 18 = .ok (.iload_n 1, 1) := by decide +kernel
theorem dX6_leftOf_19 : decode cX6_leftOf 19 = .ok (.imul, 1) := by decide +kernel
theorem dX6_leftOf_20 : decode cX6_leftOf 20 = .ok (.iconst 3, 1) := by decide +kernel
theorem dX6_leftOf_21 : decode cX6_leftOf 21 = .ok (.iadd, 1) := by decide +kernel
theorem dX6_leftOf_22 : decode cX6_leftOf 22 = .ok (.iaload, 1) := by decide +kernel
theorem dX6_leftOf_23 : decode cX6_leftOf 23 = .ok (.aload_n 0, 1) := by decide +kernel
theorem dX6_leftOf_24 : decode cX6_leftOf 24 = .ok (.getfield 13, 3) := by decide +kernel
theorem dX6_leftOf_27 : decode cX6_leftOf 27 = .ok (.iload_n 2, 1) := by decide +kernel
theorem dX6_leftOf_28 : decode cX6_leftOf 28 = .ok (.iaload, 1) := by decide +kernel
theorem dX6_leftOf_29 : decode cX6_leftOf 29 = .ok (.iand, 1) := by decide +kernel
theorem dX6_leftOf_30 : decode cX6_leftOf 30 = .ok (.aload_n 0, 1) := by decide +kernel
theorem dX6_leftOf_31 : decode cX6_leftOf 31 = .ok (.getfield 16, 3) := by decide +kernel
theorem dX6_leftOf_34 : decode cX6_leftOf 34 = .ok (.iload_n 2, 1) := by decide +kernel
theorem dX6_leftOf_35 : decode cX6_leftOf 35 = .ok (.iaload, 1) := by decide +kernel
theorem dX6_leftOf_36 : decode cX6_leftOf 36 = .ok (.iconst (-1), 1) := by decide +kernel
theorem dX6_leftOf_37 : decode cX6_leftOf 37 = .ok (.ixor, 1) := by decide +kernel
theorem dX6_leftOf_38 : decode cX6_leftOf 38 = .ok (.iand, 1) := by decide +kernel
theorem dX6_leftOf_39 : decode cX6_leftOf 39 = .ok (.ireturn, 1) := by decide +kernel
theorem dX6_needsOf_0 : decode cX6_needsOf 0 = .ok (.aload_n 0, 1) := by decide +kernel
theorem dX6_needsOf_1 : decode cX6_needsOf 1 = .ok (.getfield 19, 3) := by decide +kernel
theorem dX6_needsOf_4 : decode cX6_needsOf 4 = .ok (.bipush 6, 2) := by decide +kernel
theorem dX6_needsOf_6 : decode cX6_needsOf 6 = .ok (.iload_n 1, 1) := by decide +kernel
theorem dX6_needsOf_7 : decode cX6_needsOf 7 = .ok (.imul, 1) := by decide +kernel
theorem dX6_needsOf_8 : decode cX6_needsOf 8 = .ok (.iconst 2, 1) := by decide +kernel
theorem dX6_needsOf_9 : decode cX6_needsOf 9 = .ok (.iadd, 1) := by decide +kernel
theorem dX6_needsOf_10 : decode cX6_needsOf 10 = .ok (.iaload, 1) := by decide +kernel
theorem dX6_needsOf_11 : decode cX6_needsOf 11 = .ok (.istore_n 2, 1) := by decide +kernel
theorem dX6_needsOf_12 : decode cX6_needsOf 12 = .ok (.aload_n 0, 1) := by decide +kernel
theorem dX6_needsOf_13 : decode cX6_needsOf 13 = .ok (.getfield 19, 3) := by decide +kernel
theorem dX6_needsOf_16 : decode cX6_needsOf 16 = .ok (.bipush 6, 2) := by decide +kernel
theorem dX6_needsOf_18 : decode cX6_needsOf 18 = .ok (.iload_n 1, 1) := by decide +kernel
theorem dX6_needsOf_19 : decode cX6_needsOf 19 = .ok (.imul, 1) := by decide +kernel
theorem dX6_needsOf_20 : decode cX6_needsOf 20 = .ok (.iaload, 1) := by decide +kernel
theorem dX6_needsOf_21 : decode cX6_needsOf 21 = .ok (.iconst 3, 1) := by decide +kernel
theorem dX6_needsOf_22 : decode cX6_needsOf 22 = .ok (.if_icmp .ne 27, 3) := by decide +kernel
theorem dX6_needsOf_25 : decode cX6_needsOf 25 = .ok (.iload_n 2, 1) := by decide +kernel
theorem dX6_needsOf_26 : decode cX6_needsOf 26 = .ok (.ifCond .le 23, 3) := by decide +kernel
theorem dX6_needsOf_29 : decode cX6_needsOf 29 = .ok (.iconst 2, 1) := by decide +kernel
theorem dX6_needsOf_30 : decode cX6_needsOf 30 = .ok (.iload_n 2, 1) := by decide +kernel
theorem dX6_needsOf_31 : decode cX6_needsOf 31 = .ok (.imul, 1) := by decide +kernel
theorem dX6_needsOf_32 : decode cX6_needsOf 32 = .ok (.aload_n 0, 1) := by decide +kernel
theorem dX6_needsOf_33 : decode cX6_needsOf 33 = .ok (.getfield 19, 3) := by decide +kernel
theorem dX6_needsOf_36 : decode cX6_needsOf 36 = .ok (.bipush 6, 2) := by decide +kernel
theorem dX6_needsOf_38 : decode cX6_needsOf 38 = .ok (.iload_n 1, 1) := by decide +kernel
theorem dX6_needsOf_39 : decode cX6_needsOf 39 = .ok (.imul, 1) := by decide +kernel
theorem dX6_needsOf_40 : decode cX6_needsOf 40 = .ok (.iconst 5, 1) := by decide +kernel
theorem dX6_needsOf_41 : decode cX6_needsOf 41 = .ok (.iadd, 1) := by decide +kernel
theorem dX6_needsOf_42 : decode cX6_needsOf 42 = .ok (.iaload, 1) := by decide +kernel
theorem dX6_needsOf_43 : decode cX6_needsOf 43 = .ok (.iconst 2, 1) := by decide +kernel
theorem dX6_needsOf_44 : decode cX6_needsOf 44 = .ok (.irem, 1) := by decide +kernel
theorem dX6_needsOf_45 : decode cX6_needsOf 45 = .ok (.isub, 1) := by decide +kernel
theorem dX6_needsOf_46 : decode cX6_needsOf 46 = .ok (.goto 4, 3) := by decide +kernel
theorem dX6_needsOf_49 : decode cX6_needsOf 49 = .ok (.iload_n 2, 1) := by decide +kernel
theorem dX6_needsOf_50 : decode cX6_needsOf 50 = .ok (.ireturn, 1) := by decide +kernel
theorem dX6_daysOf_0 : decode cX6_daysOf 0 = .ok (.aload_n 0, 1) := by decide +kernel
theorem dX6_daysOf_1 : decode cX6_daysOf 1 = .ok (.iload_n 1, 1) := by decide +kernel
theorem dX6_daysOf_2 : decode cX6_daysOf 2 = .ok (.invokevirtual 119, 3) := by decide +kernel
theorem dX6_daysOf_5 : decode cX6_daysOf 5 = .ok (.istore_n 2, 1) := by decide +kernel
theorem dX6_daysOf_6 : decode cX6_daysOf 6 = .ok (.iload_n 2, 1) := by decide +kernel
theorem dX6_daysOf_7 : decode cX6_daysOf 7 = .ok (.ifCond .eq 15, 3) := by decide +kernel
theorem dX6_daysOf_10 : decode cX6_daysOf 10 = .ok (.aload_n 0, 1) := by decide +kernel
theorem dX6_daysOf_11 : decode cX6_daysOf 11 = .ok (.iload_n 1, 1) := by decide +kernel
theorem dX6_daysOf_12 : decode cX6_daysOf 12 = .ok (.invokevirtual 122, 3) := by decide +kernel
theorem dX6_daysOf_15 : decode cX6_daysOf 15 = .ok (.invokestatic 74, 3) := by decide +kernel
theorem dX6_daysOf_18 : decode cX6_daysOf 18 = .ok (.iload_n 2, 1) := by decide +kernel
theorem dX6_daysOf_19 : decode cX6_daysOf 19 = .ok (.if_icmp .ge 13, 3) := by decide +kernel
theorem dX6_daysOf_22 : decode cX6_daysOf 22 = .ok (.iload_n 2, 1) := by decide +kernel
theorem dX6_daysOf_23 : decode cX6_daysOf 23 = .ok (.ifCond .ne 7, 3) := by decide +kernel
theorem dX6_daysOf_26 : decode cX6_daysOf 26 = .ok (.iconst 0, 1) := by decide +kernel
theorem dX6_daysOf_27 : decode cX6_daysOf 27 = .ok (.goto 4, 3) := by decide +kernel
theorem dX6_daysOf_30 : decode cX6_daysOf 30 = .ok (.iconst (-1), 1) := by decide +kernel
theorem dX6_daysOf_31 : decode cX6_daysOf 31 = .ok (.ireturn, 1) := by decide +kernel
theorem dX6_daysOf_32 : decode cX6_daysOf 32 = .ok (.iconst 1, 1) := by decide +kernel
theorem dX6_daysOf_33 : decode cX6_daysOf 33 = .ok (.istore_n 3, 1) := by decide +kernel
theorem dX6_daysOf_34 : decode cX6_daysOf 34 = .ok (.aload_n 0, 1) := by decide +kernel
theorem dX6_daysOf_35 : decode cX6_daysOf 35 = .ok (.getfield 19, 3) := by decide +kernel
theorem dX6_daysOf_38 : decode cX6_daysOf 38 = .ok (.bipush 6, 2) := by decide +kernel
theorem dX6_daysOf_40 : decode cX6_daysOf 40 = .ok (.iload_n 1, 1) := by decide +kernel
theorem dX6_daysOf_41 : decode cX6_daysOf 41 = .ok (.imul, 1) := by decide +kernel
theorem dX6_daysOf_42 : decode cX6_daysOf 42 = .ok (.iconst 4, 1) := by decide +kernel
theorem dX6_daysOf_43 : decode cX6_daysOf 43 = .ok (.iadd, 1) := by decide +kernel
theorem dX6_daysOf_44 : decode cX6_daysOf 44 = .ok (.iaload, 1) := by decide +kernel
theorem dX6_daysOf_45 : decode cX6_daysOf 45 = .ok (.istore 4, 2) := by decide +kernel
theorem dX6_daysOf_47 : decode cX6_daysOf 47 = .ok (.iload 4, 2) := by decide +kernel
theorem dX6_daysOf_49 : decode cX6_daysOf 49 = .ok (.iload_n 2, 1) := by decide +kernel
theorem dX6_daysOf_50 : decode cX6_daysOf 50 = .ok (.if_icmp .ge 26, 3) := by decide +kernel
theorem dX6_daysOf_53 : decode cX6_daysOf 53 = .ok (.iload 4, 2) := by decide +kernel
theorem dX6_daysOf_55 : decode cX6_daysOf 55 = .ok (.aload_n 0, 1) := by decide +kernel
theorem dX6_daysOf_56 : decode cX6_daysOf 56 = .ok (.getfield 19, 3) := by decide +kernel
theorem dX6_daysOf_59 : decode cX6_daysOf 59 = .ok (.bipush 6, 2) := by decide +kernel
theorem dX6_daysOf_61 : decode cX6_daysOf 61 = .ok (.iload_n 1, 1) := by decide +kernel
theorem dX6_daysOf_62 : decode cX6_daysOf 62 = .ok (.imul, 1) := by decide +kernel
theorem dX6_daysOf_63 : decode cX6_daysOf 63 = .ok (.iaload, 1) := by decide +kernel
theorem dX6_daysOf_64 : decode cX6_daysOf 64 = .ok (.invokestatic 116, 3) := by decide +kernel
theorem dX6_daysOf_67 : decode cX6_daysOf 67 = .ok (.iadd, 1) := by decide +kernel
theorem dX6_daysOf_68 : decode cX6_daysOf 68 = .ok (.istore 4, 2) := by decide +kernel
theorem dX6_daysOf_70 : decode cX6_daysOf 70 = .ok (.iinc 3 1, 3) := by decide +kernel
theorem dX6_daysOf_73 : decode cX6_daysOf 73 = .ok (.goto (-26), 3) := by decide +kernel
theorem dX6_daysOf_76 : decode cX6_daysOf 76 = .ok (.iload_n 3, 1) := by decide +kernel
theorem dX6_daysOf_77 : decode cX6_daysOf 77 = .ok (.ireturn, 1) := by decide +kernel
theorem dX6_findOf_0 : decode cX6_findOf 0 = .ok (.aload_n 0, 1) := by decide +kernel
theorem dX6_findOf_1 : decode cX6_findOf 1 = .ok (.getfield 19, 3) := by decide +kernel
theorem dX6_findOf_4 : decode cX6_findOf 4 = .ok (.bipush 6, 2) := by decide +kernel
theorem dX6_findOf_6 : decode cX6_findOf 6 = .ok (.iload_n 1, 1) := by decide +kernel
theorem dX6_findOf_7 : decode cX6_findOf 7 = .ok (.imul, 1) := by decide +kernel
theorem dX6_findOf_8 : decode cX6_findOf 8 = .ok (.iconst 1, 1) := by decide +kernel
theorem dX6_findOf_9 : decode cX6_findOf 9 = .ok (.iadd, 1) := by decide +kernel
theorem dX6_findOf_10 : decode cX6_findOf 10 = .ok (.iaload, 1) := by decide +kernel
theorem dX6_findOf_11 : decode cX6_findOf 11 = .ok (.istore_n 2, 1) := by decide +kernel
theorem dX6_findOf_12 : decode cX6_findOf 12 = .ok (.aload_n 0, 1) := by decide +kernel
theorem dX6_findOf_13 : decode cX6_findOf 13 = .ok (.iload_n 1, 1) := by decide +kernel
theorem dX6_findOf_14 : decode cX6_findOf 14 = .ok (.invokevirtual 119, 3) := by decide +kernel
theorem dX6_findOf_17 : decode cX6_findOf 17 = .ok (.aload_n 0, 1) := by decide +kernel
theorem dX6_findOf_18 : decode cX6_findOf 18 = .ok (.iload_n 1, 1) := by decide +kernel
theorem dX6_findOf_19 : decode cX6_findOf 19 = .ok (.invokevirtual 122, 3) := by decide +kernel
theorem dX6_findOf_22 : decode cX6_findOf 22 = .ok (.invokestatic 74, 3) := by decide +kernel
theorem dX6_findOf_25 : decode cX6_findOf 25 = .ok (.isub, 1) := by decide +kernel
theorem dX6_findOf_26 : decode cX6_findOf 26 = .ok (.istore_n 3, 1) := by decide +kernel
theorem dX6_findOf_27 : decode cX6_findOf 27 = .ok (.aload_n 0, 1) := by decide +kernel
theorem dX6_findOf_28 : decode cX6_findOf 28 = .ok (.getfield 13, 3) := by decide +kernel
theorem dX6_findOf_31 : decode cX6_findOf 31 = .ok (.iload_n 2, 1) := by decide +kernel
theorem dX6_findOf_32 : decode cX6_findOf 32 = .ok (.iaload, 1) := by decide +kernel
theorem dX6_findOf_33 : decode cX6_findOf 33 = .ok (.aload_n 0, 1) := by decide +kernel
theorem dX6_findOf_34 : decode cX6_findOf 34 = .ok (.getfield 16, 3) := by decide +kernel
theorem dX6_findOf_37 : decode cX6_findOf 37 = .ok (.iload_n 2, 1) := by decide +kernel
theorem dX6_findOf_38 : decode cX6_findOf 38 = .ok (.iaload, 1) := by decide +kernel
theorem dX6_findOf_39 : decode cX6_findOf 39 = .ok (.iconst (-1), 1) := by decide +kernel
theorem dX6_findOf_40 : decode cX6_findOf 40 = .ok (.ixor, 1) := by decide +kernel
theorem dX6_findOf_41 : decode cX6_findOf 41 = .ok (.iand, 1) := by decide +kernel
theorem dX6_findOf_42 : decode cX6_findOf 42 = .ok (.aload_n 0, 1) := by decide +kernel
theorem dX6_findOf_43 : decode cX6_findOf 43 = .ok (.getfield 19, 3) := by decide +kernel
theorem dX6_findOf_46 : decode cX6_findOf 46 = .ok (.bipush 6, 2) := by decide +kernel
theorem dX6_findOf_48 : decode cX6_findOf 48 = .ok (.iload_n 1, 1) := by decide +kernel
theorem dX6_findOf_49 : decode cX6_findOf 49 = .ok (.imul, 1) := by decide +kernel
theorem dX6_findOf_50 : decode cX6_findOf 50 = .ok (.iconst 3, 1) := by decide +kernel
theorem dX6_findOf_51 : decode cX6_findOf 51 = .ok (.iadd, 1) := by decide +kernel
theorem dX6_findOf_52 : decode cX6_findOf 52 = .ok (.iaload, 1) := by decide +kernel
theorem dX6_findOf_53 : decode cX6_findOf 53 = .ok (.iconst (-1), 1) := by decide +kernel
theorem dX6_findOf_54 : decode cX6_findOf 54 = .ok (.ixor, 1) := by decide +kernel
theorem dX6_findOf_55 : decode cX6_findOf 55 = .ok (.iand, 1) := by decide +kernel
theorem dX6_findOf_56 : decode cX6_findOf 56 = .ok (.invokestatic 74, 3) := by decide +kernel
theorem dX6_findOf_59 : decode cX6_findOf 59 = .ok (.istore 4, 2) := by decide +kernel
theorem dX6_findOf_61 : decode cX6_findOf 61 = .ok (.iload_n 3, 1) := by decide +kernel
theorem dX6_findOf_62 : decode cX6_findOf 62 = .ok (.ifCond .gt 7, 3) := by decide +kernel
theorem dX6_findOf_65 : decode cX6_findOf 65 = .ok (.iconst 0, 1) := by decide +kernel
theorem dX6_findOf_66 : decode cX6_findOf 66 = .ok (.goto 14, 3) := by decide +kernel
theorem dX6_findOf_69 : decode cX6_findOf 69 = .ok (.iload_n 3, 1) := by decide +kernel
theorem dX6_findOf_70 : decode cX6_findOf 70 = .ok (.iload 4, 2) := by decide +kernel
theorem dX6_findOf_72 : decode cX6_findOf 72 = .ok (.if_icmp .le 7, 3) := by decide +kernel
theorem dX6_findOf_75 : decode cX6_findOf 75 = .ok (.iconst (-1), 1) := by decide +kernel
theorem dX6_findOf_76 : decode cX6_findOf 76 = .ok (.goto 4, 3) := by decide +kernel
theorem dX6_findOf_79 : decode cX6_findOf 79 = .ok (.iload_n 3, 1) := by decide +kernel
theorem dX6_findOf_80 : decode cX6_findOf 80 = .ok (.ireturn, 1) := by decide +kernel
theorem dX6_tell_0 : decode cX6_tell 0 = .ok (.iload_n 2, 1) := by decide +kernel
theorem dX6_tell_1 : decode cX6_tell 1 = .ok (.tableswitch 95 0 8 #[51, 51, 51, 51, 63, 69, 69, 83, 89], 51) := by decide +kernel
theorem dX6_tell_52 : decode cX6_tell 52 = .ok (.aload_n 0, 1) := by decide +kernel
theorem dX6_tell_53 : decode cX6_tell 53 = .ok (.getfield 19, 3) := by decide +kernel
theorem dX6_tell_56 : decode cX6_tell 56 = .ok (.bipush 6, 2) := by decide +kernel
theorem dX6_tell_58 : decode cX6_tell 58 = .ok (.iload_n 1, 1) := by decide +kernel
theorem dX6_tell_59 : decode cX6_tell 59 = .ok (.imul, 1) := by decide +kernel
theorem dX6_tell_60 : decode cX6_tell 60 = .ok (.iload_n 2, 1) := by decide +kernel
theorem dX6_tell_61 : decode cX6_tell 61 = .ok (.iadd, 1) := by decide +kernel
theorem dX6_tell_62 : decode cX6_tell 62 = .ok (.iaload, 1) := by decide +kernel
theorem dX6_tell_63 : decode cX6_tell 63 = .ok (.ireturn, 1) := by decide +kernel
theorem dX6_tell_64 : decode cX6_tell 64 = .ok (.aload_n 0, 1) := by decide +kernel
theorem dX6_tell_65 : decode cX6_tell 65 = .ok (.iload_n 1, 1) := by decide +kernel
theorem dX6_tell_66 : decode cX6_tell 66 = .ok (.invokevirtual 122, 3) := by decide +kernel
theorem dX6_tell_69 : decode cX6_tell 69 = .ok (.ireturn, 1) := by decide +kernel
theorem dX6_tell_70 : decode cX6_tell 70 = .ok (.aload_n 0, 1) := by decide +kernel
theorem dX6_tell_71 : decode cX6_tell 71 = .ok (.getfield 19, 3) := by decide +kernel
theorem dX6_tell_74 : decode cX6_tell 74 = .ok (.bipush 6, 2) := by decide +kernel
theorem dX6_tell_76 : decode cX6_tell 76 = .ok (.iload_n 1, 1) := by decide +kernel
theorem dX6_tell_77 : decode cX6_tell 77 = .ok (.imul, 1) := by decide +kernel
theorem dX6_tell_78 : decode cX6_tell 78 = .ok (.iload_n 2, 1) := by decide +kernel
theorem dX6_tell_79 : decode cX6_tell 79 = .ok (.iadd, 1) := by decide +kernel
theorem dX6_tell_80 : decode cX6_tell 80 = .ok (.iconst 1, 1) := by decide +kernel
theorem dX6_tell_81 : decode cX6_tell 81 = .ok (.isub, 1) := by decide +kernel
theorem dX6_tell_82 : decode cX6_tell 82 = .ok (.iaload, 1) := by decide +kernel
theorem dX6_tell_83 : decode cX6_tell 83 = .ok (.ireturn, 1) := by decide +kernel
theorem dX6_tell_84 : decode cX6_tell 84 = .ok (.aload_n 0, 1) := by decide +kernel
theorem dX6_tell_85 : decode cX6_tell 85 = .ok (.iload_n 1, 1) := by decide +kernel
theorem dX6_tell_86 : decode cX6_tell 86 = .ok (.invokevirtual 125, 3) := by decide +kernel
theorem dX6_tell_89 : decode cX6_tell 89 = .ok (.ireturn, 1) := by decide +kernel
theorem dX6_tell_90 : decode cX6_tell 90 = .ok (.aload_n 0, 1) := by decide +kernel
theorem dX6_tell_91 : decode cX6_tell 91 = .ok (.iload_n 1, 1) := by decide +kernel
theorem dX6_tell_92 : decode cX6_tell 92 = .ok (.invokevirtual 128, 3) := by decide +kernel
theorem dX6_tell_95 : decode cX6_tell 95 = .ok (.ireturn, 1) := by decide +kernel
theorem dX6_tell_96 : decode cX6_tell 96 = .ok (.bipush (-102), 2) := by decide +kernel
theorem dX6_tell_98 : decode cX6_tell 98 = .ok (.ireturn, 1) := by decide +kernel
theorem dX6_about_0 : decode cX6_about 0 = .ok (.aload_n 0, 1) := by decide +kernel
theorem dX6_about_1 : decode cX6_about 1 = .ok (.iload_n 1, 1) := by decide +kernel
theorem dX6_about_2 : decode cX6_about 2 = .ok (.invokevirtual 131, 3) := by decide +kernel
theorem dX6_about_5 : decode cX6_about 5 = .ok (.ifCond .eq 12, 3) := by decide +kernel
theorem dX6_about_8 : decode cX6_about 8 = .ok (.aload_n 0, 1) := by decide +kernel
theorem dX6_about_9 : decode cX6_about 9 = .ok (.iload_n 1, 1) := by decide +kernel
theorem dX6_about_10 : decode cX6_about 10 = .ok (.iload_n 2, 1) := by decide +kernel
theorem dX6_about_11 : decode cX6_about 11 = .ok (.invokevirtual 134, 3) := by decide +kernel
theorem dX6_about_14 : decode cX6_about 14 = .ok (.goto 5, 3) := by decide +kernel
theorem dX6_about_17 : decode cX6_about 17 = .ok (.bipush (-101), 2) := by decide +kernel
theorem dX6_about_19 : decode cX6_about 19 = .ok (.ireturn, 1) := by decide +kernel
theorem dX6_as_0 : decode cX6_as 0 = .ok (.aload_n 0, 1) := by decide +kernel
theorem dX6_as_1 : decode cX6_as 1 = .ok (.iload_n 1, 1) := by decide +kernel
theorem dX6_as_2 : decode cX6_as 2 = .ok (.invokevirtual 131, 3) := by decide +kernel
theorem dX6_as_5 : decode cX6_as 5 = .ok (.ifCond .ne 6, 3) := by decide +kernel
theorem dX6_as_8 : decode cX6_as 8 = .ok (.bipush (-101), 2) := by decide +kernel
theorem dX6_as_10 : decode cX6_as 10 = .ok (.ireturn, 1) := by decide +kernel
theorem dX6_as_11 : decode cX6_as 11 = .ok (.iload_n 2, 1) := by decide +kernel
theorem dX6_as_12 : decode cX6_as 12 = .ok (.i2l, 1) := by decide +kernel
theorem dX6_as_13 : decode cX6_as 13 = .ok (.lconst 0, 1) := by decide +kernel
theorem dX6_as_14 : decode cX6_as 14 = .ok (.ldc2_w 112, 3) := by decide +kernel
theorem dX6_as_17 : decode cX6_as 17 = .ok (.invokestatic 55, 3) := by decide +kernel
theorem dX6_as_20 : decode cX6_as 20 = .ok (.ifCond .ne 6, 3) := by decide +kernel
theorem dX6_as_23 : decode cX6_as 23 = .ok (.bipush (-102), 2) := by decide +kernel
theorem dX6_as_25 : decode cX6_as 25 = .ok (.ireturn, 1) := by decide +kernel
theorem dX6_as_26 : decode cX6_as 26 = .ok (.aload_n 0, 1) := by decide +kernel
theorem dX6_as_27 : decode cX6_as 27 = .ok (.getfield 19, 3) := by decide +kernel
theorem dX6_as_30 : decode cX6_as 30 = .ok (.bipush 6, 2) := by decide +kernel
theorem dX6_as_32 : decode cX6_as 32 = .ok (.iload_n 1, 1) := by decide +kernel
theorem dX6_as_33 : decode cX6_as 33 = .ok (.imul, 1) := by decide +kernel
theorem dX6_as_34 : decode cX6_as 34 = .ok (.iaload, 1) := by decide +kernel
theorem dX6_as_35 : decode cX6_as 35 = .ok (.istore_n 3, 1) := by decide +kernel
theorem dX6_as_36 : decode cX6_as 36 = .ok (.iload_n 2, 1) := by decide +kernel
theorem dX6_as_37 : decode cX6_as 37 = .ok (.ifCond .eq 18, 3) := by decide +kernel
theorem dX6_as_40 : decode cX6_as 40 = .ok (.iload_n 2, 1) := by decide +kernel
theorem dX6_as_41 : decode cX6_as 41 = .ok (.iload_n 3, 1) := by decide +kernel
theorem dX6_as_42 : decode cX6_as 42 = .ok (.if_icmp .eq 13, 3) := by decide +kernel
theorem dX6_as_45 : decode cX6_as 45 = .ok (.iload_n 2, 1) := by decide +kernel
theorem dX6_as_46 : decode cX6_as 46 = .ok (.iconst 1, 1) := by decide +kernel
theorem dX6_as_47 : decode cX6_as 47 = .ok (.if_icmp .ne 12, 3) := by decide +kernel
theorem dX6_as_50 : decode cX6_as 50 = .ok (.iload_n 3, 1) := by decide +kernel
theorem dX6_as_51 : decode cX6_as 51 = .ok (.iconst 4, 1) := by decide +kernel
theorem dX6_as_52 : decode cX6_as 52 = .ok (.if_icmp .ne 7, 3) := by decide +kernel
theorem dX6_as_55 : decode cX6_as 55 = .ok (.iconst 1, 1) := by decide +kernel
theorem dX6_as_56 : decode cX6_as 56 = .ok (.goto 4, 3) := by decide +kernel
theorem dX6_as_59 : decode cX6_as 59 = .ok (.iconst 0, 1) := by decide +kernel
theorem dX6_as_60 : decode cX6_as 60 = .ok (.istore 4, 2) := by decide +kernel
theorem dX6_as_62 : decode cX6_as 62 = .ok (.iload 4, 2) := by decide +kernel
theorem dX6_as_64 : decode cX6_as 64 = .ok (.ifCond .eq 7, 3) := by decide +kernel
theorem dX6_as_67 : decode cX6_as 67 = .ok (.iload_n 1, 1) := by decide +kernel
theorem dX6_as_68 : decode cX6_as 68 = .ok (.goto 4, 3) := by decide +kernel
theorem dX6_as_71 : decode cX6_as 71 = .ok (.iconst (-1), 1) := by decide +kernel
theorem dX6_as_72 : decode cX6_as 72 = .ok (.ireturn, 1) := by decide +kernel
theorem dX6_knows_0 : decode cX6_knows 0 = .ok (.aload_n 0, 1) := by decide +kernel
theorem dX6_knows_1 : decode cX6_knows 1 = .ok (.getfield 19, 3) := by decide +kernel
theorem dX6_knows_4 : decode cX6_knows 4 = .ok (.bipush 6, 2) := by decide +kernel
theorem dX6_knows_6 : decode cX6_knows 6 = .ok (.iload_n 1, 1) := by decide +kernel
theorem dX6_knows_7 : decode cX6_knows 7 = .ok (.imul, 1) := by decide +kernel
theorem dX6_knows_8 : decode cX6_knows 8 = .ok (.iconst 3, 1) := by decide +kernel
theorem dX6_knows_9 : decode cX6_knows 9 = .ok (.iadd, 1) := by decide +kernel
theorem dX6_knows_10 : decode cX6_knows 10 = .ok (.iaload, 1) := by decide +kernel
theorem dX6_knows_11 : decode cX6_knows 11 = .ok (.iload_n 2, 1) := by decide +kernel
theorem dX6_knows_12 : decode cX6_knows 12 = .ok (.ishr, 1) := by decide +kernel
theorem dX6_knows_13 : decode cX6_knows 13 = .ok (.iconst 1, 1) := by decide +kernel
theorem dX6_knows_14 : decode cX6_knows 14 = .ok (.iand, 1) := by decide +kernel
theorem dX6_knows_15 : decode cX6_knows 15 = .ok (.iconst 1, 1) := by decide +kernel
theorem dX6_knows_16 : decode cX6_knows 16 = .ok (.if_icmp .ne 7, 3) := by decide +kernel
theorem dX6_knows_19 : decode cX6_knows 19 = .ok (.iconst 1, 1) := by decide +kernel
theorem dX6_knows_20 : decode cX6_knows 20 = .ok (.goto 4, 3) := by decide +kernel
theorem dX6_knows_23 : decode cX6_knows 23 = .ok (.iconst 0, 1) := by decide +kernel
theorem dX6_knows_24 : decode cX6_knows 24 = .ok (.ireturn, 1) := by decide +kernel
theorem dX6_says_0 : decode cX6_says 0 = .ok (.aload_n 0, 1) := by decide +kernel
theorem dX6_says_1 : decode cX6_says 1 = .ok (.getfield 19, 3) := by decide +kernel
theorem dX6_says_4 : decode cX6_says 4 = .ok (.bipush 6, 2) := by decide +kernel
theorem dX6_says_6 : decode cX6_says 6 = .ok (.iload_n 1, 1) := by decide +kernel
theorem dX6_says_7 : decode cX6_says 7 = .ok (.imul, 1) := by decide +kernel
theorem dX6_says_8 : decode cX6_says 8 = .ok (.iconst 1, 1) := by decide +kernel
theorem dX6_says_9 : decode cX6_says 9 = .ok (.iadd, 1) := by decide +kernel
theorem dX6_says_10 : decode cX6_says 10 = .ok (.iaload, 1) := by decide +kernel
theorem dX6_says_11 : decode cX6_says 11 = .ok (.istore_n 3, 1) := by decide +kernel
theorem dX6_says_12 : decode cX6_says 12 = .ok (.aload_n 0, 1) := by decide +kernel
theorem dX6_says_13 : decode cX6_says 13 = .ok (.getfield 16, 3) := by decide +kernel
theorem dX6_says_16 : decode cX6_says 16 = .ok (.iload_n 3, 1) := by decide +kernel
theorem dX6_says_17 : decode cX6_says 17 = .ok (.iaload, 1) := by decide +kernel
theorem dX6_says_18 : decode cX6_says 18 = .ok (.iload_n 2, 1) := by decide +kernel
theorem dX6_says_19 : decode cX6_says 19 = .ok (.ishr, 1) := by decide +kernel
theorem dX6_says_20 : decode cX6_says 20 = .ok (.iconst 1, 1) := by decide +kernel
theorem dX6_says_21 : decode cX6_says 21 = .ok (.iand, 1) := by decide +kernel
theorem dX6_says_22 : decode cX6_says 22 = .ok (.ifCond .ne 7, 3) := by decide +kernel
theorem dX6_says_25 : decode cX6_says 25 = .ok (.iconst 1, 1) := by decide +kernel
theorem dX6_says_26 : decode cX6_says 26 = .ok (.goto 4, 3) := by decide +kernel
theorem dX6_says_29 : decode cX6_says 29 = .ok (.iconst 0, 1) := by decide +kernel
theorem dX6_says_30 : decode cX6_says 30 = .ok (.istore 4, 2) := by decide +kernel
theorem dX6_says_32 : decode cX6_says 32 = .ok (.aload_n 0, 1) := by decide +kernel
theorem dX6_says_33 : decode cX6_says 33 = .ok (.getfield 13, 3) := by decide +kernel
theorem dX6_says_36 : decode cX6_says 36 = .ok (.iload_n 3, 1) := by decide +kernel
theorem dX6_says_37 : decode cX6_says 37 = .ok (.iaload, 1) := by decide +kernel
theorem dX6_says_38 : decode cX6_says 38 = .ok (.iload_n 2, 1) := by decide +kernel
theorem dX6_says_39 : decode cX6_says 39 = .ok (.ishr, 1) := by decide +kernel
theorem dX6_says_40 : decode cX6_says 40 = .ok (.iconst 1, 1) := by decide +kernel
theorem dX6_says_41 : decode cX6_says 41 = .ok (.iand, 1) := by decide +kernel
theorem dX6_says_42 : decode cX6_says 42 = .ok (.iconst 1, 1) := by decide +kernel
theorem dX6_says_43 : decode cX6_says 43 = .ok (.if_icmp .ne 7, 3) := by decide +kernel
theorem dX6_says_46 : decode cX6_says 46 = .ok (.iconst 1, 1) := by decide +kernel
theorem dX6_says_47 : decode cX6_says 47 = .ok (.goto 4, 3) := by decide +kernel
theorem dX6_says_50 : decode cX6_says 50 = .ok (.iconst 0, 1) := by decide +kernel
theorem dX6_says_51 : decode cX6_says 51 = .ok (.istore 5, 2) := by decide +kernel
theorem dX6_says_53 : decode cX6_says 53 = .ok (.iload 5, 2) := by decide +kernel
theorem dX6_says_55 : decode cX6_says 55 = .ok (.ifCond .ne 27, 3) := by decide +kernel
theorem dX6_says_58 : decode cX6_says 58 = .ok (.aload_n 0, 1) := by decide +kernel
theorem dX6_says_59 : decode cX6_says 59 = .ok (.getfield 19, 3) := by decide +kernel
theorem dX6_says_62 : decode cX6_says 62 = .ok (.bipush 6, 2) := by decide +kernel
theorem dX6_says_64 : decode cX6_says 64 = .ok (.iload_n 1, 1) := by decide +kernel
theorem dX6_says_65 : decode cX6_says 65 = .ok (.imul, 1) := by decide +kernel
theorem dX6_says_66 : decode cX6_says 66 = .ok (.iaload, 1) := by decide +kernel
theorem dX6_says_67 : decode cX6_says 67 = .ok (.iconst 2, 1) := by decide +kernel
theorem dX6_says_68 : decode cX6_says 68 = .ok (.if_icmp .ne 14, 3) := by decide +kernel
theorem dX6_says_71 : decode cX6_says 71 = .ok (.aload_n 0, 1) := by decide +kernel
theorem dX6_says_72 : decode cX6_says 72 = .ok (.getfield 78, 3) := by decide +kernel
theorem dX6_says_75 : decode cX6_says 75 = .ok (.ifCond .le 7, 3) := by decide +kernel
theorem dX6_says_78 : decode cX6_says 78 = .ok (.iconst 1, 1) := by decide +kernel
theorem dX6_says_79 : decode cX6_says 79 = .ok (.goto 4, 3) := by decide +kernel
theorem dX6_says_82 : decode cX6_says 82 = .ok (.iconst 0, 1) := by decide +kernel
theorem dX6_says_83 : decode cX6_says 83 = .ok (.istore 6, 2) := by decide +kernel
theorem dX6_says_85 : decode cX6_says 85 = .ok (.iload 4, 2) := by decide +kernel
theorem dX6_says_87 : decode cX6_says 87 = .ok (.ifCond .eq 13, 3) := by decide +kernel
theorem dX6_says_90 : decode cX6_says 90 = .ok (.iload 5, 2) := by decide +kernel
theorem dX6_says_92 : decode cX6_says 92 = .ok (.ifCond .ne 10, 3) := by decide +kernel
theorem dX6_says_95 : decode cX6_says 95 = .ok (.iload 6, 2) := by decide +kernel
theorem dX6_says_97 : decode cX6_says 97 = .ok (.ifCond .ne 5, 3) := by decide +kernel
theorem dX6_says_100 : decode cX6_says 100 = .ok (.iconst 0, 1) := by decide +kernel
theorem dX6_says_101 : decode cX6_says 101 = .ok (.ireturn, 1) := by decide +kernel
theorem dX6_says_102 : decode cX6_says 102 = .ok (.aload_n 0, 1) := by decide +kernel
theorem dX6_says_103 : decode cX6_says 103 = .ok (.dup, 1) := by decide +kernel
theorem dX6_says_104 : decode cX6_says 104 = .ok (.getfield 78, 3) := by decide +kernel
theorem dX6_says_107 : decode cX6_says 107 = .ok (.iload 6, 2) := by decide +kernel
theorem dX6_says_109 : decode cX6_says 109 = .ok (.ifCond .eq 7, 3) := by decide +kernel
theorem dX6_says_112 : decode cX6_says 112 = .ok (.iconst 1, 1) := by decide +kernel
theorem dX6_says_113 : decode cX6_says 113 = .ok (.goto 4, 3) := by decide +kernel
theorem dX6_says_116 : decode cX6_says 116 = .ok (.iconst 0, 1) := by decide +kernel
theorem dX6_says_117 : decode cX6_says 117 = .ok (.isub, 1) := by decide +kernel
theorem dX6_says_118 : decode cX6_says 118 = .ok (.putfield 78, 3) := by decide +kernel
theorem dX6_says_121 : decode cX6_says 121 = .ok (.aload_n 0, 1) := by decide +kernel
theorem dX6_says_122 : decode cX6_says 122 = .ok (.getfield 16, 3) := by decide +kernel
theorem dX6_says_125 : decode cX6_says 125 = .ok (.iload_n 3, 1) := by decide +kernel
theorem dX6_says_126 : decode cX6_says 126 = .ok (.dup2, 1) := by decide +kernel
theorem dX6_says_127 : decode cX6_says 127 = .ok (.iaload, 1) := by decide +kernel
theorem dX6_says_128 : decode cX6_says 128 = .ok (.iconst 1, 1) := by decide +kernel
theorem dX6_says_129 : decode cX6_says 129 = .ok (.iload_n 2, 1) := by decide +kernel
theorem dX6_says_130 : decode cX6_says 130 = .ok (.ishl, 1) := by decide +kernel
theorem dX6_says_131 : decode cX6_says 131 = .ok (.ior, 1) := by decide +kernel
theorem dX6_says_132 : decode cX6_says 132 = .ok (.iastore, 1) := by decide +kernel
theorem dX6_says_133 : decode cX6_says 133 = .ok (.aload_n 0, 1) := by decide +kernel
theorem dX6_says_134 : decode cX6_says 134 = .ok (.getfield 19, 3) := by decide +kernel
theorem dX6_says_137 : decode cX6_says 137 = .ok (.bipush 6, 2) := by decide +kernel
theorem dX6_says_139 : decode cX6_says 139 = .ok (.iload_n 1, 1) := by decide +kernel
theorem dX6_says_140 : decode cX6_says 140 = .ok (.imul, 1) := by decide +kernel
theorem dX6_says_141 : decode cX6_says 141 = .ok (.iconst 5, 1) := by decide +kernel
theorem dX6_says_142 : decode cX6_says 142 = .ok (.iadd, 1) := by decide +kernel
theorem dX6_says_143 : decode cX6_says 143 = .ok (.dup2, 1) := by decide +kernel
theorem dX6_says_144 : decode cX6_says 144 = .ok (.iaload, 1) := by decide +kernel
theorem dX6_says_145 : decode cX6_says 145 = .ok (.iconst 1, 1) := by decide +kernel
theorem dX6_says_146 : decode cX6_says 146 = .ok (.iadd, 1) := by decide +kernel
theorem dX6_says_147 : decode cX6_says 147 = .ok (.iastore, 1) := by decide +kernel
theorem dX6_says_148 : decode cX6_says 148 = .ok (.aload_n 0, 1) := by decide +kernel
theorem dX6_says_149 : decode cX6_says 149 = .ok (.getfield 19, 3) := by decide +kernel
theorem dX6_says_152 : decode cX6_says 152 = .ok (.bipush 6, 2) := by decide +kernel
theorem dX6_says_154 : decode cX6_says 154 = .ok (.iload_n 1, 1) := by decide +kernel
theorem dX6_says_155 : decode cX6_says 155 = .ok (.imul, 1) := by decide +kernel
theorem dX6_says_156 : decode cX6_says 156 = .ok (.iconst 2, 1) := by decide +kernel
theorem dX6_says_157 : decode cX6_says 157 = .ok (.iadd, 1) := by decide +kernel
theorem dX6_says_158 : decode cX6_says 158 = .ok (.dup2, 1) := by decide +kernel
theorem dX6_says_159 : decode cX6_says 159 = .ok (.iaload, 1) := by decide +kernel
theorem dX6_says_160 : decode cX6_says 160 = .ok (.aload_n 0, 1) := by decide +kernel
theorem dX6_says_161 : decode cX6_says 161 = .ok (.getfield 19, 3) := by decide +kernel
theorem dX6_says_164 : decode cX6_says 164 = .ok (.bipush 6, 2) := by decide +kernel
theorem dX6_says_166 : decode cX6_says 166 = .ok (.iload_n 1, 1) := by decide +kernel
theorem dX6_says_167 : decode cX6_says 167 = .ok (.imul, 1) := by decide +kernel
theorem dX6_says_168 : decode cX6_says 168 = .ok (.iaload, 1) := by decide +kernel
theorem dX6_says_169 : decode cX6_says 169 = .ok (.iconst 3, 1) := by decide +kernel
theorem dX6_says_170 : decode cX6_says 170 = .ok (.if_icmp .ne 24, 3) := by decide +kernel
theorem dX6_says_173 : decode cX6_says 173 = .ok (.aload_n 0, 1) := by decide +kernel
theorem dX6_says_174 : decode cX6_says 174 = .ok (.getfield 19, 3) := by decide +kernel
theorem dX6_says_177 : decode cX6_says 177 = .ok (.bipush 6, 2) := by decide +kernel
theorem dX6_says_179 : decode cX6_says 179 = .ok (.iload_n 1, 1) := by decide +kernel
theorem dX6_says_180 : decode cX6_says 180 = .ok (.imul, 1) := by decide +kernel
theorem dX6_says_181 : decode cX6_says 181 = .ok (.iconst 5, 1) := by decide +kernel
theorem dX6_says_182 : decode cX6_says 182 = .ok (.iadd, 1) := by decide +kernel
theorem dX6_says_183 : decode cX6_says 183 = .ok (.iaload, 1) := by decide +kernel
theorem dX6_says_184 : decode cX6_says 184 = .ok (.iconst 2, 1) := by decide +kernel
theorem dX6_says_185 : decode cX6_says 185 = .ok (.irem, 1) := by decide +kernel
theorem dX6_says_186 : decode cX6_says 186 = .ok (.iconst 1, 1) := by decide +kernel
theorem dX6_says_187 : decode cX6_says 187 = .ok (.if_icmp .ne 7, 3) := by decide +kernel
theorem dX6_says_190 : decode cX6_says 190 = .ok (.iconst 0, 1) := by decide +kernel
theorem dX6_says_191 : decode cX6_says 191 = .ok (.goto 4, 3) := by decide +kernel
theorem dX6_says_194 : decode cX6_says 194 = .ok (.iconst 1, 1) := by decide +kernel
theorem dX6_says_195 : decode cX6_says 195 = .ok (.isub, 1) := by decide +kernel
theorem dX6_says_196 : decode cX6_says 196 = .ok (.iastore, 1) := by decide +kernel
theorem dX6_says_197 : decode cX6_says 197 = .ok (.iconst 1, 1) := by decide +kernel
theorem dX6_says_198 : decode cX6_says 198 = .ok (.ireturn, 1) := by decide +kernel
theorem dX6_say_0 : decode cX6_say 0 = .ok (.aload_n 0, 1) := by decide +kernel
theorem dX6_say_1 : decode cX6_say 1 = .ok (.iload_n 1, 1) := by decide +kernel
theorem dX6_say_2 : decode cX6_say 2 = .ok (.invokevirtual 131, 3) := by decide +kernel
theorem dX6_say_5 : decode cX6_say 5 = .ok (.ifCond .eq 10, 3) := by decide +kernel
theorem dX6_say_8 : decode cX6_say 8 = .ok (.iload_n 2, 1) := by decide +kernel
theorem dX6_say_9 : decode cX6_say 9 = .ok (.invokestatic 137, 3) := by decide +kernel
theorem dX6_say_12 : decode cX6_say 12 = .ok (.ifCond .ne 6, 3) := by decide +kernel
theorem dX6_say_15 : decode cX6_say 15 = .ok (.bipush (-101), 2) := by decide +kernel
theorem dX6_say_17 : decode cX6_say 17 = .ok (.ireturn, 1) := by decide +kernel
theorem dX6_say_18 : decode cX6_say 18 = .ok (.aload_n 0, 1) := by decide +kernel
theorem dX6_say_19 : decode cX6_say 19 = .ok (.getfield 19, 3) := by decide +kernel
theorem dX6_say_22 : decode cX6_say 22 = .ok (.bipush 6, 2) := by decide +kernel
theorem dX6_say_24 : decode cX6_say 24 = .ok (.iload_n 1, 1) := by decide +kernel
theorem dX6_say_25 : decode cX6_say 25 = .ok (.imul, 1) := by decide +kernel
theorem dX6_say_26 : decode cX6_say 26 = .ok (.iconst 2, 1) := by decide +kernel
theorem dX6_say_27 : decode cX6_say 27 = .ok (.iadd, 1) := by decide +kernel
theorem dX6_say_28 : decode cX6_say 28 = .ok (.iaload, 1) := by decide +kernel
theorem dX6_say_29 : decode cX6_say 29 = .ok (.ifCond .eq 26, 3) := by decide +kernel
theorem dX6_say_32 : decode cX6_say 32 = .ok (.aload_n 0, 1) := by decide +kernel
theorem dX6_say_33 : decode cX6_say 33 = .ok (.getfield 19, 3) := by decide +kernel
theorem dX6_say_36 : decode cX6_say 36 = .ok (.bipush 6, 2) := by decide +kernel
theorem dX6_say_38 : decode cX6_say 38 = .ok (.iload_n 1, 1) := by decide +kernel
theorem dX6_say_39 : decode cX6_say 39 = .ok (.imul, 1) := by decide +kernel
theorem dX6_say_40 : decode cX6_say 40 = .ok (.iconst 4, 1) := by decide +kernel
theorem dX6_say_41 : decode cX6_say 41 = .ok (.iadd, 1) := by decide +kernel
theorem dX6_say_42 : decode cX6_say 42 = .ok (.iaload, 1) := by decide +kernel
theorem dX6_say_43 : decode cX6_say 43 = .ok (.ifCond .eq 12, 3) := by decide +kernel
theorem dX6_say_46 : decode cX6_say 46 = .ok (.aload_n 0, 1) := by decide +kernel
theorem dX6_say_47 : decode cX6_say 47 = .ok (.iload_n 1, 1) := by decide +kernel
theorem dX6_say_48 : decode cX6_say 48 = .ok (.iload_n 2, 1) := by decide +kernel
theorem dX6_say_49 : decode cX6_say 49 = .ok (.invokevirtual 140, 3) := by decide +kernel
theorem dX6_say_52 : decode cX6_say 52 = .ok (.ifCond .ne 6, 3) := by decide +kernel
theorem dX6_say_55 : decode cX6_say 55 = .ok (.bipush (-103), 2) := by decide +kernel
theorem dX6_say_57 : decode cX6_say 57 = .ok (.ireturn, 1) := by decide +kernel
theorem dX6_say_58 : decode cX6_say 58 = .ok (.aload_n 0, 1) := by decide +kernel
theorem dX6_say_59 : decode cX6_say 59 = .ok (.getfield 19, 3) := by decide +kernel
theorem dX6_say_62 : decode cX6_say 62 = .ok (.bipush 6, 2) := by decide +kernel
theorem dX6_say_64 : decode cX6_say 64 = .ok (.iload_n 1, 1) := by decide +kernel
theorem dX6_say_65 : decode cX6_say 65 = .ok (.imul, 1) := by decide +kernel
theorem dX6_say_66 : decode cX6_say 66 = .ok (.iconst 4, 1) := by decide +kernel
theorem dX6_say_67 : decode cX6_say 67 = .ok (.iadd, 1) := by decide +kernel
theorem dX6_say_68 : decode cX6_say 68 = .ok (.dup2, 1) := by decide +kernel
theorem dX6_say_69 : decode cX6_say 69 = .ok (.iaload, 1) := by decide +kernel
theorem dX6_say_70 : decode cX6_say 70 = .ok (.iconst 1, 1) := by decide +kernel
theorem dX6_say_71 : decode cX6_say 71 = .ok (.isub, 1) := by decide +kernel
theorem dX6_say_72 : decode cX6_say 72 = .ok (.iastore, 1) := by decide +kernel
theorem dX6_say_73 : decode cX6_say 73 = .ok (.aload_n 0, 1) := by decide +kernel
theorem dX6_say_74 : decode cX6_say 74 = .ok (.iload_n 1, 1) := by decide +kernel
theorem dX6_say_75 : decode cX6_say 75 = .ok (.iload_n 2, 1) := by decide +kernel
theorem dX6_say_76 : decode cX6_say 76 = .ok (.invokevirtual 143, 3) := by decide +kernel
theorem dX6_say_79 : decode cX6_say 79 = .ok (.ireturn, 1) := by decide +kernel
theorem dX6_learn_0 : decode cX6_learn 0 = .ok (.aload_n 0, 1) := by decide +kernel
theorem dX6_learn_1 : decode cX6_learn 1 = .ok (.iload_n 1, 1) := by decide +kernel
theorem dX6_learn_2 : decode cX6_learn 2 = .ok (.invokevirtual 131, 3) := by decide +kernel
theorem dX6_learn_5 : decode cX6_learn 5 = .ok (.ifCond .eq 10, 3) := by decide +kernel
theorem dX6_learn_8 : decode cX6_learn 8 = .ok (.iload_n 2, 1) := by decide +kernel
theorem dX6_learn_9 : decode cX6_learn 9 = .ok (.invokestatic 137, 3) := by decide +kernel
theorem dX6_learn_12 : decode cX6_learn 12 = .ok (.ifCond .ne 6, 3) := by decide +kernel
theorem dX6_learn_15 : decode cX6_learn 15 = .ok (.bipush (-101), 2) := by decide +kernel
theorem dX6_learn_17 : decode cX6_learn 17 = .ok (.ireturn, 1) := by decide +kernel
theorem dX6_learn_18 : decode cX6_learn 18 = .ok (.aload_n 0, 1) := by decide +kernel
theorem dX6_learn_19 : decode cX6_learn 19 = .ok (.iload_n 1, 1) := by decide +kernel
theorem dX6_learn_20 : decode cX6_learn 20 = .ok (.iload_n 2, 1) := by decide +kernel
theorem dX6_learn_21 : decode cX6_learn 21 = .ok (.invokevirtual 140, 3) := by decide +kernel
theorem dX6_learn_24 : decode cX6_learn 24 = .ok (.ifCond .eq 7, 3) := by decide +kernel
theorem dX6_learn_27 : decode cX6_learn 27 = .ok (.iconst 0, 1) := by decide +kernel
theorem dX6_learn_28 : decode cX6_learn 28 = .ok (.goto 4, 3) := by decide +kernel
theorem dX6_learn_31 : decode cX6_learn 31 = .ok (.iconst 1, 1) := by decide +kernel
theorem dX6_learn_32 : decode cX6_learn 32 = .ok (.istore_n 3, 1) := by decide +kernel
theorem dX6_learn_33 : decode cX6_learn 33 = .ok (.aload_n 0, 1) := by decide +kernel
theorem dX6_learn_34 : decode cX6_learn 34 = .ok (.getfield 19, 3) := by decide +kernel
theorem dX6_learn_37 : decode cX6_learn 37 = .ok (.bipush 6, 2) := by decide +kernel
theorem dX6_learn_39 : decode cX6_learn 39 = .ok (.iload_n 1, 1) := by decide +kernel
theorem dX6_learn_40 : decode cX6_learn 40 = .ok (.imul, 1) := by decide +kernel
theorem dX6_learn_41 : decode cX6_learn 41 = .ok (.iconst 3, 1) := by decide +kernel
theorem dX6_learn_42 : decode cX6_learn 42 = .ok (.iadd, 1) := by decide +kernel
theorem dX6_learn_43 : decode cX6_learn 43 = .ok (.dup2, 1) := by decide +kernel
theorem dX6_learn_44 : decode cX6_learn 44 = .ok (.iaload, 1) := by decide +kernel
theorem dX6_learn_45 : decode cX6_learn 45 = .ok (.iconst 1, 1) := by decide +kernel
theorem dX6_learn_46 : decode cX6_learn 46 = .ok (.iload_n 2, 1) := by decide +kernel
theorem dX6_learn_47 : decode cX6_learn 47 = .ok (.ishl, 1) := by decide +kernel
theorem dX6_learn_48 : decode cX6_learn 48 = .ok (.ior, 1) := by decide +kernel
theorem dX6_learn_49 : decode cX6_learn 49 = .ok (.iastore, 1) := by decide +kernel
theorem dX6_learn_50 : decode cX6_learn 50 = .ok (.iload_n 3, 1) := by decide +kernel
theorem dX6_learn_51 : decode cX6_learn 51 = .ok (.ireturn, 1) := by decide +kernel
theorem dX6_sleep_0 : decode cX6_sleep 0 = .ok (.iconst 0, 1) := by decide +kernel
theorem dX6_sleep_1 : decode cX6_sleep 1 = .ok (.istore_n 1, 1) := by decide +kernel
theorem dX6_sleep_2 : decode cX6_sleep 2 = .ok (.iload_n 1, 1) := by decide +kernel
theorem dX6_sleep_3 : decode cX6_sleep 3 = .ok (.aload_n 0, 1) := by decide +kernel
theorem dX6_sleep_4 : decode cX6_sleep 4 = .ok (.getfield 88, 3) := by decide +kernel
theorem dX6_sleep_7 : decode cX6_sleep 7 = .ok (.if_icmp .ge 32, 3) := by decide +kernel
theorem dX6_sleep_10 : decode cX6_sleep 10 = .ok (.aload_n 0, 1) := by decide +kernel
theorem dX6_sleep_11 : decode cX6_sleep 11 = .ok (.getfield 19, 3) := by decide +kernel
theorem dX6_sleep_14 : decode cX6_sleep 14 = .ok (.bipush 6, 2) := by decide +kernel
theorem dX6_sleep_16 : decode cX6_sleep 16 = .ok (.iload_n 1, 1) := by decide +kernel
theorem dX6_sleep_17 : decode cX6_sleep 17 = .ok (.imul, 1) := by decide +kernel
theorem dX6_sleep_18 : decode cX6_sleep 18 = .ok (.iconst 4, 1) := by decide +kernel
theorem dX6_sleep_19 : decode cX6_sleep 19 = .ok (.iadd, 1) := by decide +kernel
theorem dX6_sleep_20 : decode cX6_sleep 20 = .ok (.aload_n 0, 1) := by decide +kernel
theorem dX6_sleep_21 : decode cX6_sleep 21 = .ok (.getfield 19, 3) := by decide +kernel
theorem dX6_sleep_24 : decode cX6_sleep 24 = .ok (.bipush 6, 2) := by decide +kernel
theorem dX6_sleep_26 : decode cX6_sleep 26 = .ok (.iload_n 1, 1) := by decide +kernel
theorem dX6_sleep_27 : decode cX6_sleep 27 = .ok (.imul, 1) := by decide +kernel
theorem dX6_sleep_28 : decode cX6_sleep 28 = .ok (.iaload, 1) := by decide +kernel
theorem dX6_sleep_29 : decode cX6_sleep 29 = .ok (.invokestatic 116, 3) := by decide +kernel
theorem dX6_sleep_32 : decode cX6_sleep 32 = .ok (.iastore, 1) := by decide +kernel
theorem dX6_sleep_33 : decode cX6_sleep 33 = .ok (.iinc 1 1, 3) := by decide +kernel
theorem dX6_sleep_36 : decode cX6_sleep 36 = .ok (.goto (-34), 3) := by decide +kernel
theorem dX6_sleep_39 : decode cX6_sleep 39 = .ok (.return_, 1) := by decide +kernel
theorem dX6_night_0 : decode cX6_night 0 = .ok (.aload_n 0, 1) := by decide +kernel
theorem dX6_night_1 : decode cX6_night 1 = .ok (.getfield 81, 3) := by decide +kernel
theorem dX6_night_4 : decode cX6_night 4 = .ok (.ifCond .ne 6, 3) := by decide +kernel
theorem dX6_night_7 : decode cX6_night 7 = .ok (.bipush (-103), 2) := by decide +kernel
theorem dX6_night_9 : decode cX6_night 9 = .ok (.ireturn, 1) := by decide +kernel
theorem dX6_night_10 : decode cX6_night 10 = .ok (.aload_n 0, 1) := by decide +kernel
theorem dX6_night_11 : decode cX6_night 11 = .ok (.invokevirtual 146, 3) := by decide +kernel
theorem dX6_night_14 : decode cX6_night 14 = .ok (.aload_n 0, 1) := by decide +kernel
theorem dX6_night_15 : decode cX6_night 15 = .ok (.dup, 1) := by decide +kernel
theorem dX6_night_16 : decode cX6_night 16 = .ok (.getfield 85, 3) := by decide +kernel
theorem dX6_night_19 : decode cX6_night 19 = .ok (.iconst 1, 1) := by decide +kernel
theorem dX6_night_20 : decode cX6_night 20 = .ok (.iadd, 1) := by decide +kernel
theorem dX6_night_21 : decode cX6_night 21 = .ok (.putfield 85, 3) := by decide +kernel
theorem dX6_night_24 : decode cX6_night 24 = .ok (.aload_n 0, 1) := by decide +kernel
theorem dX6_night_25 : decode cX6_night 25 = .ok (.getfield 85, 3) := by decide +kernel
theorem dX6_night_28 : decode cX6_night 28 = .ok (.ireturn, 1) := by decide +kernel
theorem dX6_saidBy_0 : decode cX6_saidBy 0 = .ok (.iload_n 2, 1) := by decide +kernel
theorem dX6_saidBy_1 : decode cX6_saidBy 1 = .ok (.istore_n 3, 1) := by decide +kernel
theorem dX6_saidBy_2 : decode cX6_saidBy 2 = .ok (.iconst 0, 1) := by decide +kernel
theorem dX6_saidBy_3 : decode cX6_saidBy 3 = .ok (.istore 4, 2) := by decide +kernel
theorem dX6_saidBy_5 : decode cX6_saidBy 5 = .ok (.iconst 1, 1) := by decide +kernel
theorem dX6_saidBy_6 : decode cX6_saidBy 6 = .ok (.istore 5, 2) := by decide +kernel
theorem dX6_saidBy_8 : decode cX6_saidBy 8 = .ok (.iconst 0, 1) := by decide +kernel
theorem dX6_saidBy_9 : decode cX6_saidBy 9 = .ok (.istore 6, 2) := by decide +kernel
theorem dX6_saidBy_11 : decode cX6_saidBy 11 = .ok (.iload 6, 2) := by decide +kernel
theorem dX6_saidBy_13 : decode cX6_saidBy 13 = .ok (.iconst 4, 1) := by decide +kernel
theorem dX6_saidBy_14 : decode cX6_saidBy 14 = .ok (.if_icmp .ge 17, 3) := by decide +kernel
theorem dX6_saidBy_17 : decode cX6_saidBy 17 = .ok (.aload_n 0, 1) := by decide +kernel
theorem dX6_saidBy_18 : decode cX6_saidBy 18 = .ok (.getfield 28, 3) := by decide +kernel
theorem dX6_saidBy_21 : decode cX6_saidBy 21 = .ok (.iload 6, 2) := by decide +kernel
theorem dX6_saidBy_23 : decode cX6_saidBy 23 = .ok (.iconst 0, 1) := by decide +kernel
theorem dX6_saidBy_24 : decode cX6_saidBy 24 = .ok (.iastore, 1) := by decide +kernel
theorem dX6_saidBy_25 : decode cX6_saidBy 25 = .ok (.iinc 6 1, 3) := by decide +kernel
theorem dX6_saidBy_28 : decode cX6_saidBy 28 = .ok (.goto (-17), 3) := by decide +kernel
theorem dX6_saidBy_31 : decode cX6_saidBy 31 = .ok (.iconst 5, 1) := by decide +kernel
theorem dX6_saidBy_32 : decode cX6_saidBy 32 = .ok (.istore 6, 2) := by decide +kernel
theorem dX6_saidBy_34 : decode cX6_saidBy 34 = .ok (.iload 6, 2) := by decide +kernel
theorem dX6_saidBy_36 : decode cX6_saidBy 36 = .ok (.ifCond .lt 105, 3) := by decide +kernel
theorem dX6_saidBy_39 : decode cX6_saidBy 39 = .ok (.aload_n 0, 1) := by decide +kernel
theorem dX6_saidBy_40 : decode cX6_saidBy 40 = .ok (.getfield 22, 3) := by decide +kernel
theorem dX6_saidBy_43 : decode cX6_saidBy 43 = .ok (.iload 6, 2) := by decide +kernel
theorem dX6_saidBy_45 : decode cX6_saidBy 45 = .ok (.iload_n 3, 1) := by decide +kernel
theorem dX6_saidBy_46 : decode cX6_saidBy 46 = .ok (.iconst 5, 1) := by decide +kernel
theorem dX6_saidBy_47 : decode cX6_saidBy 47 = .ok (.irem, 1) := by decide +kernel
theorem dX6_saidBy_48 : decode cX6_saidBy 48 = .ok (.iastore, 1) := by decide +kernel
theorem dX6_saidBy_49 : decode cX6_saidBy 49 = .ok (.iload_n 3, 1) := by decide +kernel
theorem dX6_saidBy_50 : decode cX6_saidBy 50 = .ok (.iconst 5, 1) := by decide +kernel
theorem dX6_saidBy_51 : decode cX6_saidBy 51 = .ok (.idiv, 1) := by decide +kernel
theorem dX6_saidBy_52 : decode cX6_saidBy 52 = .ok (.istore_n 3, 1) := by decide +kernel
theorem dX6_saidBy_53 : decode cX6_saidBy 53 = .ok (.aload_n 0, 1) := by decide +kernel
theorem dX6_saidBy_54 : decode cX6_saidBy 54 = .ok (.getfield 22, 3) := by decide +kernel
theorem dX6_saidBy_57 : decode cX6_saidBy 57 = .ok (.iload 6, 2) := by decide +kernel
theorem dX6_saidBy_59 : decode cX6_saidBy 59 = .ok (.iaload, 1) := by decide +kernel
theorem dX6_saidBy_60 : decode cX6_saidBy 60 = .ok (.iconst 1, 1) := by decide +kernel
theorem dX6_saidBy_61 : decode cX6_saidBy 61 = .ok (.isub, 1) := by decide +kernel
theorem dX6_saidBy_62 : decode cX6_saidBy 62 = .ok (.istore 7, 2) := by decide +kernel
theorem dX6_saidBy_64 : decode cX6_saidBy 64 = .ok (.iload 7, 2) := by decide +kernel
theorem dX6_saidBy_66 : decode cX6_saidBy 66 = .ok (.ifCond .lt 69, 3) := by decide +kernel
theorem dX6_saidBy_69 : decode cX6_saidBy 69 = .ok (.iload 5, 2) := by decide +kernel
theorem dX6_saidBy_71 : decode cX6_saidBy 71 = .ok (.ifCond .eq 47, 3) := by decide +kernel
theorem dX6_saidBy_74 : decode cX6_saidBy 74 = .ok (.iload 7, 2) := by decide +kernel
theorem dX6_saidBy_76 : decode cX6_saidBy 76 = .ok (.aload_n 0, 1) := by decide +kernel
theorem dX6_saidBy_77 : decode cX6_saidBy 77 = .ok (.getfield 88, 3) := by decide +kernel
theorem dX6_saidBy_80 : decode cX6_saidBy 80 = .ok (.if_icmp .ge 38, 3) := by decide +kernel
theorem dX6_saidBy_83 : decode cX6_saidBy 83 = .ok (.aload_n 0, 1) := by decide +kernel
theorem dX6_saidBy_84 : decode cX6_saidBy 84 = .ok (.getfield 19, 3) := by decide +kernel
theorem dX6_saidBy_87 : decode cX6_saidBy 87 = .ok (.bipush 6, 2) := by decide +kernel
theorem dX6_saidBy_89 : decode cX6_saidBy 89 = .ok (.iload 7, 2) := by decide +kernel
theorem dX6_saidBy_91 : decode cX6_saidBy 91 = .ok (.imul, 1) := by decide +kernel
theorem dX6_saidBy_92 : decode cX6_saidBy 92 = .ok (.iconst 1, 1) := by decide +kernel
theorem dX6_saidBy_93 : decode cX6_saidBy 93 = .ok (.iadd, 1) := by decide +kernel
theorem dX6_saidBy_94 : decode cX6_saidBy 94 = .ok (.iaload, 1) := by decide +kernel
theorem dX6_saidBy_95 : decode cX6_saidBy 95 = .ok (.iload_n 1, 1) := by decide +kernel
theorem dX6_saidBy_96 : decode cX6_saidBy 96 = .ok (.if_icmp .ne 22, 3) := by decide +kernel
theorem dX6_saidBy_99 : decode cX6_saidBy 99 = .ok (.aload_n 0, 1) := by decide +kernel
theorem dX6_saidBy_100 : decode cX6_saidBy 100 = .ok (.iload 7, 2) := by decide +kernel
theorem dX6_saidBy_102 : decode cX6_saidBy 102 = .ok (.invokevirtual 122, 3) := by decide +kernel
theorem dX6_saidBy_105 : decode cX6_saidBy 105 = .ok (.iload 6, 2) := by decide +kernel
theorem dX6_saidBy_107 : decode cX6_saidBy 107 = .ok (.ishr, 1) := by decide +kernel
theorem dX6_saidBy_108 : decode cX6_saidBy 108 = .ok (.iconst 1, 1) := by decide +kernel
theorem dX6_saidBy_109 : decode cX6_saidBy 109 = .ok (.iand, 1) := by decide +kernel
theorem dX6_saidBy_110 : decode cX6_saidBy 110 = .ok (.iconst 1, 1) := by decide +kernel
theorem dX6_saidBy_111 : decode cX6_saidBy 111 = .ok (.if_icmp .ne 7, 3) := by decide +kernel
theorem dX6_saidBy_114 : decode cX6_saidBy 114 = .ok (.iconst 1, 1) := by decide +kernel
theorem dX6_saidBy_115 : decode cX6_saidBy 115 = .ok (.goto 4, 3) := by decide +kernel
theorem dX6_saidBy_118 : decode cX6_saidBy 118 = .ok (.iconst 0, 1) := by decide +kernel
theorem dX6_saidBy_119 : decode cX6_saidBy 119 = .ok (.istore 5, 2) := by decide +kernel
theorem dX6_saidBy_121 : decode cX6_saidBy 121 = .ok (.aload_n 0, 1) := by decide +kernel
theorem dX6_saidBy_122 : decode cX6_saidBy 122 = .ok (.getfield 28, 3) := by decide +kernel
theorem dX6_saidBy_125 : decode cX6_saidBy 125 = .ok (.iload 7, 2) := by decide +kernel
theorem dX6_saidBy_127 : decode cX6_saidBy 127 = .ok (.dup2, 1) := by decide +kernel
theorem dX6_saidBy_128 : decode cX6_saidBy 128 = .ok (.iaload, 1) := by decide +kernel
theorem dX6_saidBy_129 : decode cX6_saidBy 129 = .ok (.iconst 1, 1) := by decide +kernel
theorem dX6_saidBy_130 : decode cX6_saidBy 130 = .ok (.iadd, 1) := by decide +kernel
theorem dX6_saidBy_131 : decode cX6_saidBy 131 = .ok (.iastore, 1) := by decide +kernel
theorem dX6_saidBy_132 : decode cX6_saidBy 132 = .ok (.iinc 4 1, 3) := by decide +kernel
theorem dX6_saidBy_135 : decode cX6_saidBy 135 = .ok (.iinc 6 (-1), 3) := by decide +kernel
theorem dX6_saidBy_138 : decode cX6_saidBy 138 = .ok (.goto (-104), 3) := by decide +kernel
theorem dX6_saidBy_141 : decode cX6_saidBy 141 = .ok (.iconst 0, 1) := by decide +kernel
theorem dX6_saidBy_142 : decode cX6_saidBy 142 = .ok (.istore 6, 2) := by decide +kernel
theorem dX6_saidBy_144 : decode cX6_saidBy 144 = .ok (.iload 6, 2) := by decide +kernel
theorem dX6_saidBy_146 : decode cX6_saidBy 146 = .ok (.aload_n 0, 1) := by decide +kernel
theorem dX6_saidBy_147 : decode cX6_saidBy 147 = .ok (.getfield 88, 3) := by decide +kernel
theorem dX6_saidBy_150 : decode cX6_saidBy 150 = .ok (.if_icmp .ge 47, 3) := by decide +kernel
theorem dX6_saidBy_153 : decode cX6_saidBy 153 = .ok (.iload 5, 2) := by decide +kernel
theorem dX6_saidBy_155 : decode cX6_saidBy 155 = .ok (.ifCond .eq 42, 3) := by decide +kernel
theorem dX6_saidBy_158 : decode cX6_saidBy 158 = .ok (.aload_n 0, 1) := by decide +kernel
theorem dX6_saidBy_159 : decode cX6_saidBy 159 = .ok (.getfield 28, 3) := by decide +kernel
theorem dX6_saidBy_162 : decode cX6_saidBy 162 = .ok (.iload 6, 2) := by decide +kernel
theorem dX6_saidBy_164 : decode cX6_saidBy 164 = .ok (.iaload, 1) := by decide +kernel
theorem dX6_saidBy_165 : decode cX6_saidBy 165 = .ok (.ifCond .eq 19, 3) := by decide +kernel
theorem dX6_saidBy_168 : decode cX6_saidBy 168 = .ok (.aload_n 0, 1) := by decide +kernel
theorem dX6_saidBy_169 : decode cX6_saidBy 169 = .ok (.getfield 28, 3) := by decide +kernel
theorem dX6_saidBy_172 : decode cX6_saidBy 172 = .ok (.iload 6, 2) := by decide +kernel
theorem dX6_saidBy_174 : decode cX6_saidBy 174 = .ok (.iaload, 1) := by decide +kernel
theorem dX6_saidBy_175 : decode cX6_saidBy 175 = .ok (.aload_n 0, 1) := by decide +kernel
theorem dX6_saidBy_176 : decode cX6_saidBy 176 = .ok (.iload 6, 2) := by decide +kernel
theorem dX6_saidBy_178 : decode cX6_saidBy 178 = .ok (.invokevirtual 119, 3) := by decide +kernel
theorem dX6_saidBy_181 : decode cX6_saidBy 181 = .ok (.if_icmp .gt 7, 3) := by decide +kernel
theorem dX6_saidBy_184 : decode cX6_saidBy 184 = .ok (.iconst 1, 1) := by decide +kernel
theorem dX6_saidBy_185 : decode cX6_saidBy 185 = .ok (.goto 4, 3) := by decide +kernel
theorem dX6_saidBy_188 : decode cX6_saidBy 188 = .ok (.iconst 0, 1) := by decide +kernel
theorem dX6_saidBy_189 : decode cX6_saidBy 189 = .ok (.istore 5, 2) := by decide +kernel
theorem dX6_saidBy_191 : decode cX6_saidBy 191 = .ok (.iinc 6 1, 3) := by decide +kernel
theorem dX6_saidBy_194 : decode cX6_saidBy 194 = .ok (.goto (-50), 3) := by decide +kernel
theorem dX6_saidBy_197 : decode cX6_saidBy 197 = .ok (.iload 5, 2) := by decide +kernel
theorem dX6_saidBy_199 : decode cX6_saidBy 199 = .ok (.ifCond .eq 8, 3) := by decide +kernel
theorem dX6_saidBy_202 : decode cX6_saidBy 202 = .ok (.iload 4, 2) := by decide +kernel
theorem dX6_saidBy_204 : decode cX6_saidBy 204 = .ok (.goto 4, 3) := by decide +kernel
theorem dX6_saidBy_207 : decode cX6_saidBy 207 = .ok (.iconst (-1), 1) := by decide +kernel
theorem dX6_saidBy_208 : decode cX6_saidBy 208 = .ok (.ireturn, 1) := by decide +kernel
theorem dX6_layMost_0 : decode cX6_layMost 0 = .ok (.iconst (-1), 1) := by decide +kernel
theorem dX6_layMost_1 : decode cX6_layMost 1 = .ok (.istore_n 2, 1) := by decide +kernel
theorem dX6_layMost_2 : decode cX6_layMost 2 = .ok (.iconst 0, 1) := by decide +kernel
theorem dX6_layMost_3 : decode cX6_layMost 3 = .ok (.istore_n 3, 1) := by decide +kernel
theorem dX6_layMost_4 : decode cX6_layMost 4 = .ok (.iload_n 3, 1) := by decide +kernel
theorem dX6_layMost_5 : decode cX6_layMost 5 = .ok (.sipush 15625, 3) := by decide +kernel
theorem dX6_layMost_8 : decode cX6_layMost 8 = .ok (.if_icmp .ge 37, 3) := by decide +kernel
theorem dX6_layMost_11 : decode cX6_layMost 11 = .ok (.aload_n 0, 1) := by decide +kernel
theorem dX6_layMost_12 : decode cX6_layMost 12 = .ok (.iload_n 1, 1) := by decide +kernel
theorem dX6_layMost_13 : decode cX6_layMost 13 = .ok (.iload_n 3, 1) := by decide +kernel
theorem dX6_layMost_14 : decode cX6_layMost 14 = .ok (.invokevirtual 149, 3) := by decide +kernel
theorem dX6_layMost_17 : decode cX6_layMost 17 = .ok (.istore 4, 2) := by decide +kernel
theorem dX6_layMost_19 : decode cX6_layMost 19 = .ok (.iload 4, 2) := by decide +kernel
theorem dX6_layMost_21 : decode cX6_layMost 21 = .ok (.iload_n 2, 1) := by decide +kernel
theorem dX6_layMost_22 : decode cX6_layMost 22 = .ok (.if_icmp .le 17, 3) := by decide +kernel
theorem dX6_layMost_25 : decode cX6_layMost 25 = .ok (.iload 4, 2) := by decide +kernel
theorem dX6_layMost_27 : decode cX6_layMost 27 = .ok (.istore_n 2, 1) := by decide +kernel
theorem dX6_layMost_28 : decode cX6_layMost 28 = .ok (.aload_n 0, 1) := by decide +kernel
theorem dX6_layMost_29 : decode cX6_layMost 29 = .ok (.getfield 22, 3) := by decide +kernel
theorem dX6_layMost_32 : decode cX6_layMost 32 = .ok (.aload_n 0, 1) := by decide +kernel
theorem dX6_layMost_33 : decode cX6_layMost 33 = .ok (.getfield 25, 3) := by decide +kernel
theorem dX6_layMost_36 : decode cX6_layMost 36 = .ok (.invokestatic 152, 3) := by decide +kernel
theorem dX6_layMost_39 : decode cX6_layMost 39 = .ok (.iinc 3 1, 3) := by decide +kernel
theorem dX6_layMost_42 : decode cX6_layMost 42 = .ok (.goto (-38), 3) := by decide +kernel
theorem dX6_layMost_45 : decode cX6_layMost 45 = .ok (.iload_n 2, 1) := by decide +kernel
theorem dX6_layMost_46 : decode cX6_layMost 46 = .ok (.ireturn, 1) := by decide +kernel
theorem dX6_mostOf_0 : decode cX6_mostOf 0 = .ok (.iconst 0, 1) := by decide +kernel
theorem dX6_mostOf_1 : decode cX6_mostOf 1 = .ok (.istore_n 1, 1) := by decide +kernel
theorem dX6_mostOf_2 : decode cX6_mostOf 2 = .ok (.iconst 0, 1) := by decide +kernel
theorem dX6_mostOf_3 : decode cX6_mostOf 3 = .ok (.istore_n 2, 1) := by decide +kernel
theorem dX6_mostOf_4 : decode cX6_mostOf 4 = .ok (.iload_n 2, 1) := by decide +kernel
theorem dX6_mostOf_5 : decode cX6_mostOf 5 = .ok (.iconst 3, 1) := by decide +kernel
theorem dX6_mostOf_6 : decode cX6_mostOf 6 = .ok (.if_icmp .ge 17, 3) := by decide +kernel
theorem dX6_mostOf_9 : decode cX6_mostOf 9 = .ok (.iload_n 1, 1) := by decide +kernel
theorem dX6_mostOf_10 : decode cX6_mostOf 10 = .ok (.aload_n 0, 1) := by decide +kernel
theorem dX6_mostOf_11 : decode cX6_mostOf 11 = .ok (.iload_n 2, 1) := by decide +kernel
theorem dX6_mostOf_12 : decode cX6_mostOf 12 = .ok (.invokevirtual 156, 3) := by decide +kernel
theorem dX6_mostOf_15 : decode cX6_mostOf 15 = .ok (.iadd, 1) := by decide +kernel
theorem dX6_mostOf_16 : decode cX6_mostOf 16 = .ok (.istore_n 1, 1) := by decide +kernel
theorem dX6_mostOf_17 : decode cX6_mostOf 17 = .ok (.iinc 2 1, 3) := by decide +kernel
theorem dX6_mostOf_20 : decode cX6_mostOf 20 = .ok (.goto (-16), 3) := by decide +kernel
theorem dX6_mostOf_23 : decode cX6_mostOf 23 = .ok (.iload_n 1, 1) := by decide +kernel
theorem dX6_mostOf_24 : decode cX6_mostOf 24 = .ok (.ireturn, 1) := by decide +kernel
theorem dX6_needsAll_0 : decode cX6_needsAll 0 = .ok (.iconst 0, 1) := by decide +kernel
theorem dX6_needsAll_1 : decode cX6_needsAll 1 = .ok (.istore_n 1, 1) := by decide +kernel
theorem dX6_needsAll_2 : decode cX6_needsAll 2 = .ok (.iconst 0, 1) := by decide +kernel
theorem dX6_needsAll_3 : decode cX6_needsAll 3 = .ok (.istore_n 2, 1) := by decide +kernel
theorem dX6_needsAll_4 : decode cX6_needsAll 4 = .ok (.iload_n 2, 1) := by decide +kernel
theorem dX6_needsAll_5 : decode cX6_needsAll 5 = .ok (.aload_n 0, 1) := by decide +kernel
theorem dX6_needsAll_6 : decode cX6_needsAll 6 = .ok (.getfield 88, 3) := by decide +kernel
theorem dX6_needsAll_9 : decode cX6_needsAll 9 = .ok (.if_icmp .ge 17, 3) := by decide +kernel
theorem dX6_needsAll_12 : decode cX6_needsAll 12 = .ok (.iload_n 1, 1) := by decide +kernel
theorem dX6_needsAll_13 : decode cX6_needsAll 13 = .ok (.aload_n 0, 1) := by decide +kernel
theorem dX6_needsAll_14 : decode cX6_needsAll 14 = .ok (.iload_n 2, 1) := by decide +kernel
theorem dX6_needsAll_15 : decode cX6_needsAll 15 = .ok (.invokevirtual 119, 3) := by decide +kernel
theorem dX6_needsAll_18 : decode cX6_needsAll 18 = .ok (.iadd, 1) := by decide +kernel
theorem dX6_needsAll_19 : decode cX6_needsAll 19 = .ok (.istore_n 1, 1) := by decide +kernel
theorem dX6_needsAll_20 : decode cX6_needsAll 20 = .ok (.iinc 2 1, 3) := by decide +kernel
theorem dX6_needsAll_23 : decode cX6_needsAll 23 = .ok (.goto (-19), 3) := by decide +kernel
theorem dX6_needsAll_26 : decode cX6_needsAll 26 = .ok (.iload_n 1, 1) := by decide +kernel
theorem dX6_needsAll_27 : decode cX6_needsAll 27 = .ok (.ireturn, 1) := by decide +kernel
theorem dX6_most_0 : decode cX6_most 0 = .ok (.iload_n 1, 1) := by decide +kernel
theorem dX6_most_1 : decode cX6_most 1 = .ok (.i2l, 1) := by decide +kernel
theorem dX6_most_2 : decode cX6_most 2 = .ok (.lconst 0, 1) := by decide +kernel
theorem dX6_most_3 : decode cX6_most 3 = .ok (.lconst 1, 1) := by decide +kernel
theorem dX6_most_4 : decode cX6_most 4 = .ok (.invokestatic 55, 3) := by decide +kernel
theorem dX6_most_7 : decode cX6_most 7 = .ok (.ifCond .ne 6, 3) := by decide +kernel
theorem dX6_most_10 : decode cX6_most 10 = .ok (.bipush (-102), 2) := by decide +kernel
theorem dX6_most_12 : decode cX6_most 12 = .ok (.ireturn, 1) := by decide +kernel
theorem dX6_most_13 : decode cX6_most 13 = .ok (.aload_n 0, 1) := by decide +kernel
theorem dX6_most_14 : decode cX6_most 14 = .ok (.getfield 81, 3) := by decide +kernel
theorem dX6_most_17 : decode cX6_most 17 = .ok (.ifCond .ne 6, 3) := by decide +kernel
theorem dX6_most_20 : decode cX6_most 20 = .ok (.bipush (-103), 2) := by decide +kernel
theorem dX6_most_22 : decode cX6_most 22 = .ok (.ireturn, 1) := by decide +kernel
theorem dX6_most_23 : decode cX6_most 23 = .ok (.aload_n 0, 1) := by decide +kernel
theorem dX6_most_24 : decode cX6_most 24 = .ok (.invokevirtual 159, 3) := by decide +kernel
theorem dX6_most_27 : decode cX6_most 27 = .ok (.istore_n 2, 1) := by decide +kernel
theorem dX6_most_28 : decode cX6_most 28 = .ok (.iload_n 1, 1) := by decide +kernel
theorem dX6_most_29 : decode cX6_most 29 = .ok (.ifCond .ne 7, 3) := by decide +kernel
theorem dX6_most_32 : decode cX6_most 32 = .ok (.iload_n 2, 1) := by decide +kernel
theorem dX6_most_33 : decode cX6_most 33 = .ok (.goto 16, 3) := by decide +kernel
theorem dX6_most_36 : decode cX6_most 36 = .ok (.iload_n 2, 1) := by decide +kernel
theorem dX6_most_37 : decode cX6_most 37 = .ok (.aload_n 0, 1) := by decide +kernel
theorem dX6_most_38 : decode cX6_most 38 = .ok (.invokevirtual 162, 3) := by decide +kernel
theorem dX6_most_41 : decode cX6_most 41 = .ok (.if_icmp .ne 7, 3) := by decide +kernel
theorem dX6_most_44 : decode cX6_most 44 = .ok (.iconst 1, 1) := by decide +kernel
theorem dX6_most_45 : decode cX6_most 45 = .ok (.goto 4, 3) := by decide +kernel
theorem dX6_most_48 : decode cX6_most 48 = .ok (.iconst 0, 1) := by decide +kernel
theorem dX6_most_49 : decode cX6_most 49 = .ok (.ireturn, 1) := by decide +kernel
theorem dX6_who_0 : decode cX6_who 0 = .ok (.aload_n 0, 1) := by decide +kernel
theorem dX6_who_1 : decode cX6_who 1 = .ok (.iload_n 1, 1) := by decide +kernel
theorem dX6_who_2 : decode cX6_who 2 = .ok (.invokevirtual 104, 3) := by decide +kernel
theorem dX6_who_5 : decode cX6_who 5 = .ok (.ifCond .eq 10, 3) := by decide +kernel
theorem dX6_who_8 : decode cX6_who 8 = .ok (.iload_n 2, 1) := by decide +kernel
theorem dX6_who_9 : decode cX6_who 9 = .ok (.invokestatic 137, 3) := by decide +kernel
theorem dX6_who_12 : decode cX6_who 12 = .ok (.ifCond .ne 6, 3) := by decide +kernel
theorem dX6_who_15 : decode cX6_who 15 = .ok (.bipush (-101), 2) := by decide +kernel
theorem dX6_who_17 : decode cX6_who 17 = .ok (.ireturn, 1) := by decide +kernel
theorem dX6_who_18 : decode cX6_who 18 = .ok (.aload_n 0, 1) := by decide +kernel
theorem dX6_who_19 : decode cX6_who 19 = .ok (.iload_n 1, 1) := by decide +kernel
theorem dX6_who_20 : decode cX6_who 20 = .ok (.invokevirtual 156, 3) := by decide +kernel
theorem dX6_who_23 : decode cX6_who 23 = .ok (.istore_n 3, 1) := by decide +kernel
theorem dX6_who_24 : decode cX6_who 24 = .ok (.aload_n 0, 1) := by decide +kernel
theorem dX6_who_25 : decode cX6_who 25 = .ok (.getfield 25, 3) := by decide +kernel
theorem dX6_who_28 : decode cX6_who 28 = .ok (.iload_n 2, 1) := by decide +kernel
theorem dX6_who_29 : decode cX6_who 29 = .ok (.iaload, 1) := by decide +kernel
theorem dX6_who_30 : decode cX6_who 30 = .ok (.iconst 1, 1) := by decide +kernel
theorem dX6_who_31 : decode cX6_who 31 = .ok (.isub, 1) := by decide +kernel
theorem dX6_who_32 : decode cX6_who 32 = .ok (.ireturn, 1) := by decide +kernel
theorem dX6_trial_0 : decode cX6_trial 0 = .ok (.aload_n 0, 1) := by decide +kernel
theorem dX6_trial_1 : decode cX6_trial 1 = .ok (.iload_n 1, 1) := by decide +kernel
theorem dX6_trial_2 : decode cX6_trial 2 = .ok (.invokevirtual 104, 3) := by decide +kernel
theorem dX6_trial_5 : decode cX6_trial 5 = .ok (.ifCond .eq 10, 3) := by decide +kernel
theorem dX6_trial_8 : decode cX6_trial 8 = .ok (.iload_n 2, 1) := by decide +kernel
theorem dX6_trial_9 : decode cX6_trial 9 = .ok (.invokestatic 137, 3) := by decide +kernel
theorem dX6_trial_12 : decode cX6_trial 12 = .ok (.ifCond .ne 6, 3) := by decide +kernel
theorem dX6_trial_15 : decode cX6_trial 15 = .ok (.bipush (-101), 2) := by decide +kernel
theorem dX6_trial_17 : decode cX6_trial 17 = .ok (.ireturn, 1) := by decide +kernel
theorem dX6_trial_18 : decode cX6_trial 18 = .ok (.aload_n 0, 1) := by decide +kernel
theorem dX6_trial_19 : decode cX6_trial 19 = .ok (.getfield 91, 3) := by decide +kernel
theorem dX6_trial_22 : decode cX6_trial 22 = .ok (.bipush 8, 2) := by decide +kernel
theorem dX6_trial_24 : decode cX6_trial 24 = .ok (.if_icmp .ne 6, 3) := by decide +kernel
theorem dX6_trial_27 : decode cX6_trial 27 = .ok (.bipush (-104), 2) := by decide +kernel
theorem dX6_trial_29 : decode cX6_trial 29 = .ok (.ireturn, 1) := by decide +kernel
theorem dX6_trial_30 : decode cX6_trial 30 = .ok (.aload_n 0, 1) := by decide +kernel
theorem dX6_trial_31 : decode cX6_trial 31 = .ok (.getfield 31, 3) := by decide +kernel
theorem dX6_trial_34 : decode cX6_trial 34 = .ok (.iconst 3, 1) := by decide +kernel
theorem dX6_trial_35 : decode cX6_trial 35 = .ok (.aload_n 0, 1) := by decide +kernel
theorem dX6_trial_36 : decode cX6_trial 36 = .ok (.getfield 91, 3) := by decide +kernel
theorem dX6_trial_39 : decode cX6_trial 39 = .ok (.imul, 1) := by decide +kernel
theorem dX6_trial_40 : decode cX6_trial 40 = .ok (.iload_n 1, 1) := by decide +kernel
theorem dX6_trial_41 : decode cX6_trial 41 = .ok (.iastore, 1) := by decide +kernel
theorem dX6_trial_42 : decode cX6_trial 42 = .ok (.aload_n 0, 1) := by decide +kernel
theorem dX6_trial_43 : decode cX6_trial 43 = .ok (.getfield 31, 3) := by decide +kernel
theorem dX6_trial_46 : decode cX6_trial 46 = .ok (.iconst 3, 1) := by decide +kernel
theorem dX6_trial_47 : decode cX6_trial 47 = .ok (.aload_n 0, 1) := by decide +kernel
theorem dX6_trial_48 : decode cX6_trial 48 = .ok (.getfield 91, 3) := by decide +kernel
theorem dX6_trial_51 : decode cX6_trial 51 = .ok (.imul, 1) := by decide +kernel
theorem dX6_trial_52 : decode cX6_trial 52 = .ok (.iconst 1, 1) := by decide +kernel
theorem dX6_trial_53 : decode cX6_trial 53 = .ok (.iadd, 1) := by decide +kernel
theorem dX6_trial_54 : decode cX6_trial 54 = .ok (.iload_n 2, 1) := by decide +kernel
theorem dX6_trial_55 : decode cX6_trial 55 = .ok (.iastore, 1) := by decide +kernel
theorem dX6_trial_56 : decode cX6_trial 56 = .ok (.aload_n 0, 1) := by decide +kernel
theorem dX6_trial_57 : decode cX6_trial 57 = .ok (.getfield 31, 3) := by decide +kernel
theorem dX6_trial_60 : decode cX6_trial 60 = .ok (.iconst 3, 1) := by decide +kernel
theorem dX6_trial_61 : decode cX6_trial 61 = .ok (.aload_n 0, 1) := by decide +kernel
theorem dX6_trial_62 : decode cX6_trial 62 = .ok (.getfield 91, 3) := by decide +kernel
theorem dX6_trial_65 : decode cX6_trial 65 = .ok (.imul, 1) := by decide +kernel
theorem dX6_trial_66 : decode cX6_trial 66 = .ok (.iconst 2, 1) := by decide +kernel
theorem dX6_trial_67 : decode cX6_trial 67 = .ok (.iadd, 1) := by decide +kernel
theorem dX6_trial_68 : decode cX6_trial 68 = .ok (.iload_n 3, 1) := by decide +kernel
theorem dX6_trial_69 : decode cX6_trial 69 = .ok (.ifCond .eq 7, 3) := by decide +kernel
theorem dX6_trial_72 : decode cX6_trial 72 = .ok (.iconst 1, 1) := by decide +kernel
theorem dX6_trial_73 : decode cX6_trial 73 = .ok (.goto 4, 3) := by decide +kernel
theorem dX6_trial_76 : decode cX6_trial 76 = .ok (.iconst 0, 1) := by decide +kernel
theorem dX6_trial_77 : decode cX6_trial 77 = .ok (.iastore, 1) := by decide +kernel
theorem dX6_trial_78 : decode cX6_trial 78 = .ok (.aload_n 0, 1) := by decide +kernel
theorem dX6_trial_79 : decode cX6_trial 79 = .ok (.dup, 1) := by decide +kernel
theorem dX6_trial_80 : decode cX6_trial 80 = .ok (.getfield 91, 3) := by decide +kernel
theorem dX6_trial_83 : decode cX6_trial 83 = .ok (.iconst 1, 1) := by decide +kernel
theorem dX6_trial_84 : decode cX6_trial 84 = .ok (.iadd, 1) := by decide +kernel
theorem dX6_trial_85 : decode cX6_trial 85 = .ok (.putfield 91, 3) := by decide +kernel
theorem dX6_trial_88 : decode cX6_trial 88 = .ok (.aload_n 0, 1) := by decide +kernel
theorem dX6_trial_89 : decode cX6_trial 89 = .ok (.getfield 91, 3) := by decide +kernel
theorem dX6_trial_92 : decode cX6_trial 92 = .ok (.ireturn, 1) := by decide +kernel
theorem dX6_forget_0 : decode cX6_forget 0 = .ok (.aload_n 0, 1) := by decide +kernel
theorem dX6_forget_1 : decode cX6_forget 1 = .ok (.getfield 91, 3) := by decide +kernel
theorem dX6_forget_4 : decode cX6_forget 4 = .ok (.istore_n 1, 1) := by decide +kernel
theorem dX6_forget_5 : decode cX6_forget 5 = .ok (.aload_n 0, 1) := by decide +kernel
theorem dX6_forget_6 : decode cX6_forget 6 = .ok (.iconst 0, 1) := by decide +kernel
theorem dX6_forget_7 : decode cX6_forget 7 = .ok (.putfield 91, 3) := by decide +kernel
theorem dX6_forget_10 : decode cX6_forget 10 = .ok (.iload_n 1, 1) := by decide +kernel
theorem dX6_forget_11 : decode cX6_forget 11 = .ok (.ireturn, 1) := by decide +kernel
theorem dX6_isTried_0 : decode cX6_isTried 0 = .ok (.iconst 1, 1) := by decide +kernel
theorem dX6_isTried_1 : decode cX6_isTried 1 = .ok (.istore_n 3, 1) := by decide +kernel
theorem dX6_isTried_2 : decode cX6_isTried 2 = .ok (.iconst 0, 1) := by decide +kernel
theorem dX6_isTried_3 : decode cX6_isTried 3 = .ok (.istore 4, 2) := by decide +kernel
theorem dX6_isTried_5 : decode cX6_isTried 5 = .ok (.iload 4, 2) := by decide +kernel
theorem dX6_isTried_7 : decode cX6_isTried 7 = .ok (.aload_n 0, 1) := by decide +kernel
theorem dX6_isTried_8 : decode cX6_isTried 8 = .ok (.getfield 91, 3) := by decide +kernel
theorem dX6_isTried_11 : decode cX6_isTried 11 = .ok (.if_icmp .ge 61, 3) := by decide +kernel
theorem dX6_isTried_14 : decode cX6_isTried 14 = .ok (.iload_n 3, 1) := by decide +kernel
theorem dX6_isTried_15 : decode cX6_isTried 15 = .ok (.ifCond .eq 49, 3) := by decide +kernel
theorem dX6_isTried_18 : decode cX6_isTried 18 = .ok (.aload_n 0, 1) := by decide +kernel
theorem dX6_isTried_19 : decode cX6_isTried 19 = .ok (.getfield 31, 3) := by decide +kernel
theorem dX6_isTried_22 : decode cX6_isTried 22 = .ok (.iconst 3, 1) := by decide +kernel
theorem dX6_isTried_23 : decode cX6_isTried 23 = .ok (.iload 4, 2) := by decide +kernel
theorem dX6_isTried_25 : decode cX6_isTried 25 = .ok (.imul, 1) := by decide +kernel
theorem dX6_isTried_26 : decode cX6_isTried 26 = .ok (.iaload, 1) := by decide +kernel
theorem dX6_isTried_27 : decode cX6_isTried 27 = .ok (.iload_n 1, 1) := by decide +kernel
theorem dX6_isTried_28 : decode cX6_isTried 28 = .ok (.if_icmp .ne 32, 3) := by decide +kernel
theorem dX6_isTried_31 : decode cX6_isTried 31 = .ok (.iload_n 2, 1) := by decide +kernel
theorem dX6_isTried_32 : decode cX6_isTried 32 = .ok (.aload_n 0, 1) := by decide +kernel
theorem dX6_isTried_33 : decode cX6_isTried 33 = .ok (.getfield 31, 3) := by decide +kernel
theorem dX6_isTried_36 : decode cX6_isTried 36 = .ok (.iconst 3, 1) := by decide +kernel
theorem dX6_isTried_37 : decode cX6_isTried 37 = .ok (.iload 4, 2) := by decide +kernel
theorem dX6_isTried_39 : decode cX6_isTried 39 = .ok (.imul, 1) := by decide +kernel
theorem dX6_isTried_40 : decode cX6_isTried 40 = .ok (.iconst 1, 1) := by decide +kernel
theorem dX6_isTried_41 : decode cX6_isTried 41 = .ok (.iadd, 1) := by decide +kernel
theorem dX6_isTried_42 : decode cX6_isTried 42 = .ok (.iaload, 1) := by decide +kernel
theorem dX6_isTried_43 : decode cX6_isTried 43 = .ok (.ishr, 1) := by decide +kernel
theorem dX6_isTried_44 : decode cX6_isTried 44 = .ok (.iconst 1, 1) := by decide +kernel
theorem dX6_isTried_45 : decode cX6_isTried 45 = .ok (.iand, 1) := by decide +kernel
theorem dX6_isTried_46 : decode cX6_isTried 46 = .ok (.aload_n 0, 1) := by decide +kernel
theorem dX6_isTried_47 : decode cX6_isTried 47 = .ok (.getfield 31, 3) := by decide +kernel
theorem dX6_isTried_50 : decode cX6_isTried 50 = .ok (.iconst 3, 1) := by decide +kernel
theorem dX6_isTried_51 : decode cX6_isTried 51 = .ok (.iload 4, 2) := by decide +kernel
theorem dX6_isTried_53 : decode cX6_isTried 53 = .ok (.imul, 1) := by decide +kernel
theorem dX6_isTried_54 : decode cX6_isTried 54 = .ok (.iconst 2, 1) := by decide +kernel
theorem dX6_isTried_55 : decode cX6_isTried 55 = .ok (.iadd, 1) := by decide +kernel
theorem dX6_isTried_56 : decode cX6_isTried 56 = .ok (.iaload, 1) := by decide +kernel
theorem dX6_isTried_57 : decode cX6_isTried 57 = .ok (.if_icmp .ne 7, 3) := by decide +kernel
theorem dX6_isTried_60 : decode cX6_isTried 60 = .ok (.iconst 1, 1) := by decide +kernel
theorem dX6_isTried_61 : decode cX6_isTried 61 = .ok (.goto 4, 3) := by decide +kernel
theorem dX6_isTried_64 : decode cX6_isTried 64 = .ok (.iconst 0, 1) := by decide +kernel
theorem dX6_isTried_65 : decode cX6_isTried 65 = .ok (.istore_n 3, 1) := by decide +kernel
theorem dX6_isTried_66 : decode cX6_isTried 66 = .ok (.iinc 4 1, 3) := by decide +kernel
theorem dX6_isTried_69 : decode cX6_isTried 69 = .ok (.goto (-64), 3) := by decide +kernel
theorem dX6_isTried_72 : decode cX6_isTried 72 = .ok (.iload_n 3, 1) := by decide +kernel
theorem dX6_isTried_73 : decode cX6_isTried 73 = .ok (.ireturn, 1) := by decide +kernel
theorem dX6_truthsOf_0 : decode cX6_truthsOf 0 = .ok (.iconst 0, 1) := by decide +kernel
theorem dX6_truthsOf_1 : decode cX6_truthsOf 1 = .ok (.istore_n 3, 1) := by decide +kernel
theorem dX6_truthsOf_2 : decode cX6_truthsOf 2 = .ok (.iconst (-1), 1) := by decide +kernel
theorem dX6_truthsOf_3 : decode cX6_truthsOf 3 = .ok (.istore 4, 2) := by decide +kernel
theorem dX6_truthsOf_5 : decode cX6_truthsOf 5 = .ok (.bipush 63, 2) := by decide +kernel
theorem dX6_truthsOf_7 : decode cX6_truthsOf 7 = .ok (.istore 5, 2) := by decide +kernel
theorem dX6_truthsOf_9 : decode cX6_truthsOf 9 = .ok (.bipush 63, 2) := by decide +kernel
theorem dX6_truthsOf_11 : decode cX6_truthsOf 11 = .ok (.istore 6, 2) := by decide +kernel
theorem dX6_truthsOf_13 : decode cX6_truthsOf 13 = .ok (.iload 6, 2) := by decide +kernel
theorem dX6_truthsOf_15 : decode cX6_truthsOf 15 = .ok (.ifCond .lt 33, 3) := by decide +kernel
theorem dX6_truthsOf_18 : decode cX6_truthsOf 18 = .ok (.aload_n 0, 1) := by decide +kernel
theorem dX6_truthsOf_19 : decode cX6_truthsOf 19 = .ok (.iload_n 1, 1) := by decide +kernel
theorem dX6_truthsOf_20 : decode cX6_truthsOf 20 = .ok (.iload 6, 2) := by decide +kernel
theorem dX6_truthsOf_22 : decode cX6_truthsOf 22 = .ok (.invokevirtual 165, 3) := by decide +kernel
theorem dX6_truthsOf_25 : decode cX6_truthsOf 25 = .ok (.ifCond .eq 17, 3) := by decide +kernel
theorem dX6_truthsOf_28 : decode cX6_truthsOf 28 = .ok (.iinc 3 1, 3) := by decide +kernel
theorem dX6_truthsOf_31 : decode cX6_truthsOf 31 = .ok (.iload 6, 2) := by decide +kernel
theorem dX6_truthsOf_33 : decode cX6_truthsOf 33 = .ok (.istore 4, 2) := by decide +kernel
theorem dX6_truthsOf_35 : decode cX6_truthsOf 35 = .ok (.iload 5, 2) := by decide +kernel
theorem dX6_truthsOf_37 : decode cX6_truthsOf 37 = .ok (.iload 6, 2) := by decide +kernel
theorem dX6_truthsOf_39 : decode cX6_truthsOf 39 = .ok (.iand, 1) := by decide +kernel
theorem dX6_truthsOf_40 : decode cX6_truthsOf 40 = .ok (.istore 5, 2) := by decide +kernel
theorem dX6_truthsOf_42 : decode cX6_truthsOf 42 = .ok (.iinc 6 (-1), 3) := by decide +kernel
theorem dX6_truthsOf_45 : decode cX6_truthsOf 45 = .ok (.goto (-32), 3) := by decide +kernel
theorem dX6_truthsOf_48 : decode cX6_truthsOf 48 = .ok (.iload_n 2, 1) := by decide +kernel
theorem dX6_truthsOf_49 : decode cX6_truthsOf 49 = .ok (.ifCond .ne 7, 3) := by decide +kernel
theorem dX6_truthsOf_52 : decode cX6_truthsOf 52 = .ok (.iload_n 3, 1) := by decide +kernel
theorem dX6_truthsOf_53 : decode cX6_truthsOf 53 = .ok (.goto 19, 3) := by decide +kernel
theorem dX6_truthsOf_56 : decode cX6_truthsOf 56 = .ok (.iload_n 2, 1) := by decide +kernel
theorem dX6_truthsOf_57 : decode cX6_truthsOf 57 = .ok (.iconst 1, 1) := by decide +kernel
theorem dX6_truthsOf_58 : decode cX6_truthsOf 58 = .ok (.if_icmp .eq 7, 3) := by decide +kernel
theorem dX6_truthsOf_61 : decode cX6_truthsOf 61 = .ok (.iload_n 3, 1) := by decide +kernel
theorem dX6_truthsOf_62 : decode cX6_truthsOf 62 = .ok (.ifCond .ne 8, 3) := by decide +kernel
theorem dX6_truthsOf_65 : decode cX6_truthsOf 65 = .ok (.iload 4, 2) := by decide +kernel
theorem dX6_truthsOf_67 : decode cX6_truthsOf 67 = .ok (.goto 5, 3) := by decide +kernel
theorem dX6_truthsOf_70 : decode cX6_truthsOf 70 = .ok (.iload 5, 2) := by decide +kernel
theorem dX6_truthsOf_72 : decode cX6_truthsOf 72 = .ok (.ireturn, 1) := by decide +kernel
theorem dX6_truths_0 : decode cX6_truths 0 = .ok (.aload_n 0, 1) := by decide +kernel
theorem dX6_truths_1 : decode cX6_truths 1 = .ok (.iload_n 1, 1) := by decide +kernel
theorem dX6_truths_2 : decode cX6_truths 2 = .ok (.invokevirtual 104, 3) := by decide +kernel
theorem dX6_truths_5 : decode cX6_truths 5 = .ok (.ifCond .ne 6, 3) := by decide +kernel
theorem dX6_truths_8 : decode cX6_truths 8 = .ok (.bipush (-101), 2) := by decide +kernel
theorem dX6_truths_10 : decode cX6_truths 10 = .ok (.ireturn, 1) := by decide +kernel
theorem dX6_truths_11 : decode cX6_truths 11 = .ok (.iload_n 2, 1) := by decide +kernel
theorem dX6_truths_12 : decode cX6_truths 12 = .ok (.i2l, 1) := by decide +kernel
theorem dX6_truths_13 : decode cX6_truths 13 = .ok (.lconst 0, 1) := by decide +kernel
theorem dX6_truths_14 : decode cX6_truths 14 = .ok (.ldc2_w 100, 3) := by decide +kernel
theorem dX6_truths_17 : decode cX6_truths 17 = .ok (.invokestatic 55, 3) := by decide +kernel
theorem dX6_truths_20 : decode cX6_truths 20 = .ok (.ifCond .eq 12, 3) := by decide +kernel
theorem dX6_truths_23 : decode cX6_truths 23 = .ok (.aload_n 0, 1) := by decide +kernel
theorem dX6_truths_24 : decode cX6_truths 24 = .ok (.iload_n 1, 1) := by decide +kernel
theorem dX6_truths_25 : decode cX6_truths 25 = .ok (.iload_n 2, 1) := by decide +kernel
theorem dX6_truths_26 : decode cX6_truths 26 = .ok (.invokevirtual 168, 3) := by decide +kernel
theorem dX6_truths_29 : decode cX6_truths 29 = .ok (.goto 5, 3) := by decide +kernel
theorem dX6_truths_32 : decode cX6_truths 32 = .ok (.bipush (-102), 2) := by decide +kernel
theorem dX6_truths_34 : decode cX6_truths 34 = .ok (.ireturn, 1) := by decide +kernel
theorem dX6_attemptOf_0 : decode cX6_attemptOf 0 = .ok (.iconst (-1), 1) := by decide +kernel
theorem dX6_attemptOf_1 : decode cX6_attemptOf 1 = .ok (.istore_n 2, 1) := by decide +kernel
theorem dX6_attemptOf_2 : decode cX6_attemptOf 2 = .ok (.bipush 65, 2) := by decide +kernel
theorem dX6_attemptOf_4 : decode cX6_attemptOf 4 = .ok (.istore_n 3, 1) := by decide +kernel
theorem dX6_attemptOf_5 : decode cX6_attemptOf 5 = .ok (.iconst 0, 1) := by decide +kernel
theorem dX6_attemptOf_6 : decode cX6_attemptOf 6 = .ok (.istore 4, 2) := by decide +kernel
theorem dX6_attemptOf_8 : decode cX6_attemptOf 8 = .ok (.iload 4, 2) := by decide +kernel
theorem dX6_attemptOf_10 : decode cX6_attemptOf 10 = .ok (.bipush 6, 2) := by decide +kernel
theorem dX6_attemptOf_12 : decode cX6_attemptOf 12 = .ok (.if_icmp .ge 138, 3) := by decide +kernel
theorem dX6_attemptOf_15 : decode cX6_attemptOf 15 = .ok (.iconst 0, 1) := by decide +kernel
theorem dX6_attemptOf_16 : decode cX6_attemptOf 16 = .ok (.istore 5, 2) := by decide +kernel
theorem dX6_attemptOf_18 : decode cX6_attemptOf 18 = .ok (.iconst 0, 1) := by decide +kernel
theorem dX6_attemptOf_19 : decode cX6_attemptOf 19 = .ok (.istore 6, 2) := by decide +kernel
theorem dX6_attemptOf_21 : decode cX6_attemptOf 21 = .ok (.iconst 0, 1) := by decide +kernel
theorem dX6_attemptOf_22 : decode cX6_attemptOf 22 = .ok (.istore 7, 2) := by decide +kernel
theorem dX6_attemptOf_24 : decode cX6_attemptOf 24 = .ok (.iload 7, 2) := by decide +kernel
theorem dX6_attemptOf_26 : decode cX6_attemptOf 26 = .ok (.bipush 64, 2) := by decide +kernel
theorem dX6_attemptOf_28 : decode cX6_attemptOf 28 = .ok (.if_icmp .ge 69, 3) := by decide +kernel
theorem dX6_attemptOf_31 : decode cX6_attemptOf 31 = .ok (.aload_n 0, 1) := by decide +kernel
theorem dX6_attemptOf_32 : decode cX6_attemptOf 32 = .ok (.iload_n 1, 1) := by decide +kernel
theorem dX6_attemptOf_33 : decode cX6_attemptOf 33 = .ok (.iload 7, 2) := by decide +kernel
theorem dX6_attemptOf_35 : decode cX6_attemptOf 35 = .ok (.invokevirtual 165, 3) := by decide +kernel
theorem dX6_attemptOf_38 : decode cX6_attemptOf 38 = .ok (.istore 8, 2) := by decide +kernel
theorem dX6_attemptOf_40 : decode cX6_attemptOf 40 = .ok (.iload 5, 2) := by decide +kernel
theorem dX6_attemptOf_42 : decode cX6_attemptOf 42 = .ok (.iload 8, 2) := by decide +kernel
theorem dX6_attemptOf_44 : decode cX6_attemptOf 44 = .ok (.ifCond .eq 18, 3) := by decide +kernel
theorem dX6_attemptOf_47 : decode cX6_attemptOf 47 = .ok (.iload 7, 2) := by decide +kernel
theorem dX6_attemptOf_49 : decode cX6_attemptOf 49 = .ok (.iload 4, 2) := by decide +kernel
theorem dX6_attemptOf_51 : decode cX6_attemptOf 51 = .ok (.ishr, 1) := by decide +kernel
theorem dX6_attemptOf_52 : decode cX6_attemptOf 52 = .ok (.iconst 1, 1) := by decide +kernel
theorem dX6_attemptOf_53 : decode cX6_attemptOf 53 = .ok (.iand, 1) := by decide +kernel
theorem dX6_attemptOf_54 : decode cX6_attemptOf 54 = .ok (.iconst 1, 1) := by decide +kernel
theorem dX6_attemptOf_55 : decode cX6_attemptOf 55 = .ok (.if_icmp .ne 7, 3) := by decide +kernel
theorem dX6_attemptOf_58 : decode cX6_attemptOf 58 = .ok (.iconst 1, 1) := by decide +kernel
theorem dX6_attemptOf_59 : decode cX6_attemptOf 59 = .ok (.goto 4, 3) := by decide +kernel
theorem dX6_attemptOf_62 : decode cX6_attemptOf 62 = .ok (.iconst 0, 1) := by decide +kernel
theorem dX6_attemptOf_63 : decode cX6_attemptOf 63 = .ok (.iadd, 1) := by decide +kernel
theorem dX6_attemptOf_64 : decode cX6_attemptOf 64 = .ok (.istore 5, 2) := by decide +kernel
theorem dX6_attemptOf_66 : decode cX6_attemptOf 66 = .ok (.iload 6, 2) := by decide +kernel
theorem dX6_attemptOf_68 : decode cX6_attemptOf 68 = .ok (.iload 8, 2) := by decide +kernel
theorem dX6_attemptOf_70 : decode cX6_attemptOf 70 = .ok (.ifCond .eq 17, 3) := by decide +kernel
theorem dX6_attemptOf_73 : decode cX6_attemptOf 73 = .ok (.iload 7, 2) := by decide +kernel
theorem dX6_attemptOf_75 : decode cX6_attemptOf 75 = .ok (.iload 4, 2) := by decide +kernel
theorem dX6_attemptOf_77 : decode cX6_attemptOf 77 = .ok (.ishr, 1) := by decide +kernel
theorem dX6_attemptOf_78 : decode cX6_attemptOf 78 = .ok (.iconst 1, 1) := by decide +kernel
theorem dX6_attemptOf_79 : decode cX6_attemptOf 79 = .ok (.iand, 1) := by decide +kernel
theorem dX6_attemptOf_80 : decode cX6_attemptOf 80 = .ok (.ifCond .ne 7, 3) := by decide +kernel
theorem dX6_attemptOf_83 : decode cX6_attemptOf 83 = .ok (.iconst 1, 1) := by decide +kernel
theorem dX6_attemptOf_84 : decode cX6_attemptOf 84 = .ok (.goto 4, 3) := by decide +kernel
theorem dX6_attemptOf_87 : decode cX6_attemptOf 87 = .ok (.iconst 0, 1) := by decide +kernel
theorem dX6_attemptOf_88 : decode cX6_attemptOf 88 = .ok (.iadd, 1) := by decide +kernel
theorem dX6_attemptOf_89 : decode cX6_attemptOf 89 = .ok (.istore 6, 2) := by decide +kernel
theorem dX6_attemptOf_91 : decode cX6_attemptOf 91 = .ok (.iinc 7 1, 3) := by decide +kernel
theorem dX6_attemptOf_94 : decode cX6_attemptOf 94 = .ok (.goto (-70), 3) := by decide +kernel
theorem dX6_attemptOf_97 : decode cX6_attemptOf 97 = .ok (.iload 5, 2) := by decide +kernel
theorem dX6_attemptOf_99 : decode cX6_attemptOf 99 = .ok (.iload 6, 2) := by decide +kernel
theorem dX6_attemptOf_101 : decode cX6_attemptOf 101 = .ok (.if_icmp .le 8, 3) := by decide +kernel
theorem dX6_attemptOf_104 : decode cX6_attemptOf 104 = .ok (.iload 5, 2) := by decide +kernel
theorem dX6_attemptOf_106 : decode cX6_attemptOf 106 = .ok (.goto 5, 3) := by decide +kernel
theorem dX6_attemptOf_109 : decode cX6_attemptOf 109 = .ok (.iload 6, 2) := by decide +kernel
theorem dX6_attemptOf_111 : decode cX6_attemptOf 111 = .ok (.istore 7, 2) := by decide +kernel
theorem dX6_attemptOf_113 : decode cX6_attemptOf 113 = .ok (.iload 7, 2) := by decide +kernel
theorem dX6_attemptOf_115 : decode cX6_attemptOf 115 = .ok (.ifCond .le 14, 3) := by decide +kernel
theorem dX6_attemptOf_118 : decode cX6_attemptOf 118 = .ok (.iload 7, 2) := by decide +kernel
theorem dX6_attemptOf_120 : decode cX6_attemptOf 120 = .ok (.iload_n 3, 1) := by decide +kernel
theorem dX6_attemptOf_121 : decode cX6_attemptOf 121 = .ok (.if_icmp .ge 8, 3) := by decide +kernel
theorem dX6_attemptOf_124 : decode cX6_attemptOf 124 = .ok (.iload 4, 2) := by decide +kernel
theorem dX6_attemptOf_126 : decode cX6_attemptOf 126 = .ok (.goto 4, 3) := by decide +kernel
theorem dX6_attemptOf_129 : decode cX6_attemptOf 129 = .ok (.iload_n 2, 1) := by decide +kernel
theorem dX6_attemptOf_130 : decode cX6_attemptOf 130 = .ok (.istore_n 2, 1) := by decide +kernel
theorem dX6_attemptOf_131 : decode cX6_attemptOf 131 = .ok (.iload 7, 2) := by decide +kernel
theorem dX6_attemptOf_133 : decode cX6_attemptOf 133 = .ok (.iload_n 3, 1) := by decide +kernel
theorem dX6_attemptOf_134 : decode cX6_attemptOf 134 = .ok (.if_icmp .ge 8, 3) := by decide +kernel
theorem dX6_attemptOf_137 : decode cX6_attemptOf 137 = .ok (.iload 7, 2) := by decide +kernel
theorem dX6_attemptOf_139 : decode cX6_attemptOf 139 = .ok (.goto 4, 3) := by decide +kernel
theorem dX6_attemptOf_142 : decode cX6_attemptOf 142 = .ok (.iload_n 3, 1) := by decide +kernel
theorem dX6_attemptOf_143 : decode cX6_attemptOf 143 = .ok (.istore_n 3, 1) := by decide +kernel
theorem dX6_attemptOf_144 : decode cX6_attemptOf 144 = .ok (.iinc 4 1, 3) := by decide +kernel
theorem dX6_attemptOf_147 : decode cX6_attemptOf 147 = .ok (.goto (-139), 3) := by decide +kernel
theorem dX6_attemptOf_150 : decode cX6_attemptOf 150 = .ok (.iload_n 2, 1) := by decide +kernel
theorem dX6_attemptOf_151 : decode cX6_attemptOf 151 = .ok (.ireturn, 1) := by decide +kernel
theorem dX6_attempt_0 : decode cX6_attempt 0 = .ok (.aload_n 0, 1) := by decide +kernel
theorem dX6_attempt_1 : decode cX6_attempt 1 = .ok (.iload_n 1, 1) := by decide +kernel
theorem dX6_attempt_2 : decode cX6_attempt 2 = .ok (.invokevirtual 104, 3) := by decide +kernel
theorem dX6_attempt_5 : decode cX6_attempt 5 = .ok (.ifCond .eq 11, 3) := by decide +kernel
theorem dX6_attempt_8 : decode cX6_attempt 8 = .ok (.aload_n 0, 1) := by decide +kernel
theorem dX6_attempt_9 : decode cX6_attempt 9 = .ok (.iload_n 1, 1) := by decide +kernel
theorem dX6_attempt_10 : decode cX6_attempt 10 = .ok (.invokevirtual 171, 3) := by decide +kernel
theorem dX6_attempt_13 : decode cX6_attempt 13 = .ok (.goto 5, 3) := by decide +kernel
theorem dX6_attempt_16 : decode cX6_attempt 16 = .ok (.bipush (-101), 2) := by decide +kernel
theorem dX6_attempt_18 : decode cX6_attempt 18 = .ok (.ireturn, 1) := by decide +kernel
theorem dX6_draw_0 : decode cX6_draw 0 = .ok (.aload_n 0, 1) := by decide +kernel
theorem dX6_draw_1 : decode cX6_draw 1 = .ok (.ldc2_w 174, 3) := by decide +kernel
theorem dX6_draw_4 : decode cX6_draw 4 = .ok (.aload_n 0, 1) := by decide +kernel
theorem dX6_draw_5 : decode cX6_draw 5 = .ok (.getfield 176, 3) := by decide +kernel
theorem dX6_draw_8 : decode cX6_draw 8 = .ok (.i2l, 1) := by decide +kernel
theorem dX6_draw_9 : decode cX6_draw 9 = .ok (.lmul, 1) := by decide +kernel
theorem dX6_draw_10 : decode cX6_draw 10 = .ok (.ldc2_w 179, 3) := by decide +kernel
theorem dX6_draw_13 : decode cX6_draw 13 = .ok (.ladd, 1) := by decide +kernel
theorem dX6_draw_14 : decode cX6_draw 14 = .ok (.ldc2_w 181, 3) := by decide +kernel
theorem dX6_draw_17 : decode cX6_draw 17 = .ok (.land, 1) := by decide +kernel
theorem dX6_draw_18 : decode cX6_draw 18 = .ok (.l2i, 1) := by decide +kernel
theorem dX6_draw_19 : decode cX6_draw 19 = .ok (.putfield 176, 3) := by decide +kernel
theorem dX6_draw_22 : decode cX6_draw 22 = .ok (.aload_n 0, 1) := by decide +kernel
theorem dX6_draw_23 : decode cX6_draw 23 = .ok (.getfield 176, 3) := by decide +kernel
theorem dX6_draw_26 : decode cX6_draw 26 = .ok (.ldc 183, 2) := by decide +kernel
theorem dX6_draw_28 : decode cX6_draw 28 = .ok (.idiv, 1) := by decide +kernel
theorem dX6_draw_29 : decode cX6_draw 29 = .ok (.iload_n 1, 1) := by decide +kernel
theorem dX6_draw_30 : decode cX6_draw 30 = .ok (.irem, 1) := by decide +kernel
theorem dX6_draw_31 : decode cX6_draw 31 = .ok (.ireturn, 1) := by decide +kernel
theorem dX6_paidMany_0 : decode cX6_paidMany 0 = .ok (.iconst 0, 1) := by decide +kernel
theorem dX6_paidMany_1 : decode cX6_paidMany 1 = .ok (.istore_n 1, 1) := by decide +kernel
theorem dX6_paidMany_2 : decode cX6_paidMany 2 = .ok (.iconst 0, 1) := by decide +kernel
theorem dX6_paidMany_3 : decode cX6_paidMany 3 = .ok (.istore_n 2, 1) := by decide +kernel
theorem dX6_paidMany_4 : decode cX6_paidMany 4 = .ok (.iload_n 2, 1) := by decide +kernel
theorem dX6_paidMany_5 : decode cX6_paidMany 5 = .ok (.aload_n 0, 1) := by decide +kernel
theorem dX6_paidMany_6 : decode cX6_paidMany 6 = .ok (.getfield 88, 3) := by decide +kernel
theorem dX6_paidMany_9 : decode cX6_paidMany 9 = .ok (.if_icmp .ge 31, 3) := by decide +kernel
theorem dX6_paidMany_12 : decode cX6_paidMany 12 = .ok (.iload_n 1, 1) := by decide +kernel
theorem dX6_paidMany_13 : decode cX6_paidMany 13 = .ok (.aload_n 0, 1) := by decide +kernel
theorem dX6_paidMany_14 : decode cX6_paidMany 14 = .ok (.getfield 19, 3) := by decide +kernel
theorem dX6_paidMany_17 : decode cX6_paidMany 17 = .ok (.bipush 6, 2) := by decide +kernel
theorem dX6_paidMany_19 : decode cX6_paidMany 19 = .ok (.iload_n 2, 1) := by decide +kernel
theorem dX6_paidMany_20 : decode cX6_paidMany 20 = .ok (.imul, 1) := by decide +kernel
theorem dX6_paidMany_21 : decode cX6_paidMany 21 = .ok (.iconst 2, 1) := by decide +kernel
theorem dX6_paidMany_22 : decode cX6_paidMany 22 = .ok (.iadd, 1) := by decide +kernel
theorem dX6_paidMany_23 : decode cX6_paidMany 23 = .ok (.iaload, 1) := by decide +kernel
theorem dX6_paidMany_24 : decode cX6_paidMany 24 = .ok (.ifCond .ne 7, 3) := by decide +kernel
theorem dX6_paidMany_27 : decode cX6_paidMany 27 = .ok (.iconst 1, 1) := by decide +kernel
theorem dX6_paidMany_28 : decode cX6_paidMany 28 = .ok (.goto 4, 3) := by decide +kernel
theorem dX6_paidMany_31 : decode cX6_paidMany 31 = .ok (.iconst 0, 1) := by decide +kernel
theorem dX6_paidMany_32 : decode cX6_paidMany 32 = .ok (.iadd, 1) := by decide +kernel
theorem dX6_paidMany_33 : decode cX6_paidMany 33 = .ok (.istore_n 1, 1) := by decide +kernel
theorem dX6_paidMany_34 : decode cX6_paidMany 34 = .ok (.iinc 2 1, 3) := by decide +kernel
theorem dX6_paidMany_37 : decode cX6_paidMany 37 = .ok (.goto (-33), 3) := by decide +kernel
theorem dX6_paidMany_40 : decode cX6_paidMany 40 = .ok (.iload_n 1, 1) := by decide +kernel
theorem dX6_paidMany_41 : decode cX6_paidMany 41 = .ok (.ireturn, 1) := by decide +kernel
theorem dX6_dayOf_0 : decode cX6_dayOf 0 = .ok (.iconst 0, 1) := by decide +kernel
theorem dX6_dayOf_1 : decode cX6_dayOf 1 = .ok (.istore_n 2, 1) := by decide +kernel
theorem dX6_dayOf_2 : decode cX6_dayOf 2 = .ok (.aload_n 0, 1) := by decide +kernel
theorem dX6_dayOf_3 : decode cX6_dayOf 3 = .ok (.getfield 19, 3) := by decide +kernel
theorem dX6_dayOf_6 : decode cX6_dayOf 6 = .ok (.bipush 6, 2) := by decide +kernel
theorem dX6_dayOf_8 : decode cX6_dayOf 8 = .ok (.iload_n 1, 1) := by decide +kernel
theorem dX6_dayOf_9 : decode cX6_dayOf 9 = .ok (.imul, 1) := by decide +kernel
theorem dX6_dayOf_10 : decode cX6_dayOf 10 = .ok (.iconst 2, 1) := by decide +kernel
theorem dX6_dayOf_11 : decode cX6_dayOf 11 = .ok (.iadd, 1) := by decide +kernel
theorem dX6_dayOf_12 : decode cX6_dayOf 12 = .ok (.iaload, 1) := by decide +kernel
theorem dX6_dayOf_13 : decode cX6_dayOf 13 = .ok (.ifCond .le 64, 3) := by decide +kernel
theorem dX6_dayOf_16 : decode cX6_dayOf 16 = .ok (.aload_n 0, 1) := by decide +kernel
theorem dX6_dayOf_17 : decode cX6_dayOf 17 = .ok (.getfield 19, 3) := by decide +kernel
theorem dX6_dayOf_20 : decode cX6_dayOf 20 = .ok (.bipush 6, 2) := by decide +kernel
theorem dX6_dayOf_22 : decode cX6_dayOf 22 = .ok (.iload_n 1, 1) := by decide +kernel
theorem dX6_dayOf_23 : decode cX6_dayOf 23 = .ok (.imul, 1) := by decide +kernel
theorem dX6_dayOf_24 : decode cX6_dayOf 24 = .ok (.iconst 4, 1) := by decide +kernel
theorem dX6_dayOf_25 : decode cX6_dayOf 25 = .ok (.iadd, 1) := by decide +kernel
theorem dX6_dayOf_26 : decode cX6_dayOf 26 = .ok (.iaload, 1) := by decide +kernel
theorem dX6_dayOf_27 : decode cX6_dayOf 27 = .ok (.ifCond .le 50, 3) := by decide +kernel
theorem dX6_dayOf_30 : decode cX6_dayOf 30 = .ok (.aload_n 0, 1) := by decide +kernel
theorem dX6_dayOf_31 : decode cX6_dayOf 31 = .ok (.bipush 6, 2) := by decide +kernel
theorem dX6_dayOf_33 : decode cX6_dayOf 33 = .ok (.invokevirtual 184, 3) := by decide +kernel
theorem dX6_dayOf_36 : decode cX6_dayOf 36 = .ok (.istore_n 3, 1) := by decide +kernel
theorem dX6_dayOf_37 : decode cX6_dayOf 37 = .ok (.aload_n 0, 1) := by decide +kernel
theorem dX6_dayOf_38 : decode cX6_dayOf 38 = .ok (.getfield 19, 3) := by decide +kernel
theorem dX6_dayOf_41 : decode cX6_dayOf 41 = .ok (.bipush 6, 2) := by decide +kernel
theorem dX6_dayOf_43 : decode cX6_dayOf 43 = .ok (.iload_n 1, 1) := by decide +kernel
theorem dX6_dayOf_44 : decode cX6_dayOf 44 = .ok (.imul, 1) := by decide +kernel
theorem dX6_dayOf_45 : decode cX6_dayOf 45 = .ok (.iconst 4, 1) := by decide +kernel
theorem dX6_dayOf_46 : decode cX6_dayOf 46 = .ok (.iadd, 1) := by decide +kernel
theorem dX6_dayOf_47 : decode cX6_dayOf 47 = .ok (.dup2, 1) := by decide +kernel
theorem dX6_dayOf_48 : decode cX6_dayOf 48 = .ok (.iaload, 1) := by decide +kernel
theorem dX6_dayOf_49 : decode cX6_dayOf 49 = .ok (.iconst 1, 1) := by decide +kernel
theorem dX6_dayOf_50 : decode cX6_dayOf 50 = .ok (.isub, 1) := by decide +kernel
theorem dX6_dayOf_51 : decode cX6_dayOf 51 = .ok (.iastore, 1) := by decide +kernel
theorem dX6_dayOf_52 : decode cX6_dayOf 52 = .ok (.iload_n 2, 1) := by decide +kernel
theorem dX6_dayOf_53 : decode cX6_dayOf 53 = .ok (.aload_n 0, 1) := by decide +kernel
theorem dX6_dayOf_54 : decode cX6_dayOf 54 = .ok (.iload_n 1, 1) := by decide +kernel
theorem dX6_dayOf_55 : decode cX6_dayOf 55 = .ok (.iload_n 3, 1) := by decide +kernel
theorem dX6_dayOf_56 : decode cX6_dayOf 56 = .ok (.invokevirtual 140, 3) := by decide +kernel
theorem dX6_dayOf_59 : decode cX6_dayOf 59 = .ok (.ifCond .eq 12, 3) := by decide +kernel
theorem dX6_dayOf_62 : decode cX6_dayOf 62 = .ok (.aload_n 0, 1) := by decide +kernel
theorem dX6_dayOf_63 : decode cX6_dayOf 63 = .ok (.iload_n 1, 1) := by decide +kernel
theorem dX6_dayOf_64 : decode cX6_dayOf 64 = .ok (.iload_n 3, 1) := by decide +kernel
theorem dX6_dayOf_65 : decode cX6_dayOf 65 = .ok (.invokevirtual 143, 3) := by decide +kernel
theorem dX6_dayOf_68 : decode cX6_dayOf 68 = .ok (.goto 4, 3) := by decide +kernel
theorem dX6_dayOf_71 : decode cX6_dayOf 71 = .ok (.iconst 0, 1) := by decide +kernel
theorem dX6_dayOf_72 : decode cX6_dayOf 72 = .ok (.iadd, 1) := by decide +kernel
theorem dX6_dayOf_73 : decode cX6_dayOf 73 = .ok (.istore_n 2, 1) := by decide +kernel
theorem dX6_dayOf_74 : decode cX6_dayOf 74 = .ok (.goto (-72), 3) := by decide +kernel
theorem dX6_dayOf_77 : decode cX6_dayOf 77 = .ok (.iload_n 2, 1) := by decide +kernel
theorem dX6_dayOf_78 : decode cX6_dayOf 78 = .ok (.ireturn, 1) := by decide +kernel
theorem dX6_weeks_0 : decode cX6_weeks 0 = .ok (.iload_n 1, 1) := by decide +kernel
theorem dX6_weeks_1 : decode cX6_weeks 1 = .ok (.i2l, 1) := by decide +kernel
theorem dX6_weeks_2 : decode cX6_weeks 2 = .ok (.lconst 1, 1) := by decide +kernel
theorem dX6_weeks_3 : decode cX6_weeks 3 = .ok (.ldc2_w 187, 3) := by decide +kernel
theorem dX6_weeks_6 : decode cX6_weeks 6 = .ok (.invokestatic 55, 3) := by decide +kernel
theorem dX6_weeks_9 : decode cX6_weeks 9 = .ok (.ifCond .eq 19, 3) := by decide +kernel
theorem dX6_weeks_12 : decode cX6_weeks 12 = .ok (.iload_n 2, 1) := by decide +kernel
theorem dX6_weeks_13 : decode cX6_weeks 13 = .ok (.ifCond .lt 15, 3) := by decide +kernel
theorem dX6_weeks_16 : decode cX6_weeks 16 = .ok (.iload_n 3, 1) := by decide +kernel
theorem dX6_weeks_17 : decode cX6_weeks 17 = .ok (.i2l, 1) := by decide +kernel
theorem dX6_weeks_18 : decode cX6_weeks 18 = .ok (.lconst 0, 1) := by decide +kernel
theorem dX6_weeks_19 : decode cX6_weeks 19 = .ok (.ldc2_w 100, 3) := by decide +kernel
theorem dX6_weeks_22 : decode cX6_weeks 22 = .ok (.invokestatic 55, 3) := by decide +kernel
theorem dX6_weeks_25 : decode cX6_weeks 25 = .ok (.ifCond .ne 6, 3) := by decide +kernel
theorem dX6_weeks_28 : decode cX6_weeks 28 = .ok (.bipush (-102), 2) := by decide +kernel
theorem dX6_weeks_30 : decode cX6_weeks 30 = .ok (.ireturn, 1) := by decide +kernel
theorem dX6_weeks_31 : decode cX6_weeks 31 = .ok (.aload_n 0, 1) := by decide +kernel
theorem dX6_weeks_32 : decode cX6_weeks 32 = .ok (.getfield 88, 3) := by decide +kernel
theorem dX6_weeks_35 : decode cX6_weeks 35 = .ok (.ifCond .ne 6, 3) := by decide +kernel
theorem dX6_weeks_38 : decode cX6_weeks 38 = .ok (.bipush (-103), 2) := by decide +kernel
theorem dX6_weeks_40 : decode cX6_weeks 40 = .ok (.ireturn, 1) := by decide +kernel
theorem dX6_weeks_41 : decode cX6_weeks 41 = .ok (.aload_n 0, 1) := by decide +kernel
theorem dX6_weeks_42 : decode cX6_weeks 42 = .ok (.getfield 19, 3) := by decide +kernel
theorem dX6_weeks_45 : decode cX6_weeks 45 = .ok (.aload_n 0, 1) := by decide +kernel
theorem dX6_weeks_46 : decode cX6_weeks 46 = .ok (.getfield 34, 3) := by decide +kernel
theorem dX6_weeks_49 : decode cX6_weeks 49 = .ok (.invokestatic 152, 3) := by decide +kernel
theorem dX6_weeks_52 : decode cX6_weeks 52 = .ok (.aload_n 0, 1) := by decide +kernel
theorem dX6_weeks_53 : decode cX6_weeks 53 = .ok (.getfield 16, 3) := by decide +kernel
theorem dX6_weeks_56 : decode cX6_weeks 56 = .ok (.aload_n 0, 1) := by decide +kernel
theorem dX6_weeks_57 : decode cX6_weeks 57 = .ok (.getfield 37, 3) := by decide +kernel
theorem dX6_weeks_60 : decode cX6_weeks 60 = .ok (.invokestatic 152, 3) := by decide +kernel
theorem dX6_weeks_63 : decode cX6_weeks 63 = .ok (.aload_n 0, 1) := by decide +kernel
theorem dX6_weeks_64 : decode cX6_weeks 64 = .ok (.getfield 78, 3) := by decide +kernel
theorem dX6_weeks_67 : decode cX6_weeks 67 = .ok (.istore 4, 2) := by decide +kernel
theorem dX6_weeks_69 : decode cX6_weeks 69 = .ok (.aload_n 0, 1) := by decide +kernel
theorem dX6_weeks_70 : decode cX6_weeks 70 = .ok (.iload_n 2, 1) := by decide +kernel
theorem dX6_weeks_71 : decode cX6_weeks 71 = .ok (.putfield 176, 3) := by decide +kernel
theorem dX6_weeks_74 : decode cX6_weeks 74 = .ok (.iconst 0, 1) := by decide +kernel
theorem dX6_weeks_75 : decode cX6_weeks 75 = .ok (.istore 5, 2) := by decide +kernel
theorem dX6_weeks_77 : decode cX6_weeks 77 = .ok (.iconst 0, 1) := by decide +kernel
theorem dX6_weeks_78 : decode cX6_weeks 78 = .ok (.istore 6, 2) := by decide +kernel
theorem dX6_weeks_80 : decode cX6_weeks 80 = .ok (.iload 6, 2) := by decide +kernel
theorem dX6_weeks_82 : decode cX6_weeks 82 = .ok (.iload_n 1, 1) := by decide +kernel
theorem dX6_weeks_83 : decode cX6_weeks 83 = .ok (.if_icmp .ge 42, 3) := by decide +kernel
theorem dX6_weeks_86 : decode cX6_weeks 86 = .ok (.iconst 0, 1) := by decide +kernel
theorem dX6_weeks_87 : decode cX6_weeks 87 = .ok (.istore 7, 2) := by decide +kernel
theorem dX6_weeks_89 : decode cX6_weeks 89 = .ok (.iload 7, 2) := by decide +kernel
theorem dX6_weeks_91 : decode cX6_weeks 91 = .ok (.aload_n 0, 1) := by decide +kernel
theorem dX6_weeks_92 : decode cX6_weeks 92 = .ok (.getfield 88, 3) := by decide +kernel
theorem dX6_weeks_95 : decode cX6_weeks 95 = .ok (.if_icmp .ge 20, 3) := by decide +kernel
theorem dX6_weeks_98 : decode cX6_weeks 98 = .ok (.iload 5, 2) := by decide +kernel
theorem dX6_weeks_100 : decode cX6_weeks 100 = .ok (.aload_n 0, 1) := by decide +kernel
theorem dX6_weeks_101 : decode cX6_weeks 101 = .ok (.iload 7, 2) := by decide +kernel
theorem dX6_weeks_103 : decode cX6_weeks 103 = .ok (.invokevirtual 189, 3) := by decide +kernel
theorem dX6_weeks_106 : decode cX6_weeks 106 = .ok (.iadd, 1) := by decide +kernel
theorem dX6_weeks_107 : decode cX6_weeks 107 = .ok (.istore 5, 2) := by decide +kernel
theorem dX6_weeks_109 : decode cX6_weeks 109 = .ok (.iinc 7 1, 3) := by decide +kernel
theorem dX6_weeks_112 : decode cX6_weeks 112 = .ok (.goto (-23), 3) := by decide +kernel
theorem dX6_weeks_115 : decode cX6_weeks 115 = .ok (.aload_n 0, 1) := by decide +kernel
theorem dX6_weeks_116 : decode cX6_weeks 116 = .ok (.invokevirtual 146, 3) := by decide +kernel
theorem dX6_weeks_119 : decode cX6_weeks 119 = .ok (.iinc 6 1, 3) := by decide +kernel
theorem dX6_weeks_122 : decode cX6_weeks 122 = .ok (.goto (-42), 3) := by decide +kernel
theorem dX6_weeks_125 : decode cX6_weeks 125 = .ok (.aload_n 0, 1) := by decide +kernel
theorem dX6_weeks_126 : decode cX6_weeks 126 = .ok (.invokevirtual 192, 3) := by decide +kernel
theorem dX6_weeks_129 : decode cX6_weeks 129 = .ok (.istore 6, 2) := by decide +kernel
end
section
theorem dX6_weeks_131 : decode cX6_weeks 131 = .ok (.aload_n 0, 1) := by decide +kernel
theorem dX6_weeks_132 : decode cX6_weeks 132 = .ok (.getfield 34, 3) := by decide +kernel
theorem dX6_weeks_135 : decode cX6_weeks 135 = .ok (.aload_n 0, 1) := by decide +kernel
theorem dX6_weeks_136 : decode cX6_weeks 136 = .ok (.getfield 19, 3) := by decide +kernel
theorem dX6_weeks_139 : decode cX6_weeks 139 = .ok (.invokestatic 152, 3) := by decide +kernel
theorem dX6_weeks_142 : decode cX6_weeks 142 = .ok (.aload_n 0, 1) := by decide +kernel
theorem dX6_weeks_143 : decode cX6_weeks 143 = .ok (.getfield 37, 3) := by decide +kernel
theorem dX6_weeks_146 : decode cX6_weeks 146 = .ok (.aload_n 0, 1) := by decide +kernel
theorem dX6_weeks_147 : decode cX6_weeks 147 = .ok (.getfield 16, 3) := by decide +kernel
theorem dX6_weeks_150 : decode cX6_weeks 150 = .ok (.invokestatic 152, 3) := by decide +kernel
theorem dX6_weeks_153 : decode cX6_weeks 153 = .ok (.aload_n 0, 1) := by decide +kernel
theorem dX6_weeks_154 : decode cX6_weeks 154 = .ok (.iload 4, 2) := by decide +kernel
theorem dX6_weeks_156 : decode cX6_weeks 156 = .ok (.putfield 78, 3) := by decide +kernel
theorem dX6_weeks_159 : decode cX6_weeks 159 = .ok (.iload_n 3, 1) := by decide +kernel
theorem dX6_weeks_160 : decode cX6_weeks 160 = .ok (.ifCond .ne 8, 3) := by decide +kernel
theorem dX6_weeks_163 : decode cX6_weeks 163 = .ok (.iload 5, 2) := by decide +kernel
theorem dX6_weeks_165 : decode cX6_weeks 165 = .ok (.goto 17, 3) := by decide +kernel
theorem dX6_weeks_168 : decode cX6_weeks 168 = .ok (.iload_n 3, 1) := by decide +kernel
theorem dX6_weeks_169 : decode cX6_weeks 169 = .ok (.iconst 1, 1) := by decide +kernel
theorem dX6_weeks_170 : decode cX6_weeks 170 = .ok (.if_icmp .ne 8, 3) := by decide +kernel
theorem dX6_weeks_173 : decode cX6_weeks 173 = .ok (.iload 6, 2) := by decide +kernel
theorem dX6_weeks_175 : decode cX6_weeks 175 = .ok (.goto 7, 3) := by decide +kernel
theorem dX6_weeks_178 : decode cX6_weeks 178 = .ok (.aload_n 0, 1) := by decide +kernel
theorem dX6_weeks_179 : decode cX6_weeks 179 = .ok (.getfield 176, 3) := by decide +kernel
theorem dX6_weeks_182 : decode cX6_weeks 182 = .ok (.ireturn, 1) := by decide +kernel
theorem dX6_image_0 : decode cX6_image 0 = .ok (.aload_n 0, 1) := by decide +kernel
theorem dX6_image_1 : decode cX6_image 1 = .ok (.getfield 81, 3) := by decide +kernel
theorem dX6_image_4 : decode cX6_image 4 = .ok (.ifCond .ne 6, 3) := by decide +kernel
theorem dX6_image_7 : decode cX6_image 7 = .ok (.bipush (-103), 2) := by decide +kernel
theorem dX6_image_9 : decode cX6_image 9 = .ok (.ireturn, 1) := by decide +kernel
theorem dX6_image_10 : decode cX6_image 10 = .ok (.aload_n 0, 1) := by decide +kernel
theorem dX6_image_11 : decode cX6_image 11 = .ok (.getfield 19, 3) := by decide +kernel
theorem dX6_image_14 : decode cX6_image 14 = .ok (.aload_n 0, 1) := by decide +kernel
theorem dX6_image_15 : decode cX6_image 15 = .ok (.getfield 40, 3) := by decide +kernel
theorem dX6_image_18 : decode cX6_image 18 = .ok (.invokestatic 152, 3) := by decide +kernel
theorem dX6_image_21 : decode cX6_image 21 = .ok (.aload_n 0, 1) := by decide +kernel
theorem dX6_image_22 : decode cX6_image 22 = .ok (.getfield 16, 3) := by decide +kernel
theorem dX6_image_25 : decode cX6_image 25 = .ok (.aload_n 0, 1) := by decide +kernel
theorem dX6_image_26 : decode cX6_image 26 = .ok (.getfield 43, 3) := by decide +kernel
theorem dX6_image_29 : decode cX6_image 29 = .ok (.invokestatic 152, 3) := by decide +kernel
theorem dX6_image_32 : decode cX6_image 32 = .ok (.aload_n 0, 1) := by decide +kernel
theorem dX6_image_33 : decode cX6_image 33 = .ok (.getfield 31, 3) := by decide +kernel
theorem dX6_image_36 : decode cX6_image 36 = .ok (.aload_n 0, 1) := by decide +kernel
theorem dX6_image_37 : decode cX6_image 37 = .ok (.getfield 46, 3) := by decide +kernel
theorem dX6_image_40 : decode cX6_image 40 = .ok (.invokestatic 152, 3) := by decide +kernel
theorem dX6_image_43 : decode cX6_image 43 = .ok (.aload_n 0, 1) := by decide +kernel
theorem dX6_image_44 : decode cX6_image 44 = .ok (.aload_n 0, 1) := by decide +kernel
theorem dX6_image_45 : decode cX6_image 45 = .ok (.getfield 78, 3) := by decide +kernel
theorem dX6_image_48 : decode cX6_image 48 = .ok (.putfield 195, 3) := by decide +kernel
theorem dX6_image_51 : decode cX6_image 51 = .ok (.aload_n 0, 1) := by decide +kernel
theorem dX6_image_52 : decode cX6_image 52 = .ok (.aload_n 0, 1) := by decide +kernel
theorem dX6_image_53 : decode cX6_image 53 = .ok (.getfield 85, 3) := by decide +kernel
theorem dX6_image_56 : decode cX6_image 56 = .ok (.putfield 198, 3) := by decide +kernel
theorem dX6_image_59 : decode cX6_image 59 = .ok (.aload_n 0, 1) := by decide +kernel
theorem dX6_image_60 : decode cX6_image 60 = .ok (.aload_n 0, 1) := by decide +kernel
theorem dX6_image_61 : decode cX6_image 61 = .ok (.getfield 88, 3) := by decide +kernel
theorem dX6_image_64 : decode cX6_image 64 = .ok (.putfield 201, 3) := by decide +kernel
theorem dX6_image_67 : decode cX6_image 67 = .ok (.aload_n 0, 1) := by decide +kernel
theorem dX6_image_68 : decode cX6_image 68 = .ok (.aload_n 0, 1) := by decide +kernel
theorem dX6_image_69 : decode cX6_image 69 = .ok (.getfield 91, 3) := by decide +kernel
theorem dX6_image_72 : decode cX6_image 72 = .ok (.putfield 204, 3) := by decide +kernel
theorem dX6_image_75 : decode cX6_image 75 = .ok (.aload_n 0, 1) := by decide +kernel
theorem dX6_image_76 : decode cX6_image 76 = .ok (.aload_n 0, 1) := by decide +kernel
theorem dX6_image_77 : decode cX6_image 77 = .ok (.getfield 94, 3) := by decide +kernel
theorem dX6_image_80 : decode cX6_image 80 = .ok (.putfield 49, 3) := by decide +kernel
theorem dX6_image_83 : decode cX6_image 83 = .ok (.aload_n 0, 1) := by decide +kernel
theorem dX6_image_84 : decode cX6_image 84 = .ok (.getfield 85, 3) := by decide +kernel
theorem dX6_image_87 : decode cX6_image 87 = .ok (.ireturn, 1) := by decide +kernel
theorem dX6_restore_0 : decode cX6_restore 0 = .ok (.aload_n 0, 1) := by decide +kernel
theorem dX6_restore_1 : decode cX6_restore 1 = .ok (.getfield 49, 3) := by decide +kernel
theorem dX6_restore_4 : decode cX6_restore 4 = .ok (.aload_n 0, 1) := by decide +kernel
theorem dX6_restore_5 : decode cX6_restore 5 = .ok (.getfield 94, 3) := by decide +kernel
theorem dX6_restore_8 : decode cX6_restore 8 = .ok (.if_icmp .eq 6, 3) := by decide +kernel
theorem dX6_restore_11 : decode cX6_restore 11 = .ok (.bipush (-103), 2) := by decide +kernel
theorem dX6_restore_13 : decode cX6_restore 13 = .ok (.ireturn, 1) := by decide +kernel
theorem dX6_restore_14 : decode cX6_restore 14 = .ok (.aload_n 0, 1) := by decide +kernel
theorem dX6_restore_15 : decode cX6_restore 15 = .ok (.getfield 40, 3) := by decide +kernel
theorem dX6_restore_18 : decode cX6_restore 18 = .ok (.aload_n 0, 1) := by decide +kernel
theorem dX6_restore_19 : decode cX6_restore 19 = .ok (.getfield 19, 3) := by decide +kernel
theorem dX6_restore_22 : decode cX6_restore 22 = .ok (.invokestatic 152, 3) := by decide +kernel
theorem dX6_restore_25 : decode cX6_restore 25 = .ok (.aload_n 0, 1) := by decide +kernel
theorem dX6_restore_26 : decode cX6_restore 26 = .ok (.getfield 43, 3) := by decide +kernel
theorem dX6_restore_29 : decode cX6_restore 29 = .ok (.aload_n 0, 1) := by decide +kernel
theorem dX6_restore_30 : decode cX6_restore 30 = .ok (.getfield 16, 3) := by decide +kernel
theorem dX6_restore_33 : decode cX6_restore 33 = .ok (.invokestatic 152, 3) := by decide +kernel
theorem dX6_restore_36 : decode cX6_restore 36 = .ok (.aload_n 0, 1) := by decide +kernel
theorem dX6_restore_37 : decode cX6_restore 37 = .ok (.getfield 46, 3) := by decide +kernel
theorem dX6_restore_40 : decode cX6_restore 40 = .ok (.aload_n 0, 1) := by decide +kernel
theorem dX6_restore_41 : decode cX6_restore 41 = .ok (.getfield 31, 3) := by decide +kernel
theorem dX6_restore_44 : decode cX6_restore 44 = .ok (.invokestatic 152, 3) := by decide +kernel
theorem dX6_restore_47 : decode cX6_restore 47 = .ok (.aload_n 0, 1) := by decide +kernel
theorem dX6_restore_48 : decode cX6_restore 48 = .ok (.aload_n 0, 1) := by decide +kernel
theorem dX6_restore_49 : decode cX6_restore 49 = .ok (.getfield 195, 3) := by decide +kernel
theorem dX6_restore_52 : decode cX6_restore 52 = .ok (.putfield 78, 3) := by decide +kernel
theorem dX6_restore_55 : decode cX6_restore 55 = .ok (.aload_n 0, 1) := by decide +kernel
theorem dX6_restore_56 : decode cX6_restore 56 = .ok (.aload_n 0, 1) := by decide +kernel
theorem dX6_restore_57 : decode cX6_restore 57 = .ok (.getfield 198, 3) := by decide +kernel
theorem dX6_restore_60 : decode cX6_restore 60 = .ok (.putfield 85, 3) := by decide +kernel
theorem dX6_restore_63 : decode cX6_restore 63 = .ok (.aload_n 0, 1) := by decide +kernel
theorem dX6_restore_64 : decode cX6_restore 64 = .ok (.aload_n 0, 1) := by decide +kernel
theorem dX6_restore_65 : decode cX6_restore 65 = .ok (.getfield 201, 3) := by decide +kernel
theorem dX6_restore_68 : decode cX6_restore 68 = .ok (.putfield 88, 3) := by decide +kernel
theorem dX6_restore_71 : decode cX6_restore 71 = .ok (.aload_n 0, 1) := by decide +kernel
theorem dX6_restore_72 : decode cX6_restore 72 = .ok (.aload_n 0, 1) := by decide +kernel
theorem dX6_restore_73 : decode cX6_restore 73 = .ok (.getfield 204, 3) := by decide +kernel
theorem dX6_restore_76 : decode cX6_restore 76 = .ok (.putfield 91, 3) := by decide +kernel
theorem dX6_restore_79 : decode cX6_restore 79 = .ok (.aload_n 0, 1) := by decide +kernel
theorem dX6_restore_80 : decode cX6_restore 80 = .ok (.getfield 85, 3) := by decide +kernel
theorem dX6_restore_83 : decode cX6_restore 83 = .ok (.ireturn, 1) := by decide +kernel
theorem dX6_finesAll_0 : decode cX6_finesAll 0 = .ok (.iconst 0, 1) := by decide +kernel
theorem dX6_finesAll_1 : decode cX6_finesAll 1 = .ok (.istore_n 1, 1) := by decide +kernel
theorem dX6_finesAll_2 : decode cX6_finesAll 2 = .ok (.iconst 0, 1) := by decide +kernel
theorem dX6_finesAll_3 : decode cX6_finesAll 3 = .ok (.istore_n 2, 1) := by decide +kernel
theorem dX6_finesAll_4 : decode cX6_finesAll 4 = .ok (.iload_n 2, 1) := by decide +kernel
theorem dX6_finesAll_5 : decode cX6_finesAll 5 = .ok (.aload_n 0, 1) := by decide +kernel
theorem dX6_finesAll_6 : decode cX6_finesAll 6 = .ok (.getfield 88, 3) := by decide +kernel
theorem dX6_finesAll_9 : decode cX6_finesAll 9 = .ok (.if_icmp .ge 23, 3) := by decide +kernel
theorem dX6_finesAll_12 : decode cX6_finesAll 12 = .ok (.iload_n 1, 1) := by decide +kernel
theorem dX6_finesAll_13 : decode cX6_finesAll 13 = .ok (.aload_n 0, 1) := by decide +kernel
theorem dX6_finesAll_14 : decode cX6_finesAll 14 = .ok (.getfield 19, 3) := by decide +kernel
theorem dX6_finesAll_17 : decode cX6_finesAll 17 = .ok (.bipush 6, 2) := by decide +kernel
theorem dX6_finesAll_19 : decode cX6_finesAll 19 = .ok (.iload_n 2, 1) := by decide +kernel
theorem dX6_finesAll_20 : decode cX6_finesAll 20 = .ok (.imul, 1) := by decide +kernel
theorem dX6_finesAll_21 : decode cX6_finesAll 21 = .ok (.iconst 2, 1) := by decide +kernel
theorem dX6_finesAll_22 : decode cX6_finesAll 22 = .ok (.iadd, 1) := by decide +kernel
theorem dX6_finesAll_23 : decode cX6_finesAll 23 = .ok (.iaload, 1) := by decide +kernel
theorem dX6_finesAll_24 : decode cX6_finesAll 24 = .ok (.iadd, 1) := by decide +kernel
theorem dX6_finesAll_25 : decode cX6_finesAll 25 = .ok (.istore_n 1, 1) := by decide +kernel
theorem dX6_finesAll_26 : decode cX6_finesAll 26 = .ok (.iinc 2 1, 3) := by decide +kernel
theorem dX6_finesAll_29 : decode cX6_finesAll 29 = .ok (.goto (-25), 3) := by decide +kernel
theorem dX6_finesAll_32 : decode cX6_finesAll 32 = .ok (.iload_n 1, 1) := by decide +kernel
theorem dX6_finesAll_33 : decode cX6_finesAll 33 = .ok (.ireturn, 1) := by decide +kernel
theorem dX6_countOf_0 : decode cX6_countOf 0 = .ok (.iload_n 1, 1) := by decide +kernel
theorem dX6_countOf_1 : decode cX6_countOf 1 = .ok (.tableswitch 130 0 9 #[55, 60, 65, 70, 75, 80, 110, 115, 120, 125], 55) := by decide +kernel
theorem dX6_countOf_56 : decode cX6_countOf 56 = .ok (.aload_n 0, 1) := by decide +kernel
theorem dX6_countOf_57 : decode cX6_countOf 57 = .ok (.invokevirtual 97, 3) := by decide +kernel
theorem dX6_countOf_60 : decode cX6_countOf 60 = .ok (.ireturn, 1) := by decide +kernel
theorem dX6_countOf_61 : decode cX6_countOf 61 = .ok (.aload_n 0, 1) := by decide +kernel
theorem dX6_countOf_62 : decode cX6_countOf 62 = .ok (.getfield 78, 3) := by decide +kernel
theorem dX6_countOf_65 : decode cX6_countOf 65 = .ok (.ireturn, 1) := by decide +kernel
theorem dX6_countOf_66 : decode cX6_countOf 66 = .ok (.aload_n 0, 1) := by decide +kernel
theorem dX6_countOf_67 : decode cX6_countOf 67 = .ok (.getfield 88, 3) := by decide +kernel
theorem dX6_countOf_70 : decode cX6_countOf 70 = .ok (.ireturn, 1) := by decide +kernel
theorem dX6_countOf_71 : decode cX6_countOf 71 = .ok (.aload_n 0, 1) := by decide +kernel
theorem dX6_countOf_72 : decode cX6_countOf 72 = .ok (.invokevirtual 192, 3) := by decide +kernel
theorem dX6_countOf_75 : decode cX6_countOf 75 = .ok (.ireturn, 1) := by decide +kernel
theorem dX6_countOf_76 : decode cX6_countOf 76 = .ok (.aload_n 0, 1) := by decide +kernel
theorem dX6_countOf_77 : decode cX6_countOf 77 = .ok (.invokevirtual 207, 3) := by decide +kernel
theorem dX6_countOf_80 : decode cX6_countOf 80 = .ok (.ireturn, 1) := by decide +kernel
theorem dX6_countOf_81 : decode cX6_countOf 81 = .ok (.aload_n 0, 1) := by decide +kernel
theorem dX6_countOf_82 : decode cX6_countOf 82 = .ok (.getfield 16, 3) := by decide +kernel
theorem dX6_countOf_85 : decode cX6_countOf 85 = .ok (.iconst 0, 1) := by decide +kernel
theorem dX6_countOf_86 : decode cX6_countOf 86 = .ok (.iaload, 1) := by decide +kernel
theorem dX6_countOf_87 : decode cX6_countOf 87 = .ok (.invokestatic 74, 3) := by decide +kernel
theorem dX6_countOf_90 : decode cX6_countOf 90 = .ok (.aload_n 0, 1) := by decide +kernel
theorem dX6_countOf_91 : decode cX6_countOf 91 = .ok (.getfield 16, 3) := by decide +kernel
theorem dX6_countOf_94 : decode cX6_countOf 94 = .ok (.iconst 1, 1) := by decide +kernel
theorem dX6_countOf_95 : decode cX6_countOf 95 = .ok (.iaload, 1) := by decide +kernel
theorem dX6_countOf_96 : decode cX6_countOf 96 = .ok (.invokestatic 74, 3) := by decide +kernel
theorem dX6_countOf_99 : decode cX6_countOf 99 = .ok (.iadd, 1) := by decide +kernel
theorem dX6_countOf_100 : decode cX6_countOf 100 = .ok (.aload_n 0, 1) := by decide +kernel
theorem dX6_countOf_101 : decode cX6_countOf 101 = .ok (.getfield 16, 3) := by decide +kernel
theorem dX6_countOf_104 : decode cX6_countOf 104 = .ok (.iconst 2, 1) := by decide +kernel
theorem dX6_countOf_105 : decode cX6_countOf 105 = .ok (.iaload, 1) := by decide +kernel
theorem dX6_countOf_106 : decode cX6_countOf 106 = .ok (.invokestatic 74, 3) := by decide +kernel
theorem dX6_countOf_109 : decode cX6_countOf 109 = .ok (.iadd, 1) := by decide +kernel
theorem dX6_countOf_110 : decode cX6_countOf 110 = .ok (.ireturn, 1) := by decide +kernel
theorem dX6_countOf_111 : decode cX6_countOf 111 = .ok (.aload_n 0, 1) := by decide +kernel
theorem dX6_countOf_112 : decode cX6_countOf 112 = .ok (.getfield 85, 3) := by decide +kernel
theorem dX6_countOf_115 : decode cX6_countOf 115 = .ok (.ireturn, 1) := by decide +kernel
theorem dX6_countOf_116 : decode cX6_countOf 116 = .ok (.aload_n 0, 1) := by decide +kernel
theorem dX6_countOf_117 : decode cX6_countOf 117 = .ok (.getfield 91, 3) := by decide +kernel
theorem dX6_countOf_120 : decode cX6_countOf 120 = .ok (.ireturn, 1) := by decide +kernel
theorem dX6_countOf_121 : decode cX6_countOf 121 = .ok (.aload_n 0, 1) := by decide +kernel
theorem dX6_countOf_122 : decode cX6_countOf 122 = .ok (.getfield 59, 3) := by decide +kernel
theorem dX6_countOf_125 : decode cX6_countOf 125 = .ok (.ireturn, 1) := by decide +kernel
theorem dX6_countOf_126 : decode cX6_countOf 126 = .ok (.aload_n 0, 1) := by decide +kernel
theorem dX6_countOf_127 : decode cX6_countOf 127 = .ok (.getfield 94, 3) := by decide +kernel
theorem dX6_countOf_130 : decode cX6_countOf 130 = .ok (.ireturn, 1) := by decide +kernel
theorem dX6_countOf_131 : decode cX6_countOf 131 = .ok (.bipush (-102), 2) := by decide +kernel
theorem dX6_countOf_133 : decode cX6_countOf 133 = .ok (.ireturn, 1) := by decide +kernel
theorem dX6_count_0 : decode cX6_count 0 = .ok (.aload_n 0, 1) := by decide +kernel
theorem dX6_count_1 : decode cX6_count 1 = .ok (.iload_n 1, 1) := by decide +kernel
theorem dX6_count_2 : decode cX6_count 2 = .ok (.invokevirtual 210, 3) := by decide +kernel
theorem dX6_count_5 : decode cX6_count 5 = .ok (.ireturn, 1) := by decide +kernel
theorem dX6_note_0 : decode cX6_note 0 = .ok (.aload_n 0, 1) := by decide +kernel
theorem dX6_note_1 : decode cX6_note 1 = .ok (.ldc2_w 213, 3) := by decide +kernel
theorem dX6_note_4 : decode cX6_note 4 = .ok (.aload_n 0, 1) := by decide +kernel
theorem dX6_note_5 : decode cX6_note 5 = .ok (.getfield 215, 3) := by decide +kernel
theorem dX6_note_8 : decode cX6_note 8 = .ok (.lmul, 1) := by decide +kernel
theorem dX6_note_9 : decode cX6_note 9 = .ok (.lload_n 1, 1) := by decide +kernel
theorem dX6_note_10 : decode cX6_note 10 = .ok (.ladd, 1) := by decide +kernel
theorem dX6_note_11 : decode cX6_note 11 = .ok (.putfield 215, 3) := by decide +kernel
theorem dX6_note_14 : decode cX6_note 14 = .ok (.return_, 1) := by decide +kernel
theorem dX6_noteVictim_0 : decode cX6_noteVictim 0 = .ok (.iconst 0, 1) := by decide +kernel
theorem dX6_noteVictim_1 : decode cX6_noteVictim 1 = .ok (.istore_n 2, 1) := by decide +kernel
theorem dX6_noteVictim_2 : decode cX6_noteVictim 2 = .ok (.iload_n 2, 1) := by decide +kernel
theorem dX6_noteVictim_3 : decode cX6_noteVictim 3 = .ok (.iconst 4, 1) := by decide +kernel
theorem dX6_noteVictim_4 : decode cX6_noteVictim 4 = .ok (.if_icmp .ge 20, 3) := by decide +kernel
theorem dX6_noteVictim_7 : decode cX6_noteVictim 7 = .ok (.aload_n 0, 1) := by decide +kernel
theorem dX6_noteVictim_8 : decode cX6_noteVictim 8 = .ok (.aload_n 0, 1) := by decide +kernel
theorem dX6_noteVictim_9 : decode cX6_noteVictim 9 = .ok (.iload_n 1, 1) := by decide +kernel
theorem dX6_noteVictim_10 : decode cX6_noteVictim 10 = .ok (.iload_n 2, 1) := by decide +kernel
theorem dX6_noteVictim_11 : decode cX6_noteVictim 11 = .ok (.invokevirtual 108, 3) := by decide +kernel
theorem dX6_noteVictim_14 : decode cX6_noteVictim 14 = .ok (.i2l, 1) := by decide +kernel
theorem dX6_noteVictim_15 : decode cX6_noteVictim 15 = .ok (.invokevirtual 219, 3) := by decide +kernel
theorem dX6_noteVictim_18 : decode cX6_noteVictim 18 = .ok (.iinc 2 1, 3) := by decide +kernel
theorem dX6_noteVictim_21 : decode cX6_noteVictim 21 = .ok (.goto (-19), 3) := by decide +kernel
theorem dX6_noteVictim_24 : decode cX6_noteVictim 24 = .ok (.aload_n 0, 1) := by decide +kernel
theorem dX6_noteVictim_25 : decode cX6_noteVictim 25 = .ok (.iload_n 1, 1) := by decide +kernel
theorem dX6_noteVictim_26 : decode cX6_noteVictim 26 = .ok (.invokevirtual 156, 3) := by decide +kernel
theorem dX6_noteVictim_29 : decode cX6_noteVictim 29 = .ok (.istore_n 2, 1) := by decide +kernel
theorem dX6_noteVictim_30 : decode cX6_noteVictim 30 = .ok (.iconst 0, 1) := by decide +kernel
theorem dX6_noteVictim_31 : decode cX6_noteVictim 31 = .ok (.istore_n 3, 1) := by decide +kernel
theorem dX6_noteVictim_32 : decode cX6_noteVictim 32 = .ok (.iload_n 3, 1) := by decide +kernel
theorem dX6_noteVictim_33 : decode cX6_noteVictim 33 = .ok (.bipush 6, 2) := by decide +kernel
theorem dX6_noteVictim_35 : decode cX6_noteVictim 35 = .ok (.if_icmp .ge 22, 3) := by decide +kernel
theorem dX6_noteVictim_38 : decode cX6_noteVictim 38 = .ok (.aload_n 0, 1) := by decide +kernel
theorem dX6_noteVictim_39 : decode cX6_noteVictim 39 = .ok (.aload_n 0, 1) := by decide +kernel
theorem dX6_noteVictim_40 : decode cX6_noteVictim 40 = .ok (.getfield 25, 3) := by decide +kernel
theorem dX6_noteVictim_43 : decode cX6_noteVictim 43 = .ok (.iload_n 3, 1) := by decide +kernel
theorem dX6_noteVictim_44 : decode cX6_noteVictim 44 = .ok (.iaload, 1) := by decide +kernel
theorem dX6_noteVictim_45 : decode cX6_noteVictim 45 = .ok (.iconst 1, 1) := by decide +kernel
theorem dX6_noteVictim_46 : decode cX6_noteVictim 46 = .ok (.isub, 1) := by decide +kernel
theorem dX6_noteVictim_47 : decode cX6_noteVictim 47 = .ok (.i2l, 1) := by decide +kernel
theorem dX6_noteVictim_48 : decode cX6_noteVictim 48 = .ok (.invokevirtual 219, 3) := by decide +kernel
theorem dX6_noteVictim_51 : decode cX6_noteVictim 51 = .ok (.iinc 3 1, 3) := by decide +kernel
theorem dX6_noteVictim_54 : decode cX6_noteVictim 54 = .ok (.goto (-22), 3) := by decide +kernel
theorem dX6_noteVictim_57 : decode cX6_noteVictim 57 = .ok (.iconst 0, 1) := by decide +kernel
theorem dX6_noteVictim_58 : decode cX6_noteVictim 58 = .ok (.istore_n 3, 1) := by decide +kernel
theorem dX6_noteVictim_59 : decode cX6_noteVictim 59 = .ok (.iload_n 3, 1) := by decide +kernel
theorem dX6_noteVictim_60 : decode cX6_noteVictim 60 = .ok (.iconst 3, 1) := by decide +kernel
theorem dX6_noteVictim_61 : decode cX6_noteVictim 61 = .ok (.if_icmp .ge 20, 3) := by decide +kernel
theorem dX6_noteVictim_64 : decode cX6_noteVictim 64 = .ok (.aload_n 0, 1) := by decide +kernel
theorem dX6_noteVictim_65 : decode cX6_noteVictim 65 = .ok (.aload_n 0, 1) := by decide +kernel
theorem dX6_noteVictim_66 : decode cX6_noteVictim 66 = .ok (.iload_n 1, 1) := by decide +kernel
theorem dX6_noteVictim_67 : decode cX6_noteVictim 67 = .ok (.iload_n 3, 1) := by decide +kernel
theorem dX6_noteVictim_68 : decode cX6_noteVictim 68 = .ok (.invokevirtual 168, 3) := by decide +kernel
theorem dX6_noteVictim_71 : decode cX6_noteVictim 71 = .ok (.i2l, 1) := by decide +kernel
theorem dX6_noteVictim_72 : decode cX6_noteVictim 72 = .ok (.invokevirtual 219, 3) := by decide +kernel
theorem dX6_noteVictim_75 : decode cX6_noteVictim 75 = .ok (.iinc 3 1, 3) := by decide +kernel
theorem dX6_noteVictim_78 : decode cX6_noteVictim 78 = .ok (.goto (-19), 3) := by decide +kernel
theorem dX6_noteVictim_81 : decode cX6_noteVictim 81 = .ok (.aload_n 0, 1) := by decide +kernel
theorem dX6_noteVictim_82 : decode cX6_noteVictim 82 = .ok (.aload_n 0, 1) := by decide +kernel
theorem dX6_noteVictim_83 : decode cX6_noteVictim 83 = .ok (.iload_n 1, 1) := by decide +kernel
theorem dX6_noteVictim_84 : decode cX6_noteVictim 84 = .ok (.invokevirtual 171, 3) := by decide +kernel
theorem dX6_noteVictim_87 : decode cX6_noteVictim 87 = .ok (.i2l, 1) := by decide +kernel
theorem dX6_noteVictim_88 : decode cX6_noteVictim 88 = .ok (.invokevirtual 219, 3) := by decide +kernel
theorem dX6_noteVictim_91 : decode cX6_noteVictim 91 = .ok (.iload_n 2, 1) := by decide +kernel
theorem dX6_noteVictim_92 : decode cX6_noteVictim 92 = .ok (.ireturn, 1) := by decide +kernel
theorem dX6_digest_0 : decode cX6_digest 0 = .ok (.aload_n 0, 1) := by decide +kernel
theorem dX6_digest_1 : decode cX6_digest 1 = .ok (.ldc2_w 223, 3) := by decide +kernel
theorem dX6_digest_4 : decode cX6_digest 4 = .ok (.putfield 215, 3) := by decide +kernel
theorem dX6_digest_7 : decode cX6_digest 7 = .ok (.iconst 0, 1) := by decide +kernel
theorem dX6_digest_8 : decode cX6_digest 8 = .ok (.istore_n 1, 1) := by decide +kernel
theorem dX6_digest_9 : decode cX6_digest 9 = .ok (.iconst 0, 1) := by decide +kernel
theorem dX6_digest_10 : decode cX6_digest 10 = .ok (.istore_n 2, 1) := by decide +kernel
theorem dX6_digest_11 : decode cX6_digest 11 = .ok (.iload_n 2, 1) := by decide +kernel
theorem dX6_digest_12 : decode cX6_digest 12 = .ok (.iconst 3, 1) := by decide +kernel
theorem dX6_digest_13 : decode cX6_digest 13 = .ok (.if_icmp .ge 24, 3) := by decide +kernel
theorem dX6_digest_16 : decode cX6_digest 16 = .ok (.aload_n 0, 1) := by decide +kernel
theorem dX6_digest_17 : decode cX6_digest 17 = .ok (.getfield 81, 3) := by decide +kernel
theorem dX6_digest_20 : decode cX6_digest 20 = .ok (.ifCond .eq 17, 3) := by decide +kernel
theorem dX6_digest_23 : decode cX6_digest 23 = .ok (.iload_n 1, 1) := by decide +kernel
theorem dX6_digest_24 : decode cX6_digest 24 = .ok (.aload_n 0, 1) := by decide +kernel
theorem dX6_digest_25 : decode cX6_digest 25 = .ok (.iload_n 2, 1) := by decide +kernel
theorem dX6_digest_26 : decode cX6_digest 26 = .ok (.invokevirtual 225, 3) := by decide +kernel
theorem dX6_digest_29 : decode cX6_digest 29 = .ok (.iadd, 1) := by decide +kernel
theorem dX6_digest_30 : decode cX6_digest 30 = .ok (.istore_n 1, 1) := by decide +kernel
theorem dX6_digest_31 : decode cX6_digest 31 = .ok (.iinc 2 1, 3) := by decide +kernel
theorem dX6_digest_34 : decode cX6_digest 34 = .ok (.goto (-23), 3) := by decide +kernel
theorem dX6_digest_37 : decode cX6_digest 37 = .ok (.aload_n 0, 1) := by decide +kernel
theorem dX6_digest_38 : decode cX6_digest 38 = .ok (.getfield 81, 3) := by decide +kernel
theorem dX6_digest_41 : decode cX6_digest 41 = .ok (.ifCond .eq 26, 3) := by decide +kernel
theorem dX6_digest_44 : decode cX6_digest 44 = .ok (.aload_n 0, 1) := by decide +kernel
theorem dX6_digest_45 : decode cX6_digest 45 = .ok (.iload_n 1, 1) := by decide +kernel
theorem dX6_digest_46 : decode cX6_digest 46 = .ok (.i2l, 1) := by decide +kernel
theorem dX6_digest_47 : decode cX6_digest 47 = .ok (.invokevirtual 219, 3) := by decide +kernel
theorem dX6_digest_50 : decode cX6_digest 50 = .ok (.aload_n 0, 1) := by decide +kernel
theorem dX6_digest_51 : decode cX6_digest 51 = .ok (.iload_n 1, 1) := by decide +kernel
theorem dX6_digest_52 : decode cX6_digest 52 = .ok (.aload_n 0, 1) := by decide +kernel
theorem dX6_digest_53 : decode cX6_digest 53 = .ok (.invokevirtual 162, 3) := by decide +kernel
theorem dX6_digest_56 : decode cX6_digest 56 = .ok (.if_icmp .ne 7, 3) := by decide +kernel
theorem dX6_digest_59 : decode cX6_digest 59 = .ok (.lconst 1, 1) := by decide +kernel
theorem dX6_digest_60 : decode cX6_digest 60 = .ok (.goto 4, 3) := by decide +kernel
theorem dX6_digest_63 : decode cX6_digest 63 = .ok (.lconst 0, 1) := by decide +kernel
theorem dX6_digest_64 : decode cX6_digest 64 = .ok (.invokevirtual 219, 3) := by decide +kernel
theorem dX6_digest_67 : decode cX6_digest 67 = .ok (.iconst 0, 1) := by decide +kernel
theorem dX6_digest_68 : decode cX6_digest 68 = .ok (.istore_n 2, 1) := by decide +kernel
theorem dX6_digest_69 : decode cX6_digest 69 = .ok (.iload_n 2, 1) := by decide +kernel
theorem dX6_digest_70 : decode cX6_digest 70 = .ok (.aload_n 0, 1) := by decide +kernel
theorem dX6_digest_71 : decode cX6_digest 71 = .ok (.getfield 88, 3) := by decide +kernel
theorem dX6_digest_74 : decode cX6_digest 74 = .ok (.if_icmp .ge 34, 3) := by decide +kernel
theorem dX6_digest_77 : decode cX6_digest 77 = .ok (.iconst 0, 1) := by decide +kernel
theorem dX6_digest_78 : decode cX6_digest 78 = .ok (.istore_n 3, 1) := by decide +kernel
theorem dX6_digest_79 : decode cX6_digest 79 = .ok (.iload_n 3, 1) := by decide +kernel
theorem dX6_digest_80 : decode cX6_digest 80 = .ok (.bipush 9, 2) := by decide +kernel
theorem dX6_digest_82 : decode cX6_digest 82 = .ok (.if_icmp .ge 20, 3) := by decide +kernel
theorem dX6_digest_85 : decode cX6_digest 85 = .ok (.aload_n 0, 1) := by decide +kernel
theorem dX6_digest_86 : decode cX6_digest 86 = .ok (.aload_n 0, 1) := by decide +kernel
theorem dX6_digest_87 : decode cX6_digest 87 = .ok (.iload_n 2, 1) := by decide +kernel
theorem dX6_digest_88 : decode cX6_digest 88 = .ok (.iload_n 3, 1) := by decide +kernel
theorem dX6_digest_89 : decode cX6_digest 89 = .ok (.invokevirtual 134, 3) := by decide +kernel
theorem dX6_digest_92 : decode cX6_digest 92 = .ok (.i2l, 1) := by decide +kernel
theorem dX6_digest_93 : decode cX6_digest 93 = .ok (.invokevirtual 219, 3) := by decide +kernel
theorem dX6_digest_96 : decode cX6_digest 96 = .ok (.iinc 3 1, 3) := by decide +kernel
theorem dX6_digest_99 : decode cX6_digest 99 = .ok (.goto (-20), 3) := by decide +kernel
theorem dX6_digest_102 : decode cX6_digest 102 = .ok (.iinc 2 1, 3) := by decide +kernel
theorem dX6_digest_105 : decode cX6_digest 105 = .ok (.goto (-36), 3) := by decide +kernel
theorem dX6_digest_108 : decode cX6_digest 108 = .ok (.iconst 0, 1) := by decide +kernel
theorem dX6_digest_109 : decode cX6_digest 109 = .ok (.istore_n 2, 1) := by decide +kernel
theorem dX6_digest_110 : decode cX6_digest 110 = .ok (.iload_n 2, 1) := by decide +kernel
theorem dX6_digest_111 : decode cX6_digest 111 = .ok (.aload_n 0, 1) := by decide +kernel
theorem dX6_digest_112 : decode cX6_digest 112 = .ok (.getfield 59, 3) := by decide +kernel
theorem dX6_digest_115 : decode cX6_digest 115 = .ok (.if_icmp .ge 20, 3) := by decide +kernel
theorem dX6_digest_118 : decode cX6_digest 118 = .ok (.aload_n 0, 1) := by decide +kernel
theorem dX6_digest_119 : decode cX6_digest 119 = .ok (.aload_n 0, 1) := by decide +kernel
theorem dX6_digest_120 : decode cX6_digest 120 = .ok (.getfield 7, 3) := by decide +kernel
theorem dX6_digest_123 : decode cX6_digest 123 = .ok (.iload_n 2, 1) := by decide +kernel
theorem dX6_digest_124 : decode cX6_digest 124 = .ok (.iaload, 1) := by decide +kernel
theorem dX6_digest_125 : decode cX6_digest 125 = .ok (.i2l, 1) := by decide +kernel
theorem dX6_digest_126 : decode cX6_digest 126 = .ok (.invokevirtual 219, 3) := by decide +kernel
theorem dX6_digest_129 : decode cX6_digest 129 = .ok (.iinc 2 1, 3) := by decide +kernel
theorem dX6_digest_132 : decode cX6_digest 132 = .ok (.goto (-22), 3) := by decide +kernel
theorem dX6_digest_135 : decode cX6_digest 135 = .ok (.iconst 0, 1) := by decide +kernel
theorem dX6_digest_136 : decode cX6_digest 136 = .ok (.istore_n 2, 1) := by decide +kernel
theorem dX6_digest_137 : decode cX6_digest 137 = .ok (.iload_n 2, 1) := by decide +kernel
theorem dX6_digest_138 : decode cX6_digest 138 = .ok (.bipush 10, 2) := by decide +kernel
theorem dX6_digest_140 : decode cX6_digest 140 = .ok (.if_icmp .ge 19, 3) := by decide +kernel
theorem dX6_digest_143 : decode cX6_digest 143 = .ok (.aload_n 0, 1) := by decide +kernel
theorem dX6_digest_144 : decode cX6_digest 144 = .ok (.aload_n 0, 1) := by decide +kernel
theorem dX6_digest_145 : decode cX6_digest 145 = .ok (.iload_n 2, 1) := by decide +kernel
theorem dX6_digest_146 : decode cX6_digest 146 = .ok (.invokevirtual 210, 3) := by decide +kernel
theorem dX6_digest_149 : decode cX6_digest 149 = .ok (.i2l, 1) := by decide +kernel
theorem dX6_digest_150 : decode cX6_digest 150 = .ok (.invokevirtual 219, 3) := by decide +kernel
theorem dX6_digest_153 : decode cX6_digest 153 = .ok (.iinc 2 1, 3) := by decide +kernel
theorem dX6_digest_156 : decode cX6_digest 156 = .ok (.goto (-19), 3) := by decide +kernel
theorem dX6_digest_159 : decode cX6_digest 159 = .ok (.aload_n 0, 1) := by decide +kernel
theorem dX6_digest_160 : decode cX6_digest 160 = .ok (.getfield 215, 3) := by decide +kernel
theorem dX6_digest_163 : decode cX6_digest 163 = .ok (.lreturn, 1) := by decide +kernel
theorem dJ6_bitCount_0f7a4_0 : decode cJ6_bitCount_0f7a4 0 = .ok (.iload_n 0, 1) := by decide +kernel
theorem dJ6_bitCount_0f7a4_1 : decode cJ6_bitCount_0f7a4 1 = .ok (.iload_n 0, 1) := by decide +kernel
theorem dJ6_bitCount_0f7a4_2 : decode cJ6_bitCount_0f7a4 2 = .ok (.iconst 1, 1) := by decide +kernel
theorem dJ6_bitCount_0f7a4_3 : decode cJ6_bitCount_0f7a4 3 = .ok (.iushr, 1) := by decide +kernel
theorem dJ6_bitCount_0f7a4_4 : decode cJ6_bitCount_0f7a4 4 = .ok (.ldc_w 265, 3) := by decide +kernel
theorem dJ6_bitCount_0f7a4_7 : decode cJ6_bitCount_0f7a4 7 = .ok (.iand, 1) := by decide +kernel
theorem dJ6_bitCount_0f7a4_8 : decode cJ6_bitCount_0f7a4 8 = .ok (.isub, 1) := by decide +kernel
theorem dJ6_bitCount_0f7a4_9 : decode cJ6_bitCount_0f7a4 9 = .ok (.istore_n 0, 1) := by decide +kernel
theorem dJ6_bitCount_0f7a4_10 : decode cJ6_bitCount_0f7a4 10 = .ok (.iload_n 0, 1) := by decide +kernel
theorem dJ6_bitCount_0f7a4_11 : decode cJ6_bitCount_0f7a4 11 = .ok (.ldc_w 266, 3) := by decide +kernel
theorem dJ6_bitCount_0f7a4_14 : decode cJ6_bitCount_0f7a4 14 = .ok (.iand, 1) := by decide +kernel
theorem dJ6_bitCount_0f7a4_15 : decode cJ6_bitCount_0f7a4 15 = .ok (.iload_n 0, 1) := by decide +kernel
theorem dJ6_bitCount_0f7a4_16 : decode cJ6_bitCount_0f7a4 16 = .ok (.iconst 2, 1) := by decide +kernel
theorem dJ6_bitCount_0f7a4_17 : decode cJ6_bitCount_0f7a4 17 = .ok (.iushr, 1) := by decide +kernel
theorem dJ6_bitCount_0f7a4_18 : decode cJ6_bitCount_0f7a4 18 = .ok (.ldc_w 266, 3) := by decide +kernel
theorem dJ6_bitCount_0f7a4_21 : decode cJ6_bitCount_0f7a4 21 = .ok (.iand, 1) := by decide +kernel
theorem dJ6_bitCount_0f7a4_22 : decode cJ6_bitCount_0f7a4 22 = .ok (.iadd, 1) := by decide +kernel
theorem dJ6_bitCount_0f7a4_23 : decode cJ6_bitCount_0f7a4 23 = .ok (.istore_n 0, 1) := by decide +kernel
theorem dJ6_bitCount_0f7a4_24 : decode cJ6_bitCount_0f7a4 24 = .ok (.iload_n 0, 1) := by decide +kernel
theorem dJ6_bitCount_0f7a4_25 : decode cJ6_bitCount_0f7a4 25 = .ok (.iload_n 0, 1) := by decide +kernel
theorem dJ6_bitCount_0f7a4_26 : decode cJ6_bitCount_0f7a4 26 = .ok (.iconst 4, 1) := by decide +kernel
theorem dJ6_bitCount_0f7a4_27 : decode cJ6_bitCount_0f7a4 27 = .ok (.iushr, 1) := by decide +kernel
theorem dJ6_bitCount_0f7a4_28 : decode cJ6_bitCount_0f7a4 28 = .ok (.iadd, 1) := by decide +kernel
theorem dJ6_bitCount_0f7a4_29 : decode cJ6_bitCount_0f7a4 29 = .ok (.ldc_w 267, 3) := by decide +kernel
theorem dJ6_bitCount_0f7a4_32 : decode cJ6_bitCount_0f7a4 32 = .ok (.iand, 1) := by decide +kernel
theorem dJ6_bitCount_0f7a4_33 : decode cJ6_bitCount_0f7a4 33 = .ok (.istore_n 0, 1) := by decide +kernel
theorem dJ6_bitCount_0f7a4_34 : decode cJ6_bitCount_0f7a4 34 = .ok (.iload_n 0, 1) := by decide +kernel
theorem dJ6_bitCount_0f7a4_35 : decode cJ6_bitCount_0f7a4 35 = .ok (.iload_n 0, 1) := by decide +kernel
theorem dJ6_bitCount_0f7a4_36 : decode cJ6_bitCount_0f7a4 36 = .ok (.bipush 8, 2) := by decide +kernel
theorem dJ6_bitCount_0f7a4_38 : decode cJ6_bitCount_0f7a4 38 = .ok (.iushr, 1) := by decide +kernel
theorem dJ6_bitCount_0f7a4_39 : decode cJ6_bitCount_0f7a4 39 = .ok (.iadd, 1) := by decide +kernel
theorem dJ6_bitCount_0f7a4_40 : decode cJ6_bitCount_0f7a4 40 = .ok (.istore_n 0, 1) := by decide +kernel
theorem dJ6_bitCount_0f7a4_41 : decode cJ6_bitCount_0f7a4 41 = .ok (.iload_n 0, 1) := by decide +kernel
theorem dJ6_bitCount_0f7a4_42 : decode cJ6_bitCount_0f7a4 42 = .ok (.iload_n 0, 1) := by decide +kernel
theorem dJ6_bitCount_0f7a4_43 : decode cJ6_bitCount_0f7a4 43 = .ok (.bipush 16, 2) := by decide +kernel
theorem dJ6_bitCount_0f7a4_45 : decode cJ6_bitCount_0f7a4 45 = .ok (.iushr, 1) := by decide +kernel
theorem dJ6_bitCount_0f7a4_46 : decode cJ6_bitCount_0f7a4 46 = .ok (.iadd, 1) := by decide +kernel
theorem dJ6_bitCount_0f7a4_47 : decode cJ6_bitCount_0f7a4 47 = .ok (.istore_n 0, 1) := by decide +kernel
theorem dJ6_bitCount_0f7a4_48 : decode cJ6_bitCount_0f7a4 48 = .ok (.iload_n 0, 1) := by decide +kernel
theorem dJ6_bitCount_0f7a4_49 : decode cJ6_bitCount_0f7a4 49 = .ok (.bipush 63, 2) := by decide +kernel
theorem dJ6_bitCount_0f7a4_51 : decode cJ6_bitCount_0f7a4 51 = .ok (.iand, 1) := by decide +kernel
theorem dJ6_bitCount_0f7a4_52 : decode cJ6_bitCount_0f7a4 52 = .ok (.ireturn, 1) := by decide +kernel
theorem dJ9_min_7cf53_0 : decode cJ9_min_7cf53 0 = .ok (.iload_n 0, 1) := by decide +kernel
theorem dJ9_min_7cf53_1 : decode cJ9_min_7cf53 1 = .ok (.iload_n 1, 1) := by decide +kernel
theorem dJ9_min_7cf53_2 : decode cJ9_min_7cf53 2 = .ok (.if_icmp .gt 7, 3) := by decide +kernel
theorem dJ9_min_7cf53_5 : decode cJ9_min_7cf53 5 = .ok (.iload_n 0, 1) := by decide +kernel
theorem dJ9_min_7cf53_6 : decode cJ9_min_7cf53 6 = .ok (.goto 4, 3) := by decide +kernel
theorem dJ9_min_7cf53_9 : decode cJ9_min_7cf53 9 = .ok (.iload_n 1, 1) := by decide +kernel
theorem dJ9_min_7cf53_10 : decode cJ9_min_7cf53 10 = .ok (.ireturn, 1) := by decide +kernel
theorem dJ0_length_8abf5_0 : decode cJ0_length_8abf5 0 = .ok (.aload_n 0, 1) := by decide +kernel
theorem dJ0_length_8abf5_1 : decode cJ0_length_8abf5 1 = .ok (.getfield 9, 3) := by decide +kernel
theorem dJ0_length_8abf5_4 : decode cJ0_length_8abf5 4 = .ok (.arraylength, 1) := by decide +kernel
theorem dJ0_length_8abf5_5 : decode cJ0_length_8abf5 5 = .ok (.aload_n 0, 1) := by decide +kernel
theorem dJ0_length_8abf5_6 : decode cJ0_length_8abf5 6 = .ok (.invokevirtual 335, 3) := by decide +kernel
theorem dJ0_length_8abf5_9 : decode cJ0_length_8abf5 9 = .ok (.ishr, 1) := by decide +kernel
theorem dJ0_length_8abf5_10 : decode cJ0_length_8abf5 10 = .ok (.ireturn, 1) := by decide +kernel
theorem dJ0_charAt_5068e_0 : decode cJ0_charAt_5068e 0 = .ok (.aload_n 0, 1) := by decide +kernel
theorem dJ0_charAt_5068e_1 : decode cJ0_charAt_5068e 1 = .ok (.invokevirtual 492, 3) := by decide +kernel
theorem dJ0_charAt_5068e_4 : decode cJ0_charAt_5068e 4 = .ok (.ifCond .eq 12, 3) := by decide +kernel
theorem dJ0_charAt_5068e_7 : decode cJ0_charAt_5068e 7 = .ok (.aload_n 0, 1) := by decide +kernel
theorem dJ0_charAt_5068e_8 : decode cJ0_charAt_5068e 8 = .ok (.getfield 9, 3) := by decide +kernel
theorem dJ0_charAt_5068e_11 : decode cJ0_charAt_5068e 11 = .ok (.iload_n 1, 1) := by decide +kernel
theorem dJ0_charAt_5068e_12 : decode cJ0_charAt_5068e 12 = .ok (.invokestatic 495, 3) := by decide +kernel
theorem dJ0_charAt_5068e_15 : decode cJ0_charAt_5068e 15 = .ok (.ireturn, 1) := by decide +kernel
theorem dJ0_charAt_5068e_16 : decode cJ0_charAt_5068e 16 = .ok (.aload_n 0, 1) := by decide +kernel
theorem dJ0_charAt_5068e_17 : decode cJ0_charAt_5068e 17 = .ok (.getfield 9, 3) := by decide +kernel
theorem dJ0_charAt_5068e_20 : decode cJ0_charAt_5068e 20 = .ok (.iload_n 1, 1) := by decide +kernel
theorem dJ0_charAt_5068e_21 : decode cJ0_charAt_5068e 21 = .ok (.invokestatic 498, 3) := by decide +kernel
theorem dJ0_charAt_5068e_24 : decode cJ0_charAt_5068e 24 = .ok (.ireturn, 1) := by decide +kernel
theorem dJ0_coder_7d493_0 : decode cJ0_coder_7d493 0 = .ok (.getstatic 38, 3) := by decide +kernel
theorem dJ0_coder_7d493_3 : decode cJ0_coder_7d493 3 = .ok (.ifCond .eq 10, 3) := by decide +kernel
theorem dJ0_coder_7d493_6 : decode cJ0_coder_7d493 6 = .ok (.aload_n 0, 1) := by decide +kernel
theorem dJ0_coder_7d493_7 : decode cJ0_coder_7d493 7 = .ok (.getfield 15, 3) := by decide +kernel
theorem dJ0_coder_7d493_10 : decode cJ0_coder_7d493 10 = .ok (.goto 4, 3) := by decide +kernel
theorem dJ0_coder_7d493_13 : decode cJ0_coder_7d493 13 = .ok (.iconst 1, 1) := by decide +kernel
theorem dJ0_coder_7d493_14 : decode cJ0_coder_7d493 14 = .ok (.ireturn, 1) := by decide +kernel
theorem dJ0_isLatin1_aae02_0 : decode cJ0_isLatin1_aae02 0 = .ok (.getstatic 38, 3) := by decide +kernel
theorem dJ0_isLatin1_aae02_3 : decode cJ0_isLatin1_aae02 3 = .ok (.ifCond .eq 14, 3) := by decide +kernel
theorem dJ0_isLatin1_aae02_6 : decode cJ0_isLatin1_aae02 6 = .ok (.aload_n 0, 1) := by decide +kernel
theorem dJ0_isLatin1_aae02_7 : decode cJ0_isLatin1_aae02 7 = .ok (.getfield 15, 3) := by decide +kernel
theorem dJ0_isLatin1_aae02_10 : decode cJ0_isLatin1_aae02 10 = .ok (.ifCond .ne 7, 3) := by decide +kernel
theorem dJ0_isLatin1_aae02_13 : decode cJ0_isLatin1_aae02 13 = .ok (.iconst 1, 1) := by decide +kernel
theorem dJ0_isLatin1_aae02_14 : decode cJ0_isLatin1_aae02 14 = .ok (.goto 4, 3) := by decide +kernel
theorem dJ0_isLatin1_aae02_17 : decode cJ0_isLatin1_aae02 17 = .ok (.iconst 0, 1) := by decide +kernel
theorem dJ0_isLatin1_aae02_18 : decode cJ0_isLatin1_aae02 18 = .ok (.ireturn, 1) := by decide +kernel
theorem dJ0_checkIndex_df160_0 : decode cJ0_checkIndex_df160 0 = .ok (.iload_n 0, 1) := by decide +kernel
theorem dJ0_checkIndex_df160_1 : decode cJ0_checkIndex_df160 1 = .ok (.iload_n 1, 1) := by decide +kernel
theorem dJ0_checkIndex_df160_2 : decode cJ0_checkIndex_df160 2 = .ok (.getstatic 1053, 3) := by decide +kernel
theorem dJ0_checkIndex_df160_5 : decode cJ0_checkIndex_df160 5 = .ok (.invokestatic 1059, 3) := by decide +kernel
theorem dJ0_checkIndex_df160_8 : decode cJ0_checkIndex_df160 8 = .ok (.pop, 1) := by decide +kernel
theorem dJ0_checkIndex_df160_9 : decode cJ0_checkIndex_df160 9 = .ok (.return_, 1) := by decide +kernel
theorem dJ1_charAt_3b067_0 : decode cJ1_charAt_3b067 0 = .ok (.iload_n 1, 1) := by decide +kernel
theorem dJ1_charAt_3b067_1 : decode cJ1_charAt_3b067 1 = .ok (.aload_n 0, 1) := by decide +kernel
theorem dJ1_charAt_3b067_2 : decode cJ1_charAt_3b067 2 = .ok (.arraylength, 1) := by decide +kernel
theorem dJ1_charAt_3b067_3 : decode cJ1_charAt_3b067 3 = .ok (.invokestatic 9, 3) := by decide +kernel
theorem dJ1_charAt_3b067_6 : decode cJ1_charAt_3b067 6 = .ok (.aload_n 0, 1) := by decide +kernel
theorem dJ1_charAt_3b067_7 : decode cJ1_charAt_3b067 7 = .ok (.iload_n 1, 1) := by decide +kernel
theorem dJ1_charAt_3b067_8 : decode cJ1_charAt_3b067 8 = .ok (.baload, 1) := by decide +kernel
theorem dJ1_charAt_3b067_9 : decode cJ1_charAt_3b067 9 = .ok (.sipush 255, 3) := by decide +kernel
theorem dJ1_charAt_3b067_12 : decode cJ1_charAt_3b067 12 = .ok (.iand, 1) := by decide +kernel
theorem dJ1_charAt_3b067_13 : decode cJ1_charAt_3b067 13 = .ok (.i2c, 1) := by decide +kernel
theorem dJ1_charAt_3b067_14 : decode cJ1_charAt_3b067 14 = .ok (.ireturn, 1) := by decide +kernel
theorem dJ2_getChar_3b067_0 : decode cJ2_getChar_3b067 0 = .ok (.getstatic 44, 3) := by decide +kernel
theorem dJ2_getChar_3b067_3 : decode cJ2_getChar_3b067 3 = .ok (.ifCond .ne 25, 3) := by decide +kernel
theorem dJ2_getChar_3b067_6 : decode cJ2_getChar_3b067 6 = .ok (.iload_n 1, 1) := by decide +kernel
theorem dJ2_getChar_3b067_7 : decode cJ2_getChar_3b067 7 = .ok (.ifCond .lt 11, 3) := by decide +kernel
theorem dJ2_getChar_3b067_10 : decode cJ2_getChar_3b067 10 = .ok (.iload_n 1, 1) := by decide +kernel
theorem dJ2_getChar_3b067_11 : decode cJ2_getChar_3b067 11 = .ok (.aload_n 0, 1) := by decide +kernel
theorem dJ2_getChar_3b067_12 : decode cJ2_getChar_3b067 12 = .ok (.invokestatic 48, 3) := by decide +kernel
theorem dJ2_getChar_3b067_15 : decode cJ2_getChar_3b067 15 = .ok (.if_icmp .lt 13, 3) := by decide +kernel
theorem dJ2_getChar_3b067_18 : decode cJ2_getChar_3b067 18 = .ok (.new 52, 3) := by decide +kernel
theorem dJ2_getChar_3b067_21 : decode cJ2_getChar_3b067 21 = .ok (.dup, 1) := by decide +kernel
theorem dJ2_getChar_3b067_22 : decode cJ2_getChar_3b067 22 = .ok (.ldc 54, 2) := by decide +kernel
theorem dJ2_getChar_3b067_24 : decode cJ2_getChar_3b067 24 = .ok (.invokespecial 56, 3) := by decide +kernel
theorem dJ2_getChar_3b067_27 : decode cJ2_getChar_3b067 27 = .ok (.athrow, 1) := by decide +kernel
theorem dJ2_getChar_3b067_28 : decode cJ2_getChar_3b067 28 = .ok (.iload_n 1, 1) := by decide +kernel
theorem dJ2_getChar_3b067_29 : decode cJ2_getChar_3b067 29 = .ok (.iconst 1, 1) := by decide +kernel
theorem dJ2_getChar_3b067_30 : decode cJ2_getChar_3b067 30 = .ok (.ishl, 1) := by decide +kernel
theorem dJ2_getChar_3b067_31 : decode cJ2_getChar_3b067 31 = .ok (.istore_n 1, 1) := by decide +kernel
theorem dJ2_getChar_3b067_32 : decode cJ2_getChar_3b067 32 = .ok (.aload_n 0, 1) := by decide +kernel
theorem dJ2_getChar_3b067_33 : decode cJ2_getChar_3b067 33 = .ok (.iload_n 1, 1) := by decide +kernel
theorem dJ2_getChar_3b067_34 : decode cJ2_getChar_3b067 34 = .ok (.iinc 1 1, 3) := by decide +kernel
theorem dJ2_getChar_3b067_37 : decode cJ2_getChar_3b067 37 = .ok (.baload, 1) := by decide +kernel
theorem dJ2_getChar_3b067_38 : decode cJ2_getChar_3b067 38 = .ok (.sipush 255, 3) := by decide +kernel
theorem dJ2_getChar_3b067_41 : decode cJ2_getChar_3b067 41 = .ok (.iand, 1) := by decide +kernel
theorem dJ2_getChar_3b067_42 : decode cJ2_getChar_3b067 42 = .ok (.getstatic 59, 3) := by decide +kernel
theorem dJ2_getChar_3b067_45 : decode cJ2_getChar_3b067 45 = .ok (.ishl, 1) := by decide +kernel
theorem dJ2_getChar_3b067_46 : decode cJ2_getChar_3b067 46 = .ok (.aload_n 0, 1) := by decide +kernel
theorem dJ2_getChar_3b067_47 : decode cJ2_getChar_3b067 47 = .ok (.iload_n 1, 1) := by decide +kernel
theorem dJ2_getChar_3b067_48 : decode cJ2_getChar_3b067 48 = .ok (.baload, 1) := by decide +kernel
theorem dJ2_getChar_3b067_49 : decode cJ2_getChar_3b067 49 = .ok (.sipush 255, 3) := by decide +kernel
theorem dJ2_getChar_3b067_52 : decode cJ2_getChar_3b067 52 = .ok (.iand, 1) := by decide +kernel
theorem dJ2_getChar_3b067_53 : decode cJ2_getChar_3b067 53 = .ok (.getstatic 63, 3) := by decide +kernel
theorem dJ2_getChar_3b067_56 : decode cJ2_getChar_3b067 56 = .ok (.ishl, 1) := by decide +kernel
theorem dJ2_getChar_3b067_57 : decode cJ2_getChar_3b067 57 = .ok (.ior, 1) := by decide +kernel
theorem dJ2_getChar_3b067_58 : decode cJ2_getChar_3b067 58 = .ok (.i2c, 1) := by decide +kernel
theorem dJ2_getChar_3b067_59 : decode cJ2_getChar_3b067 59 = .ok (.ireturn, 1) := by decide +kernel
theorem dJ2_length_9d52b_0 : decode cJ2_length_9d52b 0 = .ok (.aload_n 0, 1) := by decide +kernel
theorem dJ2_length_9d52b_1 : decode cJ2_length_9d52b 1 = .ok (.arraylength, 1) := by decide +kernel
theorem dJ2_length_9d52b_2 : decode cJ2_length_9d52b 2 = .ok (.iconst 1, 1) := by decide +kernel
theorem dJ2_length_9d52b_3 : decode cJ2_length_9d52b 3 = .ok (.ishr, 1) := by decide +kernel
theorem dJ2_length_9d52b_4 : decode cJ2_length_9d52b 4 = .ok (.ireturn, 1) := by decide +kernel
theorem dJ2_charAt_3b067_0 : decode cJ2_charAt_3b067 0 = .ok (.iload_n 1, 1) := by decide +kernel
theorem dJ2_charAt_3b067_1 : decode cJ2_charAt_3b067 1 = .ok (.aload_n 0, 1) := by decide +kernel
theorem dJ2_charAt_3b067_2 : decode cJ2_charAt_3b067 2 = .ok (.invokestatic 67, 3) := by decide +kernel
theorem dJ2_charAt_3b067_5 : decode cJ2_charAt_3b067 5 = .ok (.aload_n 0, 1) := by decide +kernel
theorem dJ2_charAt_3b067_6 : decode cJ2_charAt_3b067 6 = .ok (.iload_n 1, 1) := by decide +kernel
theorem dJ2_charAt_3b067_7 : decode cJ2_charAt_3b067 7 = .ok (.invokestatic 71, 3) := by decide +kernel
theorem dJ2_charAt_3b067_10 : decode cJ2_charAt_3b067 10 = .ok (.ireturn, 1) := by decide +kernel
theorem dJ2_checkIndex_2214a_0 : decode cJ2_checkIndex_2214a 0 = .ok (.iload_n 0, 1) := by decide +kernel
theorem dJ2_checkIndex_2214a_1 : decode cJ2_checkIndex_2214a 1 = .ok (.aload_n 1, 1) := by decide +kernel
theorem dJ2_checkIndex_2214a_2 : decode cJ2_checkIndex_2214a 2 = .ok (.invokestatic 48, 3) := by decide +kernel
theorem dJ2_checkIndex_2214a_5 : decode cJ2_checkIndex_2214a 5 = .ok (.invokestatic 414, 3) := by decide +kernel
theorem dJ2_checkIndex_2214a_8 : decode cJ2_checkIndex_2214a 8 = .ok (.return_, 1) := by decide +kernel
theorem dJ3_checkIndex_8e157_0 : decode cJ3_checkIndex_8e157 0 = .ok (.iload_n 0, 1) := by decide +kernel
theorem dJ3_checkIndex_8e157_1 : decode cJ3_checkIndex_8e157 1 = .ok (.ifCond .lt 8, 3) := by decide +kernel
theorem dJ3_checkIndex_8e157_4 : decode cJ3_checkIndex_8e157 4 = .ok (.iload_n 0, 1) := by decide +kernel
theorem dJ3_checkIndex_8e157_5 : decode cJ3_checkIndex_8e157 5 = .ok (.iload_n 1, 1) := by decide +kernel
theorem dJ3_checkIndex_8e157_6 : decode cJ3_checkIndex_8e157 6 = .ok (.if_icmp .lt 10, 3) := by decide +kernel
theorem dJ3_checkIndex_8e157_9 : decode cJ3_checkIndex_8e157 9 = .ok (.aload_n 2, 1) := by decide +kernel
theorem dJ3_checkIndex_8e157_10 : decode cJ3_checkIndex_8e157 10 = .ok (.iload_n 0, 1) := by decide +kernel
theorem dJ3_checkIndex_8e157_11 : decode cJ3_checkIndex_8e157 11 = .ok (.iload_n 1, 1) := by decide +kernel
theorem dJ3_checkIndex_8e157_12 : decode cJ3_checkIndex_8e157 12 = .ok (.invokestatic 95, 3) := by decide +kernel
theorem dJ3_checkIndex_8e157_15 : decode cJ3_checkIndex_8e157 15 = .ok (.athrow, 1) := by decide +kernel
theorem dJ3_checkIndex_8e157_16 : decode cJ3_checkIndex_8e157 16 = .ok (.iload_n 0, 1) := by decide +kernel
theorem dJ3_checkIndex_8e157_17 : decode cJ3_checkIndex_8e157 17 = .ok (.ireturn, 1) := by decide +kernel
theorem dL_law_0 : decode cL_law 0 = .ok (.new 7, 3) := by decide +kernel
theorem dL_law_3 : decode cL_law 3 = .ok (.dup, 1) := by decide +kernel
theorem dL_law_4 : decode cL_law 4 = .ok (.invokespecial 9, 3) := by decide +kernel
theorem dL_law_7 : decode cL_law 7 = .ok (.astore_n 1, 1) := by decide +kernel
theorem dL_law_8 : decode cL_law 8 = .ok (.new 10, 3) := by decide +kernel
theorem dL_law_11 : decode cL_law 11 = .ok (.dup, 1) := by decide +kernel
theorem dL_law_12 : decode cL_law 12 = .ok (.invokespecial 12, 3) := by decide +kernel
theorem dL_law_15 : decode cL_law 15 = .ok (.astore_n 2, 1) := by decide +kernel
theorem dL_law_16 : decode cL_law 16 = .ok (.iconst 0, 1) := by decide +kernel
theorem dL_law_17 : decode cL_law 17 = .ok (.istore_n 3, 1) := by decide +kernel
theorem dL_law_18 : decode cL_law 18 = .ok (.iload_n 3, 1) := by decide +kernel
theorem dL_law_19 : decode cL_law 19 = .ok (.aload_n 0, 1) := by decide +kernel
theorem dL_law_20 : decode cL_law 20 = .ok (.arraylength, 1) := by decide +kernel
theorem dL_law_21 : decode cL_law 21 = .ok (.iconst 5, 1) := by decide +kernel
theorem dL_law_22 : decode cL_law 22 = .ok (.isub, 1) := by decide +kernel
theorem dL_law_23 : decode cL_law 23 = .ok (.if_icmp .gt 702, 3) := by decide +kernel
theorem dL_law_26 : decode cL_law 26 = .ok (.aload_n 0, 1) := by decide +kernel
theorem dL_law_27 : decode cL_law 27 = .ok (.iload_n 3, 1) := by decide +kernel
theorem dL_law_28 : decode cL_law 28 = .ok (.iaload, 1) := by decide +kernel
theorem dL_law_29 : decode cL_law 29 = .ok (.bipush 31, 2) := by decide +kernel
theorem dL_law_31 : decode cL_law 31 = .ok (.iand, 1) := by decide +kernel
theorem dL_law_32 : decode cL_law 32 = .ok (.tableswitch 687 0 21 #[104, 127, 140, 153, 166, 199, 252, 285, 318, 351, 384, 397, 420, 453, 512, 525, 558, 581, 624, 637, 650, 673], 104) := by decide +kernel
theorem dL_law_136 : decode cL_law 136 = .ok (.aload_n 1, 1) := by decide +kernel
theorem dL_law_137 : decode cL_law 137 = .ok (.aload_n 0, 1) := by decide +kernel
theorem dL_law_138 : decode cL_law 138 = .ok (.iload_n 3, 1) := by decide +kernel
theorem dL_law_139 : decode cL_law 139 = .ok (.iconst 1, 1) := by decide +kernel
theorem dL_law_140 : decode cL_law 140 = .ok (.iadd, 1) := by decide +kernel
theorem dL_law_141 : decode cL_law 141 = .ok (.iaload, 1) := by decide +kernel
theorem dL_law_142 : decode cL_law 142 = .ok (.invokevirtual 13, 3) := by decide +kernel
theorem dL_law_145 : decode cL_law 145 = .ok (.aload_n 2, 1) := by decide +kernel
theorem dL_law_146 : decode cL_law 146 = .ok (.aload_n 0, 1) := by decide +kernel
theorem dL_law_147 : decode cL_law 147 = .ok (.iload_n 3, 1) := by decide +kernel
theorem dL_law_148 : decode cL_law 148 = .ok (.iconst 1, 1) := by decide +kernel
theorem dL_law_149 : decode cL_law 149 = .ok (.iadd, 1) := by decide +kernel
theorem dL_law_150 : decode cL_law 150 = .ok (.iaload, 1) := by decide +kernel
theorem dL_law_151 : decode cL_law 151 = .ok (.invokevirtual 17, 3) := by decide +kernel
theorem dL_law_154 : decode cL_law 154 = .ok (.if_icmp .eq 565, 3) := by decide +kernel
theorem dL_law_157 : decode cL_law 157 = .ok (.iconst 0, 1) := by decide +kernel
theorem dL_law_158 : decode cL_law 158 = .ok (.ireturn, 1) := by decide +kernel
theorem dL_law_159 : decode cL_law 159 = .ok (.aload_n 1, 1) := by decide +kernel
theorem dL_law_160 : decode cL_law 160 = .ok (.invokevirtual 18, 3) := by decide +kernel
theorem dL_law_163 : decode cL_law 163 = .ok (.aload_n 2, 1) := by decide +kernel
theorem dL_law_164 : decode cL_law 164 = .ok (.invokevirtual 22, 3) := by decide +kernel
theorem dL_law_167 : decode cL_law 167 = .ok (.if_icmp .eq 552, 3) := by decide +kernel
theorem dL_law_170 : decode cL_law 170 = .ok (.iconst 0, 1) := by decide +kernel
theorem dL_law_171 : decode cL_law 171 = .ok (.ireturn, 1) := by decide +kernel
theorem dL_law_172 : decode cL_law 172 = .ok (.aload_n 1, 1) := by decide +kernel
theorem dL_law_173 : decode cL_law 173 = .ok (.invokevirtual 23, 3) := by decide +kernel
theorem dL_law_176 : decode cL_law 176 = .ok (.aload_n 2, 1) := by decide +kernel
theorem dL_law_177 : decode cL_law 177 = .ok (.invokevirtual 26, 3) := by decide +kernel
theorem dL_law_180 : decode cL_law 180 = .ok (.if_icmp .eq 539, 3) := by decide +kernel
theorem dL_law_183 : decode cL_law 183 = .ok (.iconst 0, 1) := by decide +kernel
theorem dL_law_184 : decode cL_law 184 = .ok (.ireturn, 1) := by decide +kernel
theorem dL_law_185 : decode cL_law 185 = .ok (.aload_n 1, 1) := by decide +kernel
theorem dL_law_186 : decode cL_law 186 = .ok (.invokevirtual 27, 3) := by decide +kernel
theorem dL_law_189 : decode cL_law 189 = .ok (.aload_n 2, 1) := by decide +kernel
theorem dL_law_190 : decode cL_law 190 = .ok (.invokevirtual 30, 3) := by decide +kernel
theorem dL_law_193 : decode cL_law 193 = .ok (.if_icmp .eq 526, 3) := by decide +kernel
theorem dL_law_196 : decode cL_law 196 = .ok (.iconst 0, 1) := by decide +kernel
theorem dL_law_197 : decode cL_law 197 = .ok (.ireturn, 1) := by decide +kernel
theorem dL_law_198 : decode cL_law 198 = .ok (.aload_n 1, 1) := by decide +kernel
theorem dL_law_199 : decode cL_law 199 = .ok (.aload_n 0, 1) := by decide +kernel
theorem dL_law_200 : decode cL_law 200 = .ok (.iload_n 3, 1) := by decide +kernel
theorem dL_law_201 : decode cL_law 201 = .ok (.iconst 1, 1) := by decide +kernel
theorem dL_law_202 : decode cL_law 202 = .ok (.iadd, 1) := by decide +kernel
theorem dL_law_203 : decode cL_law 203 = .ok (.iaload, 1) := by decide +kernel
theorem dL_law_204 : decode cL_law 204 = .ok (.aload_n 0, 1) := by decide +kernel
theorem dL_law_205 : decode cL_law 205 = .ok (.iload_n 3, 1) := by decide +kernel
theorem dL_law_206 : decode cL_law 206 = .ok (.iconst 2, 1) := by decide +kernel
theorem dL_law_207 : decode cL_law 207 = .ok (.iadd, 1) := by decide +kernel
theorem dL_law_208 : decode cL_law 208 = .ok (.iaload, 1) := by decide +kernel
theorem dL_law_209 : decode cL_law 209 = .ok (.invokevirtual 31, 3) := by decide +kernel
theorem dL_law_212 : decode cL_law 212 = .ok (.aload_n 2, 1) := by decide +kernel
theorem dL_law_213 : decode cL_law 213 = .ok (.aload_n 0, 1) := by decide +kernel
theorem dL_law_214 : decode cL_law 214 = .ok (.iload_n 3, 1) := by decide +kernel
theorem dL_law_215 : decode cL_law 215 = .ok (.iconst 1, 1) := by decide +kernel
theorem dL_law_216 : decode cL_law 216 = .ok (.iadd, 1) := by decide +kernel
theorem dL_law_217 : decode cL_law 217 = .ok (.iaload, 1) := by decide +kernel
theorem dL_law_218 : decode cL_law 218 = .ok (.aload_n 0, 1) := by decide +kernel
theorem dL_law_219 : decode cL_law 219 = .ok (.iload_n 3, 1) := by decide +kernel
theorem dL_law_220 : decode cL_law 220 = .ok (.iconst 2, 1) := by decide +kernel
theorem dL_law_221 : decode cL_law 221 = .ok (.iadd, 1) := by decide +kernel
theorem dL_law_222 : decode cL_law 222 = .ok (.iaload, 1) := by decide +kernel
theorem dL_law_223 : decode cL_law 223 = .ok (.invokevirtual 35, 3) := by decide +kernel
theorem dL_law_226 : decode cL_law 226 = .ok (.if_icmp .eq 493, 3) := by decide +kernel
theorem dL_law_229 : decode cL_law 229 = .ok (.iconst 0, 1) := by decide +kernel
theorem dL_law_230 : decode cL_law 230 = .ok (.ireturn, 1) := by decide +kernel
theorem dL_law_231 : decode cL_law 231 = .ok (.aload_n 1, 1) := by decide +kernel
theorem dL_law_232 : decode cL_law 232 = .ok (.aload_n 0, 1) := by decide +kernel
theorem dL_law_233 : decode cL_law 233 = .ok (.iload_n 3, 1) := by decide +kernel
theorem dL_law_234 : decode cL_law 234 = .ok (.iconst 1, 1) := by decide +kernel
theorem dL_law_235 : decode cL_law 235 = .ok (.iadd, 1) := by decide +kernel
theorem dL_law_236 : decode cL_law 236 = .ok (.iaload, 1) := by decide +kernel
theorem dL_law_237 : decode cL_law 237 = .ok (.aload_n 0, 1) := by decide +kernel
theorem dL_law_238 : decode cL_law 238 = .ok (.iload_n 3, 1) := by decide +kernel
theorem dL_law_239 : decode cL_law 239 = .ok (.iconst 2, 1) := by decide +kernel
theorem dL_law_240 : decode cL_law 240 = .ok (.iadd, 1) := by decide +kernel
theorem dL_law_241 : decode cL_law 241 = .ok (.iaload, 1) := by decide +kernel
theorem dL_law_242 : decode cL_law 242 = .ok (.aload_n 0, 1) := by decide +kernel
theorem dL_law_243 : decode cL_law 243 = .ok (.iload_n 3, 1) := by decide +kernel
theorem dL_law_244 : decode cL_law 244 = .ok (.iconst 3, 1) := by decide +kernel
theorem dL_law_245 : decode cL_law 245 = .ok (.iadd, 1) := by decide +kernel
theorem dL_law_246 : decode cL_law 246 = .ok (.iaload, 1) := by decide +kernel
theorem dL_law_247 : decode cL_law 247 = .ok (.aload_n 0, 1) := by decide +kernel
theorem dL_law_248 : decode cL_law 248 = .ok (.iload_n 3, 1) := by decide +kernel
theorem dL_law_249 : decode cL_law 249 = .ok (.iconst 4, 1) := by decide +kernel
theorem dL_law_250 : decode cL_law 250 = .ok (.iadd, 1) := by decide +kernel
theorem dL_law_251 : decode cL_law 251 = .ok (.iaload, 1) := by decide +kernel
theorem dL_law_252 : decode cL_law 252 = .ok (.invokevirtual 36, 3) := by decide +kernel
theorem dL_law_255 : decode cL_law 255 = .ok (.aload_n 2, 1) := by decide +kernel
theorem dL_law_256 : decode cL_law 256 = .ok (.aload_n 0, 1) := by decide +kernel
theorem dL_law_257 : decode cL_law 257 = .ok (.iload_n 3, 1) := by decide +kernel
theorem dL_law_258 : decode cL_law 258 = .ok (.iconst 1, 1) := by decide +kernel
theorem dL_law_259 : decode cL_law 259 = .ok (.iadd, 1) := by decide +kernel
theorem dL_law_260 : decode cL_law 260 = .ok (.iaload, 1) := by decide +kernel
theorem dL_law_261 : decode cL_law 261 = .ok (.aload_n 0, 1) := by decide +kernel
theorem dL_law_262 : decode cL_law 262 = .ok (.iload_n 3, 1) := by decide +kernel
theorem dL_law_263 : decode cL_law 263 = .ok (.iconst 2, 1) := by decide +kernel
theorem dL_law_264 : decode cL_law 264 = .ok (.iadd, 1) := by decide +kernel
theorem dL_law_265 : decode cL_law 265 = .ok (.iaload, 1) := by decide +kernel
theorem dL_law_266 : decode cL_law 266 = .ok (.aload_n 0, 1) := by decide +kernel
theorem dL_law_267 : decode cL_law 267 = .ok (.iload_n 3, 1) := by decide +kernel
theorem dL_law_268 : decode cL_law 268 = .ok (.iconst 3, 1) := by decide +kernel
theorem dL_law_269 : decode cL_law 269 = .ok (.iadd, 1) := by decide +kernel
theorem dL_law_270 : decode cL_law 270 = .ok (.iaload, 1) := by decide +kernel
theorem dL_law_271 : decode cL_law 271 = .ok (.aload_n 0, 1) := by decide +kernel
theorem dL_law_272 : decode cL_law 272 = .ok (.iload_n 3, 1) := by decide +kernel
theorem dL_law_273 : decode cL_law 273 = .ok (.iconst 4, 1) := by decide +kernel
theorem dL_law_274 : decode cL_law 274 = .ok (.iadd, 1) := by decide +kernel
theorem dL_law_275 : decode cL_law 275 = .ok (.iaload, 1) := by decide +kernel
theorem dL_law_276 : decode cL_law 276 = .ok (.invokevirtual 40, 3) := by decide +kernel
theorem dL_law_279 : decode cL_law 279 = .ok (.if_icmp .eq 440, 3) := by decide +kernel
theorem dL_law_282 : decode cL_law 282 = .ok (.iconst 0, 1) := by decide +kernel
theorem dL_law_283 : decode cL_law 283 = .ok (.ireturn, 1) := by decide +kernel
theorem dL_law_284 : decode cL_law 284 = .ok (.aload_n 1, 1) := by decide +kernel
theorem dL_law_285 : decode cL_law 285 = .ok (.aload_n 0, 1) := by decide +kernel
theorem dL_law_286 : decode cL_law 286 = .ok (.iload_n 3, 1) := by decide +kernel
theorem dL_law_287 : decode cL_law 287 = .ok (.iconst 1, 1) := by decide +kernel
theorem dL_law_288 : decode cL_law 288 = .ok (.iadd, 1) := by decide +kernel
theorem dL_law_289 : decode cL_law 289 = .ok (.iaload, 1) := by decide +kernel
theorem dL_law_290 : decode cL_law 290 = .ok (.aload_n 0, 1) := by decide +kernel
theorem dL_law_291 : decode cL_law 291 = .ok (.iload_n 3, 1) := by decide +kernel
theorem dL_law_292 : decode cL_law 292 = .ok (.iconst 2, 1) := by decide +kernel
theorem dL_law_293 : decode cL_law 293 = .ok (.iadd, 1) := by decide +kernel
theorem dL_law_294 : decode cL_law 294 = .ok (.iaload, 1) := by decide +kernel
theorem dL_law_295 : decode cL_law 295 = .ok (.invokevirtual 41, 3) := by decide +kernel
theorem dL_law_298 : decode cL_law 298 = .ok (.aload_n 2, 1) := by decide +kernel
theorem dL_law_299 : decode cL_law 299 = .ok (.aload_n 0, 1) := by decide +kernel
theorem dL_law_300 : decode cL_law 300 = .ok (.iload_n 3, 1) := by decide +kernel
theorem dL_law_301 : decode cL_law 301 = .ok (.iconst 1, 1) := by decide +kernel
theorem dL_law_302 : decode cL_law 302 = .ok (.iadd, 1) := by decide +kernel
theorem dL_law_303 : decode cL_law 303 = .ok (.iaload, 1) := by decide +kernel
theorem dL_law_304 : decode cL_law 304 = .ok (.aload_n 0, 1) := by decide +kernel
theorem dL_law_305 : decode cL_law 305 = .ok (.iload_n 3, 1) := by decide +kernel
theorem dL_law_306 : decode cL_law 306 = .ok (.iconst 2, 1) := by decide +kernel
theorem dL_law_307 : decode cL_law 307 = .ok (.iadd, 1) := by decide +kernel
theorem dL_law_308 : decode cL_law 308 = .ok (.iaload, 1) := by decide +kernel
theorem dL_law_309 : decode cL_law 309 = .ok (.invokevirtual 44, 3) := by decide +kernel
theorem dL_law_312 : decode cL_law 312 = .ok (.if_icmp .eq 407, 3) := by decide +kernel
theorem dL_law_315 : decode cL_law 315 = .ok (.iconst 0, 1) := by decide +kernel
theorem dL_law_316 : decode cL_law 316 = .ok (.ireturn, 1) := by decide +kernel
theorem dL_law_317 : decode cL_law 317 = .ok (.aload_n 1, 1) := by decide +kernel
theorem dL_law_318 : decode cL_law 318 = .ok (.aload_n 0, 1) := by decide +kernel
theorem dL_law_319 : decode cL_law 319 = .ok (.iload_n 3, 1) := by decide +kernel
theorem dL_law_320 : decode cL_law 320 = .ok (.iconst 1, 1) := by decide +kernel
theorem dL_law_321 : decode cL_law 321 = .ok (.iadd, 1) := by decide +kernel
theorem dL_law_322 : decode cL_law 322 = .ok (.iaload, 1) := by decide +kernel
theorem dL_law_323 : decode cL_law 323 = .ok (.aload_n 0, 1) := by decide +kernel
theorem dL_law_324 : decode cL_law 324 = .ok (.iload_n 3, 1) := by decide +kernel
theorem dL_law_325 : decode cL_law 325 = .ok (.iconst 2, 1) := by decide +kernel
theorem dL_law_326 : decode cL_law 326 = .ok (.iadd, 1) := by decide +kernel
theorem dL_law_327 : decode cL_law 327 = .ok (.iaload, 1) := by decide +kernel
theorem dL_law_328 : decode cL_law 328 = .ok (.invokevirtual 45, 3) := by decide +kernel
theorem dL_law_331 : decode cL_law 331 = .ok (.aload_n 2, 1) := by decide +kernel
theorem dL_law_332 : decode cL_law 332 = .ok (.aload_n 0, 1) := by decide +kernel
theorem dL_law_333 : decode cL_law 333 = .ok (.iload_n 3, 1) := by decide +kernel
theorem dL_law_334 : decode cL_law 334 = .ok (.iconst 1, 1) := by decide +kernel
theorem dL_law_335 : decode cL_law 335 = .ok (.iadd, 1) := by decide +kernel
theorem dL_law_336 : decode cL_law 336 = .ok (.iaload, 1) := by decide +kernel
theorem dL_law_337 : decode cL_law 337 = .ok (.aload_n 0, 1) := by decide +kernel
theorem dL_law_338 : decode cL_law 338 = .ok (.iload_n 3, 1) := by decide +kernel
theorem dL_law_339 : decode cL_law 339 = .ok (.iconst 2, 1) := by decide +kernel
theorem dL_law_340 : decode cL_law 340 = .ok (.iadd, 1) := by decide +kernel
theorem dL_law_341 : decode cL_law 341 = .ok (.iaload, 1) := by decide +kernel
theorem dL_law_342 : decode cL_law 342 = .ok (.invokevirtual 48, 3) := by decide +kernel
theorem dL_law_345 : decode cL_law 345 = .ok (.if_icmp .eq 374, 3) := by decide +kernel
theorem dL_law_348 : decode cL_law 348 = .ok (.iconst 0, 1) := by decide +kernel
theorem dL_law_349 : decode cL_law 349 = .ok (.ireturn, 1) := by decide +kernel
theorem dL_law_350 : decode cL_law 350 = .ok (.aload_n 1, 1) := by decide +kernel
theorem dL_law_351 : decode cL_law 351 = .ok (.aload_n 0, 1) := by decide +kernel
theorem dL_law_352 : decode cL_law 352 = .ok (.iload_n 3, 1) := by decide +kernel
theorem dL_law_353 : decode cL_law 353 = .ok (.iconst 1, 1) := by decide +kernel
theorem dL_law_354 : decode cL_law 354 = .ok (.iadd, 1) := by decide +kernel
theorem dL_law_355 : decode cL_law 355 = .ok (.iaload, 1) := by decide +kernel
theorem dL_law_356 : decode cL_law 356 = .ok (.aload_n 0, 1) := by decide +kernel
theorem dL_law_357 : decode cL_law 357 = .ok (.iload_n 3, 1) := by decide +kernel
theorem dL_law_358 : decode cL_law 358 = .ok (.iconst 2, 1) := by decide +kernel
theorem dL_law_359 : decode cL_law 359 = .ok (.iadd, 1) := by decide +kernel
theorem dL_law_360 : decode cL_law 360 = .ok (.iaload, 1) := by decide +kernel
theorem dL_law_361 : decode cL_law 361 = .ok (.invokevirtual 49, 3) := by decide +kernel
theorem dL_law_364 : decode cL_law 364 = .ok (.aload_n 2, 1) := by decide +kernel
theorem dL_law_365 : decode cL_law 365 = .ok (.aload_n 0, 1) := by decide +kernel
theorem dL_law_366 : decode cL_law 366 = .ok (.iload_n 3, 1) := by decide +kernel
theorem dL_law_367 : decode cL_law 367 = .ok (.iconst 1, 1) := by decide +kernel
theorem dL_law_368 : decode cL_law 368 = .ok (.iadd, 1) := by decide +kernel
theorem dL_law_369 : decode cL_law 369 = .ok (.iaload, 1) := by decide +kernel
theorem dL_law_370 : decode cL_law 370 = .ok (.aload_n 0, 1) := by decide +kernel
theorem dL_law_371 : decode cL_law 371 = .ok (.iload_n 3, 1) := by decide +kernel
theorem dL_law_372 : decode cL_law 372 = .ok (.iconst 2, 1) := by decide +kernel
theorem dL_law_373 : decode cL_law 373 = .ok (.iadd, 1) := by decide +kernel
theorem dL_law_374 : decode cL_law 374 = .ok (.iaload, 1) := by decide +kernel
theorem dL_law_375 : decode cL_law 375 = .ok (.invokevirtual 52, 3) := by decide +kernel
theorem dL_law_378 : decode cL_law 378 = .ok (.if_icmp .eq 341, 3) := by decide +kernel
theorem dL_law_381 : decode cL_law 381 = .ok (.iconst 0, 1) := by decide +kernel
theorem dL_law_382 : decode cL_law 382 = .ok (.ireturn, 1) := by decide +kernel
theorem dL_law_383 : decode cL_law 383 = .ok (.aload_n 1, 1) := by decide +kernel
theorem dL_law_384 : decode cL_law 384 = .ok (.aload_n 0, 1) := by decide +kernel
theorem dL_law_385 : decode cL_law 385 = .ok (.iload_n 3, 1) := by decide +kernel
theorem dL_law_386 : decode cL_law 386 = .ok (.iconst 1, 1) := by decide +kernel
theorem dL_law_387 : decode cL_law 387 = .ok (.iadd, 1) := by decide +kernel
theorem dL_law_388 : decode cL_law 388 = .ok (.iaload, 1) := by decide +kernel
theorem dL_law_389 : decode cL_law 389 = .ok (.aload_n 0, 1) := by decide +kernel
theorem dL_law_390 : decode cL_law 390 = .ok (.iload_n 3, 1) := by decide +kernel
theorem dL_law_391 : decode cL_law 391 = .ok (.iconst 2, 1) := by decide +kernel
theorem dL_law_392 : decode cL_law 392 = .ok (.iadd, 1) := by decide +kernel
theorem dL_law_393 : decode cL_law 393 = .ok (.iaload, 1) := by decide +kernel
theorem dL_law_394 : decode cL_law 394 = .ok (.invokevirtual 53, 3) := by decide +kernel
theorem dL_law_397 : decode cL_law 397 = .ok (.aload_n 2, 1) := by decide +kernel
theorem dL_law_398 : decode cL_law 398 = .ok (.aload_n 0, 1) := by decide +kernel
theorem dL_law_399 : decode cL_law 399 = .ok (.iload_n 3, 1) := by decide +kernel
theorem dL_law_400 : decode cL_law 400 = .ok (.iconst 1, 1) := by decide +kernel
theorem dL_law_401 : decode cL_law 401 = .ok (.iadd, 1) := by decide +kernel
theorem dL_law_402 : decode cL_law 402 = .ok (.iaload, 1) := by decide +kernel
theorem dL_law_403 : decode cL_law 403 = .ok (.aload_n 0, 1) := by decide +kernel
theorem dL_law_404 : decode cL_law 404 = .ok (.iload_n 3, 1) := by decide +kernel
theorem dL_law_405 : decode cL_law 405 = .ok (.iconst 2, 1) := by decide +kernel
theorem dL_law_406 : decode cL_law 406 = .ok (.iadd, 1) := by decide +kernel
theorem dL_law_407 : decode cL_law 407 = .ok (.iaload, 1) := by decide +kernel
theorem dL_law_408 : decode cL_law 408 = .ok (.invokevirtual 56, 3) := by decide +kernel
theorem dL_law_411 : decode cL_law 411 = .ok (.if_icmp .eq 308, 3) := by decide +kernel
theorem dL_law_414 : decode cL_law 414 = .ok (.iconst 0, 1) := by decide +kernel
theorem dL_law_415 : decode cL_law 415 = .ok (.ireturn, 1) := by decide +kernel
theorem dL_law_416 : decode cL_law 416 = .ok (.aload_n 1, 1) := by decide +kernel
theorem dL_law_417 : decode cL_law 417 = .ok (.invokevirtual 57, 3) := by decide +kernel
theorem dL_law_420 : decode cL_law 420 = .ok (.aload_n 2, 1) := by decide +kernel
theorem dL_law_421 : decode cL_law 421 = .ok (.invokevirtual 60, 3) := by decide +kernel
theorem dL_law_424 : decode cL_law 424 = .ok (.if_icmp .eq 295, 3) := by decide +kernel
theorem dL_law_427 : decode cL_law 427 = .ok (.iconst 0, 1) := by decide +kernel
theorem dL_law_428 : decode cL_law 428 = .ok (.ireturn, 1) := by decide +kernel
theorem dL_law_429 : decode cL_law 429 = .ok (.aload_n 1, 1) := by decide +kernel
theorem dL_law_430 : decode cL_law 430 = .ok (.aload_n 0, 1) := by decide +kernel
theorem dL_law_431 : decode cL_law 431 = .ok (.iload_n 3, 1) := by decide +kernel
theorem dL_law_432 : decode cL_law 432 = .ok (.iconst 1, 1) := by decide +kernel
theorem dL_law_433 : decode cL_law 433 = .ok (.iadd, 1) := by decide +kernel
theorem dL_law_434 : decode cL_law 434 = .ok (.iaload, 1) := by decide +kernel
theorem dL_law_435 : decode cL_law 435 = .ok (.invokevirtual 61, 3) := by decide +kernel
theorem dL_law_438 : decode cL_law 438 = .ok (.aload_n 2, 1) := by decide +kernel
theorem dL_law_439 : decode cL_law 439 = .ok (.aload_n 0, 1) := by decide +kernel
theorem dL_law_440 : decode cL_law 440 = .ok (.iload_n 3, 1) := by decide +kernel
theorem dL_law_441 : decode cL_law 441 = .ok (.iconst 1, 1) := by decide +kernel
theorem dL_law_442 : decode cL_law 442 = .ok (.iadd, 1) := by decide +kernel
theorem dL_law_443 : decode cL_law 443 = .ok (.iaload, 1) := by decide +kernel
theorem dL_law_444 : decode cL_law 444 = .ok (.invokevirtual 64, 3) := by decide +kernel
theorem dL_law_447 : decode cL_law 447 = .ok (.if_icmp .eq 272, 3) := by decide +kernel
theorem dL_law_450 : decode cL_law 450 = .ok (.iconst 0, 1) := by decide +kernel
theorem dL_law_451 : decode cL_law 451 = .ok (.ireturn, 1) := by decide +kernel
theorem dL_law_452 : decode cL_law 452 = .ok (.aload_n 1, 1) := by decide +kernel
theorem dL_law_453 : decode cL_law 453 = .ok (.aload_n 0, 1) := by decide +kernel
theorem dL_law_454 : decode cL_law 454 = .ok (.iload_n 3, 1) := by decide +kernel
theorem dL_law_455 : decode cL_law 455 = .ok (.iconst 1, 1) := by decide +kernel
theorem dL_law_456 : decode cL_law 456 = .ok (.iadd, 1) := by decide +kernel
theorem dL_law_457 : decode cL_law 457 = .ok (.iaload, 1) := by decide +kernel
theorem dL_law_458 : decode cL_law 458 = .ok (.aload_n 0, 1) := by decide +kernel
theorem dL_law_459 : decode cL_law 459 = .ok (.iload_n 3, 1) := by decide +kernel
theorem dL_law_460 : decode cL_law 460 = .ok (.iconst 2, 1) := by decide +kernel
theorem dL_law_461 : decode cL_law 461 = .ok (.iadd, 1) := by decide +kernel
theorem dL_law_462 : decode cL_law 462 = .ok (.iaload, 1) := by decide +kernel
theorem dL_law_463 : decode cL_law 463 = .ok (.invokevirtual 65, 3) := by decide +kernel
theorem dL_law_466 : decode cL_law 466 = .ok (.aload_n 2, 1) := by decide +kernel
theorem dL_law_467 : decode cL_law 467 = .ok (.aload_n 0, 1) := by decide +kernel
theorem dL_law_468 : decode cL_law 468 = .ok (.iload_n 3, 1) := by decide +kernel
theorem dL_law_469 : decode cL_law 469 = .ok (.iconst 1, 1) := by decide +kernel
theorem dL_law_470 : decode cL_law 470 = .ok (.iadd, 1) := by decide +kernel
theorem dL_law_471 : decode cL_law 471 = .ok (.iaload, 1) := by decide +kernel
theorem dL_law_472 : decode cL_law 472 = .ok (.aload_n 0, 1) := by decide +kernel
theorem dL_law_473 : decode cL_law 473 = .ok (.iload_n 3, 1) := by decide +kernel
theorem dL_law_474 : decode cL_law 474 = .ok (.iconst 2, 1) := by decide +kernel
theorem dL_law_475 : decode cL_law 475 = .ok (.iadd, 1) := by decide +kernel
theorem dL_law_476 : decode cL_law 476 = .ok (.iaload, 1) := by decide +kernel
theorem dL_law_477 : decode cL_law 477 = .ok (.invokevirtual 68, 3) := by decide +kernel
theorem dL_law_480 : decode cL_law 480 = .ok (.if_icmp .eq 239, 3) := by decide +kernel
theorem dL_law_483 : decode cL_law 483 = .ok (.iconst 0, 1) := by decide +kernel
theorem dL_law_484 : decode cL_law 484 = .ok (.ireturn, 1) := by decide +kernel
theorem dL_law_485 : decode cL_law 485 = .ok (.aload_n 1, 1) := by decide +kernel
theorem dL_law_486 : decode cL_law 486 = .ok (.aload_n 0, 1) := by decide +kernel
theorem dL_law_487 : decode cL_law 487 = .ok (.iload_n 3, 1) := by decide +kernel
theorem dL_law_488 : decode cL_law 488 = .ok (.iconst 1, 1) := by decide +kernel
theorem dL_law_489 : decode cL_law 489 = .ok (.iadd, 1) := by decide +kernel
theorem dL_law_490 : decode cL_law 490 = .ok (.iaload, 1) := by decide +kernel
theorem dL_law_491 : decode cL_law 491 = .ok (.aload_n 0, 1) := by decide +kernel
theorem dL_law_492 : decode cL_law 492 = .ok (.iload_n 3, 1) := by decide +kernel
theorem dL_law_493 : decode cL_law 493 = .ok (.iconst 2, 1) := by decide +kernel
theorem dL_law_494 : decode cL_law 494 = .ok (.iadd, 1) := by decide +kernel
theorem dL_law_495 : decode cL_law 495 = .ok (.iaload, 1) := by decide +kernel
theorem dL_law_496 : decode cL_law 496 = .ok (.aload_n 0, 1) := by decide +kernel
theorem dL_law_497 : decode cL_law 497 = .ok (.iload_n 3, 1) := by decide +kernel
theorem dL_law_498 : decode cL_law 498 = .ok (.iconst 3, 1) := by decide +kernel
theorem dL_law_499 : decode cL_law 499 = .ok (.iadd, 1) := by decide +kernel
theorem dL_law_500 : decode cL_law 500 = .ok (.iaload, 1) := by decide +kernel
theorem dL_law_501 : decode cL_law 501 = .ok (.ifCond .eq 7, 3) := by decide +kernel
theorem dL_law_504 : decode cL_law 504 = .ok (.iconst 1, 1) := by decide +kernel
theorem dL_law_505 : decode cL_law 505 = .ok (.goto 4, 3) := by decide +kernel
theorem dL_law_508 : decode cL_law 508 = .ok (.iconst 0, 1) := by decide +kernel
theorem dL_law_509 : decode cL_law 509 = .ok (.invokevirtual 69, 3) := by decide +kernel
theorem dL_law_512 : decode cL_law 512 = .ok (.aload_n 2, 1) := by decide +kernel
theorem dL_law_513 : decode cL_law 513 = .ok (.aload_n 0, 1) := by decide +kernel
theorem dL_law_514 : decode cL_law 514 = .ok (.iload_n 3, 1) := by decide +kernel
theorem dL_law_515 : decode cL_law 515 = .ok (.iconst 1, 1) := by decide +kernel
theorem dL_law_516 : decode cL_law 516 = .ok (.iadd, 1) := by decide +kernel
theorem dL_law_517 : decode cL_law 517 = .ok (.iaload, 1) := by decide +kernel
theorem dL_law_518 : decode cL_law 518 = .ok (.aload_n 0, 1) := by decide +kernel
theorem dL_law_519 : decode cL_law 519 = .ok (.iload_n 3, 1) := by decide +kernel
theorem dL_law_520 : decode cL_law 520 = .ok (.iconst 2, 1) := by decide +kernel
theorem dL_law_521 : decode cL_law 521 = .ok (.iadd, 1) := by decide +kernel
theorem dL_law_522 : decode cL_law 522 = .ok (.iaload, 1) := by decide +kernel
theorem dL_law_523 : decode cL_law 523 = .ok (.aload_n 0, 1) := by decide +kernel
theorem dL_law_524 : decode cL_law 524 = .ok (.iload_n 3, 1) := by decide +kernel
theorem dL_law_525 : decode cL_law 525 = .ok (.iconst 3, 1) := by decide +kernel
theorem dL_law_526 : decode cL_law 526 = .ok (.iadd, 1) := by decide +kernel
theorem dL_law_527 : decode cL_law 527 = .ok (.iaload, 1) := by decide +kernel
theorem dL_law_528 : decode cL_law 528 = .ok (.ifCond .eq 7, 3) := by decide +kernel
theorem dL_law_531 : decode cL_law 531 = .ok (.iconst 1, 1) := by decide +kernel
theorem dL_law_532 : decode cL_law 532 = .ok (.goto 4, 3) := by decide +kernel
theorem dL_law_535 : decode cL_law 535 = .ok (.iconst 0, 1) := by decide +kernel
theorem dL_law_536 : decode cL_law 536 = .ok (.invokevirtual 73, 3) := by decide +kernel
theorem dL_law_539 : decode cL_law 539 = .ok (.if_icmp .eq 180, 3) := by decide +kernel
theorem dL_law_542 : decode cL_law 542 = .ok (.iconst 0, 1) := by decide +kernel
theorem dL_law_543 : decode cL_law 543 = .ok (.ireturn, 1) := by decide +kernel
theorem dL_law_544 : decode cL_law 544 = .ok (.aload_n 1, 1) := by decide +kernel
theorem dL_law_545 : decode cL_law 545 = .ok (.invokevirtual 74, 3) := by decide +kernel
theorem dL_law_548 : decode cL_law 548 = .ok (.aload_n 2, 1) := by decide +kernel
theorem dL_law_549 : decode cL_law 549 = .ok (.invokevirtual 77, 3) := by decide +kernel
theorem dL_law_552 : decode cL_law 552 = .ok (.if_icmp .eq 167, 3) := by decide +kernel
theorem dL_law_555 : decode cL_law 555 = .ok (.iconst 0, 1) := by decide +kernel
theorem dL_law_556 : decode cL_law 556 = .ok (.ireturn, 1) := by decide +kernel
theorem dL_law_557 : decode cL_law 557 = .ok (.aload_n 1, 1) := by decide +kernel
theorem dL_law_558 : decode cL_law 558 = .ok (.aload_n 0, 1) := by decide +kernel
theorem dL_law_559 : decode cL_law 559 = .ok (.iload_n 3, 1) := by decide +kernel
theorem dL_law_560 : decode cL_law 560 = .ok (.iconst 1, 1) := by decide +kernel
theorem dL_law_561 : decode cL_law 561 = .ok (.iadd, 1) := by decide +kernel
theorem dL_law_562 : decode cL_law 562 = .ok (.iaload, 1) := by decide +kernel
theorem dL_law_563 : decode cL_law 563 = .ok (.aload_n 0, 1) := by decide +kernel
theorem dL_law_564 : decode cL_law 564 = .ok (.iload_n 3, 1) := by decide +kernel
theorem dL_law_565 : decode cL_law 565 = .ok (.iconst 2, 1) := by decide +kernel
theorem dL_law_566 : decode cL_law 566 = .ok (.iadd, 1) := by decide +kernel
theorem dL_law_567 : decode cL_law 567 = .ok (.iaload, 1) := by decide +kernel
theorem dL_law_568 : decode cL_law 568 = .ok (.invokevirtual 78, 3) := by decide +kernel
theorem dL_law_571 : decode cL_law 571 = .ok (.aload_n 2, 1) := by decide +kernel
theorem dL_law_572 : decode cL_law 572 = .ok (.aload_n 0, 1) := by decide +kernel
theorem dL_law_573 : decode cL_law 573 = .ok (.iload_n 3, 1) := by decide +kernel
theorem dL_law_574 : decode cL_law 574 = .ok (.iconst 1, 1) := by decide +kernel
theorem dL_law_575 : decode cL_law 575 = .ok (.iadd, 1) := by decide +kernel
theorem dL_law_576 : decode cL_law 576 = .ok (.iaload, 1) := by decide +kernel
theorem dL_law_577 : decode cL_law 577 = .ok (.aload_n 0, 1) := by decide +kernel
theorem dL_law_578 : decode cL_law 578 = .ok (.iload_n 3, 1) := by decide +kernel
theorem dL_law_579 : decode cL_law 579 = .ok (.iconst 2, 1) := by decide +kernel
theorem dL_law_580 : decode cL_law 580 = .ok (.iadd, 1) := by decide +kernel
theorem dL_law_581 : decode cL_law 581 = .ok (.iaload, 1) := by decide +kernel
theorem dL_law_582 : decode cL_law 582 = .ok (.invokevirtual 81, 3) := by decide +kernel
theorem dL_law_585 : decode cL_law 585 = .ok (.if_icmp .eq 134, 3) := by decide +kernel
theorem dL_law_588 : decode cL_law 588 = .ok (.iconst 0, 1) := by decide +kernel
theorem dL_law_589 : decode cL_law 589 = .ok (.ireturn, 1) := by decide +kernel
theorem dL_law_590 : decode cL_law 590 = .ok (.aload_n 1, 1) := by decide +kernel
theorem dL_law_591 : decode cL_law 591 = .ok (.aload_n 0, 1) := by decide +kernel
theorem dL_law_592 : decode cL_law 592 = .ok (.iload_n 3, 1) := by decide +kernel
theorem dL_law_593 : decode cL_law 593 = .ok (.iconst 1, 1) := by decide +kernel
theorem dL_law_594 : decode cL_law 594 = .ok (.iadd, 1) := by decide +kernel
theorem dL_law_595 : decode cL_law 595 = .ok (.iaload, 1) := by decide +kernel
theorem dL_law_596 : decode cL_law 596 = .ok (.invokevirtual 82, 3) := by decide +kernel
theorem dL_law_599 : decode cL_law 599 = .ok (.aload_n 2, 1) := by decide +kernel
theorem dL_law_600 : decode cL_law 600 = .ok (.aload_n 0, 1) := by decide +kernel
theorem dL_law_601 : decode cL_law 601 = .ok (.iload_n 3, 1) := by decide +kernel
theorem dL_law_602 : decode cL_law 602 = .ok (.iconst 1, 1) := by decide +kernel
theorem dL_law_603 : decode cL_law 603 = .ok (.iadd, 1) := by decide +kernel
theorem dL_law_604 : decode cL_law 604 = .ok (.iaload, 1) := by decide +kernel
theorem dL_law_605 : decode cL_law 605 = .ok (.invokevirtual 85, 3) := by decide +kernel
theorem dL_law_608 : decode cL_law 608 = .ok (.if_icmp .eq 111, 3) := by decide +kernel
theorem dL_law_611 : decode cL_law 611 = .ok (.iconst 0, 1) := by decide +kernel
theorem dL_law_612 : decode cL_law 612 = .ok (.ireturn, 1) := by decide +kernel
theorem dL_law_613 : decode cL_law 613 = .ok (.aload_n 1, 1) := by decide +kernel
theorem dL_law_614 : decode cL_law 614 = .ok (.aload_n 0, 1) := by decide +kernel
theorem dL_law_615 : decode cL_law 615 = .ok (.iload_n 3, 1) := by decide +kernel
theorem dL_law_616 : decode cL_law 616 = .ok (.iconst 1, 1) := by decide +kernel
theorem dL_law_617 : decode cL_law 617 = .ok (.iadd, 1) := by decide +kernel
theorem dL_law_618 : decode cL_law 618 = .ok (.iaload, 1) := by decide +kernel
theorem dL_law_619 : decode cL_law 619 = .ok (.aload_n 0, 1) := by decide +kernel
theorem dL_law_620 : decode cL_law 620 = .ok (.iload_n 3, 1) := by decide +kernel
theorem dL_law_621 : decode cL_law 621 = .ok (.iconst 2, 1) := by decide +kernel
theorem dL_law_622 : decode cL_law 622 = .ok (.iadd, 1) := by decide +kernel
theorem dL_law_623 : decode cL_law 623 = .ok (.iaload, 1) := by decide +kernel
theorem dL_law_624 : decode cL_law 624 = .ok (.aload_n 0, 1) := by decide +kernel
theorem dL_law_625 : decode cL_law 625 = .ok (.iload_n 3, 1) := by decide +kernel
theorem dL_law_626 : decode cL_law 626 = .ok (.iconst 3, 1) := by decide +kernel
theorem dL_law_627 : decode cL_law 627 = .ok (.iadd, 1) := by decide +kernel
theorem dL_law_628 : decode cL_law 628 = .ok (.iaload, 1) := by decide +kernel
theorem dL_law_629 : decode cL_law 629 = .ok (.invokevirtual 86, 3) := by decide +kernel
theorem dL_law_632 : decode cL_law 632 = .ok (.aload_n 2, 1) := by decide +kernel
theorem dL_law_633 : decode cL_law 633 = .ok (.aload_n 0, 1) := by decide +kernel
theorem dL_law_634 : decode cL_law 634 = .ok (.iload_n 3, 1) := by decide +kernel
theorem dL_law_635 : decode cL_law 635 = .ok (.iconst 1, 1) := by decide +kernel
theorem dL_law_636 : decode cL_law 636 = .ok (.iadd, 1) := by decide +kernel
theorem dL_law_637 : decode cL_law 637 = .ok (.iaload, 1) := by decide +kernel
theorem dL_law_638 : decode cL_law 638 = .ok (.aload_n 0, 1) := by decide +kernel
theorem dL_law_639 : decode cL_law 639 = .ok (.iload_n 3, 1) := by decide +kernel
theorem dL_law_640 : decode cL_law 640 = .ok (.iconst 2, 1) := by decide +kernel
theorem dL_law_641 : decode cL_law 641 = .ok (.iadd, 1) := by decide +kernel
theorem dL_law_642 : decode cL_law 642 = .ok (.iaload, 1) := by decide +kernel
theorem dL_law_643 : decode cL_law 643 = .ok (.aload_n 0, 1) := by decide +kernel
theorem dL_law_644 : decode cL_law 644 = .ok (.iload_n 3, 1) := by decide +kernel
theorem dL_law_645 : decode cL_law 645 = .ok (.iconst 3, 1) := by decide +kernel
theorem dL_law_646 : decode cL_law 646 = .ok (.iadd, 1) := by decide +kernel
theorem dL_law_647 : decode cL_law 647 = .ok (.iaload, 1) := by decide +kernel
theorem dL_law_648 : decode cL_law 648 = .ok (.invokevirtual 90, 3) := by decide +kernel
theorem dL_law_651 : decode cL_law 651 = .ok (.if_icmp .eq 68, 3) := by decide +kernel
theorem dL_law_654 : decode cL_law 654 = .ok (.iconst 0, 1) := by decide +kernel
theorem dL_law_655 : decode cL_law 655 = .ok (.ireturn, 1) := by decide +kernel
theorem dL_law_656 : decode cL_law 656 = .ok (.aload_n 1, 1) := by decide +kernel
theorem dL_law_657 : decode cL_law 657 = .ok (.invokevirtual 91, 3) := by decide +kernel
theorem dL_law_660 : decode cL_law 660 = .ok (.aload_n 2, 1) := by decide +kernel
theorem dL_law_661 : decode cL_law 661 = .ok (.invokevirtual 94, 3) := by decide +kernel
theorem dL_law_664 : decode cL_law 664 = .ok (.if_icmp .eq 55, 3) := by decide +kernel
theorem dL_law_667 : decode cL_law 667 = .ok (.iconst 0, 1) := by decide +kernel
theorem dL_law_668 : decode cL_law 668 = .ok (.ireturn, 1) := by decide +kernel
theorem dL_law_669 : decode cL_law 669 = .ok (.aload_n 1, 1) := by decide +kernel
theorem dL_law_670 : decode cL_law 670 = .ok (.invokevirtual 95, 3) := by decide +kernel
theorem dL_law_673 : decode cL_law 673 = .ok (.aload_n 2, 1) := by decide +kernel
theorem dL_law_674 : decode cL_law 674 = .ok (.invokevirtual 98, 3) := by decide +kernel
theorem dL_law_677 : decode cL_law 677 = .ok (.if_icmp .eq 42, 3) := by decide +kernel
theorem dL_law_680 : decode cL_law 680 = .ok (.iconst 0, 1) := by decide +kernel
theorem dL_law_681 : decode cL_law 681 = .ok (.ireturn, 1) := by decide +kernel
theorem dL_law_682 : decode cL_law 682 = .ok (.aload_n 1, 1) := by decide +kernel
theorem dL_law_683 : decode cL_law 683 = .ok (.aload_n 0, 1) := by decide +kernel
theorem dL_law_684 : decode cL_law 684 = .ok (.iload_n 3, 1) := by decide +kernel
theorem dL_law_685 : decode cL_law 685 = .ok (.iconst 1, 1) := by decide +kernel
theorem dL_law_686 : decode cL_law 686 = .ok (.iadd, 1) := by decide +kernel
theorem dL_law_687 : decode cL_law 687 = .ok (.iaload, 1) := by decide +kernel
theorem dL_law_688 : decode cL_law 688 = .ok (.invokevirtual 99, 3) := by decide +kernel
theorem dL_law_691 : decode cL_law 691 = .ok (.aload_n 2, 1) := by decide +kernel
theorem dL_law_692 : decode cL_law 692 = .ok (.aload_n 0, 1) := by decide +kernel
theorem dL_law_693 : decode cL_law 693 = .ok (.iload_n 3, 1) := by decide +kernel
theorem dL_law_694 : decode cL_law 694 = .ok (.iconst 1, 1) := by decide +kernel
theorem dL_law_695 : decode cL_law 695 = .ok (.iadd, 1) := by decide +kernel
theorem dL_law_696 : decode cL_law 696 = .ok (.iaload, 1) := by decide +kernel
theorem dL_law_697 : decode cL_law 697 = .ok (.invokevirtual 102, 3) := by decide +kernel
theorem dL_law_700 : decode cL_law 700 = .ok (.if_icmp .eq 19, 3) := by decide +kernel
theorem dL_law_703 : decode cL_law 703 = .ok (.iconst 0, 1) := by decide +kernel
theorem dL_law_704 : decode cL_law 704 = .ok (.ireturn, 1) := by decide +kernel
theorem dL_law_705 : decode cL_law 705 = .ok (.aload_n 1, 1) := by decide +kernel
theorem dL_law_706 : decode cL_law 706 = .ok (.invokevirtual 103, 3) := by decide +kernel
theorem dL_law_709 : decode cL_law 709 = .ok (.aload_n 2, 1) := by decide +kernel
theorem dL_law_710 : decode cL_law 710 = .ok (.invokevirtual 107, 3) := by decide +kernel
theorem dL_law_713 : decode cL_law 713 = .ok (.lcmp, 1) := by decide +kernel
theorem dL_law_714 : decode cL_law 714 = .ok (.ifCond .eq 5, 3) := by decide +kernel
theorem dL_law_717 : decode cL_law 717 = .ok (.iconst 0, 1) := by decide +kernel
theorem dL_law_718 : decode cL_law 718 = .ok (.ireturn, 1) := by decide +kernel
theorem dL_law_719 : decode cL_law 719 = .ok (.iinc 3 5, 3) := by decide +kernel
theorem dL_law_722 : decode cL_law 722 = .ok (.goto (-704), 3) := by decide +kernel
theorem dL_law_725 : decode cL_law 725 = .ok (.iconst 1, 1) := by decide +kernel
theorem dL_law_726 : decode cL_law 726 = .ok (.ireturn, 1) := by decide +kernel
end
section
section KYC2
variable {ρ ρ' : Type} {G : KyG} {E : KyE} {cc : ByteArray} {nL : Nat} {own : String} {Ts : List Cond} {ret : Option FieldType} {rm : Room} {rv : ρ → Option Value} {o : Option (ρ × Mem)} {M : Mem} {pc : Nat} {lv : List (Nat × Value)} {st st0 : List Value}
variable {y0 : MethodName} {c0 : ByteArray} {n0 : Nat} {r0 : Option FieldType} {y' : MethodName} {cc' : ByteArray} {nL' index n : Nat} {ret' : Option FieldType} {rm' : Room} {As : List Value} {i ci N' : Nat} {CN : String} {T : u_T} {fl : (Nat → Int32) → Int64 → List Value}
theorem ky_callVi (C : Cx G E cc nL own (wY y0 c0 n0 r0) ret rm) {oc : Option (Int32 × Mem)} {K : Int32 → Mem → Option (ρ × Mem)} (hM : Ct G y' (wY y' cc' nL' ret') rm' rI (.ref (gA G i) :: As) oc M) (hi : i < gN G) (cw : ∀ r h, gW G r h i = .inr (ci, fl r h)) (hc : vwCl[ci]? = some (CN, T, N')) (hg : GoodIn (wY y0 c0 n0 r0) (wsV own index CN y' (wY y' cc' nL' ret'))) (hd : y'.cls = CN ∧ y'.cls ≠ "java/lang/invoke/MethodHandle" ∧ y'.cls ≠ "java/lang/invoke/VarHandle" ∧ (parseMethodDescriptor y'.desc).map (fun d => d.parameters.length) = some n) (hrm : rm'.cells = 0 ∧ rm'.slots = 0 ∧ rm'.frames + 1 ≤ rm.frames ∧ 8 + (nL' + 11) + rm'.locals ≤ rm.locals) (hn : As.length = n) (hst : st0 = As.reverse ++ .ref (gA G i) :: st) (hroom : (st.map fun v => v.category).sum ≤ 8) (d : decode cc pc = .ok (.invokevirtual index, 3)) (kk : ∀ (r : Int32) (M1 : Mem), Wo G E nL rv (K r M1) M1 (pc + 3) lv (.int r :: st)) : Wo G E nL rv (bd oc K) M pc lv st0 := ky_callV0 C hM hi cw hc hg hd hrm hn hst hroom d kk
theorem ky_callVl (C : Cx G E cc nL own (wY y0 c0 n0 r0) ret rm) {oc : Option (Int64 × Mem)} {K : Int64 → Mem → Option (ρ × Mem)} (hM : Ct G y' (wY y' cc' nL' ret') rm' rL (.ref (gA G i) :: As) oc M) (hi : i < gN G) (cw : ∀ r h, gW G r h i = .inr (ci, fl r h)) (hc : vwCl[ci]? = some (CN, T, N')) (hg : GoodIn (wY y0 c0 n0 r0) (wsV own index CN y' (wY y' cc' nL' ret'))) (hd : y'.cls = CN ∧ y'.cls ≠ "java/lang/invoke/MethodHandle" ∧ y'.cls ≠ "java/lang/invoke/VarHandle" ∧ (parseMethodDescriptor y'.desc).map (fun d => d.parameters.length) = some n) (hrm : rm'.cells = 0 ∧ rm'.slots = 0 ∧ rm'.frames + 1 ≤ rm.frames ∧ 8 + (nL' + 11) + rm'.locals ≤ rm.locals) (hn : As.length = n) (hst : st0 = As.reverse ++ .ref (gA G i) :: st) (hroom : (st.map fun v => v.category).sum ≤ 8) (d : decode cc pc = .ok (.invokevirtual index, 3)) (kk : ∀ (r : Int64) (M1 : Mem), Wo G E nL rv (K r M1) M1 (pc + 3) lv (.long r :: st)) : Wo G E nL rv (bd oc K) M pc lv st0 := ky_callV0 C hM hi cw hc hg hd hrm hn hst hroom d kk
theorem ky_callVv (C : Cx G E cc nL own (wY y0 c0 n0 r0) ret rm) {oc : Option (Unit × Mem)} {K : Unit → Mem → Option (ρ × Mem)} (hM : Ct G y' (wY y' cc' nL' ret') rm' rV (.ref (gA G i) :: As) oc M) (hi : i < gN G) (cw : ∀ r h, gW G r h i = .inr (ci, fl r h)) (hc : vwCl[ci]? = some (CN, T, N')) (hg : GoodIn (wY y0 c0 n0 r0) (wsV own index CN y' (wY y' cc' nL' ret'))) (hd : y'.cls = CN ∧ y'.cls ≠ "java/lang/invoke/MethodHandle" ∧ y'.cls ≠ "java/lang/invoke/VarHandle" ∧ (parseMethodDescriptor y'.desc).map (fun d => d.parameters.length) = some n) (hrm : rm'.cells = 0 ∧ rm'.slots = 0 ∧ rm'.frames + 1 ≤ rm.frames ∧ 8 + (nL' + 11) + rm'.locals ≤ rm.locals) (hn : As.length = n) (hst : st0 = As.reverse ++ .ref (gA G i) :: st) (hroom : (st.map fun v => v.category).sum ≤ 8) (d : decode cc pc = .ok (.invokevirtual index, 3)) (kk : ∀ (r : Unit) (M1 : Mem), Wo G E nL rv (K r M1) M1 (pc + 3) lv st) : Wo G E nL rv (bd oc K) M pc lv st0 := ky_callV0 C hM hi cw hc hg hd hrm hn hst hroom d kk
theorem ky_callSi (C : Cx G E cc nL own (wY y0 c0 n0 r0) ret rm) {oc : Option (Int32 × Mem)} {K : Int32 → Mem → Option (ρ × Mem)} (hM : Ct G y' (wY y' cc' nL' ret') rm' rI As oc M) (hg : GoodIn (wY y0 c0 n0 r0) (va_wsS own index y' (wY y' cc' nL' ret'))) (hd : y'.cls ≠ "java/lang/invoke/MethodHandle" ∧ y'.cls ≠ "java/lang/invoke/VarHandle" ∧ (parseMethodDescriptor y'.desc).map (fun d => d.parameters.length) = some n) (hrm : rm'.cells = 0 ∧ rm'.slots = 0 ∧ rm'.frames + 1 ≤ rm.frames ∧ 8 + (nL' + 11) + rm'.locals ≤ rm.locals) (hn : As.length = n) (hst : st0 = As.reverse ++ st) (hroom : (st.map fun v => v.category).sum ≤ 8) (d : decode cc pc = .ok (.invokestatic index, 3)) (kk : ∀ (r : Int32) (M1 : Mem), Wo G E nL rv (K r M1) M1 (pc + 3) lv (.int r :: st)) : Wo G E nL rv (bd oc K) M pc lv st0 := ky_callS0 C hM hg hd hrm hn hst hroom d kk
theorem ky_callSl (C : Cx G E cc nL own (wY y0 c0 n0 r0) ret rm) {oc : Option (Int64 × Mem)} {K : Int64 → Mem → Option (ρ × Mem)} (hM : Ct G y' (wY y' cc' nL' ret') rm' rL As oc M) (hg : GoodIn (wY y0 c0 n0 r0) (va_wsS own index y' (wY y' cc' nL' ret'))) (hd : y'.cls ≠ "java/lang/invoke/MethodHandle" ∧ y'.cls ≠ "java/lang/invoke/VarHandle" ∧ (parseMethodDescriptor y'.desc).map (fun d => d.parameters.length) = some n) (hrm : rm'.cells = 0 ∧ rm'.slots = 0 ∧ rm'.frames + 1 ≤ rm.frames ∧ 8 + (nL' + 11) + rm'.locals ≤ rm.locals) (hn : As.length = n) (hst : st0 = As.reverse ++ st) (hroom : (st.map fun v => v.category).sum ≤ 8) (d : decode cc pc = .ok (.invokestatic index, 3)) (kk : ∀ (r : Int64) (M1 : Mem), Wo G E nL rv (K r M1) M1 (pc + 3) lv (.long r :: st)) : Wo G E nL rv (bd oc K) M pc lv st0 := ky_callS0 C hM hg hd hrm hn hst hroom d kk
theorem ky_callSv (C : Cx G E cc nL own (wY y0 c0 n0 r0) ret rm) {oc : Option (Unit × Mem)} {K : Unit → Mem → Option (ρ × Mem)} (hM : Ct G y' (wY y' cc' nL' ret') rm' rV As oc M) (hg : GoodIn (wY y0 c0 n0 r0) (va_wsS own index y' (wY y' cc' nL' ret'))) (hd : y'.cls ≠ "java/lang/invoke/MethodHandle" ∧ y'.cls ≠ "java/lang/invoke/VarHandle" ∧ (parseMethodDescriptor y'.desc).map (fun d => d.parameters.length) = some n) (hrm : rm'.cells = 0 ∧ rm'.slots = 0 ∧ rm'.frames + 1 ≤ rm.frames ∧ 8 + (nL' + 11) + rm'.locals ≤ rm.locals) (hn : As.length = n) (hst : st0 = As.reverse ++ st) (hroom : (st.map fun v => v.category).sum ≤ 8) (d : decode cc pc = .ok (.invokestatic index, 3)) (kk : ∀ (r : Unit) (M1 : Mem), Wo G E nL rv (K r M1) M1 (pc + 3) lv st) : Wo G E nL rv (bd oc K) M pc lv st0 := ky_callS0 C hM hg hd hrm hn hst hroom d kk
end KYC2
/-! THE CLASS'S WORLD: 36 cells. 0 KindWords, 1 page, 2 Weeks, 3 Shares, 4 needs, 5 left; towns at 6, 16, 26: the town, its two arrays, three victims, four convicts -/
def cC (ad : Nat → Nat) (cy : Nat → ClassId) (r : Nat → Int32) (_ : Int64) (i : Nat) : va_E :=
  if i = 0 then .inr (5, [.ref (ad 1), .int (r 1), .ref (ad 6), .ref (ad 16), .ref (ad 2), .ref (ad 3), .int (r 6), .int (r 7), .int (r 8)])
  else if i = 1 then .inl (cy 0, 12, .inl r)
  else if i = 2 then .inr (4, [.ref (ad 26), .int (r 1), .int (r 2)])
  else if i = 3 then .inr (1, [.ref (ad 4), .ref (ad 5), .int (r 2)])
  else if i = 4 then .inl (cy 1, 4, .inl r)
  else if i = 5 then .inl (cy 1, 4, .inl r)
  else if (i - 6) % 10 = 0 then .inr (2, [.ref (ad (i + 1)), .ref (ad (i + 2)), .int (r 2), .int (r 3), .int (r 4), .int (r 5)])
  else if (i - 6) % 10 = 1 then .inl (cy 2, 3, .inr (.inr (.inr (.inr (fun j => some (ad (i - 1 + 3 + j)))))))
  else if (i - 6) % 10 = 2 then .inl (cy 3, 4, .inr (.inr (.inr (.inr (fun j => some (ad (i - 2 + 6 + j)))))))
  else if (i - 6) % 10 < 6 then .inr (3, [.int (r 0), .int (r 1), .int (r 2), .int (r 3)])
  else .inr (0, [.int (r 0), .int (r 1), .int (r 2), .int (r 3), .int (r 4), .int (r 5)])
def isTw (b : Nat) : Prop := b = 6 ∨ b = 16 ∨ b = 26
def isVi (k : Nat) : Prop := k < 36 ∧ 6 ≤ k ∧ 3 ≤ (k - 6) % 10 ∧ (k - 6) % 10 < 6
def isCv (k : Nat) : Prop := k < 36 ∧ 6 ≤ k ∧ 6 ≤ (k - 6) % 10
theorem tw6 : isTw 6 := Or.inl rfl
theorem tw16 : isTw 16 := Or.inr (Or.inl rfl)
theorem tw26 : isTw 26 := Or.inr (Or.inr rfl)
theorem vp_lt {x : Int32} {n : Nat} (h : vp_in x n) : x.toNatClampNeg < n := Nat.not_le.mp fun q => h (Or.inr q)
theorem isVi_of {b : Nat} {x : Int32} (hb : isTw b) (hx : vp_in x 3) : isVi (b + 3 + x.toNatClampNeg) := by
  have := vp_lt hx
  unfold isTw at hb; unfold isVi
  omega
theorem isCv_of {b : Nat} {x : Int32} (hb : isTw b) (hx : vp_in x 4) : isCv (b + 6 + x.toNatClampNeg) := by
  have := vp_lt hx
  unfold isTw at hb; unfold isCv
  omega
def IsC (G : KyG) (cy : Nat → ClassId) : Prop := gN G = 36 ∧ gW G = cC (gA G) cy ∧ gT G = [(cy 0, .char), (cy 1, .int), (cy 2, .object "KindWords$Victim"), (cy 3, .object "KindWords$Convict")] ∧ GOK G
section WC
variable {G : KyG} {cy : Nat → ClassId}
theorem ltK (h : IsC G cy) : 0 < gN G := by rw [h.1]; omega
theorem ltPG (h : IsC G cy) : 1 < gN G := by rw [h.1]; omega
theorem ltW (h : IsC G cy) : 2 < gN G := by rw [h.1]; omega
theorem ltS (h : IsC G cy) : 3 < gN G := by rw [h.1]; omega
theorem ltN (h : IsC G cy) : 4 < gN G := by rw [h.1]; omega
theorem ltF (h : IsC G cy) : 5 < gN G := by rw [h.1]; omega
theorem ltT (h : IsC G cy) {b : Nat} (hb : isTw b) : b < gN G := by unfold isTw at hb; rw [h.1]; omega
theorem ltVA (h : IsC G cy) {b : Nat} (hb : isTw b) : b + 1 < gN G := by unfold isTw at hb; rw [h.1]; omega
theorem ltCA (h : IsC G cy) {b : Nat} (hb : isTw b) : b + 2 < gN G := by unfold isTw at hb; rw [h.1]; omega
theorem ltV (h : IsC G cy) {k : Nat} (hk : isVi k) : k < gN G := by rw [h.1]; exact hk.1
theorem ltC (h : IsC G cy) {k : Nat} (hk : isCv k) : k < gN G := by rw [h.1]; exact hk.1
theorem cwK (h : IsC G cy) : ∀ r x, gW G r x 0 = .inr (5, [.ref (gA G 1), .int (r 1), .ref (gA G 6), .ref (gA G 16), .ref (gA G 2), .ref (gA G 3), .int (r 6), .int (r 7), .int (r 8)]) := fun r x => by rw [h.2.1]; rfl
theorem cwPG (h : IsC G cy) : ∀ r x, gW G r x 1 = .inl (cy 0, 12, .inl r) := fun r x => by rw [h.2.1]; rfl
theorem cwW (h : IsC G cy) : ∀ r x, gW G r x 2 = .inr (4, [.ref (gA G 26), .int (r 1), .int (r 2)]) := fun r x => by rw [h.2.1]; rfl
theorem cwS (h : IsC G cy) : ∀ r x, gW G r x 3 = .inr (1, [.ref (gA G 4), .ref (gA G 5), .int (r 2)]) := fun r x => by rw [h.2.1]; rfl
theorem cwN (h : IsC G cy) : ∀ r x, gW G r x 4 = .inl (cy 1, 4, .inl r) := fun r x => by rw [h.2.1]; rfl
theorem cwF (h : IsC G cy) : ∀ r x, gW G r x 5 = .inl (cy 1, 4, .inl r) := fun r x => by rw [h.2.1]; rfl
theorem cwT (h : IsC G cy) {b : Nat} (hb : isTw b) : ∀ r x, gW G r x b = .inr (2, [.ref (gA G (b + 1)), .ref (gA G (b + 2)), .int (r 2), .int (r 3), .int (r 4), .int (r 5)]) := fun r x => by rw [h.2.1]; rcases hb with rfl | rfl | rfl <;> rfl
theorem cwVA (h : IsC G cy) {b : Nat} (hb : isTw b) : ∀ r x, gW G r x (b + 1) = .inl (cy 2, 3, .inr (.inr (.inr (.inr (fun j => some (gA G (b + 3 + j))))))) := fun r x => by rw [h.2.1]; rcases hb with rfl | rfl | rfl <;> rfl
theorem cwCA (h : IsC G cy) {b : Nat} (hb : isTw b) : ∀ r x, gW G r x (b + 2) = .inl (cy 3, 4, .inr (.inr (.inr (.inr (fun j => some (gA G (b + 6 + j))))))) := fun r x => by rw [h.2.1]; rcases hb with rfl | rfl | rfl <;> rfl
theorem cwV (h : IsC G cy) {k : Nat} (hk : isVi k) : ∀ r x, gW G r x k = .inr (3, [.int (r 0), .int (r 1), .int (r 2), .int (r 3)]) := fun r x => by
  obtain ⟨h1, h2, h3, h4⟩ := hk
  rw [h.2.1]; unfold cC
  rw [if_neg (by omega), if_neg (by omega), if_neg (by omega), if_neg (by omega), if_neg (by omega), if_neg (by omega), if_neg (by omega), if_neg (by omega), if_neg (by omega), if_pos (by omega)]
theorem cwC (h : IsC G cy) {k : Nat} (hk : isCv k) : ∀ r x, gW G r x k = .inr (0, [.int (r 0), .int (r 1), .int (r 2), .int (r 3), .int (r 4), .int (r 5)]) := fun r x => by
  obtain ⟨h1, h2, h3⟩ := hk
  rw [h.2.1]; unfold cC
  rw [if_neg (by omega), if_neg (by omega), if_neg (by omega), if_neg (by omega), if_neg (by omega), if_neg (by omega), if_neg (by omega), if_neg (by omega), if_neg (by omega), if_neg (by omega)]
theorem tC0 (h : IsC G cy) : (gT G)[0]? = some (cy 0, .char) := by rw [h.2.2.1]; rfl
theorem tC1 (h : IsC G cy) : (gT G)[1]? = some (cy 1, .int) := by rw [h.2.2.1]; rfl
theorem tC2 (h : IsC G cy) : (gT G)[2]? = some (cy 2, .object "KindWords$Victim") := by rw [h.2.2.1]; rfl
theorem tC3 (h : IsC G cy) : (gT G)[3]? = some (cy 3, .object "KindWords$Convict") := by rw [h.2.2.1]; rfl
end WC
/-! THE REFERENCE'S WORLD: 14 cells. 0 the object, 1 page, 2 truth, 3 used, 4 rows, 5 whoSays, 6 bestSays, 7 saysMany, 8 trials, 9 savedRows, 10 savedUsed, 11 keptRows, 12 keptUsed, 13 keptTrials -/
def lenR (i : Nat) : Nat := if i = 1 then 12 else if i = 2 ∨ i = 3 ∨ i = 10 ∨ i = 12 then 3 else if i = 5 ∨ i = 6 then 6 else if i = 7 then 4 else 24
def cR (ad : Nat → Nat) (cy : ClassId) (r : Nat → Int32) (h : Int64) (i : Nat) : va_E :=
  if i = 0 then .inr (6, [.ref (ad 1), .int (r 1), .int (r 2), .int (r 3), .int (r 4), .int (r 5), .ref (ad 2), .ref (ad 3), .int (r 8), .ref (ad 4), .ref (ad 5), .ref (ad 6), .ref (ad 7), .int (r 13), .ref (ad 8), .int (r 15), .ref (ad 9), .ref (ad 10), .int (r 18), .int (r 19), .int (r 20), .int (r 21), .int (r 22), .ref (ad 11), .ref (ad 12), .ref (ad 13), .long h])
  else .inl (cy, lenR i, .inl r)
def isAr (i : Nat) : Prop := 1 ≤ i ∧ i < 14
def IsR (G : KyG) (cy : ClassId) : Prop := gN G = 14 ∧ gW G = cR (gA G) cy ∧ gT G = [(cy, .int)] ∧ GOK G
section WR
variable {G : KyG} {cy : ClassId}
theorem ltR (h : IsR G cy) : 0 < gN G := by rw [h.1]; omega
theorem ltA (h : IsR G cy) {i : Nat} (hi : isAr i) : i < gN G := by rw [h.1]; exact hi.2
theorem cwR (h : IsR G cy) : ∀ r x, gW G r x 0 = .inr (6, [.ref (gA G 1), .int (r 1), .int (r 2), .int (r 3), .int (r 4), .int (r 5), .ref (gA G 2), .ref (gA G 3), .int (r 8), .ref (gA G 4), .ref (gA G 5), .ref (gA G 6), .ref (gA G 7), .int (r 13), .ref (gA G 8), .int (r 15), .ref (gA G 9), .ref (gA G 10), .int (r 18), .int (r 19), .int (r 20), .int (r 21), .int (r 22), .ref (gA G 11), .ref (gA G 12), .ref (gA G 13), .long x]) := fun r x => by rw [h.2.1]; rfl
theorem cwA (h : IsR G cy) {i : Nat} (hi : isAr i) : ∀ r x, gW G r x i = .inl (cy, lenR i, .inl r) := fun r x => by
  rw [h.2.1]; unfold cR; rw [if_neg (by have := hi.1; omega)]
theorem othR (h : IsR G cy) : ∀ r x x' j, j < gN G → j ≠ 0 → gW G r x j = gW G r x' j := fun r x x' j _ hj => by rw [h.2.1]; unfold cR; rw [if_neg hj, if_neg hj]
theorem tR0 (h : IsR G cy) : (gT G)[0]? = some (cy, .int) := by rw [h.2.2.1]; rfl
theorem ar1 : isAr 1 := ⟨by omega, by omega⟩
theorem cwA1 (h : IsR G cy) : ∀ r x, gW G r x 1 = .inl (cy, 12, .inl r) := fun r x => by rw [h.2.1]; rfl
theorem ar2 : isAr 2 := ⟨by omega, by omega⟩
theorem cwA2 (h : IsR G cy) : ∀ r x, gW G r x 2 = .inl (cy, 3, .inl r) := fun r x => by rw [h.2.1]; rfl
theorem ar3 : isAr 3 := ⟨by omega, by omega⟩
theorem cwA3 (h : IsR G cy) : ∀ r x, gW G r x 3 = .inl (cy, 3, .inl r) := fun r x => by rw [h.2.1]; rfl
theorem ar4 : isAr 4 := ⟨by omega, by omega⟩
theorem cwA4 (h : IsR G cy) : ∀ r x, gW G r x 4 = .inl (cy, 24, .inl r) := fun r x => by rw [h.2.1]; rfl
theorem ar5 : isAr 5 := ⟨by omega, by omega⟩
theorem cwA5 (h : IsR G cy) : ∀ r x, gW G r x 5 = .inl (cy, 6, .inl r) := fun r x => by rw [h.2.1]; rfl
theorem ar6 : isAr 6 := ⟨by omega, by omega⟩
theorem cwA6 (h : IsR G cy) : ∀ r x, gW G r x 6 = .inl (cy, 6, .inl r) := fun r x => by rw [h.2.1]; rfl
theorem ar7 : isAr 7 := ⟨by omega, by omega⟩
theorem cwA7 (h : IsR G cy) : ∀ r x, gW G r x 7 = .inl (cy, 4, .inl r) := fun r x => by rw [h.2.1]; rfl
theorem ar8 : isAr 8 := ⟨by omega, by omega⟩
theorem cwA8 (h : IsR G cy) : ∀ r x, gW G r x 8 = .inl (cy, 24, .inl r) := fun r x => by rw [h.2.1]; rfl
theorem ar9 : isAr 9 := ⟨by omega, by omega⟩
theorem cwA9 (h : IsR G cy) : ∀ r x, gW G r x 9 = .inl (cy, 24, .inl r) := fun r x => by rw [h.2.1]; rfl
theorem ar10 : isAr 10 := ⟨by omega, by omega⟩
theorem cwA10 (h : IsR G cy) : ∀ r x, gW G r x 10 = .inl (cy, 3, .inl r) := fun r x => by rw [h.2.1]; rfl
theorem ar11 : isAr 11 := ⟨by omega, by omega⟩
theorem cwA11 (h : IsR G cy) : ∀ r x, gW G r x 11 = .inl (cy, 24, .inl r) := fun r x => by rw [h.2.1]; rfl
theorem ar12 : isAr 12 := ⟨by omega, by omega⟩
theorem cwA12 (h : IsR G cy) : ∀ r x, gW G r x 12 = .inl (cy, 3, .inl r) := fun r x => by rw [h.2.1]; rfl
theorem ar13 : isAr 13 := ⟨by omega, by omega⟩
theorem cwA13 (h : IsR G cy) : ∀ r x, gW G r x 13 = .inl (cy, 24, .inl r) := fun r x => by rw [h.2.1]; rfl
end WR
end

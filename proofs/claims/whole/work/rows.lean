section
-- ===== PART A: goes FIRST, ahead of the names: the tables' words, and 'selects' of the private methods out of them =====
/-- a private method of a class that the tables say can be made, by its rows of tables_1 -/
def lw_okq (q : MethodName × Nat) : Prop := (q.1.cls ≠ "java/lang/invoke/MethodHandle" ∧ q.1.cls ≠ "java/lang/invoke/VarHandle") ∧ Cond.instantiable q.1.cls q.2 ∈ tables_1 ∧ Cond.privateMethod q.1 ∈ tables_1 ∧ Cond.instanceMethod q.1 ∈ tables_1
theorem lw_p0 : lw_okq (⟨"SaltStairs$Laws", "clear", "()V"⟩, 4) := ⟨⟨by decide +kernel, by decide +kernel⟩, List.mem_of_getElem? (i := 63) (by decide +kernel), List.mem_of_getElem? (i := 69) (by decide +kernel), List.mem_of_getElem? (i := 70) (by decide +kernel)⟩
theorem lw_p1 : lw_okq (⟨"SaltStairs$Tape", "add", "(IIIII)I"⟩, 5) := ⟨⟨by decide +kernel, by decide +kernel⟩, List.mem_of_getElem? (i := 31) (by decide +kernel), List.mem_of_getElem? (i := 472) (by decide +kernel), List.mem_of_getElem? (i := 473) (by decide +kernel)⟩
theorem lw_p2 : lw_okq (⟨"SaltStairs$Tape", "addFour", "(I)V"⟩, 5) := ⟨⟨by decide +kernel, by decide +kernel⟩, List.mem_of_getElem? (i := 31) (by decide +kernel), List.mem_of_getElem? (i := 476) (by decide +kernel), List.mem_of_getElem? (i := 477) (by decide +kernel)⟩
theorem lw_p3 : lw_okq (⟨"SaltStairs$Tape", "cut", "(I)I"⟩, 5) := ⟨⟨by decide +kernel, by decide +kernel⟩, List.mem_of_getElem? (i := 31) (by decide +kernel), List.mem_of_getElem? (i := 484) (by decide +kernel), List.mem_of_getElem? (i := 485) (by decide +kernel)⟩
theorem lw_p4 : lw_okq (⟨"SaltStairs$Parser", "parse", "()I"⟩, 10) := ⟨⟨by decide +kernel, by decide +kernel⟩, List.mem_of_getElem? (i := 148) (by decide +kernel), List.mem_of_getElem? (i := 492) (by decide +kernel), List.mem_of_getElem? (i := 493) (by decide +kernel)⟩
theorem lw_p5 : lw_okq (⟨"SaltStairs$Tape", "cutIntoTokens", "()V"⟩, 5) := ⟨⟨by decide +kernel, by decide +kernel⟩, List.mem_of_getElem? (i := 31) (by decide +kernel), List.mem_of_getElem? (i := 496) (by decide +kernel), List.mem_of_getElem? (i := 497) (by decide +kernel)⟩
theorem lw_p6 : lw_okq (⟨"SaltStairs$Tape", "afterBlanks", "(I)I"⟩, 5) := ⟨⟨by decide +kernel, by decide +kernel⟩, List.mem_of_getElem? (i := 31) (by decide +kernel), List.mem_of_getElem? (i := 500) (by decide +kernel), List.mem_of_getElem? (i := 501) (by decide +kernel)⟩
theorem lw_p7 : lw_okq (⟨"SaltStairs$Tape", "byteAt", "(I)I"⟩, 5) := ⟨⟨by decide +kernel, by decide +kernel⟩, List.mem_of_getElem? (i := 31) (by decide +kernel), List.mem_of_getElem? (i := 504) (by decide +kernel), List.mem_of_getElem? (i := 505) (by decide +kernel)⟩
theorem lw_p8 : lw_okq (⟨"SaltStairs$Tape", "endOf", "(I)I"⟩, 5) := ⟨⟨by decide +kernel, by decide +kernel⟩, List.mem_of_getElem? (i := 31) (by decide +kernel), List.mem_of_getElem? (i := 511) (by decide +kernel), List.mem_of_getElem? (i := 512) (by decide +kernel)⟩
theorem lw_p9 : lw_okq (⟨"SaltStairs$Tape", "kindOf", "(II)I"⟩, 5) := ⟨⟨by decide +kernel, by decide +kernel⟩, List.mem_of_getElem? (i := 31) (by decide +kernel), List.mem_of_getElem? (i := 521) (by decide +kernel), List.mem_of_getElem? (i := 522) (by decide +kernel)⟩
theorem lw_p10 : lw_okq (⟨"SaltStairs$Tape", "wordOf", "(II)I"⟩, 5) := ⟨⟨by decide +kernel, by decide +kernel⟩, List.mem_of_getElem? (i := 31) (by decide +kernel), List.mem_of_getElem? (i := 525) (by decide +kernel), List.mem_of_getElem? (i := 526) (by decide +kernel)⟩
theorem lw_p11 : lw_okq (⟨"SaltStairs$Tape", "isWord", "(III)Z"⟩, 5) := ⟨⟨by decide +kernel, by decide +kernel⟩, List.mem_of_getElem? (i := 31) (by decide +kernel), List.mem_of_getElem? (i := 529) (by decide +kernel), List.mem_of_getElem? (i := 530) (by decide +kernel)⟩
theorem lw_p12 : lw_okq (⟨"SaltStairs$Tape", "valueOf", "(II)J"⟩, 5) := ⟨⟨by decide +kernel, by decide +kernel⟩, List.mem_of_getElem? (i := 31) (by decide +kernel), List.mem_of_getElem? (i := 645) (by decide +kernel), List.mem_of_getElem? (i := 646) (by decide +kernel)⟩
theorem lw_p13 : lw_okq (⟨"SaltStairs$Tape", "kindAt", "(I)I"⟩, 5) := ⟨⟨by decide +kernel, by decide +kernel⟩, List.mem_of_getElem? (i := 31) (by decide +kernel), List.mem_of_getElem? (i := 653) (by decide +kernel), List.mem_of_getElem? (i := 654) (by decide +kernel)⟩
theorem lw_p14 : lw_okq (⟨"SaltStairs$Text", "clear", "()V"⟩, 10) := ⟨⟨by decide +kernel, by decide +kernel⟩, List.mem_of_getElem? (i := 57) (by decide +kernel), List.mem_of_getElem? (i := 657) (by decide +kernel), List.mem_of_getElem? (i := 658) (by decide +kernel)⟩
theorem lw_p15 : lw_okq (⟨"SaltStairs$Parser", "readRow", "([IIII)I"⟩, 10) := ⟨⟨by decide +kernel, by decide +kernel⟩, List.mem_of_getElem? (i := 148) (by decide +kernel), List.mem_of_getElem? (i := 662) (by decide +kernel), List.mem_of_getElem? (i := 663) (by decide +kernel)⟩
def lw_privs_1 : List (MethodName × Nat) := [(⟨"SaltStairs$Laws", "clear", "()V"⟩, 4), (⟨"SaltStairs$Tape", "add", "(IIIII)I"⟩, 5), (⟨"SaltStairs$Tape", "addFour", "(I)V"⟩, 5), (⟨"SaltStairs$Tape", "cut", "(I)I"⟩, 5), (⟨"SaltStairs$Parser", "parse", "()I"⟩, 10), (⟨"SaltStairs$Tape", "cutIntoTokens", "()V"⟩, 5), (⟨"SaltStairs$Tape", "afterBlanks", "(I)I"⟩, 5), (⟨"SaltStairs$Tape", "byteAt", "(I)I"⟩, 5), (⟨"SaltStairs$Tape", "endOf", "(I)I"⟩, 5), (⟨"SaltStairs$Tape", "kindOf", "(II)I"⟩, 5), (⟨"SaltStairs$Tape", "wordOf", "(II)I"⟩, 5), (⟨"SaltStairs$Tape", "isWord", "(III)Z"⟩, 5), (⟨"SaltStairs$Tape", "valueOf", "(II)J"⟩, 5), (⟨"SaltStairs$Tape", "kindAt", "(I)I"⟩, 5), (⟨"SaltStairs$Text", "clear", "()V"⟩, 10), (⟨"SaltStairs$Parser", "readRow", "([IIII)I"⟩, 10)]
theorem lw_r1 : ∀ q ∈ lw_privs_1, lw_okq q := List.forall_mem_cons.mpr ⟨lw_p0, List.forall_mem_cons.mpr ⟨lw_p1, List.forall_mem_cons.mpr ⟨lw_p2, List.forall_mem_cons.mpr ⟨lw_p3, List.forall_mem_cons.mpr ⟨lw_p4, List.forall_mem_cons.mpr ⟨lw_p5, List.forall_mem_cons.mpr ⟨lw_p6, List.forall_mem_cons.mpr ⟨lw_p7, List.forall_mem_cons.mpr ⟨lw_p8, List.forall_mem_cons.mpr ⟨lw_p9, List.forall_mem_cons.mpr ⟨lw_p10, List.forall_mem_cons.mpr ⟨lw_p11, List.forall_mem_cons.mpr ⟨lw_p12, List.forall_mem_cons.mpr ⟨lw_p13, List.forall_mem_cons.mpr ⟨lw_p14, List.forall_mem_cons.mpr ⟨lw_p15, fun _ h => absurd h List.not_mem_nil⟩⟩⟩⟩⟩⟩⟩⟩⟩⟩⟩⟩⟩⟩⟩⟩
theorem lw_p16 : lw_okq (⟨"SaltStairs$Parser", "take", "(I)V"⟩, 10) := ⟨⟨by decide +kernel, by decide +kernel⟩, List.mem_of_getElem? (i := 148) (by decide +kernel), List.mem_of_getElem? (i := 666) (by decide +kernel), List.mem_of_getElem? (i := 667) (by decide +kernel)⟩
theorem lw_p17 : lw_okq (⟨"SaltStairs$Parser", "fail", "(I)V"⟩, 10) := ⟨⟨by decide +kernel, by decide +kernel⟩, List.mem_of_getElem? (i := 148) (by decide +kernel), List.mem_of_getElem? (i := 670) (by decide +kernel), List.mem_of_getElem? (i := 671) (by decide +kernel)⟩
theorem lw_p18 : lw_okq (⟨"SaltStairs$Parser", "takeInt", "(II)I"⟩, 10) := ⟨⟨by decide +kernel, by decide +kernel⟩, List.mem_of_getElem? (i := 148) (by decide +kernel), List.mem_of_getElem? (i := 674) (by decide +kernel), List.mem_of_getElem? (i := 675) (by decide +kernel)⟩
theorem lw_p19 : lw_okq (⟨"SaltStairs$Tape", "valueAt", "(I)J"⟩, 5) := ⟨⟨by decide +kernel, by decide +kernel⟩, List.mem_of_getElem? (i := 31) (by decide +kernel), List.mem_of_getElem? (i := 678) (by decide +kernel), List.mem_of_getElem? (i := 679) (by decide +kernel)⟩
theorem lw_p20 : lw_okq (⟨"SaltStairs$Parser", "failLater", "(I)V"⟩, 10) := ⟨⟨by decide +kernel, by decide +kernel⟩, List.mem_of_getElem? (i := 148) (by decide +kernel), List.mem_of_getElem? (i := 682) (by decide +kernel), List.mem_of_getElem? (i := 683) (by decide +kernel)⟩
theorem lw_p21 : lw_okq (⟨"SaltStairs$Parser", "readBrine", "()V"⟩, 10) := ⟨⟨by decide +kernel, by decide +kernel⟩, List.mem_of_getElem? (i := 148) (by decide +kernel), List.mem_of_getElem? (i := 687) (by decide +kernel), List.mem_of_getElem? (i := 688) (by decide +kernel)⟩
theorem lw_p22 : lw_okq (⟨"SaltStairs$Parser", "readPilgrim", "()V"⟩, 10) := ⟨⟨by decide +kernel, by decide +kernel⟩, List.mem_of_getElem? (i := 148) (by decide +kernel), List.mem_of_getElem? (i := 691) (by decide +kernel), List.mem_of_getElem? (i := 692) (by decide +kernel)⟩
theorem lw_p23 : lw_okq (⟨"SaltStairs$Parser", "takeName", "(I)V"⟩, 10) := ⟨⟨by decide +kernel, by decide +kernel⟩, List.mem_of_getElem? (i := 148) (by decide +kernel), List.mem_of_getElem? (i := 695) (by decide +kernel), List.mem_of_getElem? (i := 696) (by decide +kernel)⟩
theorem lw_p24 : lw_okq (⟨"SaltStairs$Parser", "takeVow", "()I"⟩, 10) := ⟨⟨by decide +kernel, by decide +kernel⟩, List.mem_of_getElem? (i := 148) (by decide +kernel), List.mem_of_getElem? (i := 699) (by decide +kernel), List.mem_of_getElem? (i := 700) (by decide +kernel)⟩
theorem lw_p25 : lw_okq (⟨"SaltStairs$Parser", "readLaw", "()V"⟩, 10) := ⟨⟨by decide +kernel, by decide +kernel⟩, List.mem_of_getElem? (i := 148) (by decide +kernel), List.mem_of_getElem? (i := 703) (by decide +kernel), List.mem_of_getElem? (i := 704) (by decide +kernel)⟩
theorem lw_p26 : lw_okq (⟨"SaltStairs$Laws", "open", "(I)V"⟩, 4) := ⟨⟨by decide +kernel, by decide +kernel⟩, List.mem_of_getElem? (i := 63) (by decide +kernel), List.mem_of_getElem? (i := 707) (by decide +kernel), List.mem_of_getElem? (i := 708) (by decide +kernel)⟩
theorem lw_p27 : lw_okq (⟨"SaltStairs$Parser", "readIf", "()V"⟩, 10) := ⟨⟨by decide +kernel, by decide +kernel⟩, List.mem_of_getElem? (i := 148) (by decide +kernel), List.mem_of_getElem? (i := 712) (by decide +kernel), List.mem_of_getElem? (i := 713) (by decide +kernel)⟩
theorem lw_p28 : lw_okq (⟨"SaltStairs$Parser", "readSum", "(I)V"⟩, 10) := ⟨⟨by decide +kernel, by decide +kernel⟩, List.mem_of_getElem? (i := 148) (by decide +kernel), List.mem_of_getElem? (i := 716) (by decide +kernel), List.mem_of_getElem? (i := 717) (by decide +kernel)⟩
theorem lw_p29 : lw_okq (⟨"SaltStairs$Parser", "readUnit", "(I)V"⟩, 10) := ⟨⟨by decide +kernel, by decide +kernel⟩, List.mem_of_getElem? (i := 148) (by decide +kernel), List.mem_of_getElem? (i := 720) (by decide +kernel), List.mem_of_getElem? (i := 721) (by decide +kernel)⟩
theorem lw_p30 : lw_okq (⟨"SaltStairs$Laws", "emit", "(II)V"⟩, 4) := ⟨⟨by decide +kernel, by decide +kernel⟩, List.mem_of_getElem? (i := 63) (by decide +kernel), List.mem_of_getElem? (i := 724) (by decide +kernel), List.mem_of_getElem? (i := 725) (by decide +kernel)⟩
theorem lw_p31 : lw_okq (⟨"SaltStairs$Laws", "elseHere", "(I)V"⟩, 4) := ⟨⟨by decide +kernel, by decide +kernel⟩, List.mem_of_getElem? (i := 63) (by decide +kernel), List.mem_of_getElem? (i := 731) (by decide +kernel), List.mem_of_getElem? (i := 732) (by decide +kernel)⟩
def lw_privs_2 : List (MethodName × Nat) := [(⟨"SaltStairs$Parser", "take", "(I)V"⟩, 10), (⟨"SaltStairs$Parser", "fail", "(I)V"⟩, 10), (⟨"SaltStairs$Parser", "takeInt", "(II)I"⟩, 10), (⟨"SaltStairs$Tape", "valueAt", "(I)J"⟩, 5), (⟨"SaltStairs$Parser", "failLater", "(I)V"⟩, 10), (⟨"SaltStairs$Parser", "readBrine", "()V"⟩, 10), (⟨"SaltStairs$Parser", "readPilgrim", "()V"⟩, 10), (⟨"SaltStairs$Parser", "takeName", "(I)V"⟩, 10), (⟨"SaltStairs$Parser", "takeVow", "()I"⟩, 10), (⟨"SaltStairs$Parser", "readLaw", "()V"⟩, 10), (⟨"SaltStairs$Laws", "open", "(I)V"⟩, 4), (⟨"SaltStairs$Parser", "readIf", "()V"⟩, 10), (⟨"SaltStairs$Parser", "readSum", "(I)V"⟩, 10), (⟨"SaltStairs$Parser", "readUnit", "(I)V"⟩, 10), (⟨"SaltStairs$Laws", "emit", "(II)V"⟩, 4), (⟨"SaltStairs$Laws", "elseHere", "(I)V"⟩, 4)]
theorem lw_r2 : ∀ q ∈ lw_privs_2, lw_okq q := List.forall_mem_cons.mpr ⟨lw_p16, List.forall_mem_cons.mpr ⟨lw_p17, List.forall_mem_cons.mpr ⟨lw_p18, List.forall_mem_cons.mpr ⟨lw_p19, List.forall_mem_cons.mpr ⟨lw_p20, List.forall_mem_cons.mpr ⟨lw_p21, List.forall_mem_cons.mpr ⟨lw_p22, List.forall_mem_cons.mpr ⟨lw_p23, List.forall_mem_cons.mpr ⟨lw_p24, List.forall_mem_cons.mpr ⟨lw_p25, List.forall_mem_cons.mpr ⟨lw_p26, List.forall_mem_cons.mpr ⟨lw_p27, List.forall_mem_cons.mpr ⟨lw_p28, List.forall_mem_cons.mpr ⟨lw_p29, List.forall_mem_cons.mpr ⟨lw_p30, List.forall_mem_cons.mpr ⟨lw_p31, fun _ h => absurd h List.not_mem_nil⟩⟩⟩⟩⟩⟩⟩⟩⟩⟩⟩⟩⟩⟩⟩⟩
theorem lw_p32 : lw_okq (⟨"SaltStairs$Tape", "clear", "()V"⟩, 5) := ⟨⟨by decide +kernel, by decide +kernel⟩, List.mem_of_getElem? (i := 31) (by decide +kernel), List.mem_of_getElem? (i := 735) (by decide +kernel), List.mem_of_getElem? (i := 736) (by decide +kernel)⟩
theorem lw_p33 : lw_okq (⟨"SaltStairs$Parser", "faultPlace", "()I"⟩, 10) := ⟨⟨by decide +kernel, by decide +kernel⟩, List.mem_of_getElem? (i := 148) (by decide +kernel), List.mem_of_getElem? (i := 739) (by decide +kernel), List.mem_of_getElem? (i := 740) (by decide +kernel)⟩
theorem lw_p34 : lw_okq (⟨"SaltStairs$Tape", "startAt", "(I)I"⟩, 5) := ⟨⟨by decide +kernel, by decide +kernel⟩, List.mem_of_getElem? (i := 31) (by decide +kernel), List.mem_of_getElem? (i := 743) (by decide +kernel), List.mem_of_getElem? (i := 744) (by decide +kernel)⟩
theorem lw_p35 : lw_okq (⟨"SaltStairs", "startAnew", "()V"⟩, 16) := ⟨⟨by decide +kernel, by decide +kernel⟩, List.mem_of_getElem? (i := 23) (by decide +kernel), List.mem_of_getElem? (i := 750) (by decide +kernel), List.mem_of_getElem? (i := 751) (by decide +kernel)⟩
theorem lw_p36 : lw_okq (⟨"SaltStairs$Text", "copyFrom", "(LSaltStairs$Text;)V"⟩, 10) := ⟨⟨by decide +kernel, by decide +kernel⟩, List.mem_of_getElem? (i := 57) (by decide +kernel), List.mem_of_getElem? (i := 754) (by decide +kernel), List.mem_of_getElem? (i := 755) (by decide +kernel)⟩
theorem lw_p37 : lw_okq (⟨"SaltStairs$Laws", "copyFrom", "(LSaltStairs$Laws;)V"⟩, 4) := ⟨⟨by decide +kernel, by decide +kernel⟩, List.mem_of_getElem? (i := 63) (by decide +kernel), List.mem_of_getElem? (i := 765) (by decide +kernel), List.mem_of_getElem? (i := 766) (by decide +kernel)⟩
theorem lw_p38 : lw_okq (⟨"SaltStairs$Scene", "start", "()V"⟩, 8) := ⟨⟨by decide +kernel, by decide +kernel⟩, List.mem_of_getElem? (i := 221) (by decide +kernel), List.mem_of_getElem? (i := 770) (by decide +kernel), List.mem_of_getElem? (i := 771) (by decide +kernel)⟩
theorem lw_p39 : lw_okq (⟨"SaltStairs$Stairs", "build", "(LSaltStairs$Text;)V"⟩, 4) := ⟨⟨by decide +kernel, by decide +kernel⟩, List.mem_of_getElem? (i := 227) (by decide +kernel), List.mem_of_getElem? (i := 774) (by decide +kernel), List.mem_of_getElem? (i := 775) (by decide +kernel)⟩
theorem lw_p40 : lw_okq (⟨"SaltStairs$Told", "startAnew", "()V"⟩, 8) := ⟨⟨by decide +kernel, by decide +kernel⟩, List.mem_of_getElem? (i := 385) (by decide +kernel), List.mem_of_getElem? (i := 784) (by decide +kernel), List.mem_of_getElem? (i := 785) (by decide +kernel)⟩
theorem lw_p41 : lw_okq (⟨"SaltStairs", "dropAnswers", "()V"⟩, 16) := ⟨⟨by decide +kernel, by decide +kernel⟩, List.mem_of_getElem? (i := 23) (by decide +kernel), List.mem_of_getElem? (i := 788) (by decide +kernel), List.mem_of_getElem? (i := 789) (by decide +kernel)⟩
theorem lw_p42 : lw_okq (⟨"SaltStairs$Orders", "drop", "()V"⟩, 9) := ⟨⟨by decide +kernel, by decide +kernel⟩, List.mem_of_getElem? (i := 291) (by decide +kernel), List.mem_of_getElem? (i := 792) (by decide +kernel), List.mem_of_getElem? (i := 793) (by decide +kernel)⟩
theorem lw_p43 : lw_okq (⟨"SaltStairs$Forecast", "drop", "()V"⟩, 8) := ⟨⟨by decide +kernel, by decide +kernel⟩, List.mem_of_getElem? (i := 332) (by decide +kernel), List.mem_of_getElem? (i := 796) (by decide +kernel), List.mem_of_getElem? (i := 797) (by decide +kernel)⟩
theorem lw_p44 : lw_okq (⟨"SaltStairs$Stairs", "isStep", "(I)Z"⟩, 4) := ⟨⟨by decide +kernel, by decide +kernel⟩, List.mem_of_getElem? (i := 227) (by decide +kernel), List.mem_of_getElem? (i := 808) (by decide +kernel), List.mem_of_getElem? (i := 809) (by decide +kernel)⟩
theorem lw_p45 : lw_okq (⟨"SaltStairs$Stairs", "thickAt", "(I)I"⟩, 4) := ⟨⟨by decide +kernel, by decide +kernel⟩, List.mem_of_getElem? (i := 227) (by decide +kernel), List.mem_of_getElem? (i := 812) (by decide +kernel), List.mem_of_getElem? (i := 813) (by decide +kernel)⟩
theorem lw_p46 : lw_okq (⟨"SaltStairs$Stairs", "borneAt", "(I)I"⟩, 4) := ⟨⟨by decide +kernel, by decide +kernel⟩, List.mem_of_getElem? (i := 227) (by decide +kernel), List.mem_of_getElem? (i := 817) (by decide +kernel), List.mem_of_getElem? (i := 818) (by decide +kernel)⟩
theorem lw_p47 : lw_okq (⟨"SaltStairs$Scene", "standingOn", "(I)I"⟩, 8) := ⟨⟨by decide +kernel, by decide +kernel⟩, List.mem_of_getElem? (i := 221) (by decide +kernel), List.mem_of_getElem? (i := 821) (by decide +kernel), List.mem_of_getElem? (i := 822) (by decide +kernel)⟩
def lw_privs_3 : List (MethodName × Nat) := [(⟨"SaltStairs$Tape", "clear", "()V"⟩, 5), (⟨"SaltStairs$Parser", "faultPlace", "()I"⟩, 10), (⟨"SaltStairs$Tape", "startAt", "(I)I"⟩, 5), (⟨"SaltStairs", "startAnew", "()V"⟩, 16), (⟨"SaltStairs$Text", "copyFrom", "(LSaltStairs$Text;)V"⟩, 10), (⟨"SaltStairs$Laws", "copyFrom", "(LSaltStairs$Laws;)V"⟩, 4), (⟨"SaltStairs$Scene", "start", "()V"⟩, 8), (⟨"SaltStairs$Stairs", "build", "(LSaltStairs$Text;)V"⟩, 4), (⟨"SaltStairs$Told", "startAnew", "()V"⟩, 8), (⟨"SaltStairs", "dropAnswers", "()V"⟩, 16), (⟨"SaltStairs$Orders", "drop", "()V"⟩, 9), (⟨"SaltStairs$Forecast", "drop", "()V"⟩, 8), (⟨"SaltStairs$Stairs", "isStep", "(I)Z"⟩, 4), (⟨"SaltStairs$Stairs", "thickAt", "(I)I"⟩, 4), (⟨"SaltStairs$Stairs", "borneAt", "(I)I"⟩, 4), (⟨"SaltStairs$Scene", "standingOn", "(I)I"⟩, 8)]
theorem lw_r3 : ∀ q ∈ lw_privs_3, lw_okq q := List.forall_mem_cons.mpr ⟨lw_p32, List.forall_mem_cons.mpr ⟨lw_p33, List.forall_mem_cons.mpr ⟨lw_p34, List.forall_mem_cons.mpr ⟨lw_p35, List.forall_mem_cons.mpr ⟨lw_p36, List.forall_mem_cons.mpr ⟨lw_p37, List.forall_mem_cons.mpr ⟨lw_p38, List.forall_mem_cons.mpr ⟨lw_p39, List.forall_mem_cons.mpr ⟨lw_p40, List.forall_mem_cons.mpr ⟨lw_p41, List.forall_mem_cons.mpr ⟨lw_p42, List.forall_mem_cons.mpr ⟨lw_p43, List.forall_mem_cons.mpr ⟨lw_p44, List.forall_mem_cons.mpr ⟨lw_p45, List.forall_mem_cons.mpr ⟨lw_p46, List.forall_mem_cons.mpr ⟨lw_p47, fun _ h => absurd h List.not_mem_nil⟩⟩⟩⟩⟩⟩⟩⟩⟩⟩⟩⟩⟩⟩⟩⟩
theorem lw_p48 : lw_okq (⟨"SaltStairs$Text", "hasPilgrim", "(I)Z"⟩, 10) := ⟨⟨by decide +kernel, by decide +kernel⟩, List.mem_of_getElem? (i := 57) (by decide +kernel), List.mem_of_getElem? (i := 830) (by decide +kernel), List.mem_of_getElem? (i := 831) (by decide +kernel)⟩
theorem lw_p49 : lw_okq (⟨"SaltStairs$Walk", "begin", "(II)V"⟩, 7) := ⟨⟨by decide +kernel, by decide +kernel⟩, List.mem_of_getElem? (i := 188) (by decide +kernel), List.mem_of_getElem? (i := 838) (by decide +kernel), List.mem_of_getElem? (i := 839) (by decide +kernel)⟩
theorem lw_p50 : lw_okq (⟨"SaltStairs$Walk", "beginAs", "(III)V"⟩, 7) := ⟨⟨by decide +kernel, by decide +kernel⟩, List.mem_of_getElem? (i := 188) (by decide +kernel), List.mem_of_getElem? (i := 843) (by decide +kernel), List.mem_of_getElem? (i := 844) (by decide +kernel)⟩
theorem lw_p51 : lw_okq (⟨"SaltStairs$Text", "rainOf", "(I)I"⟩, 10) := ⟨⟨by decide +kernel, by decide +kernel⟩, List.mem_of_getElem? (i := 57) (by decide +kernel), List.mem_of_getElem? (i := 847) (by decide +kernel), List.mem_of_getElem? (i := 848) (by decide +kernel)⟩
theorem lw_p52 : lw_okq (⟨"SaltStairs$Walk", "wearOn", "(IIIZ)I"⟩, 7) := ⟨⟨by decide +kernel, by decide +kernel⟩, List.mem_of_getElem? (i := 188) (by decide +kernel), List.mem_of_getElem? (i := 852) (by decide +kernel), List.mem_of_getElem? (i := 853) (by decide +kernel)⟩
theorem lw_p53 : lw_okq (⟨"SaltStairs$Laws", "tells", "(I)Z"⟩, 4) := ⟨⟨by decide +kernel, by decide +kernel⟩, List.mem_of_getElem? (i := 63) (by decide +kernel), List.mem_of_getElem? (i := 856) (by decide +kernel), List.mem_of_getElem? (i := 857) (by decide +kernel)⟩
theorem lw_p54 : lw_okq (⟨"SaltStairs$Laws", "worth", "(I[I)I"⟩, 4) := ⟨⟨by decide +kernel, by decide +kernel⟩, List.mem_of_getElem? (i := 63) (by decide +kernel), List.mem_of_getElem? (i := 860) (by decide +kernel), List.mem_of_getElem? (i := 861) (by decide +kernel)⟩
theorem lw_p55 : lw_okq (⟨"SaltStairs$Scene", "isOnGround", "(I)Z"⟩, 8) := ⟨⟨by decide +kernel, by decide +kernel⟩, List.mem_of_getElem? (i := 221) (by decide +kernel), List.mem_of_getElem? (i := 871) (by decide +kernel), List.mem_of_getElem? (i := 872) (by decide +kernel)⟩
theorem lw_p56 : lw_okq (⟨"SaltStairs", "keepPast", "()V"⟩, 16) := ⟨⟨by decide +kernel, by decide +kernel⟩, List.mem_of_getElem? (i := 23) (by decide +kernel), List.mem_of_getElem? (i := 876) (by decide +kernel), List.mem_of_getElem? (i := 877) (by decide +kernel)⟩
theorem lw_p57 : lw_okq (⟨"SaltStairs$Scene", "copyFrom", "(LSaltStairs$Scene;)V"⟩, 8) := ⟨⟨by decide +kernel, by decide +kernel⟩, List.mem_of_getElem? (i := 221) (by decide +kernel), List.mem_of_getElem? (i := 880) (by decide +kernel), List.mem_of_getElem? (i := 881) (by decide +kernel)⟩
theorem lw_p58 : lw_okq (⟨"SaltStairs$Stairs", "copyFrom", "(LSaltStairs$Stairs;)V"⟩, 4) := ⟨⟨by decide +kernel, by decide +kernel⟩, List.mem_of_getElem? (i := 227) (by decide +kernel), List.mem_of_getElem? (i := 884) (by decide +kernel), List.mem_of_getElem? (i := 885) (by decide +kernel)⟩
theorem lw_p59 : lw_okq (⟨"SaltStairs$Walk", "through", "(LSaltStairs$Stairs;II)I"⟩, 7) := ⟨⟨by decide +kernel, by decide +kernel⟩, List.mem_of_getElem? (i := 188) (by decide +kernel), List.mem_of_getElem? (i := 889) (by decide +kernel), List.mem_of_getElem? (i := 890) (by decide +kernel)⟩
theorem lw_p60 : lw_okq (⟨"SaltStairs$Stairs", "top", "()I"⟩, 4) := ⟨⟨by decide +kernel, by decide +kernel⟩, List.mem_of_getElem? (i := 227) (by decide +kernel), List.mem_of_getElem? (i := 894) (by decide +kernel), List.mem_of_getElem? (i := 895) (by decide +kernel)⟩
theorem lw_p61 : lw_okq (⟨"SaltStairs$Walk", "advance", "(LSaltStairs$Stairs;Z)I"⟩, 7) := ⟨⟨by decide +kernel, by decide +kernel⟩, List.mem_of_getElem? (i := 188) (by decide +kernel), List.mem_of_getElem? (i := 898) (by decide +kernel), List.mem_of_getElem? (i := 899) (by decide +kernel)⟩
theorem lw_p62 : lw_okq (⟨"SaltStairs$Walk", "nextSpot", "(LSaltStairs$Stairs;Z)I"⟩, 7) := ⟨⟨by decide +kernel, by decide +kernel⟩, List.mem_of_getElem? (i := 188) (by decide +kernel), List.mem_of_getElem? (i := 902) (by decide +kernel), List.mem_of_getElem? (i := 903) (by decide +kernel)⟩
theorem lw_p63 : lw_okq (⟨"SaltStairs$Stairs", "isThere", "(I)Z"⟩, 4) := ⟨⟨by decide +kernel, by decide +kernel⟩, List.mem_of_getElem? (i := 227) (by decide +kernel), List.mem_of_getElem? (i := 906) (by decide +kernel), List.mem_of_getElem? (i := 907) (by decide +kernel)⟩
def lw_privs_4 : List (MethodName × Nat) := [(⟨"SaltStairs$Text", "hasPilgrim", "(I)Z"⟩, 10), (⟨"SaltStairs$Walk", "begin", "(II)V"⟩, 7), (⟨"SaltStairs$Walk", "beginAs", "(III)V"⟩, 7), (⟨"SaltStairs$Text", "rainOf", "(I)I"⟩, 10), (⟨"SaltStairs$Walk", "wearOn", "(IIIZ)I"⟩, 7), (⟨"SaltStairs$Laws", "tells", "(I)Z"⟩, 4), (⟨"SaltStairs$Laws", "worth", "(I[I)I"⟩, 4), (⟨"SaltStairs$Scene", "isOnGround", "(I)Z"⟩, 8), (⟨"SaltStairs", "keepPast", "()V"⟩, 16), (⟨"SaltStairs$Scene", "copyFrom", "(LSaltStairs$Scene;)V"⟩, 8), (⟨"SaltStairs$Stairs", "copyFrom", "(LSaltStairs$Stairs;)V"⟩, 4), (⟨"SaltStairs$Walk", "through", "(LSaltStairs$Stairs;II)I"⟩, 7), (⟨"SaltStairs$Stairs", "top", "()I"⟩, 4), (⟨"SaltStairs$Walk", "advance", "(LSaltStairs$Stairs;Z)I"⟩, 7), (⟨"SaltStairs$Walk", "nextSpot", "(LSaltStairs$Stairs;Z)I"⟩, 7), (⟨"SaltStairs$Stairs", "isThere", "(I)Z"⟩, 4)]
theorem lw_r4 : ∀ q ∈ lw_privs_4, lw_okq q := List.forall_mem_cons.mpr ⟨lw_p48, List.forall_mem_cons.mpr ⟨lw_p49, List.forall_mem_cons.mpr ⟨lw_p50, List.forall_mem_cons.mpr ⟨lw_p51, List.forall_mem_cons.mpr ⟨lw_p52, List.forall_mem_cons.mpr ⟨lw_p53, List.forall_mem_cons.mpr ⟨lw_p54, List.forall_mem_cons.mpr ⟨lw_p55, List.forall_mem_cons.mpr ⟨lw_p56, List.forall_mem_cons.mpr ⟨lw_p57, List.forall_mem_cons.mpr ⟨lw_p58, List.forall_mem_cons.mpr ⟨lw_p59, List.forall_mem_cons.mpr ⟨lw_p60, List.forall_mem_cons.mpr ⟨lw_p61, List.forall_mem_cons.mpr ⟨lw_p62, List.forall_mem_cons.mpr ⟨lw_p63, fun _ h => absurd h List.not_mem_nil⟩⟩⟩⟩⟩⟩⟩⟩⟩⟩⟩⟩⟩⟩⟩⟩
theorem lw_p64 : lw_okq (⟨"SaltStairs$Walk", "tread", "(LSaltStairs$Stairs;IZ)Z"⟩, 7) := ⟨⟨by decide +kernel, by decide +kernel⟩, List.mem_of_getElem? (i := 188) (by decide +kernel), List.mem_of_getElem? (i := 913) (by decide +kernel), List.mem_of_getElem? (i := 914) (by decide +kernel)⟩
theorem lw_p65 : lw_okq (⟨"SaltStairs$Walk", "wearsATread", "()I"⟩, 7) := ⟨⟨by decide +kernel, by decide +kernel⟩, List.mem_of_getElem? (i := 188) (by decide +kernel), List.mem_of_getElem? (i := 917) (by decide +kernel), List.mem_of_getElem? (i := 918) (by decide +kernel)⟩
theorem lw_p66 : lw_okq (⟨"SaltStairs$Stairs", "setThick", "(II)V"⟩, 4) := ⟨⟨by decide +kernel, by decide +kernel⟩, List.mem_of_getElem? (i := 227) (by decide +kernel), List.mem_of_getElem? (i := 923) (by decide +kernel), List.mem_of_getElem? (i := 924) (by decide +kernel)⟩
theorem lw_p67 : lw_okq (⟨"SaltStairs$Stairs", "bear", "(I)V"⟩, 4) := ⟨⟨by decide +kernel, by decide +kernel⟩, List.mem_of_getElem? (i := 227) (by decide +kernel), List.mem_of_getElem? (i := 928) (by decide +kernel), List.mem_of_getElem? (i := 929) (by decide +kernel)⟩
theorem lw_p68 : lw_okq (⟨"SaltStairs$Scene", "settle", "(IIII)V"⟩, 8) := ⟨⟨by decide +kernel, by decide +kernel⟩, List.mem_of_getElem? (i := 221) (by decide +kernel), List.mem_of_getElem? (i := 932) (by decide +kernel), List.mem_of_getElem? (i := 933) (by decide +kernel)⟩
theorem lw_p69 : lw_okq (⟨"SaltStairs$Scene", "passNight", "()V"⟩, 8) := ⟨⟨by decide +kernel, by decide +kernel⟩, List.mem_of_getElem? (i := 221) (by decide +kernel), List.mem_of_getElem? (i := 946) (by decide +kernel), List.mem_of_getElem? (i := 947) (by decide +kernel)⟩
theorem lw_p70 : lw_okq (⟨"SaltStairs$Stairs", "rainOn", "(I)I"⟩, 4) := ⟨⟨by decide +kernel, by decide +kernel⟩, List.mem_of_getElem? (i := 227) (by decide +kernel), List.mem_of_getElem? (i := 951) (by decide +kernel), List.mem_of_getElem? (i := 952) (by decide +kernel)⟩
theorem lw_p71 : lw_okq (⟨"SaltStairs", "goOnFrom", "([LSaltStairs$Scene;I)Z"⟩, 16) := ⟨⟨by decide +kernel, by decide +kernel⟩, List.mem_of_getElem? (i := 23) (by decide +kernel), List.mem_of_getElem? (i := 967) (by decide +kernel), List.mem_of_getElem? (i := 968) (by decide +kernel)⟩
theorem lw_p72 : lw_okq (⟨"SaltStairs", "areOnGround", "(I)Z"⟩, 16) := ⟨⟨by decide +kernel, by decide +kernel⟩, List.mem_of_getElem? (i := 23) (by decide +kernel), List.mem_of_getElem? (i := 975) (by decide +kernel), List.mem_of_getElem? (i := 976) (by decide +kernel)⟩
theorem lw_p73 : lw_okq (⟨"SaltStairs$Scene", "grounded", "()I"⟩, 8) := ⟨⟨by decide +kernel, by decide +kernel⟩, List.mem_of_getElem? (i := 221) (by decide +kernel), List.mem_of_getElem? (i := 979) (by decide +kernel), List.mem_of_getElem? (i := 980) (by decide +kernel)⟩
theorem lw_p74 : lw_okq (⟨"SaltStairs$Orders", "seek", "(LSaltStairs$Scene;I)V"⟩, 9) := ⟨⟨by decide +kernel, by decide +kernel⟩, List.mem_of_getElem? (i := 291) (by decide +kernel), List.mem_of_getElem? (i := 990) (by decide +kernel), List.mem_of_getElem? (i := 991) (by decide +kernel)⟩
theorem lw_p75 : lw_okq (⟨"SaltStairs$Orders", "search", "(IIII)V"⟩, 9) := ⟨⟨by decide +kernel, by decide +kernel⟩, List.mem_of_getElem? (i := 291) (by decide +kernel), List.mem_of_getElem? (i := 996) (by decide +kernel), List.mem_of_getElem? (i := 997) (by decide +kernel)⟩
theorem lw_p76 : lw_okq (⟨"SaltStairs$Mending", "allNeed", "(LSaltStairs$Scene;I)I"⟩, 3) := ⟨⟨by decide +kernel, by decide +kernel⟩, List.mem_of_getElem? (i := 369) (by decide +kernel), List.mem_of_getElem? (i := 1013) (by decide +kernel), List.mem_of_getElem? (i := 1014) (by decide +kernel)⟩
theorem lw_p77 : lw_okq (⟨"SaltStairs$Mending", "needOf", "(LSaltStairs$Scene;II)I"⟩, 3) := ⟨⟨by decide +kernel, by decide +kernel⟩, List.mem_of_getElem? (i := 369) (by decide +kernel), List.mem_of_getElem? (i := 1017) (by decide +kernel), List.mem_of_getElem? (i := 1018) (by decide +kernel)⟩
theorem lw_p78 : lw_okq (⟨"SaltStairs$Mending", "bearsSet", "(LSaltStairs$Scene;III)Z"⟩, 3) := ⟨⟨by decide +kernel, by decide +kernel⟩, List.mem_of_getElem? (i := 369) (by decide +kernel), List.mem_of_getElem? (i := 1023) (by decide +kernel), List.mem_of_getElem? (i := 1024) (by decide +kernel)⟩
theorem lw_p79 : lw_okq (⟨"SaltStairs$Mending", "treads", "(IZ)Z"⟩, 3) := ⟨⟨by decide +kernel, by decide +kernel⟩, List.mem_of_getElem? (i := 369) (by decide +kernel), List.mem_of_getElem? (i := 1029) (by decide +kernel), List.mem_of_getElem? (i := 1030) (by decide +kernel)⟩
def lw_privs_5 : List (MethodName × Nat) := [(⟨"SaltStairs$Walk", "tread", "(LSaltStairs$Stairs;IZ)Z"⟩, 7), (⟨"SaltStairs$Walk", "wearsATread", "()I"⟩, 7), (⟨"SaltStairs$Stairs", "setThick", "(II)V"⟩, 4), (⟨"SaltStairs$Stairs", "bear", "(I)V"⟩, 4), (⟨"SaltStairs$Scene", "settle", "(IIII)V"⟩, 8), (⟨"SaltStairs$Scene", "passNight", "()V"⟩, 8), (⟨"SaltStairs$Stairs", "rainOn", "(I)I"⟩, 4), (⟨"SaltStairs", "goOnFrom", "([LSaltStairs$Scene;I)Z"⟩, 16), (⟨"SaltStairs", "areOnGround", "(I)Z"⟩, 16), (⟨"SaltStairs$Scene", "grounded", "()I"⟩, 8), (⟨"SaltStairs$Orders", "seek", "(LSaltStairs$Scene;I)V"⟩, 9), (⟨"SaltStairs$Orders", "search", "(IIII)V"⟩, 9), (⟨"SaltStairs$Mending", "allNeed", "(LSaltStairs$Scene;I)I"⟩, 3), (⟨"SaltStairs$Mending", "needOf", "(LSaltStairs$Scene;II)I"⟩, 3), (⟨"SaltStairs$Mending", "bearsSet", "(LSaltStairs$Scene;III)Z"⟩, 3), (⟨"SaltStairs$Mending", "treads", "(IZ)Z"⟩, 3)]
theorem lw_r5 : ∀ q ∈ lw_privs_5, lw_okq q := List.forall_mem_cons.mpr ⟨lw_p64, List.forall_mem_cons.mpr ⟨lw_p65, List.forall_mem_cons.mpr ⟨lw_p66, List.forall_mem_cons.mpr ⟨lw_p67, List.forall_mem_cons.mpr ⟨lw_p68, List.forall_mem_cons.mpr ⟨lw_p69, List.forall_mem_cons.mpr ⟨lw_p70, List.forall_mem_cons.mpr ⟨lw_p71, List.forall_mem_cons.mpr ⟨lw_p72, List.forall_mem_cons.mpr ⟨lw_p73, List.forall_mem_cons.mpr ⟨lw_p74, List.forall_mem_cons.mpr ⟨lw_p75, List.forall_mem_cons.mpr ⟨lw_p76, List.forall_mem_cons.mpr ⟨lw_p77, List.forall_mem_cons.mpr ⟨lw_p78, List.forall_mem_cons.mpr ⟨lw_p79, fun _ h => absurd h List.not_mem_nil⟩⟩⟩⟩⟩⟩⟩⟩⟩⟩⟩⟩⟩⟩⟩⟩
theorem lw_p80 : lw_okq (⟨"SaltStairs$Walk", "leftBehind", "(IIIZ)I"⟩, 7) := ⟨⟨by decide +kernel, by decide +kernel⟩, List.mem_of_getElem? (i := 188) (by decide +kernel), List.mem_of_getElem? (i := 1033) (by decide +kernel), List.mem_of_getElem? (i := 1034) (by decide +kernel)⟩
theorem lw_p81 : lw_okq (⟨"SaltStairs$Forecast", "allCome", "(LSaltStairs$Scene;I)Z"⟩, 8) := ⟨⟨by decide +kernel, by decide +kernel⟩, List.mem_of_getElem? (i := 332) (by decide +kernel), List.mem_of_getElem? (i := 1042) (by decide +kernel), List.mem_of_getElem? (i := 1043) (by decide +kernel)⟩
theorem lw_p82 : lw_okq (⟨"SaltStairs$Forecast", "allComeOver", "(II)Z"⟩, 8) := ⟨⟨by decide +kernel, by decide +kernel⟩, List.mem_of_getElem? (i := 332) (by decide +kernel), List.mem_of_getElem? (i := 1047) (by decide +kernel), List.mem_of_getElem? (i := 1048) (by decide +kernel)⟩
theorem lw_p83 : lw_okq (⟨"SaltStairs$Forecast", "dryEnoughWays", "(LSaltStairs$Scene;IIIII)J"⟩, 8) := ⟨⟨by decide +kernel, by decide +kernel⟩, List.mem_of_getElem? (i := 332) (by decide +kernel), List.mem_of_getElem? (i := 1058) (by decide +kernel), List.mem_of_getElem? (i := 1059) (by decide +kernel)⟩
theorem lw_p84 : lw_okq (⟨"SaltStairs$Forecast", "foresee", "(LSaltStairs$Scene;I)V"⟩, 8) := ⟨⟨by decide +kernel, by decide +kernel⟩, List.mem_of_getElem? (i := 332) (by decide +kernel), List.mem_of_getElem? (i := 1073) (by decide +kernel), List.mem_of_getElem? (i := 1074) (by decide +kernel)⟩
theorem lw_p85 : lw_okq (⟨"SaltStairs$Scene", "stuckOnes", "()I"⟩, 8) := ⟨⟨by decide +kernel, by decide +kernel⟩, List.mem_of_getElem? (i := 221) (by decide +kernel), List.mem_of_getElem? (i := 1077) (by decide +kernel), List.mem_of_getElem? (i := 1078) (by decide +kernel)⟩
theorem lw_p86 : lw_okq (⟨"SaltStairs$Forecast", "groundBehindDay", "(III)I"⟩, 8) := ⟨⟨by decide +kernel, by decide +kernel⟩, List.mem_of_getElem? (i := 332) (by decide +kernel), List.mem_of_getElem? (i := 1082) (by decide +kernel), List.mem_of_getElem? (i := 1083) (by decide +kernel)⟩
theorem lw_p87 : lw_okq (⟨"SaltStairs$Forecast", "noteLost", "(III)V"⟩, 8) := ⟨⟨by decide +kernel, by decide +kernel⟩, List.mem_of_getElem? (i := 332) (by decide +kernel), List.mem_of_getElem? (i := 1086) (by decide +kernel), List.mem_of_getElem? (i := 1087) (by decide +kernel)⟩
theorem lw_p88 : lw_okq (⟨"SaltStairs$Mending", "takenOff", "(LSaltStairs$Scene;I)I"⟩, 3) := ⟨⟨by decide +kernel, by decide +kernel⟩, List.mem_of_getElem? (i := 369) (by decide +kernel), List.mem_of_getElem? (i := 1095) (by decide +kernel), List.mem_of_getElem? (i := 1096) (by decide +kernel)⟩
theorem lw_p89 : lw_okq (⟨"SaltStairs$Mending", "dearFrom", "(LSaltStairs$Stairs;I)I"⟩, 3) := ⟨⟨by decide +kernel, by decide +kernel⟩, List.mem_of_getElem? (i := 369) (by decide +kernel), List.mem_of_getElem? (i := 1100) (by decide +kernel), List.mem_of_getElem? (i := 1101) (by decide +kernel)⟩
theorem lw_p90 : lw_okq (⟨"SaltStairs$Mending", "dearOver", "(LSaltStairs$Stairs;I)I"⟩, 3) := ⟨⟨by decide +kernel, by decide +kernel⟩, List.mem_of_getElem? (i := 369) (by decide +kernel), List.mem_of_getElem? (i := 1104) (by decide +kernel), List.mem_of_getElem? (i := 1105) (by decide +kernel)⟩
theorem lw_p91 : lw_okq (⟨"SaltStairs$Forecast", "fewestHands", "(LSaltStairs$Scene;I)I"⟩, 8) := ⟨⟨by decide +kernel, by decide +kernel⟩, List.mem_of_getElem? (i := 332) (by decide +kernel), List.mem_of_getElem? (i := 1116) (by decide +kernel), List.mem_of_getElem? (i := 1117) (by decide +kernel)⟩
theorem lw_p92 : lw_okq (⟨"SaltStairs$Forecast", "isCarried", "(LSaltStairs$Scene;III)Z"⟩, 8) := ⟨⟨by decide +kernel, by decide +kernel⟩, List.mem_of_getElem? (i := 332) (by decide +kernel), List.mem_of_getElem? (i := 1121) (by decide +kernel), List.mem_of_getElem? (i := 1122) (by decide +kernel)⟩
theorem lw_p93 : lw_okq (⟨"SaltStairs$Walk", "carriesUp", "(LSaltStairs$Stairs;II)Z"⟩, 7) := ⟨⟨by decide +kernel, by decide +kernel⟩, List.mem_of_getElem? (i := 188) (by decide +kernel), List.mem_of_getElem? (i := 1126) (by decide +kernel), List.mem_of_getElem? (i := 1127) (by decide +kernel)⟩
theorem lw_p94 : lw_okq (⟨"SaltStairs$Told", "add", "(II)I"⟩, 8) := ⟨⟨by decide +kernel, by decide +kernel⟩, List.mem_of_getElem? (i := 385) (by decide +kernel), List.mem_of_getElem? (i := 1139) (by decide +kernel), List.mem_of_getElem? (i := 1140) (by decide +kernel)⟩
theorem lw_p95 : lw_okq (⟨"SaltStairs$Told", "knows", "(I)Z"⟩, 8) := ⟨⟨by decide +kernel, by decide +kernel⟩, List.mem_of_getElem? (i := 385) (by decide +kernel), List.mem_of_getElem? (i := 1152) (by decide +kernel), List.mem_of_getElem? (i := 1153) (by decide +kernel)⟩
def lw_privs_6 : List (MethodName × Nat) := [(⟨"SaltStairs$Walk", "leftBehind", "(IIIZ)I"⟩, 7), (⟨"SaltStairs$Forecast", "allCome", "(LSaltStairs$Scene;I)Z"⟩, 8), (⟨"SaltStairs$Forecast", "allComeOver", "(II)Z"⟩, 8), (⟨"SaltStairs$Forecast", "dryEnoughWays", "(LSaltStairs$Scene;IIIII)J"⟩, 8), (⟨"SaltStairs$Forecast", "foresee", "(LSaltStairs$Scene;I)V"⟩, 8), (⟨"SaltStairs$Scene", "stuckOnes", "()I"⟩, 8), (⟨"SaltStairs$Forecast", "groundBehindDay", "(III)I"⟩, 8), (⟨"SaltStairs$Forecast", "noteLost", "(III)V"⟩, 8), (⟨"SaltStairs$Mending", "takenOff", "(LSaltStairs$Scene;I)I"⟩, 3), (⟨"SaltStairs$Mending", "dearFrom", "(LSaltStairs$Stairs;I)I"⟩, 3), (⟨"SaltStairs$Mending", "dearOver", "(LSaltStairs$Stairs;I)I"⟩, 3), (⟨"SaltStairs$Forecast", "fewestHands", "(LSaltStairs$Scene;I)I"⟩, 8), (⟨"SaltStairs$Forecast", "isCarried", "(LSaltStairs$Scene;III)Z"⟩, 8), (⟨"SaltStairs$Walk", "carriesUp", "(LSaltStairs$Stairs;II)Z"⟩, 7), (⟨"SaltStairs$Told", "add", "(II)I"⟩, 8), (⟨"SaltStairs$Told", "knows", "(I)Z"⟩, 8)]
theorem lw_r6 : ∀ q ∈ lw_privs_6, lw_okq q := List.forall_mem_cons.mpr ⟨lw_p80, List.forall_mem_cons.mpr ⟨lw_p81, List.forall_mem_cons.mpr ⟨lw_p82, List.forall_mem_cons.mpr ⟨lw_p83, List.forall_mem_cons.mpr ⟨lw_p84, List.forall_mem_cons.mpr ⟨lw_p85, List.forall_mem_cons.mpr ⟨lw_p86, List.forall_mem_cons.mpr ⟨lw_p87, List.forall_mem_cons.mpr ⟨lw_p88, List.forall_mem_cons.mpr ⟨lw_p89, List.forall_mem_cons.mpr ⟨lw_p90, List.forall_mem_cons.mpr ⟨lw_p91, List.forall_mem_cons.mpr ⟨lw_p92, List.forall_mem_cons.mpr ⟨lw_p93, List.forall_mem_cons.mpr ⟨lw_p94, List.forall_mem_cons.mpr ⟨lw_p95, fun _ h => absurd h List.not_mem_nil⟩⟩⟩⟩⟩⟩⟩⟩⟩⟩⟩⟩⟩⟩⟩⟩
theorem lw_p96 : lw_okq (⟨"SaltStairs$Told", "walkAllSets", "()V"⟩, 8) := ⟨⟨by decide +kernel, by decide +kernel⟩, List.mem_of_getElem? (i := 385) (by decide +kernel), List.mem_of_getElem? (i := 1156) (by decide +kernel), List.mem_of_getElem? (i := 1157) (by decide +kernel)⟩
theorem lw_p97 : lw_okq (⟨"SaltStairs$Told", "writeRow", "(I)V"⟩, 8) := ⟨⟨by decide +kernel, by decide +kernel⟩, List.mem_of_getElem? (i := 385) (by decide +kernel), List.mem_of_getElem? (i := 1161) (by decide +kernel), List.mem_of_getElem? (i := 1162) (by decide +kernel)⟩
theorem lw_p98 : lw_okq (⟨"SaltStairs$Told", "sets", "()I"⟩, 8) := ⟨⟨by decide +kernel, by decide +kernel⟩, List.mem_of_getElem? (i := 385) (by decide +kernel), List.mem_of_getElem? (i := 1166) (by decide +kernel), List.mem_of_getElem? (i := 1167) (by decide +kernel)⟩
theorem lw_p99 : lw_okq (⟨"SaltStairs$Told", "readRow", "(I)V"⟩, 8) := ⟨⟨by decide +kernel, by decide +kernel⟩, List.mem_of_getElem? (i := 385) (by decide +kernel), List.mem_of_getElem? (i := 1174) (by decide +kernel), List.mem_of_getElem? (i := 1175) (by decide +kernel)⟩
theorem lw_p100 : lw_okq (⟨"SaltStairs$Told", "fitting", "(I)I"⟩, 8) := ⟨⟨by decide +kernel, by decide +kernel⟩, List.mem_of_getElem? (i := 385) (by decide +kernel), List.mem_of_getElem? (i := 1181) (by decide +kernel), List.mem_of_getElem? (i := 1182) (by decide +kernel)⟩
theorem lw_p101 : lw_okq (⟨"SaltStairs$Told", "isFitting", "(II)Z"⟩, 8) := ⟨⟨by decide +kernel, by decide +kernel⟩, List.mem_of_getElem? (i := 385) (by decide +kernel), List.mem_of_getElem? (i := 1185) (by decide +kernel), List.mem_of_getElem? (i := 1186) (by decide +kernel)⟩
theorem lw_p102 : lw_okq (⟨"SaltStairs$Told", "fittingAt", "(II)I"⟩, 8) := ⟨⟨by decide +kernel, by decide +kernel⟩, List.mem_of_getElem? (i := 385) (by decide +kernel), List.mem_of_getElem? (i := 1193) (by decide +kernel), List.mem_of_getElem? (i := 1194) (by decide +kernel)⟩
theorem lw_p103 : lw_okq (⟨"SaltStairs$Told", "inAll", "(I)I"⟩, 8) := ⟨⟨by decide +kernel, by decide +kernel⟩, List.mem_of_getElem? (i := 385) (by decide +kernel), List.mem_of_getElem? (i := 1201) (by decide +kernel), List.mem_of_getElem? (i := 1202) (by decide +kernel)⟩
theorem lw_p104 : lw_okq (⟨"SaltStairs$Told", "inSome", "(I)I"⟩, 8) := ⟨⟨by decide +kernel, by decide +kernel⟩, List.mem_of_getElem? (i := 385) (by decide +kernel), List.mem_of_getElem? (i := 1205) (by decide +kernel), List.mem_of_getElem? (i := 1206) (by decide +kernel)⟩
theorem lw_p105 : lw_okq (⟨"SaltStairs", "heldSlots", "()I"⟩, 16) := ⟨⟨by decide +kernel, by decide +kernel⟩, List.mem_of_getElem? (i := 23) (by decide +kernel), List.mem_of_getElem? (i := 1223) (by decide +kernel), List.mem_of_getElem? (i := 1224) (by decide +kernel)⟩
theorem lw_p106 : lw_okq (⟨"SaltStairs$Stairs", "allThick", "()I"⟩, 4) := ⟨⟨by decide +kernel, by decide +kernel⟩, List.mem_of_getElem? (i := 227) (by decide +kernel), List.mem_of_getElem? (i := 1227) (by decide +kernel), List.mem_of_getElem? (i := 1228) (by decide +kernel)⟩
theorem lw_p107 : lw_okq (⟨"SaltStairsModel", "put", "(I)V"⟩, 72) := ⟨⟨by decide +kernel, by decide +kernel⟩, List.mem_of_getElem? (i := 1231) (by decide +kernel), List.mem_of_getElem? (i := 1464) (by decide +kernel), List.mem_of_getElem? (i := 1465) (by decide +kernel)⟩
theorem lw_p108 : lw_okq (⟨"SaltStairsModel", "cut", "()V"⟩, 72) := ⟨⟨by decide +kernel, by decide +kernel⟩, List.mem_of_getElem? (i := 1231) (by decide +kernel), List.mem_of_getElem? (i := 1476) (by decide +kernel), List.mem_of_getElem? (i := 1477) (by decide +kernel)⟩
theorem lw_p109 : lw_okq (⟨"SaltStairsModel", "byteAt", "(I)I"⟩, 72) := ⟨⟨by decide +kernel, by decide +kernel⟩, List.mem_of_getElem? (i := 1231) (by decide +kernel), List.mem_of_getElem? (i := 1480) (by decide +kernel), List.mem_of_getElem? (i := 1481) (by decide +kernel)⟩
theorem lw_p110 : lw_okq (⟨"SaltStairsModel", "token", "(IIIJ)V"⟩, 72) := ⟨⟨by decide +kernel, by decide +kernel⟩, List.mem_of_getElem? (i := 1231) (by decide +kernel), List.mem_of_getElem? (i := 1484) (by decide +kernel), List.mem_of_getElem? (i := 1485) (by decide +kernel)⟩
theorem lw_p111 : lw_okq (⟨"SaltStairsModel", "sign", "(III)I"⟩, 72) := ⟨⟨by decide +kernel, by decide +kernel⟩, List.mem_of_getElem? (i := 1231) (by decide +kernel), List.mem_of_getElem? (i := 1494) (by decide +kernel), List.mem_of_getElem? (i := 1495) (by decide +kernel)⟩
def lw_privs_7 : List (MethodName × Nat) := [(⟨"SaltStairs$Told", "walkAllSets", "()V"⟩, 8), (⟨"SaltStairs$Told", "writeRow", "(I)V"⟩, 8), (⟨"SaltStairs$Told", "sets", "()I"⟩, 8), (⟨"SaltStairs$Told", "readRow", "(I)V"⟩, 8), (⟨"SaltStairs$Told", "fitting", "(I)I"⟩, 8), (⟨"SaltStairs$Told", "isFitting", "(II)Z"⟩, 8), (⟨"SaltStairs$Told", "fittingAt", "(II)I"⟩, 8), (⟨"SaltStairs$Told", "inAll", "(I)I"⟩, 8), (⟨"SaltStairs$Told", "inSome", "(I)I"⟩, 8), (⟨"SaltStairs", "heldSlots", "()I"⟩, 16), (⟨"SaltStairs$Stairs", "allThick", "()I"⟩, 4), (⟨"SaltStairsModel", "put", "(I)V"⟩, 72), (⟨"SaltStairsModel", "cut", "()V"⟩, 72), (⟨"SaltStairsModel", "byteAt", "(I)I"⟩, 72), (⟨"SaltStairsModel", "token", "(IIIJ)V"⟩, 72), (⟨"SaltStairsModel", "sign", "(III)I"⟩, 72)]
theorem lw_r7 : ∀ q ∈ lw_privs_7, lw_okq q := List.forall_mem_cons.mpr ⟨lw_p96, List.forall_mem_cons.mpr ⟨lw_p97, List.forall_mem_cons.mpr ⟨lw_p98, List.forall_mem_cons.mpr ⟨lw_p99, List.forall_mem_cons.mpr ⟨lw_p100, List.forall_mem_cons.mpr ⟨lw_p101, List.forall_mem_cons.mpr ⟨lw_p102, List.forall_mem_cons.mpr ⟨lw_p103, List.forall_mem_cons.mpr ⟨lw_p104, List.forall_mem_cons.mpr ⟨lw_p105, List.forall_mem_cons.mpr ⟨lw_p106, List.forall_mem_cons.mpr ⟨lw_p107, List.forall_mem_cons.mpr ⟨lw_p108, List.forall_mem_cons.mpr ⟨lw_p109, List.forall_mem_cons.mpr ⟨lw_p110, List.forall_mem_cons.mpr ⟨lw_p111, fun _ h => absurd h List.not_mem_nil⟩⟩⟩⟩⟩⟩⟩⟩⟩⟩⟩⟩⟩⟩⟩⟩
theorem lw_p112 : lw_okq (⟨"SaltStairsModel", "is", "(I)Z"⟩, 72) := ⟨⟨by decide +kernel, by decide +kernel⟩, List.mem_of_getElem? (i := 1231) (by decide +kernel), List.mem_of_getElem? (i := 1498) (by decide +kernel), List.mem_of_getElem? (i := 1499) (by decide +kernel)⟩
theorem lw_p113 : lw_okq (⟨"SaltStairsModel", "tell", "()V"⟩, 72) := ⟨⟨by decide +kernel, by decide +kernel⟩, List.mem_of_getElem? (i := 1231) (by decide +kernel), List.mem_of_getElem? (i := 1502) (by decide +kernel), List.mem_of_getElem? (i := 1503) (by decide +kernel)⟩
theorem lw_p114 : lw_okq (⟨"SaltStairsModel", "goesOn", "()V"⟩, 72) := ⟨⟨by decide +kernel, by decide +kernel⟩, List.mem_of_getElem? (i := 1231) (by decide +kernel), List.mem_of_getElem? (i := 1506) (by decide +kernel), List.mem_of_getElem? (i := 1507) (by decide +kernel)⟩
theorem lw_p115 : lw_okq (⟨"SaltStairsModel", "fail", "(I)V"⟩, 72) := ⟨⟨by decide +kernel, by decide +kernel⟩, List.mem_of_getElem? (i := 1231) (by decide +kernel), List.mem_of_getElem? (i := 1510) (by decide +kernel), List.mem_of_getElem? (i := 1511) (by decide +kernel)⟩
theorem lw_p116 : lw_okq (⟨"SaltStairsModel", "tellSteps", "()V"⟩, 72) := ⟨⟨by decide +kernel, by decide +kernel⟩, List.mem_of_getElem? (i := 1231) (by decide +kernel), List.mem_of_getElem? (i := 1514) (by decide +kernel), List.mem_of_getElem? (i := 1515) (by decide +kernel)⟩
theorem lw_p117 : lw_okq (⟨"SaltStairsModel", "bounded", "(II)I"⟩, 72) := ⟨⟨by decide +kernel, by decide +kernel⟩, List.mem_of_getElem? (i := 1231) (by decide +kernel), List.mem_of_getElem? (i := 1518) (by decide +kernel), List.mem_of_getElem? (i := 1519) (by decide +kernel)⟩
theorem lw_p118 : lw_okq (⟨"SaltStairsModel", "wrong", "(II)V"⟩, 72) := ⟨⟨by decide +kernel, by decide +kernel⟩, List.mem_of_getElem? (i := 1231) (by decide +kernel), List.mem_of_getElem? (i := 1522) (by decide +kernel), List.mem_of_getElem? (i := 1523) (by decide +kernel)⟩
theorem lw_p119 : lw_okq (⟨"SaltStairsModel", "must", "(I)V"⟩, 72) := ⟨⟨by decide +kernel, by decide +kernel⟩, List.mem_of_getElem? (i := 1231) (by decide +kernel), List.mem_of_getElem? (i := 1526) (by decide +kernel), List.mem_of_getElem? (i := 1527) (by decide +kernel)⟩
theorem lw_p120 : lw_okq (⟨"SaltStairsModel", "tellRain", "()V"⟩, 72) := ⟨⟨by decide +kernel, by decide +kernel⟩, List.mem_of_getElem? (i := 1231) (by decide +kernel), List.mem_of_getElem? (i := 1530) (by decide +kernel), List.mem_of_getElem? (i := 1531) (by decide +kernel)⟩
theorem lw_p121 : lw_okq (⟨"SaltStairsModel", "roomFor", "(II)V"⟩, 72) := ⟨⟨by decide +kernel, by decide +kernel⟩, List.mem_of_getElem? (i := 1231) (by decide +kernel), List.mem_of_getElem? (i := 1534) (by decide +kernel), List.mem_of_getElem? (i := 1535) (by decide +kernel)⟩
theorem lw_p122 : lw_okq (⟨"SaltStairsModel", "tellPilgrim", "()V"⟩, 72) := ⟨⟨by decide +kernel, by decide +kernel⟩, List.mem_of_getElem? (i := 1231) (by decide +kernel), List.mem_of_getElem? (i := 1538) (by decide +kernel), List.mem_of_getElem? (i := 1539) (by decide +kernel)⟩
theorem lw_p123 : lw_okq (⟨"SaltStairsModel", "tellVow", "()I"⟩, 72) := ⟨⟨by decide +kernel, by decide +kernel⟩, List.mem_of_getElem? (i := 1231) (by decide +kernel), List.mem_of_getElem? (i := 1542) (by decide +kernel), List.mem_of_getElem? (i := 1543) (by decide +kernel)⟩
theorem lw_p124 : lw_okq (⟨"SaltStairsModel", "tellLaw", "()V"⟩, 72) := ⟨⟨by decide +kernel, by decide +kernel⟩, List.mem_of_getElem? (i := 1231) (by decide +kernel), List.mem_of_getElem? (i := 1546) (by decide +kernel), List.mem_of_getElem? (i := 1547) (by decide +kernel)⟩
theorem lw_p125 : lw_okq (⟨"SaltStairsModel", "expression", "()V"⟩, 72) := ⟨⟨by decide +kernel, by decide +kernel⟩, List.mem_of_getElem? (i := 1231) (by decide +kernel), List.mem_of_getElem? (i := 1550) (by decide +kernel), List.mem_of_getElem? (i := 1551) (by decide +kernel)⟩
theorem lw_p126 : lw_okq (⟨"SaltStairsModel", "unit", "()V"⟩, 72) := ⟨⟨by decide +kernel, by decide +kernel⟩, List.mem_of_getElem? (i := 1231) (by decide +kernel), List.mem_of_getElem? (i := 1554) (by decide +kernel), List.mem_of_getElem? (i := 1555) (by decide +kernel)⟩
theorem lw_p127 : lw_okq (⟨"SaltStairsModel", "emit", "(II)V"⟩, 72) := ⟨⟨by decide +kernel, by decide +kernel⟩, List.mem_of_getElem? (i := 1231) (by decide +kernel), List.mem_of_getElem? (i := 1558) (by decide +kernel), List.mem_of_getElem? (i := 1559) (by decide +kernel)⟩
def lw_privs_8 : List (MethodName × Nat) := [(⟨"SaltStairsModel", "is", "(I)Z"⟩, 72), (⟨"SaltStairsModel", "tell", "()V"⟩, 72), (⟨"SaltStairsModel", "goesOn", "()V"⟩, 72), (⟨"SaltStairsModel", "fail", "(I)V"⟩, 72), (⟨"SaltStairsModel", "tellSteps", "()V"⟩, 72), (⟨"SaltStairsModel", "bounded", "(II)I"⟩, 72), (⟨"SaltStairsModel", "wrong", "(II)V"⟩, 72), (⟨"SaltStairsModel", "must", "(I)V"⟩, 72), (⟨"SaltStairsModel", "tellRain", "()V"⟩, 72), (⟨"SaltStairsModel", "roomFor", "(II)V"⟩, 72), (⟨"SaltStairsModel", "tellPilgrim", "()V"⟩, 72), (⟨"SaltStairsModel", "tellVow", "()I"⟩, 72), (⟨"SaltStairsModel", "tellLaw", "()V"⟩, 72), (⟨"SaltStairsModel", "expression", "()V"⟩, 72), (⟨"SaltStairsModel", "unit", "()V"⟩, 72), (⟨"SaltStairsModel", "emit", "(II)V"⟩, 72)]
theorem lw_r8 : ∀ q ∈ lw_privs_8, lw_okq q := List.forall_mem_cons.mpr ⟨lw_p112, List.forall_mem_cons.mpr ⟨lw_p113, List.forall_mem_cons.mpr ⟨lw_p114, List.forall_mem_cons.mpr ⟨lw_p115, List.forall_mem_cons.mpr ⟨lw_p116, List.forall_mem_cons.mpr ⟨lw_p117, List.forall_mem_cons.mpr ⟨lw_p118, List.forall_mem_cons.mpr ⟨lw_p119, List.forall_mem_cons.mpr ⟨lw_p120, List.forall_mem_cons.mpr ⟨lw_p121, List.forall_mem_cons.mpr ⟨lw_p122, List.forall_mem_cons.mpr ⟨lw_p123, List.forall_mem_cons.mpr ⟨lw_p124, List.forall_mem_cons.mpr ⟨lw_p125, List.forall_mem_cons.mpr ⟨lw_p126, List.forall_mem_cons.mpr ⟨lw_p127, fun _ h => absurd h List.not_mem_nil⟩⟩⟩⟩⟩⟩⟩⟩⟩⟩⟩⟩⟩⟩⟩⟩
theorem lw_p128 : lw_okq (⟨"SaltStairsModel", "comesOut", "(Z)V"⟩, 72) := ⟨⟨by decide +kernel, by decide +kernel⟩, List.mem_of_getElem? (i := 1231) (by decide +kernel), List.mem_of_getElem? (i := 1562) (by decide +kernel), List.mem_of_getElem? (i := 1563) (by decide +kernel)⟩
theorem lw_p129 : lw_okq (⟨"SaltStairsModel", "term", "()V"⟩, 72) := ⟨⟨by decide +kernel, by decide +kernel⟩, List.mem_of_getElem? (i := 1231) (by decide +kernel), List.mem_of_getElem? (i := 1566) (by decide +kernel), List.mem_of_getElem? (i := 1567) (by decide +kernel)⟩
theorem lw_p130 : lw_okq (⟨"SaltStairsModel", "begins", "()V"⟩, 72) := ⟨⟨by decide +kernel, by decide +kernel⟩, List.mem_of_getElem? (i := 1231) (by decide +kernel), List.mem_of_getElem? (i := 1570) (by decide +kernel), List.mem_of_getElem? (i := 1571) (by decide +kernel)⟩
theorem lw_p131 : lw_okq (⟨"SaltStairsModel", "isStep", "(I)Z"⟩, 72) := ⟨⟨by decide +kernel, by decide +kernel⟩, List.mem_of_getElem? (i := 1231) (by decide +kernel), List.mem_of_getElem? (i := 1582) (by decide +kernel), List.mem_of_getElem? (i := 1583) (by decide +kernel)⟩
theorem lw_p132 : lw_okq (⟨"SaltStairsModel", "many", "()I"⟩, 72) := ⟨⟨by decide +kernel, by decide +kernel⟩, List.mem_of_getElem? (i := 1231) (by decide +kernel), List.mem_of_getElem? (i := 1589) (by decide +kernel), List.mem_of_getElem? (i := 1590) (by decide +kernel)⟩
theorem lw_p133 : lw_okq (⟨"SaltStairsModel", "isPilgrim", "(I)Z"⟩, 72) := ⟨⟨by decide +kernel, by decide +kernel⟩, List.mem_of_getElem? (i := 1231) (by decide +kernel), List.mem_of_getElem? (i := 1597) (by decide +kernel), List.mem_of_getElem? (i := 1598) (by decide +kernel)⟩
theorem lw_p134 : lw_okq (⟨"SaltStairsModel", "vowOf", "(I)I"⟩, 72) := ⟨⟨by decide +kernel, by decide +kernel⟩, List.mem_of_getElem? (i := 1231) (by decide +kernel), List.mem_of_getElem? (i := 1601) (by decide +kernel), List.mem_of_getElem? (i := 1602) (by decide +kernel)⟩
theorem lw_p135 : lw_okq (⟨"SaltStairsModel", "takes", "()V"⟩, 72) := ⟨⟨by decide +kernel, by decide +kernel⟩, List.mem_of_getElem? (i := 1231) (by decide +kernel), List.mem_of_getElem? (i := 1609) (by decide +kernel), List.mem_of_getElem? (i := 1610) (by decide +kernel)⟩
theorem lw_p136 : lw_okq (⟨"SaltStairsModel", "goneNow", "()I"⟩, 72) := ⟨⟨by decide +kernel, by decide +kernel⟩, List.mem_of_getElem? (i := 1231) (by decide +kernel), List.mem_of_getElem? (i := 1613) (by decide +kernel), List.mem_of_getElem? (i := 1614) (by decide +kernel)⟩
theorem lw_p137 : lw_okq (⟨"SaltStairsModel", "wearOf", "(IIIIZI)I"⟩, 72) := ⟨⟨by decide +kernel, by decide +kernel⟩, List.mem_of_getElem? (i := 1231) (by decide +kernel), List.mem_of_getElem? (i := 1617) (by decide +kernel), List.mem_of_getElem? (i := 1618) (by decide +kernel)⟩
theorem lw_p138 : lw_okq (⟨"SaltStairsModel", "termOf", "(II)I"⟩, 72) := ⟨⟨by decide +kernel, by decide +kernel⟩, List.mem_of_getElem? (i := 1231) (by decide +kernel), List.mem_of_getElem? (i := 1621) (by decide +kernel), List.mem_of_getElem? (i := 1622) (by decide +kernel)⟩
theorem lw_p139 : lw_okq (⟨"SaltStairsModel", "onGround", "(I)Z"⟩, 72) := ⟨⟨by decide +kernel, by decide +kernel⟩, List.mem_of_getElem? (i := 1231) (by decide +kernel), List.mem_of_getElem? (i := 1629) (by decide +kernel), List.mem_of_getElem? (i := 1630) (by decide +kernel)⟩
theorem lw_p140 : lw_okq (⟨"SaltStairsModel", "sends", "(I)I"⟩, 72) := ⟨⟨by decide +kernel, by decide +kernel⟩, List.mem_of_getElem? (i := 1231) (by decide +kernel), List.mem_of_getElem? (i := 1633) (by decide +kernel), List.mem_of_getElem? (i := 1634) (by decide +kernel)⟩
theorem lw_p141 : lw_okq (⟨"SaltStairsModel", "comesOf", "(I)I"⟩, 72) := ⟨⟨by decide +kernel, by decide +kernel⟩, List.mem_of_getElem? (i := 1231) (by decide +kernel), List.mem_of_getElem? (i := 1637) (by decide +kernel), List.mem_of_getElem? (i := 1638) (by decide +kernel)⟩
theorem lw_p142 : lw_okq (⟨"SaltStairsModel", "top", "()I"⟩, 72) := ⟨⟨by decide +kernel, by decide +kernel⟩, List.mem_of_getElem? (i := 1231) (by decide +kernel), List.mem_of_getElem? (i := 1641) (by decide +kernel), List.mem_of_getElem? (i := 1642) (by decide +kernel)⟩
theorem lw_p143 : lw_okq (⟨"SaltStairsModel", "nextUp", "(IZ)I"⟩, 72) := ⟨⟨by decide +kernel, by decide +kernel⟩, List.mem_of_getElem? (i := 1231) (by decide +kernel), List.mem_of_getElem? (i := 1645) (by decide +kernel), List.mem_of_getElem? (i := 1646) (by decide +kernel)⟩
def lw_privs_9 : List (MethodName × Nat) := [(⟨"SaltStairsModel", "comesOut", "(Z)V"⟩, 72), (⟨"SaltStairsModel", "term", "()V"⟩, 72), (⟨"SaltStairsModel", "begins", "()V"⟩, 72), (⟨"SaltStairsModel", "isStep", "(I)Z"⟩, 72), (⟨"SaltStairsModel", "many", "()I"⟩, 72), (⟨"SaltStairsModel", "isPilgrim", "(I)Z"⟩, 72), (⟨"SaltStairsModel", "vowOf", "(I)I"⟩, 72), (⟨"SaltStairsModel", "takes", "()V"⟩, 72), (⟨"SaltStairsModel", "goneNow", "()I"⟩, 72), (⟨"SaltStairsModel", "wearOf", "(IIIIZI)I"⟩, 72), (⟨"SaltStairsModel", "termOf", "(II)I"⟩, 72), (⟨"SaltStairsModel", "onGround", "(I)Z"⟩, 72), (⟨"SaltStairsModel", "sends", "(I)I"⟩, 72), (⟨"SaltStairsModel", "comesOf", "(I)I"⟩, 72), (⟨"SaltStairsModel", "top", "()I"⟩, 72), (⟨"SaltStairsModel", "nextUp", "(IZ)I"⟩, 72)]
theorem lw_r9 : ∀ q ∈ lw_privs_9, lw_okq q := List.forall_mem_cons.mpr ⟨lw_p128, List.forall_mem_cons.mpr ⟨lw_p129, List.forall_mem_cons.mpr ⟨lw_p130, List.forall_mem_cons.mpr ⟨lw_p131, List.forall_mem_cons.mpr ⟨lw_p132, List.forall_mem_cons.mpr ⟨lw_p133, List.forall_mem_cons.mpr ⟨lw_p134, List.forall_mem_cons.mpr ⟨lw_p135, List.forall_mem_cons.mpr ⟨lw_p136, List.forall_mem_cons.mpr ⟨lw_p137, List.forall_mem_cons.mpr ⟨lw_p138, List.forall_mem_cons.mpr ⟨lw_p139, List.forall_mem_cons.mpr ⟨lw_p140, List.forall_mem_cons.mpr ⟨lw_p141, List.forall_mem_cons.mpr ⟨lw_p142, List.forall_mem_cons.mpr ⟨lw_p143, fun _ h => absurd h List.not_mem_nil⟩⟩⟩⟩⟩⟩⟩⟩⟩⟩⟩⟩⟩⟩⟩⟩
theorem lw_p144 : lw_okq (⟨"SaltStairsModel", "isThere", "(I)Z"⟩, 72) := ⟨⟨by decide +kernel, by decide +kernel⟩, List.mem_of_getElem? (i := 1231) (by decide +kernel), List.mem_of_getElem? (i := 1649) (by decide +kernel), List.mem_of_getElem? (i := 1650) (by decide +kernel)⟩
theorem lw_p145 : lw_okq (⟨"SaltStairsModel", "goesDown", "(II)I"⟩, 72) := ⟨⟨by decide +kernel, by decide +kernel⟩, List.mem_of_getElem? (i := 1231) (by decide +kernel), List.mem_of_getElem? (i := 1653) (by decide +kernel), List.mem_of_getElem? (i := 1654) (by decide +kernel)⟩
theorem lw_p146 : lw_okq (⟨"SaltStairsModel", "nextDown", "(IZ)I"⟩, 72) := ⟨⟨by decide +kernel, by decide +kernel⟩, List.mem_of_getElem? (i := 1231) (by decide +kernel), List.mem_of_getElem? (i := 1657) (by decide +kernel), List.mem_of_getElem? (i := 1658) (by decide +kernel)⟩
theorem lw_p147 : lw_okq (⟨"SaltStairsModel", "holds", "(IIIZ)Z"⟩, 72) := ⟨⟨by decide +kernel, by decide +kernel⟩, List.mem_of_getElem? (i := 1231) (by decide +kernel), List.mem_of_getElem? (i := 1661) (by decide +kernel), List.mem_of_getElem? (i := 1662) (by decide +kernel)⟩
theorem lw_p148 : lw_okq (⟨"SaltStairsModel", "keeps", "()V"⟩, 72) := ⟨⟨by decide +kernel, by decide +kernel⟩, List.mem_of_getElem? (i := 1231) (by decide +kernel), List.mem_of_getElem? (i := 1665) (by decide +kernel), List.mem_of_getElem? (i := 1666) (by decide +kernel)⟩
theorem lw_p149 : lw_okq (⟨"SaltStairsModel", "nightGoes", "()V"⟩, 72) := ⟨⟨by decide +kernel, by decide +kernel⟩, List.mem_of_getElem? (i := 1231) (by decide +kernel), List.mem_of_getElem? (i := 1677) (by decide +kernel), List.mem_of_getElem? (i := 1678) (by decide +kernel)⟩
theorem lw_p150 : lw_okq (⟨"SaltStairsModel", "isSet", "(I)Z"⟩, 72) := ⟨⟨by decide +kernel, by decide +kernel⟩, List.mem_of_getElem? (i := 1231) (by decide +kernel), List.mem_of_getElem? (i := 1693) (by decide +kernel), List.mem_of_getElem? (i := 1694) (by decide +kernel)⟩
theorem lw_p151 : lw_okq (⟨"SaltStairsModel", "orders", "(I)V"⟩, 72) := ⟨⟨by decide +kernel, by decide +kernel⟩, List.mem_of_getElem? (i := 1231) (by decide +kernel), List.mem_of_getElem? (i := 1700) (by decide +kernel), List.mem_of_getElem? (i := 1701) (by decide +kernel)⟩
theorem lw_p152 : lw_okq (⟨"SaltStairsModel", "fillsOrder", "(I)V"⟩, 72) := ⟨⟨by decide +kernel, by decide +kernel⟩, List.mem_of_getElem? (i := 1231) (by decide +kernel), List.mem_of_getElem? (i := 1704) (by decide +kernel), List.mem_of_getElem? (i := 1705) (by decide +kernel)⟩
theorem lw_p153 : lw_okq (⟨"SaltStairsModel", "nextOrder", "()Z"⟩, 72) := ⟨⟨by decide +kernel, by decide +kernel⟩, List.mem_of_getElem? (i := 1231) (by decide +kernel), List.mem_of_getElem? (i := 1708) (by decide +kernel), List.mem_of_getElem? (i := 1709) (by decide +kernel)⟩
theorem lw_p154 : lw_okq (⟨"SaltStairsModel", "needOf", "(II)I"⟩, 72) := ⟨⟨by decide +kernel, by decide +kernel⟩, List.mem_of_getElem? (i := 1231) (by decide +kernel), List.mem_of_getElem? (i := 1720) (by decide +kernel), List.mem_of_getElem? (i := 1721) (by decide +kernel)⟩
theorem lw_p155 : lw_okq (⟨"SaltStairsModel", "isTrodden", "(II)Z"⟩, 72) := ⟨⟨by decide +kernel, by decide +kernel⟩, List.mem_of_getElem? (i := 1231) (by decide +kernel), List.mem_of_getElem? (i := 1724) (by decide +kernel), List.mem_of_getElem? (i := 1725) (by decide +kernel)⟩
theorem lw_p156 : lw_okq (⟨"SaltStairsModel", "treads", "(IIZ)Z"⟩, 72) := ⟨⟨by decide +kernel, by decide +kernel⟩, List.mem_of_getElem? (i := 1231) (by decide +kernel), List.mem_of_getElem? (i := 1728) (by decide +kernel), List.mem_of_getElem? (i := 1729) (by decide +kernel)⟩
theorem lw_p157 : lw_okq (⟨"SaltStairsModel", "bearsAll", "(IIII)Z"⟩, 72) := ⟨⟨by decide +kernel, by decide +kernel⟩, List.mem_of_getElem? (i := 1231) (by decide +kernel), List.mem_of_getElem? (i := 1732) (by decide +kernel), List.mem_of_getElem? (i := 1733) (by decide +kernel)⟩
theorem lw_p158 : lw_okq (⟨"SaltStairsModel", "behind", "(IIIZI)I"⟩, 72) := ⟨⟨by decide +kernel, by decide +kernel⟩, List.mem_of_getElem? (i := 1231) (by decide +kernel), List.mem_of_getElem? (i := 1736) (by decide +kernel), List.mem_of_getElem? (i := 1737) (by decide +kernel)⟩
theorem lw_p159 : lw_okq (⟨"SaltStairsModel", "allThrough", "(I)Z"⟩, 72) := ⟨⟨by decide +kernel, by decide +kernel⟩, List.mem_of_getElem? (i := 1231) (by decide +kernel), List.mem_of_getElem? (i := 1744) (by decide +kernel), List.mem_of_getElem? (i := 1745) (by decide +kernel)⟩
def lw_privs_10 : List (MethodName × Nat) := [(⟨"SaltStairsModel", "isThere", "(I)Z"⟩, 72), (⟨"SaltStairsModel", "goesDown", "(II)I"⟩, 72), (⟨"SaltStairsModel", "nextDown", "(IZ)I"⟩, 72), (⟨"SaltStairsModel", "holds", "(IIIZ)Z"⟩, 72), (⟨"SaltStairsModel", "keeps", "()V"⟩, 72), (⟨"SaltStairsModel", "nightGoes", "()V"⟩, 72), (⟨"SaltStairsModel", "isSet", "(I)Z"⟩, 72), (⟨"SaltStairsModel", "orders", "(I)V"⟩, 72), (⟨"SaltStairsModel", "fillsOrder", "(I)V"⟩, 72), (⟨"SaltStairsModel", "nextOrder", "()Z"⟩, 72), (⟨"SaltStairsModel", "needOf", "(II)I"⟩, 72), (⟨"SaltStairsModel", "isTrodden", "(II)Z"⟩, 72), (⟨"SaltStairsModel", "treads", "(IIZ)Z"⟩, 72), (⟨"SaltStairsModel", "bearsAll", "(IIII)Z"⟩, 72), (⟨"SaltStairsModel", "behind", "(IIIZI)I"⟩, 72), (⟨"SaltStairsModel", "allThrough", "(I)Z"⟩, 72)]
theorem lw_r10 : ∀ q ∈ lw_privs_10, lw_okq q := List.forall_mem_cons.mpr ⟨lw_p144, List.forall_mem_cons.mpr ⟨lw_p145, List.forall_mem_cons.mpr ⟨lw_p146, List.forall_mem_cons.mpr ⟨lw_p147, List.forall_mem_cons.mpr ⟨lw_p148, List.forall_mem_cons.mpr ⟨lw_p149, List.forall_mem_cons.mpr ⟨lw_p150, List.forall_mem_cons.mpr ⟨lw_p151, List.forall_mem_cons.mpr ⟨lw_p152, List.forall_mem_cons.mpr ⟨lw_p153, List.forall_mem_cons.mpr ⟨lw_p154, List.forall_mem_cons.mpr ⟨lw_p155, List.forall_mem_cons.mpr ⟨lw_p156, List.forall_mem_cons.mpr ⟨lw_p157, List.forall_mem_cons.mpr ⟨lw_p158, List.forall_mem_cons.mpr ⟨lw_p159, fun _ h => absurd h List.not_mem_nil⟩⟩⟩⟩⟩⟩⟩⟩⟩⟩⟩⟩⟩⟩⟩⟩
theorem lw_p160 : lw_okq (⟨"SaltStairsModel", "notes", "(I)V"⟩, 72) := ⟨⟨by decide +kernel, by decide +kernel⟩, List.mem_of_getElem? (i := 1231) (by decide +kernel), List.mem_of_getElem? (i := 1760) (by decide +kernel), List.mem_of_getElem? (i := 1761) (by decide +kernel)⟩
theorem lw_p161 : lw_okq (⟨"SaltStairsModel", "marks", "()V"⟩, 72) := ⟨⟨by decide +kernel, by decide +kernel⟩, List.mem_of_getElem? (i := 1231) (by decide +kernel), List.mem_of_getElem? (i := 1764) (by decide +kernel), List.mem_of_getElem? (i := 1765) (by decide +kernel)⟩
theorem lw_p162 : lw_okq (⟨"SaltStairsModel", "stuckNow", "()I"⟩, 72) := ⟨⟨by decide +kernel, by decide +kernel⟩, List.mem_of_getElem? (i := 1231) (by decide +kernel), List.mem_of_getElem? (i := 1768) (by decide +kernel), List.mem_of_getElem? (i := 1769) (by decide +kernel)⟩
theorem lw_p163 : lw_okq (⟨"SaltStairsModel", "leastFor", "(III)I"⟩, 72) := ⟨⟨by decide +kernel, by decide +kernel⟩, List.mem_of_getElem? (i := 1231) (by decide +kernel), List.mem_of_getElem? (i := 1776) (by decide +kernel), List.mem_of_getElem? (i := 1777) (by decide +kernel)⟩
theorem lw_p164 : lw_okq (⟨"SaltStairsModel", "carries", "(I)Z"⟩, 72) := ⟨⟨by decide +kernel, by decide +kernel⟩, List.mem_of_getElem? (i := 1231) (by decide +kernel), List.mem_of_getElem? (i := 1785) (by decide +kernel), List.mem_of_getElem? (i := 1786) (by decide +kernel)⟩
theorem lw_p165 : lw_okq (⟨"SaltStairsModel", "fillsWalkers", "(I)V"⟩, 72) := ⟨⟨by decide +kernel, by decide +kernel⟩, List.mem_of_getElem? (i := 1231) (by decide +kernel), List.mem_of_getElem? (i := 1805) (by decide +kernel), List.mem_of_getElem? (i := 1806) (by decide +kernel)⟩
theorem lw_p166 : lw_okq (⟨"SaltStairsModel", "isFit", "(II)Z"⟩, 72) := ⟨⟨by decide +kernel, by decide +kernel⟩, List.mem_of_getElem? (i := 1231) (by decide +kernel), List.mem_of_getElem? (i := 1809) (by decide +kernel), List.mem_of_getElem? (i := 1810) (by decide +kernel)⟩
def lw_privs_11 : List (MethodName × Nat) := [(⟨"SaltStairsModel", "notes", "(I)V"⟩, 72), (⟨"SaltStairsModel", "marks", "()V"⟩, 72), (⟨"SaltStairsModel", "stuckNow", "()I"⟩, 72), (⟨"SaltStairsModel", "leastFor", "(III)I"⟩, 72), (⟨"SaltStairsModel", "carries", "(I)Z"⟩, 72), (⟨"SaltStairsModel", "fillsWalkers", "(I)V"⟩, 72), (⟨"SaltStairsModel", "isFit", "(II)Z"⟩, 72)]
theorem lw_r11 : ∀ q ∈ lw_privs_11, lw_okq q := List.forall_mem_cons.mpr ⟨lw_p160, List.forall_mem_cons.mpr ⟨lw_p161, List.forall_mem_cons.mpr ⟨lw_p162, List.forall_mem_cons.mpr ⟨lw_p163, List.forall_mem_cons.mpr ⟨lw_p164, List.forall_mem_cons.mpr ⟨lw_p165, List.forall_mem_cons.mpr ⟨lw_p166, fun _ h => absurd h List.not_mem_nil⟩⟩⟩⟩⟩⟩⟩
def lw_privs : List (MethodName × Nat) := lw_privs_1 ++ (lw_privs_2 ++ (lw_privs_3 ++ (lw_privs_4 ++ (lw_privs_5 ++ (lw_privs_6 ++ (lw_privs_7 ++ (lw_privs_8 ++ (lw_privs_9 ++ (lw_privs_10 ++ (lw_privs_11))))))))))
def lw_tbl : List Cond := k2_sels lw_privs ++ tables_1
theorem lw_privs_ok : ∀ q ∈ lw_privs, lw_okq q := by
  show ∀ q ∈ lw_privs_1 ++ (lw_privs_2 ++ (lw_privs_3 ++ (lw_privs_4 ++ (lw_privs_5 ++ (lw_privs_6 ++ (lw_privs_7 ++ (lw_privs_8 ++ (lw_privs_9 ++ (lw_privs_10 ++ (lw_privs_11)))))))))), lw_okq q
  exact List.forall_mem_append.mpr ⟨lw_r1, List.forall_mem_append.mpr ⟨lw_r2, List.forall_mem_append.mpr ⟨lw_r3, List.forall_mem_append.mpr ⟨lw_r4, List.forall_mem_append.mpr ⟨lw_r5, List.forall_mem_append.mpr ⟨lw_r6, List.forall_mem_append.mpr ⟨lw_r7, List.forall_mem_append.mpr ⟨lw_r8, List.forall_mem_append.mpr ⟨lw_r9, List.forall_mem_append.mpr ⟨lw_r10, lw_r11⟩⟩⟩⟩⟩⟩⟩⟩⟩⟩
def RX0 : String := "SaltStairs$Forecast"
def TX0 : u_T := fun k => match k with
  | 0 => ("SaltStairs$Forecast", "text", "LSaltStairs$Text;", true)
  | 1 => ("SaltStairs$Forecast", "walk", "LSaltStairs$Walk;", true)
  | 2 => ("SaltStairs$Forecast", "stairs", "LSaltStairs$Stairs;", true)
  | 3 => ("SaltStairs$Forecast", "foreseenDays", "I", false)
  | 4 => ("SaltStairs$Forecast", "firstDay", "I", false)
  | 5 => ("SaltStairs$Forecast", "firstStep", "I", false)
  | 6 => ("SaltStairs$Forecast", "firstBy", "I", false)
  | _ => ("SaltStairs$Forecast", "stuck", "I", false)
def tyX0 : Nat → FieldType := fun k => match k with
  | 0 => .object "SaltStairs$Text"
  | 1 => .object "SaltStairs$Walk"
  | 2 => .object "SaltStairs$Stairs"
  | 3 => .int
  | 4 => .int
  | 5 => .int
  | 6 => .int
  | _ => .int
abbrev wsX00 : List Cond := u_ws RX0 TX0 8
theorem nmX0 : ∀ a, a < 8 → ∀ b, b < 8 → a ≠ b → (TX0 a).2.1 ≠ (TX0 b).2.1 := by decide +kernel
theorem tyX0_ok : ∀ k, k < 8 → parseFieldDescriptor (TX0 k).2.2.1 = some (tyX0 k) := by decide +kernel
def RX1 : String := "SaltStairs$Laws"
def TX1 : u_T := fun k => match k with
  | 0 => ("SaltStairs$Laws", "commands", "[I", true)
  | 1 => ("SaltStairs$Laws", "length", "I", false)
  | 2 => ("SaltStairs$Laws", "starts", "[I", true)
  | _ => ("SaltStairs$Laws", "kept", "[I", true)
def tyX1 : Nat → FieldType := fun k => match k with
  | 0 => .array .int
  | 1 => .int
  | 2 => .array .int
  | _ => .array .int
abbrev wsX10 : List Cond := u_ws RX1 TX1 4
theorem nmX1 : ∀ a, a < 4 → ∀ b, b < 4 → a ≠ b → (TX1 a).2.1 ≠ (TX1 b).2.1 := by decide +kernel
theorem tyX1_ok : ∀ k, k < 4 → parseFieldDescriptor (TX1 k).2.2.1 = some (tyX1 k) := by decide +kernel
def RX2 : String := "SaltStairs$Mending"
def TX2 : u_T := fun k => match k with
  | 0 => ("SaltStairs$Mending", "text", "LSaltStairs$Text;", true)
  | 1 => ("SaltStairs$Mending", "walk", "LSaltStairs$Walk;", true)
  | _ => ("SaltStairs$Mending", "dear", "[I", true)
def tyX2 : Nat → FieldType := fun k => match k with
  | 0 => .object "SaltStairs$Text"
  | 1 => .object "SaltStairs$Walk"
  | _ => .array .int
abbrev wsX20 : List Cond := u_ws RX2 TX2 3
theorem nmX2 : ∀ a, a < 3 → ∀ b, b < 3 → a ≠ b → (TX2 a).2.1 ≠ (TX2 b).2.1 := by decide +kernel
theorem tyX2_ok : ∀ k, k < 3 → parseFieldDescriptor (TX2 k).2.2.1 = some (tyX2 k) := by decide +kernel
def RX3 : String := "SaltStairs$Orders"
def TX3 : u_T := fun k => match k with
  | 0 => ("SaltStairs$Orders", "walk", "LSaltStairs$Walk;", true)
  | 1 => ("SaltStairs$Orders", "stages", "[LSaltStairs$Stairs;", true)
  | 2 => ("SaltStairs$Orders", "path", "[I", true)
  | 3 => ("SaltStairs$Orders", "best", "[I", true)
  | 4 => ("SaltStairs$Orders", "soughtSet", "I", false)
  | 5 => ("SaltStairs$Orders", "size", "I", false)
  | 6 => ("SaltStairs$Orders", "day", "I", false)
  | 7 => ("SaltStairs$Orders", "mostCome", "I", false)
  | _ => ("SaltStairs$Orders", "fewestStuck", "I", false)
def tyX3 : Nat → FieldType := fun k => match k with
  | 0 => .object "SaltStairs$Walk"
  | 1 => .array (.object "SaltStairs$Stairs")
  | 2 => .array .int
  | 3 => .array .int
  | 4 => .int
  | 5 => .int
  | 6 => .int
  | 7 => .int
  | _ => .int
abbrev wsX30 : List Cond := u_ws RX3 TX3 9
theorem nmX3 : ∀ a, a < 9 → ∀ b, b < 9 → a ≠ b → (TX3 a).2.1 ≠ (TX3 b).2.1 := by decide +kernel
theorem tyX3_ok : ∀ k, k < 9 → parseFieldDescriptor (TX3 k).2.2.1 = some (tyX3 k) := by decide +kernel
def RX4 : String := "SaltStairs$Parser"
def TX4 : u_T := fun k => match k with
  | 0 => ("SaltStairs$Parser", "tape", "LSaltStairs$Tape;", true)
  | 1 => ("SaltStairs$Parser", "draft", "LSaltStairs$Text;", true)
  | 2 => ("SaltStairs$Parser", "names", "[J", true)
  | 3 => ("SaltStairs$Parser", "next", "I", false)
  | 4 => ("SaltStairs$Parser", "kind", "I", false)
  | 5 => ("SaltStairs$Parser", "lawsTold", "I", false)
  | 6 => ("SaltStairs$Parser", "fault", "I", false)
  | 7 => ("SaltStairs$Parser", "faultToken", "I", false)
  | 8 => ("SaltStairs$Parser", "laterFault", "I", false)
  | _ => ("SaltStairs$Parser", "laterFaultToken", "I", false)
def tyX4 : Nat → FieldType := fun k => match k with
  | 0 => .object "SaltStairs$Tape"
  | 1 => .object "SaltStairs$Text"
  | 2 => .array .long
  | 3 => .int
  | 4 => .int
  | 5 => .int
  | 6 => .int
  | 7 => .int
  | 8 => .int
  | _ => .int
abbrev wsX40 : List Cond := u_ws RX4 TX4 10
theorem nmX4 : ∀ a, a < 10 → ∀ b, b < 10 → a ≠ b → (TX4 a).2.1 ≠ (TX4 b).2.1 := by decide +kernel
theorem tyX4_ok : ∀ k, k < 10 → parseFieldDescriptor (TX4 k).2.2.1 = some (tyX4 k) := by decide +kernel
def RX5 : String := "SaltStairs$Scene"
def TX5 : u_T := fun k => match k with
  | 0 => ("SaltStairs$Scene", "text", "LSaltStairs$Text;", true)
  | 1 => ("SaltStairs$Scene", "stairs", "LSaltStairs$Stairs;", true)
  | 2 => ("SaltStairs$Scene", "spots", "[I", true)
  | 3 => ("SaltStairs$Scene", "led", "[I", true)
  | 4 => ("SaltStairs$Scene", "came", "[I", true)
  | 5 => ("SaltStairs$Scene", "stuck", "[I", true)
  | 6 => ("SaltStairs$Scene", "brine", "I", false)
  | _ => ("SaltStairs$Scene", "day", "I", false)
def tyX5 : Nat → FieldType := fun k => match k with
  | 0 => .object "SaltStairs$Text"
  | 1 => .object "SaltStairs$Stairs"
  | 2 => .array .int
  | 3 => .array .int
  | 4 => .array .int
  | 5 => .array .int
  | 6 => .int
  | _ => .int
abbrev wsX50 : List Cond := u_ws RX5 TX5 8
theorem nmX5 : ∀ a, a < 8 → ∀ b, b < 8 → a ≠ b → (TX5 a).2.1 ≠ (TX5 b).2.1 := by decide +kernel
theorem tyX5_ok : ∀ k, k < 8 → parseFieldDescriptor (TX5 k).2.2.1 = some (tyX5 k) := by decide +kernel
def RX6 : String := "SaltStairs$Stairs"
def TX6 : u_T := fun k => match k with
  | 0 => ("SaltStairs$Stairs", "thick", "[I", true)
  | 1 => ("SaltStairs$Stairs", "borne", "[I", true)
  | 2 => ("SaltStairs$Stairs", "steps", "I", false)
  | _ => ("SaltStairs$Stairs", "gone", "I", false)
def tyX6 : Nat → FieldType := fun k => match k with
  | 0 => .array .int
  | 1 => .array .int
  | 2 => .int
  | _ => .int
abbrev wsX60 : List Cond := u_ws RX6 TX6 4
theorem nmX6 : ∀ a, a < 4 → ∀ b, b < 4 → a ≠ b → (TX6 a).2.1 ≠ (TX6 b).2.1 := by decide +kernel
theorem tyX6_ok : ∀ k, k < 4 → parseFieldDescriptor (TX6 k).2.2.1 = some (tyX6 k) := by decide +kernel
def RX7 : String := "SaltStairs$Tape"
def TX7 : u_T := fun k => match k with
  | 0 => ("SaltStairs$Tape", "bytes", "[B", true)
  | 1 => ("SaltStairs$Tape", "length", "I", false)
  | 2 => ("SaltStairs$Tape", "kinds", "[I", true)
  | 3 => ("SaltStairs$Tape", "values", "[J", true)
  | _ => ("SaltStairs$Tape", "starts", "[I", true)
def tyX7 : Nat → FieldType := fun k => match k with
  | 0 => .array .byte
  | 1 => .int
  | 2 => .array .int
  | 3 => .array .long
  | _ => .array .int
abbrev wsX70 : List Cond := u_ws RX7 TX7 5
theorem nmX7 : ∀ a, a < 5 → ∀ b, b < 5 → a ≠ b → (TX7 a).2.1 ≠ (TX7 b).2.1 := by decide +kernel
theorem tyX7_ok : ∀ k, k < 5 → parseFieldDescriptor (TX7 k).2.2.1 = some (tyX7 k) := by decide +kernel
def RX8 : String := "SaltStairs$Text"
def TX8 : u_T := fun k => match k with
  | 0 => ("SaltStairs$Text", "thick", "[I", true)
  | 1 => ("SaltStairs$Text", "rain", "[I", true)
  | 2 => ("SaltStairs$Text", "weights", "[I", true)
  | 3 => ("SaltStairs$Text", "vows", "[I", true)
  | 4 => ("SaltStairs$Text", "laws", "LSaltStairs$Laws;", true)
  | 5 => ("SaltStairs$Text", "steps", "I", false)
  | 6 => ("SaltStairs$Text", "rains", "I", false)
  | 7 => ("SaltStairs$Text", "brine", "I", false)
  | 8 => ("SaltStairs$Text", "growth", "I", false)
  | _ => ("SaltStairs$Text", "pilgrims", "I", false)
def tyX8 : Nat → FieldType := fun k => match k with
  | 0 => .array .int
  | 1 => .array .int
  | 2 => .array .int
  | 3 => .array .int
  | 4 => .object "SaltStairs$Laws"
  | 5 => .int
  | 6 => .int
  | 7 => .int
  | 8 => .int
  | _ => .int
abbrev wsX80 : List Cond := u_ws RX8 TX8 10
theorem nmX8 : ∀ a, a < 10 → ∀ b, b < 10 → a ≠ b → (TX8 a).2.1 ≠ (TX8 b).2.1 := by decide +kernel
theorem tyX8_ok : ∀ k, k < 10 → parseFieldDescriptor (TX8 k).2.2.1 = some (tyX8 k) := by decide +kernel
def RX9 : String := "SaltStairs$Told"
def TX9 : u_T := fun k => match k with
  | 0 => ("SaltStairs$Told", "text", "LSaltStairs$Text;", true)
  | 1 => ("SaltStairs$Told", "walk", "LSaltStairs$Walk;", true)
  | 2 => ("SaltStairs$Told", "stairs", "LSaltStairs$Stairs;", true)
  | 3 => ("SaltStairs$Told", "steps", "[I", true)
  | 4 => ("SaltStairs$Told", "thicks", "[I", true)
  | 5 => ("SaltStairs$Told", "many", "I", false)
  | 6 => ("SaltStairs$Told", "behind", "[I", true)
  | _ => ("SaltStairs$Told", "isWalked", "Z", false)
def tyX9 : Nat → FieldType := fun k => match k with
  | 0 => .object "SaltStairs$Text"
  | 1 => .object "SaltStairs$Walk"
  | 2 => .object "SaltStairs$Stairs"
  | 3 => .array .int
  | 4 => .array .int
  | 5 => .int
  | 6 => .array .int
  | _ => .boolean
abbrev wsX90 : List Cond := u_ws RX9 TX9 8
theorem nmX9 : ∀ a, a < 8 → ∀ b, b < 8 → a ≠ b → (TX9 a).2.1 ≠ (TX9 b).2.1 := by decide +kernel
theorem tyX9_ok : ∀ k, k < 8 → parseFieldDescriptor (TX9 k).2.2.1 = some (tyX9 k) := by decide +kernel
def RX10 : String := "SaltStairs$Walk"
def TX10 : u_T := fun k => match k with
  | 0 => ("SaltStairs$Walk", "text", "LSaltStairs$Text;", true)
  | 1 => ("SaltStairs$Walk", "looks", "[I", true)
  | 2 => ("SaltStairs$Walk", "weight", "I", false)
  | 3 => ("SaltStairs$Walk", "vow", "I", false)
  | 4 => ("SaltStairs$Walk", "spot", "I", false)
  | 5 => ("SaltStairs$Walk", "led", "I", false)
  | _ => ("SaltStairs$Walk", "lost", "I", false)
def tyX10 : Nat → FieldType := fun k => match k with
  | 0 => .object "SaltStairs$Text"
  | 1 => .array .int
  | 2 => .int
  | 3 => .int
  | 4 => .int
  | 5 => .int
  | _ => .int
abbrev wsX100 : List Cond := u_ws RX10 TX10 7
theorem nmX10 : ∀ a, a < 7 → ∀ b, b < 7 → a ≠ b → (TX10 a).2.1 ≠ (TX10 b).2.1 := by decide +kernel
theorem tyX10_ok : ∀ k, k < 7 → parseFieldDescriptor (TX10 k).2.2.1 = some (tyX10 k) := by decide +kernel
def RX11 : String := "SaltStairs"
def TX11 : u_T := fun k => match k with
  | 0 => ("SaltStairs", "tape", "LSaltStairs$Tape;", true)
  | 1 => ("SaltStairs", "text", "LSaltStairs$Text;", true)
  | 2 => ("SaltStairs", "parser", "LSaltStairs$Parser;", true)
  | 3 => ("SaltStairs", "walk", "LSaltStairs$Walk;", true)
  | 4 => ("SaltStairs", "now", "LSaltStairs$Scene;", true)
  | 5 => ("SaltStairs", "past", "[LSaltStairs$Scene;", true)
  | 6 => ("SaltStairs", "slots", "[LSaltStairs$Scene;", true)
  | 7 => ("SaltStairs", "held", "[Z", true)
  | 8 => ("SaltStairs", "spare", "LSaltStairs$Stairs;", true)
  | 9 => ("SaltStairs", "orders", "LSaltStairs$Orders;", true)
  | 10 => ("SaltStairs", "forecast", "LSaltStairs$Forecast;", true)
  | 11 => ("SaltStairs", "mending", "LSaltStairs$Mending;", true)
  | 12 => ("SaltStairs", "told", "LSaltStairs$Told;", true)
  | 13 => ("SaltStairs", "pastCount", "I", false)
  | 14 => ("SaltStairs", "pastEnd", "I", false)
  | _ => ("SaltStairs", "faultPlace", "I", false)
def tyX11 : Nat → FieldType := fun k => match k with
  | 0 => .object "SaltStairs$Tape"
  | 1 => .object "SaltStairs$Text"
  | 2 => .object "SaltStairs$Parser"
  | 3 => .object "SaltStairs$Walk"
  | 4 => .object "SaltStairs$Scene"
  | 5 => .array (.object "SaltStairs$Scene")
  | 6 => .array (.object "SaltStairs$Scene")
  | 7 => .array .boolean
  | 8 => .object "SaltStairs$Stairs"
  | 9 => .object "SaltStairs$Orders"
  | 10 => .object "SaltStairs$Forecast"
  | 11 => .object "SaltStairs$Mending"
  | 12 => .object "SaltStairs$Told"
  | 13 => .int
  | 14 => .int
  | _ => .int
abbrev wsX110 : List Cond := u_ws RX11 TX11 16
theorem nmX11 : ∀ a, a < 16 → ∀ b, b < 16 → a ≠ b → (TX11 a).2.1 ≠ (TX11 b).2.1 := by decide +kernel
theorem tyX11_ok : ∀ k, k < 16 → parseFieldDescriptor (TX11 k).2.2.1 = some (tyX11 k) := by decide +kernel
def RX12 : String := "SaltStairsModel"
def TX12 : u_T := fun k => match k with
  | 0 => ("SaltStairsModel", "thrown", "I", false)
  | 1 => ("SaltStairsModel", "tape", "[B", true)
  | 2 => ("SaltStairsModel", "taped", "I", false)
  | 3 => ("SaltStairsModel", "text", "[B", true)
  | 4 => ("SaltStairsModel", "size", "I", false)
  | 5 => ("SaltStairsModel", "tKind", "[I", true)
  | 6 => ("SaltStairsModel", "tPlace", "[I", true)
  | 7 => ("SaltStairsModel", "tValue", "[I", true)
  | 8 => ("SaltStairsModel", "tName", "[J", true)
  | 9 => ("SaltStairsModel", "keys", "[J", true)
  | 10 => ("SaltStairsModel", "tokens", "I", false)
  | 11 => ("SaltStairsModel", "t", "I", false)
  | 12 => ("SaltStairsModel", "open", "I", false)
  | 13 => ("SaltStairsModel", "fault", "I", false)
  | 14 => ("SaltStairsModel", "faultPlace", "I", false)
  | 15 => ("SaltStairsModel", "worst", "I", false)
  | 16 => ("SaltStairsModel", "worstPlace", "I", false)
  | 17 => ("SaltStairsModel", "place", "I", false)
  | 18 => ("SaltStairsModel", "live", "I", false)
  | 19 => ("SaltStairsModel", "side", "I", false)
  | 20 => ("SaltStairsModel", "names", "I", false)
  | 21 => ("SaltStairsModel", "nameOf", "[J", true)
  | 22 => ("SaltStairsModel", "steps", "[I", true)
  | 23 => ("SaltStairsModel", "thickTold", "[I", true)
  | 24 => ("SaltStairsModel", "rains", "[I", true)
  | 25 => ("SaltStairsModel", "rain", "[I", true)
  | 26 => ("SaltStairsModel", "brineTold", "[I", true)
  | 27 => ("SaltStairsModel", "brineMore", "[I", true)
  | 28 => ("SaltStairsModel", "pilgrims", "[I", true)
  | 29 => ("SaltStairsModel", "weight", "[I", true)
  | 30 => ("SaltStairsModel", "vow", "[I", true)
  | 31 => ("SaltStairsModel", "laws", "[I", true)
  | 32 => ("SaltStairsModel", "lawFirst", "[I", true)
  | 33 => ("SaltStairsModel", "lawLast", "[I", true)
  | 34 => ("SaltStairsModel", "branches", "I", false)
  | 35 => ("SaltStairsModel", "hasTest", "[Z", true)
  | 36 => ("SaltStairsModel", "testFrom", "[I", true)
  | 37 => ("SaltStairsModel", "testMid", "[I", true)
  | 38 => ("SaltStairsModel", "testTo", "[I", true)
  | 39 => ("SaltStairsModel", "termTo", "[I", true)
  | 40 => ("SaltStairsModel", "codes", "I", false)
  | 41 => ("SaltStairsModel", "code", "[I", true)
  | 42 => ("SaltStairsModel", "codeInt", "[I", true)
  | 43 => ("SaltStairsModel", "waits", "[I", true)
  | 44 => ("SaltStairsModel", "waiting", "I", false)
  | 45 => ("SaltStairsModel", "variables", "[I", true)
  | 46 => ("SaltStairsModel", "pile", "[I", true)
  | 47 => ("SaltStairsModel", "isBroken", "Z", false)
  | 48 => ("SaltStairsModel", "now", "[I", true)
  | 49 => ("SaltStairsModel", "row", "[I", true)
  | 50 => ("SaltStairsModel", "made", "I", false)
  | 51 => ("SaltStairsModel", "firstGone", "I", false)
  | 52 => ("SaltStairsModel", "goneTo", "I", false)
  | 53 => ("SaltStairsModel", "undos", "I", false)
  | 54 => ("SaltStairsModel", "history", "[I", true)
  | 55 => ("SaltStairsModel", "inOrder", "I", false)
  | 56 => ("SaltStairsModel", "order", "[I", true)
  | 57 => ("SaltStairsModel", "bestOrder", "[I", true)
  | 58 => ("SaltStairsModel", "bestThrough", "I", false)
  | 59 => ("SaltStairsModel", "bestStuck", "I", false)
  | 60 => ("SaltStairsModel", "seasonDay", "I", false)
  | 61 => ("SaltStairsModel", "seasonStep", "I", false)
  | 62 => ("SaltStairsModel", "seasonBy", "I", false)
  | 63 => ("SaltStairsModel", "wasThere", "[Z", true)
  | 64 => ("SaltStairsModel", "costs", "[I", true)
  | 65 => ("SaltStairsModel", "told", "I", false)
  | 66 => ("SaltStairsModel", "toldStep", "[I", true)
  | 67 => ("SaltStairsModel", "toldThick", "[I", true)
  | 68 => ("SaltStairsModel", "walker", "[I", true)
  | 69 => ("SaltStairsModel", "walkerSets", "I", false)
  | 70 => ("SaltStairsModel", "isHeld", "[Z", true)
  | _ => ("SaltStairsModel", "held", "[I", true)
def tyX12 : Nat → FieldType := fun k => match k with
  | 0 => .int
  | 1 => .array .byte
  | 2 => .int
  | 3 => .array .byte
  | 4 => .int
  | 5 => .array .int
  | 6 => .array .int
  | 7 => .array .int
  | 8 => .array .long
  | 9 => .array .long
  | 10 => .int
  | 11 => .int
  | 12 => .int
  | 13 => .int
  | 14 => .int
  | 15 => .int
  | 16 => .int
  | 17 => .int
  | 18 => .int
  | 19 => .int
  | 20 => .int
  | 21 => .array .long
  | 22 => .array .int
  | 23 => .array .int
  | 24 => .array .int
  | 25 => .array .int
  | 26 => .array .int
  | 27 => .array .int
  | 28 => .array .int
  | 29 => .array .int
  | 30 => .array .int
  | 31 => .array .int
  | 32 => .array .int
  | 33 => .array .int
  | 34 => .int
  | 35 => .array .boolean
  | 36 => .array .int
  | 37 => .array .int
  | 38 => .array .int
  | 39 => .array .int
  | 40 => .int
  | 41 => .array .int
  | 42 => .array .int
  | 43 => .array .int
  | 44 => .int
  | 45 => .array .int
  | 46 => .array .int
  | 47 => .boolean
  | 48 => .array .int
  | 49 => .array .int
  | 50 => .int
  | 51 => .int
  | 52 => .int
  | 53 => .int
  | 54 => .array .int
  | 55 => .int
  | 56 => .array .int
  | 57 => .array .int
  | 58 => .int
  | 59 => .int
  | 60 => .int
  | 61 => .int
  | 62 => .int
  | 63 => .array .boolean
  | 64 => .array .int
  | 65 => .int
  | 66 => .array .int
  | 67 => .array .int
  | 68 => .array .int
  | 69 => .int
  | 70 => .array .boolean
  | _ => .array .int
abbrev wsX120 : List Cond := u_ws RX12 TX12 72
theorem nmX12 : ∀ a, a < 72 → ∀ b, b < 72 → a ≠ b → (TX12 a).2.1 ≠ (TX12 b).2.1 := by decide +kernel
theorem tyX12_ok : ∀ k, k < 72 → parseFieldDescriptor (TX12 k).2.2.1 = some (tyX12 k) := by decide +kernel
def RJ6 : String := "java/lang/Integer"
def RJ0 : String := "java/lang/String"
def RJ1 : String := "java/lang/StringLatin1"
def RJ2 : String := "java/lang/StringUTF16"
def RL : String := "SaltStairsLaw"
abbrev cX0_init : ByteArray := prog_2_method_1_code
def yX0_init : MethodName := ⟨RX0, "<init>", "(LSaltStairs$Text;LSaltStairs$Walk;)V"⟩
abbrev cX0_drop : ByteArray := prog_2_method_2_code
def yX0_drop : MethodName := ⟨RX0, "drop", "()V"⟩
abbrev cX0_allCome : ByteArray := prog_2_method_3_code
def yX0_allCome : MethodName := ⟨RX0, "allCome", "(LSaltStairs$Scene;I)Z"⟩
abbrev cX0_allComeOver : ByteArray := prog_2_method_4_code
def yX0_allComeOver : MethodName := ⟨RX0, "allComeOver", "(II)Z"⟩
abbrev cX0_dryEnoughWays : ByteArray := prog_2_method_5_code
def yX0_dryEnoughWays : MethodName := ⟨RX0, "dryEnoughWays", "(LSaltStairs$Scene;IIIII)J"⟩
abbrev cX0_choices : ByteArray := prog_2_method_6_code
def yX0_choices : MethodName := ⟨RX0, "choices", "(II)J"⟩
abbrev cX0_power : ByteArray := prog_2_method_7_code
def yX0_power : MethodName := ⟨RX0, "power", "(II)J"⟩
abbrev cX0_foresee : ByteArray := prog_2_method_8_code
def yX0_foresee : MethodName := ⟨RX0, "foresee", "(LSaltStairs$Scene;I)V"⟩
abbrev cX0_groundBehindDay : ByteArray := prog_2_method_9_code
def yX0_groundBehindDay : MethodName := ⟨RX0, "groundBehindDay", "(III)I"⟩
abbrev cX0_noteLost : ByteArray := prog_2_method_10_code
def yX0_noteLost : MethodName := ⟨RX0, "noteLost", "(III)V"⟩
abbrev cX0_fewestHands : ByteArray := prog_2_method_11_code
def yX0_fewestHands : MethodName := ⟨RX0, "fewestHands", "(LSaltStairs$Scene;I)I"⟩
abbrev cX0_isCarried : ByteArray := prog_2_method_12_code
def yX0_isCarried : MethodName := ⟨RX0, "isCarried", "(LSaltStairs$Scene;III)Z"⟩
abbrev cX1_init : ByteArray := prog_3_method_1_code
def yX1_init : MethodName := ⟨RX1, "<init>", "()V"⟩
abbrev cX1_clear : ByteArray := prog_3_method_2_code
def yX1_clear : MethodName := ⟨RX1, "clear", "()V"⟩
abbrev cX1_copyFrom : ByteArray := prog_3_method_3_code
def yX1_copyFrom : MethodName := ⟨RX1, "copyFrom", "(LSaltStairs$Laws;)V"⟩
abbrev cX1_open : ByteArray := prog_3_method_4_code
def yX1_open : MethodName := ⟨RX1, "open", "(I)V"⟩
abbrev cX1_emit : ByteArray := prog_3_method_5_code
def yX1_emit : MethodName := ⟨RX1, "emit", "(II)V"⟩
abbrev cX1_elseHere : ByteArray := prog_3_method_6_code
def yX1_elseHere : MethodName := ⟨RX1, "elseHere", "(I)V"⟩
abbrev cX1_tells : ByteArray := prog_3_method_7_code
def yX1_tells : MethodName := ⟨RX1, "tells", "(I)Z"⟩
abbrev cX1_worth : ByteArray := prog_3_method_8_code
def yX1_worth : MethodName := ⟨RX1, "worth", "(I[I)I"⟩
abbrev cX2_init : ByteArray := prog_4_method_1_code
def yX2_init : MethodName := ⟨RX2, "<init>", "(LSaltStairs$Text;LSaltStairs$Walk;)V"⟩
abbrev cX2_allNeed : ByteArray := prog_4_method_2_code
def yX2_allNeed : MethodName := ⟨RX2, "allNeed", "(LSaltStairs$Scene;I)I"⟩
abbrev cX2_needOf : ByteArray := prog_4_method_3_code
def yX2_needOf : MethodName := ⟨RX2, "needOf", "(LSaltStairs$Scene;II)I"⟩
abbrev cX2_bearsSet : ByteArray := prog_4_method_4_code
def yX2_bearsSet : MethodName := ⟨RX2, "bearsSet", "(LSaltStairs$Scene;III)Z"⟩
abbrev cX2_treads : ByteArray := prog_4_method_5_code
def yX2_treads : MethodName := ⟨RX2, "treads", "(IZ)Z"⟩
abbrev cX2_takenOff : ByteArray := prog_4_method_6_code
def yX2_takenOff : MethodName := ⟨RX2, "takenOff", "(LSaltStairs$Scene;I)I"⟩
abbrev cX2_dearFrom : ByteArray := prog_4_method_7_code
def yX2_dearFrom : MethodName := ⟨RX2, "dearFrom", "(LSaltStairs$Stairs;I)I"⟩
abbrev cX2_dearOver : ByteArray := prog_4_method_8_code
def yX2_dearOver : MethodName := ⟨RX2, "dearOver", "(LSaltStairs$Stairs;I)I"⟩
abbrev cX3_init : ByteArray := prog_5_method_1_code
def yX3_init : MethodName := ⟨RX3, "<init>", "(LSaltStairs$Walk;)V"⟩
abbrev cX3_drop : ByteArray := prog_5_method_2_code
def yX3_drop : MethodName := ⟨RX3, "drop", "()V"⟩
abbrev cX3_seek : ByteArray := prog_5_method_3_code
def yX3_seek : MethodName := ⟨RX3, "seek", "(LSaltStairs$Scene;I)V"⟩
abbrev cX3_search : ByteArray := prog_5_method_4_code
def yX3_search : MethodName := ⟨RX3, "search", "(IIII)V"⟩
abbrev cX4_init : ByteArray := prog_6_method_1_code
def yX4_init : MethodName := ⟨RX4, "<init>", "(LSaltStairs$Tape;)V"⟩
abbrev cX4_parse : ByteArray := prog_6_method_2_code
def yX4_parse : MethodName := ⟨RX4, "parse", "()I"⟩
abbrev cX4_faultPlace : ByteArray := prog_6_method_3_code
def yX4_faultPlace : MethodName := ⟨RX4, "faultPlace", "()I"⟩
abbrev cX4_readRow : ByteArray := prog_6_method_4_code
def yX4_readRow : MethodName := ⟨RX4, "readRow", "([IIII)I"⟩
abbrev cX4_readBrine : ByteArray := prog_6_method_5_code
def yX4_readBrine : MethodName := ⟨RX4, "readBrine", "()V"⟩
abbrev cX4_readPilgrim : ByteArray := prog_6_method_6_code
def yX4_readPilgrim : MethodName := ⟨RX4, "readPilgrim", "()V"⟩
abbrev cX4_takeName : ByteArray := prog_6_method_7_code
def yX4_takeName : MethodName := ⟨RX4, "takeName", "(I)V"⟩
abbrev cX4_readLaw : ByteArray := prog_6_method_8_code
def yX4_readLaw : MethodName := ⟨RX4, "readLaw", "()V"⟩
abbrev cX4_readIf : ByteArray := prog_6_method_9_code
def yX4_readIf : MethodName := ⟨RX4, "readIf", "()V"⟩
abbrev cX4_readSum : ByteArray := prog_6_method_10_code
def yX4_readSum : MethodName := ⟨RX4, "readSum", "(I)V"⟩
abbrev cX4_isSign : ByteArray := prog_6_method_11_code
def yX4_isSign : MethodName := ⟨RX4, "isSign", "(I)Z"⟩
abbrev cX4_readUnit : ByteArray := prog_6_method_12_code
def yX4_readUnit : MethodName := ⟨RX4, "readUnit", "(I)V"⟩
abbrev cX4_take : ByteArray := prog_6_method_13_code
def yX4_take : MethodName := ⟨RX4, "take", "(I)V"⟩
abbrev cX4_takeInt : ByteArray := prog_6_method_14_code
def yX4_takeInt : MethodName := ⟨RX4, "takeInt", "(II)I"⟩
abbrev cX4_takeVow : ByteArray := prog_6_method_15_code
def yX4_takeVow : MethodName := ⟨RX4, "takeVow", "()I"⟩
abbrev cX4_fail : ByteArray := prog_6_method_16_code
def yX4_fail : MethodName := ⟨RX4, "fail", "(I)V"⟩
abbrev cX4_failLater : ByteArray := prog_6_method_17_code
def yX4_failLater : MethodName := ⟨RX4, "failLater", "(I)V"⟩
abbrev cX5_init : ByteArray := prog_7_method_1_code
def yX5_init : MethodName := ⟨RX5, "<init>", "(LSaltStairs$Text;)V"⟩
abbrev cX5_start : ByteArray := prog_7_method_2_code
def yX5_start : MethodName := ⟨RX5, "start", "()V"⟩
abbrev cX5_copyFrom : ByteArray := prog_7_method_3_code
def yX5_copyFrom : MethodName := ⟨RX5, "copyFrom", "(LSaltStairs$Scene;)V"⟩
abbrev cX5_settle : ByteArray := prog_7_method_4_code
def yX5_settle : MethodName := ⟨RX5, "settle", "(IIII)V"⟩
abbrev cX5_passNight : ByteArray := prog_7_method_5_code
def yX5_passNight : MethodName := ⟨RX5, "passNight", "()V"⟩
abbrev cX5_isOnGround : ByteArray := prog_7_method_6_code
def yX5_isOnGround : MethodName := ⟨RX5, "isOnGround", "(I)Z"⟩
abbrev cX5_grounded : ByteArray := prog_7_method_7_code
def yX5_grounded : MethodName := ⟨RX5, "grounded", "()I"⟩
abbrev cX5_standingOn : ByteArray := prog_7_method_8_code
def yX5_standingOn : MethodName := ⟨RX5, "standingOn", "(I)I"⟩
abbrev cX5_stuckOnes : ByteArray := prog_7_method_9_code
def yX5_stuckOnes : MethodName := ⟨RX5, "stuckOnes", "()I"⟩
abbrev cX6_init : ByteArray := prog_8_method_1_code
def yX6_init : MethodName := ⟨RX6, "<init>", "()V"⟩
abbrev cX6_build : ByteArray := prog_8_method_2_code
def yX6_build : MethodName := ⟨RX6, "build", "(LSaltStairs$Text;)V"⟩
abbrev cX6_copyFrom : ByteArray := prog_8_method_3_code
def yX6_copyFrom : MethodName := ⟨RX6, "copyFrom", "(LSaltStairs$Stairs;)V"⟩
abbrev cX6_top : ByteArray := prog_8_method_4_code
def yX6_top : MethodName := ⟨RX6, "top", "()I"⟩
abbrev cX6_isStep : ByteArray := prog_8_method_5_code
def yX6_isStep : MethodName := ⟨RX6, "isStep", "(I)Z"⟩
abbrev cX6_isThere : ByteArray := prog_8_method_6_code
def yX6_isThere : MethodName := ⟨RX6, "isThere", "(I)Z"⟩
abbrev cX6_thickAt : ByteArray := prog_8_method_7_code
def yX6_thickAt : MethodName := ⟨RX6, "thickAt", "(I)I"⟩
abbrev cX6_borneAt : ByteArray := prog_8_method_8_code
def yX6_borneAt : MethodName := ⟨RX6, "borneAt", "(I)I"⟩
abbrev cX6_bear : ByteArray := prog_8_method_9_code
def yX6_bear : MethodName := ⟨RX6, "bear", "(I)V"⟩
abbrev cX6_setThick : ByteArray := prog_8_method_10_code
def yX6_setThick : MethodName := ⟨RX6, "setThick", "(II)V"⟩
abbrev cX6_rainOn : ByteArray := prog_8_method_11_code
def yX6_rainOn : MethodName := ⟨RX6, "rainOn", "(I)I"⟩
abbrev cX6_allThick : ByteArray := prog_8_method_12_code
def yX6_allThick : MethodName := ⟨RX6, "allThick", "()I"⟩
abbrev cX7_init : ByteArray := prog_9_method_1_code
def yX7_init : MethodName := ⟨RX7, "<init>", "()V"⟩
abbrev cX7_add : ByteArray := prog_9_method_2_code
def yX7_add : MethodName := ⟨RX7, "add", "(IIIII)I"⟩
abbrev cX7_addFour : ByteArray := prog_9_method_3_code
def yX7_addFour : MethodName := ⟨RX7, "addFour", "(I)V"⟩
abbrev cX7_cut : ByteArray := prog_9_method_4_code
def yX7_cut : MethodName := ⟨RX7, "cut", "(I)I"⟩
abbrev cX7_clear : ByteArray := prog_9_method_5_code
def yX7_clear : MethodName := ⟨RX7, "clear", "()V"⟩
abbrev cX7_kindAt : ByteArray := prog_9_method_6_code
def yX7_kindAt : MethodName := ⟨RX7, "kindAt", "(I)I"⟩
abbrev cX7_valueAt : ByteArray := prog_9_method_7_code
def yX7_valueAt : MethodName := ⟨RX7, "valueAt", "(I)J"⟩
abbrev cX7_startAt : ByteArray := prog_9_method_8_code
def yX7_startAt : MethodName := ⟨RX7, "startAt", "(I)I"⟩
abbrev cX7_cutIntoTokens : ByteArray := prog_9_method_9_code
def yX7_cutIntoTokens : MethodName := ⟨RX7, "cutIntoTokens", "()V"⟩
abbrev cX7_afterBlanks : ByteArray := prog_9_method_10_code
def yX7_afterBlanks : MethodName := ⟨RX7, "afterBlanks", "(I)I"⟩
abbrev cX7_endOf : ByteArray := prog_9_method_11_code
def yX7_endOf : MethodName := ⟨RX7, "endOf", "(I)I"⟩
abbrev cX7_kindOf : ByteArray := prog_9_method_12_code
def yX7_kindOf : MethodName := ⟨RX7, "kindOf", "(II)I"⟩
abbrev cX7_wordOf : ByteArray := prog_9_method_13_code
def yX7_wordOf : MethodName := ⟨RX7, "wordOf", "(II)I"⟩
abbrev cX7_isWord : ByteArray := prog_9_method_14_code
def yX7_isWord : MethodName := ⟨RX7, "isWord", "(III)Z"⟩
abbrev cX7_valueOf : ByteArray := prog_9_method_15_code
def yX7_valueOf : MethodName := ⟨RX7, "valueOf", "(II)J"⟩
abbrev cX7_byteAt : ByteArray := prog_9_method_16_code
def yX7_byteAt : MethodName := ⟨RX7, "byteAt", "(I)I"⟩
abbrev cX7_isBlank : ByteArray := prog_9_method_17_code
def yX7_isBlank : MethodName := ⟨RX7, "isBlank", "(I)Z"⟩
abbrev cX7_isLetter : ByteArray := prog_9_method_18_code
def yX7_isLetter : MethodName := ⟨RX7, "isLetter", "(I)Z"⟩
abbrev cX7_isDigit : ByteArray := prog_9_method_19_code
def yX7_isDigit : MethodName := ⟨RX7, "isDigit", "(I)Z"⟩
abbrev cX8_init : ByteArray := prog_10_method_1_code
def yX8_init : MethodName := ⟨RX8, "<init>", "()V"⟩
abbrev cX8_clear : ByteArray := prog_10_method_2_code
def yX8_clear : MethodName := ⟨RX8, "clear", "()V"⟩
abbrev cX8_copyFrom : ByteArray := prog_10_method_3_code
def yX8_copyFrom : MethodName := ⟨RX8, "copyFrom", "(LSaltStairs$Text;)V"⟩
abbrev cX8_hasPilgrim : ByteArray := prog_10_method_4_code
def yX8_hasPilgrim : MethodName := ⟨RX8, "hasPilgrim", "(I)Z"⟩
abbrev cX8_rainOf : ByteArray := prog_10_method_5_code
def yX8_rainOf : MethodName := ⟨RX8, "rainOf", "(I)I"⟩
abbrev cX9_init : ByteArray := prog_11_method_1_code
def yX9_init : MethodName := ⟨RX9, "<init>", "(LSaltStairs$Text;LSaltStairs$Walk;)V"⟩
abbrev cX9_startAnew : ByteArray := prog_11_method_2_code
def yX9_startAnew : MethodName := ⟨RX9, "startAnew", "()V"⟩
abbrev cX9_add : ByteArray := prog_11_method_3_code
def yX9_add : MethodName := ⟨RX9, "add", "(II)I"⟩
abbrev cX9_knows : ByteArray := prog_11_method_4_code
def yX9_knows : MethodName := ⟨RX9, "knows", "(I)Z"⟩
abbrev cX9_fitting : ByteArray := prog_11_method_5_code
def yX9_fitting : MethodName := ⟨RX9, "fitting", "(I)I"⟩
abbrev cX9_fittingAt : ByteArray := prog_11_method_6_code
def yX9_fittingAt : MethodName := ⟨RX9, "fittingAt", "(II)I"⟩
abbrev cX9_inSome : ByteArray := prog_11_method_7_code
def yX9_inSome : MethodName := ⟨RX9, "inSome", "(I)I"⟩
abbrev cX9_inAll : ByteArray := prog_11_method_8_code
def yX9_inAll : MethodName := ⟨RX9, "inAll", "(I)I"⟩
abbrev cX9_sets : ByteArray := prog_11_method_9_code
def yX9_sets : MethodName := ⟨RX9, "sets", "()I"⟩
abbrev cX9_isFitting : ByteArray := prog_11_method_10_code
def yX9_isFitting : MethodName := ⟨RX9, "isFitting", "(II)Z"⟩
abbrev cX9_walkAllSets : ByteArray := prog_11_method_11_code
def yX9_walkAllSets : MethodName := ⟨RX9, "walkAllSets", "()V"⟩
abbrev cX9_writeRow : ByteArray := prog_11_method_12_code
def yX9_writeRow : MethodName := ⟨RX9, "writeRow", "(I)V"⟩
abbrev cX9_readRow : ByteArray := prog_11_method_13_code
def yX9_readRow : MethodName := ⟨RX9, "readRow", "(I)V"⟩
abbrev cX10_init : ByteArray := prog_12_method_1_code
def yX10_init : MethodName := ⟨RX10, "<init>", "(LSaltStairs$Text;)V"⟩
abbrev cX10_begin : ByteArray := prog_12_method_2_code
def yX10_begin : MethodName := ⟨RX10, "begin", "(II)V"⟩
abbrev cX10_beginAs : ByteArray := prog_12_method_3_code
def yX10_beginAs : MethodName := ⟨RX10, "beginAs", "(III)V"⟩
abbrev cX10_through : ByteArray := prog_12_method_4_code
def yX10_through : MethodName := ⟨RX10, "through", "(LSaltStairs$Stairs;II)I"⟩
abbrev cX10_carriesUp : ByteArray := prog_12_method_5_code
def yX10_carriesUp : MethodName := ⟨RX10, "carriesUp", "(LSaltStairs$Stairs;II)Z"⟩
abbrev cX10_advance : ByteArray := prog_12_method_6_code
def yX10_advance : MethodName := ⟨RX10, "advance", "(LSaltStairs$Stairs;Z)I"⟩
abbrev cX10_nextSpot : ByteArray := prog_12_method_7_code
def yX10_nextSpot : MethodName := ⟨RX10, "nextSpot", "(LSaltStairs$Stairs;Z)I"⟩
abbrev cX10_tread : ByteArray := prog_12_method_8_code
def yX10_tread : MethodName := ⟨RX10, "tread", "(LSaltStairs$Stairs;IZ)Z"⟩
abbrev cX10_leftBehind : ByteArray := prog_12_method_9_code
def yX10_leftBehind : MethodName := ⟨RX10, "leftBehind", "(IIIZ)I"⟩
abbrev cX10_wearsATread : ByteArray := prog_12_method_10_code
def yX10_wearsATread : MethodName := ⟨RX10, "wearsATread", "()I"⟩
abbrev cX10_wearOn : ByteArray := prog_12_method_11_code
def yX10_wearOn : MethodName := ⟨RX10, "wearOn", "(IIIZ)I"⟩
abbrev cX11_init : ByteArray := prog_1_method_1_code
def yX11_init : MethodName := ⟨RX11, "<init>", "()V"⟩
abbrev cX11_feed : ByteArray := prog_1_method_2_code
def yX11_feed : MethodName := ⟨RX11, "feed", "(IIIII)I"⟩
abbrev cX11_back : ByteArray := prog_1_method_3_code
def yX11_back : MethodName := ⟨RX11, "back", "(I)I"⟩
abbrev cX11_read : ByteArray := prog_1_method_4_code
def yX11_read : MethodName := ⟨RX11, "read", "()I"⟩
abbrev cX11_place : ByteArray := prog_1_method_5_code
def yX11_place : MethodName := ⟨RX11, "place", "()I"⟩
abbrev cX11_step : ByteArray := prog_1_method_6_code
def yX11_step : MethodName := ⟨RX11, "step", "(II)I"⟩
abbrev cX11_pilgrim : ByteArray := prog_1_method_7_code
def yX11_pilgrim : MethodName := ⟨RX11, "pilgrim", "(II)I"⟩
abbrev cX11_wear : ByteArray := prog_1_method_8_code
def yX11_wear : MethodName := ⟨RX11, "wear", "(IIZ)I"⟩
abbrev cX11_go : ByteArray := prog_1_method_9_code
def yX11_go : MethodName := ⟨RX11, "go", "(I)I"⟩
abbrev cX11_would : ByteArray := prog_1_method_10_code
def yX11_would : MethodName := ⟨RX11, "would", "(II)I"⟩
abbrev cX11_night : ByteArray := prog_1_method_11_code
def yX11_night : MethodName := ⟨RX11, "night", "(I)I"⟩
abbrev cX11_mend : ByteArray := prog_1_method_12_code
def yX11_mend : MethodName := ⟨RX11, "mend", "(II)I"⟩
abbrev cX11_undo : ByteArray := prog_1_method_13_code
def yX11_undo : MethodName := ⟨RX11, "undo", "()Z"⟩
abbrev cX11_order : ByteArray := prog_1_method_14_code
def yX11_order : MethodName := ⟨RX11, "order", "(II)I"⟩
abbrev cX11_orderAt : ByteArray := prog_1_method_15_code
def yX11_orderAt : MethodName := ⟨RX11, "orderAt", "(II)I"⟩
abbrev cX11_need : ByteArray := prog_1_method_16_code
def yX11_need : MethodName := ⟨RX11, "need", "(II)I"⟩
abbrev cX11_bears : ByteArray := prog_1_method_17_code
def yX11_bears : MethodName := ⟨RX11, "bears", "(I)I"⟩
abbrev cX11_odds : ByteArray := prog_1_method_18_code
def yX11_odds : MethodName := ⟨RX11, "odds", "(IIIII)J"⟩
abbrev cX11_season : ByteArray := prog_1_method_19_code
def yX11_season : MethodName := ⟨RX11, "season", "(II)I"⟩
abbrev cX11_rescue : ByteArray := prog_1_method_20_code
def yX11_rescue : MethodName := ⟨RX11, "rescue", "(I)I"⟩
abbrev cX11_bell : ByteArray := prog_1_method_21_code
def yX11_bell : MethodName := ⟨RX11, "bell", "(I)I"⟩
abbrev cX11_fair : ByteArray := prog_1_method_22_code
def yX11_fair : MethodName := ⟨RX11, "fair", "()I"⟩
abbrev cX11_tell : ByteArray := prog_1_method_23_code
def yX11_tell : MethodName := ⟨RX11, "tell", "(II)I"⟩
abbrev cX11_forget : ByteArray := prog_1_method_24_code
def yX11_forget : MethodName := ⟨RX11, "forget", "()I"⟩
abbrev cX11_fits : ByteArray := prog_1_method_25_code
def yX11_fits : MethodName := ⟨RX11, "fits", "(I)I"⟩
abbrev cX11_walkers : ByteArray := prog_1_method_26_code
def yX11_walkers : MethodName := ⟨RX11, "walkers", "(II)I"⟩
abbrev cX11_who : ByteArray := prog_1_method_27_code
def yX11_who : MethodName := ⟨RX11, "who", "(IZ)I"⟩
abbrev cX11_hold : ByteArray := prog_1_method_28_code
def yX11_hold : MethodName := ⟨RX11, "hold", "(I)Z"⟩
abbrev cX11_restore : ByteArray := prog_1_method_29_code
def yX11_restore : MethodName := ⟨RX11, "restore", "(I)Z"⟩
abbrev cX11_count : ByteArray := prog_1_method_30_code
def yX11_count : MethodName := ⟨RX11, "count", "(I)I"⟩
abbrev cX11_startAnew : ByteArray := prog_1_method_31_code
def yX11_startAnew : MethodName := ⟨RX11, "startAnew", "()V"⟩
abbrev cX11_keepPast : ByteArray := prog_1_method_32_code
def yX11_keepPast : MethodName := ⟨RX11, "keepPast", "()V"⟩
abbrev cX11_goOnFrom : ByteArray := prog_1_method_33_code
def yX11_goOnFrom : MethodName := ⟨RX11, "goOnFrom", "([LSaltStairs$Scene;I)Z"⟩
abbrev cX11_dropAnswers : ByteArray := prog_1_method_34_code
def yX11_dropAnswers : MethodName := ⟨RX11, "dropAnswers", "()V"⟩
abbrev cX11_areOnGround : ByteArray := prog_1_method_35_code
def yX11_areOnGround : MethodName := ⟨RX11, "areOnGround", "(I)Z"⟩
abbrev cX11_heldSlots : ByteArray := prog_1_method_36_code
def yX11_heldSlots : MethodName := ⟨RX11, "heldSlots", "()I"⟩
abbrev cX11_at : ByteArray := prog_1_method_37_code
def yX11_at : MethodName := ⟨RX11, "at", "([II)I"⟩
abbrev cX11_put : ByteArray := prog_1_method_38_code
def yX11_put : MethodName := ⟨RX11, "put", "([III)V"⟩
abbrev cX11_copy : ByteArray := prog_1_method_39_code
def yX11_copy : MethodName := ⟨RX11, "copy", "([I[I)V"⟩
abbrev cX11_wipe : ByteArray := prog_1_method_40_code
def yX11_wipe : MethodName := ⟨RX11, "wipe", "([I)V"⟩
abbrev cX11_has : ByteArray := prog_1_method_41_code
def yX11_has : MethodName := ⟨RX11, "has", "(II)Z"⟩
abbrev cX12_init : ByteArray := prog_14_method_2_code
def yX12_init : MethodName := ⟨RX12, "<init>", "()V"⟩
abbrev cX12_feed : ByteArray := prog_14_method_3_code
def yX12_feed : MethodName := ⟨RX12, "feed", "(IIIII)I"⟩
abbrev cX12_put : ByteArray := prog_14_method_4_code
def yX12_put : MethodName := ⟨RX12, "put", "(I)V"⟩
abbrev cX12_back : ByteArray := prog_14_method_5_code
def yX12_back : MethodName := ⟨RX12, "back", "(I)I"⟩
abbrev cX12_byteAt : ByteArray := prog_14_method_6_code
def yX12_byteAt : MethodName := ⟨RX12, "byteAt", "(I)I"⟩
abbrev cX12_isDigit : ByteArray := prog_14_method_7_code
def yX12_isDigit : MethodName := ⟨RX12, "isDigit", "(I)Z"⟩
abbrev cX12_isLetter : ByteArray := prog_14_method_8_code
def yX12_isLetter : MethodName := ⟨RX12, "isLetter", "(I)Z"⟩
abbrev cX12_appends : ByteArray := prog_14_method_9_code
def yX12_appends : MethodName := ⟨RX12, "appends", "(JI)J"⟩
abbrev cX12_word : ByteArray := prog_14_method_10_code
def yX12_word : MethodName := ⟨RX12, "word", "(IIIIIII)J"⟩
abbrev cX12_token : ByteArray := prog_14_method_11_code
def yX12_token : MethodName := ⟨RX12, "token", "(IIIJ)V"⟩
abbrev cX12_cut : ByteArray := prog_14_method_12_code
def yX12_cut : MethodName := ⟨RX12, "cut", "()V"⟩
abbrev cX12_sign : ByteArray := prog_14_method_13_code
def yX12_sign : MethodName := ⟨RX12, "sign", "(III)I"⟩
abbrev cX12_is : ByteArray := prog_14_method_14_code
def yX12_is : MethodName := ⟨RX12, "is", "(I)Z"⟩
abbrev cX12_fail : ByteArray := prog_14_method_15_code
def yX12_fail : MethodName := ⟨RX12, "fail", "(I)V"⟩
abbrev cX12_wrong : ByteArray := prog_14_method_16_code
def yX12_wrong : MethodName := ⟨RX12, "wrong", "(II)V"⟩
abbrev cX12_goesOn : ByteArray := prog_14_method_17_code
def yX12_goesOn : MethodName := ⟨RX12, "goesOn", "()V"⟩
abbrev cX12_must : ByteArray := prog_14_method_18_code
def yX12_must : MethodName := ⟨RX12, "must", "(I)V"⟩
abbrev cX12_read : ByteArray := prog_14_method_19_code
def yX12_read : MethodName := ⟨RX12, "read", "()I"⟩
abbrev cX12_place : ByteArray := prog_14_method_20_code
def yX12_place : MethodName := ⟨RX12, "place", "()I"⟩
abbrev cX12_roomFor : ByteArray := prog_14_method_21_code
def yX12_roomFor : MethodName := ⟨RX12, "roomFor", "(II)V"⟩
abbrev cX12_tell : ByteArray := prog_14_method_22_code
def yX12_tell : MethodName := ⟨RX12, "tell", "()V"⟩
abbrev cX12_bounded : ByteArray := prog_14_method_23_code
def yX12_bounded : MethodName := ⟨RX12, "bounded", "(II)I"⟩
abbrev cX12_tellSteps : ByteArray := prog_14_method_24_code
def yX12_tellSteps : MethodName := ⟨RX12, "tellSteps", "()V"⟩
abbrev cX12_tellRain : ByteArray := prog_14_method_25_code
def yX12_tellRain : MethodName := ⟨RX12, "tellRain", "()V"⟩
abbrev cX12_tellVow : ByteArray := prog_14_method_26_code
def yX12_tellVow : MethodName := ⟨RX12, "tellVow", "()I"⟩
abbrev cX12_tellPilgrim : ByteArray := prog_14_method_27_code
def yX12_tellPilgrim : MethodName := ⟨RX12, "tellPilgrim", "()V"⟩
abbrev cX12_tellLaw : ByteArray := prog_14_method_28_code
def yX12_tellLaw : MethodName := ⟨RX12, "tellLaw", "()V"⟩
abbrev cX12_term : ByteArray := prog_14_method_29_code
def yX12_term : MethodName := ⟨RX12, "term", "()V"⟩
abbrev cX12_emit : ByteArray := prog_14_method_30_code
def yX12_emit : MethodName := ⟨RX12, "emit", "(II)V"⟩
abbrev cX12_comesOut : ByteArray := prog_14_method_31_code
def yX12_comesOut : MethodName := ⟨RX12, "comesOut", "(Z)V"⟩
abbrev cX12_expression : ByteArray := prog_14_method_32_code
def yX12_expression : MethodName := ⟨RX12, "expression", "()V"⟩
abbrev cX12_unit : ByteArray := prog_14_method_33_code
def yX12_unit : MethodName := ⟨RX12, "unit", "()V"⟩
abbrev cX12_termOf : ByteArray := prog_14_method_34_code
def yX12_termOf : MethodName := ⟨RX12, "termOf", "(II)I"⟩
abbrev cX12_in : ByteArray := prog_14_method_35_code
def yX12_in : MethodName := ⟨RX12, "in", "(III)Z"⟩
abbrev cX12_top : ByteArray := prog_14_method_36_code
def yX12_top : MethodName := ⟨RX12, "top", "()I"⟩
abbrev cX12_many : ByteArray := prog_14_method_37_code
def yX12_many : MethodName := ⟨RX12, "many", "()I"⟩
abbrev cX12_isStep : ByteArray := prog_14_method_38_code
def yX12_isStep : MethodName := ⟨RX12, "isStep", "(I)Z"⟩
abbrev cX12_isPilgrim : ByteArray := prog_14_method_39_code
def yX12_isPilgrim : MethodName := ⟨RX12, "isPilgrim", "(I)Z"⟩
abbrev cX12_vowOf : ByteArray := prog_14_method_40_code
def yX12_vowOf : MethodName := ⟨RX12, "vowOf", "(I)I"⟩
abbrev cX12_begins : ByteArray := prog_14_method_41_code
def yX12_begins : MethodName := ⟨RX12, "begins", "()V"⟩
abbrev cX12_takes : ByteArray := prog_14_method_42_code
def yX12_takes : MethodName := ⟨RX12, "takes", "()V"⟩
abbrev cX12_goneNow : ByteArray := prog_14_method_43_code
def yX12_goneNow : MethodName := ⟨RX12, "goneNow", "()I"⟩
abbrev cX12_wearOf : ByteArray := prog_14_method_44_code
def yX12_wearOf : MethodName := ⟨RX12, "wearOf", "(IIIIZI)I"⟩
abbrev cX12_holds : ByteArray := prog_14_method_45_code
def yX12_holds : MethodName := ⟨RX12, "holds", "(IIIZ)Z"⟩
abbrev cX12_isThere : ByteArray := prog_14_method_46_code
def yX12_isThere : MethodName := ⟨RX12, "isThere", "(I)Z"⟩
abbrev cX12_nextUp : ByteArray := prog_14_method_47_code
def yX12_nextUp : MethodName := ⟨RX12, "nextUp", "(IZ)I"⟩
abbrev cX12_nextDown : ByteArray := prog_14_method_48_code
def yX12_nextDown : MethodName := ⟨RX12, "nextDown", "(IZ)I"⟩
abbrev cX12_goesDown : ByteArray := prog_14_method_49_code
def yX12_goesDown : MethodName := ⟨RX12, "goesDown", "(II)I"⟩
abbrev cX12_comesOf : ByteArray := prog_14_method_50_code
def yX12_comesOf : MethodName := ⟨RX12, "comesOf", "(I)I"⟩
abbrev cX12_sends : ByteArray := prog_14_method_51_code
def yX12_sends : MethodName := ⟨RX12, "sends", "(I)I"⟩
abbrev cX12_step : ByteArray := prog_14_method_52_code
def yX12_step : MethodName := ⟨RX12, "step", "(II)I"⟩
abbrev cX12_pilgrim : ByteArray := prog_14_method_53_code
def yX12_pilgrim : MethodName := ⟨RX12, "pilgrim", "(II)I"⟩
abbrev cX12_wear : ByteArray := prog_14_method_54_code
def yX12_wear : MethodName := ⟨RX12, "wear", "(IIZ)I"⟩
abbrev cX12_keeps : ByteArray := prog_14_method_55_code
def yX12_keeps : MethodName := ⟨RX12, "keeps", "()V"⟩
abbrev cX12_onGround : ByteArray := prog_14_method_56_code
def yX12_onGround : MethodName := ⟨RX12, "onGround", "(I)Z"⟩
abbrev cX12_go : ByteArray := prog_14_method_57_code
def yX12_go : MethodName := ⟨RX12, "go", "(I)I"⟩
abbrev cX12_would : ByteArray := prog_14_method_58_code
def yX12_would : MethodName := ⟨RX12, "would", "(II)I"⟩
abbrev cX12_nightGoes : ByteArray := prog_14_method_59_code
def yX12_nightGoes : MethodName := ⟨RX12, "nightGoes", "()V"⟩
abbrev cX12_night : ByteArray := prog_14_method_60_code
def yX12_night : MethodName := ⟨RX12, "night", "(I)I"⟩
abbrev cX12_mend : ByteArray := prog_14_method_61_code
def yX12_mend : MethodName := ⟨RX12, "mend", "(II)I"⟩
abbrev cX12_undo : ByteArray := prog_14_method_62_code
def yX12_undo : MethodName := ⟨RX12, "undo", "()Z"⟩
abbrev cX12_bits : ByteArray := prog_14_method_63_code
def yX12_bits : MethodName := ⟨RX12, "bits", "(I)I"⟩
abbrev cX12_isSet : ByteArray := prog_14_method_64_code
def yX12_isSet : MethodName := ⟨RX12, "isSet", "(I)Z"⟩
abbrev cX12_fillsOrder : ByteArray := prog_14_method_65_code
def yX12_fillsOrder : MethodName := ⟨RX12, "fillsOrder", "(I)V"⟩
abbrev cX12_nextOrder : ByteArray := prog_14_method_66_code
def yX12_nextOrder : MethodName := ⟨RX12, "nextOrder", "()Z"⟩
abbrev cX12_orders : ByteArray := prog_14_method_67_code
def yX12_orders : MethodName := ⟨RX12, "orders", "(I)V"⟩
abbrev cX12_order : ByteArray := prog_14_method_68_code
def yX12_order : MethodName := ⟨RX12, "order", "(II)I"⟩
abbrev cX12_orderAt : ByteArray := prog_14_method_69_code
def yX12_orderAt : MethodName := ⟨RX12, "orderAt", "(II)I"⟩
abbrev cX12_behind : ByteArray := prog_14_method_70_code
def yX12_behind : MethodName := ⟨RX12, "behind", "(IIIZI)I"⟩
abbrev cX12_treads : ByteArray := prog_14_method_71_code
def yX12_treads : MethodName := ⟨RX12, "treads", "(IIZ)Z"⟩
abbrev cX12_isTrodden : ByteArray := prog_14_method_72_code
def yX12_isTrodden : MethodName := ⟨RX12, "isTrodden", "(II)Z"⟩
abbrev cX12_bearsAll : ByteArray := prog_14_method_73_code
def yX12_bearsAll : MethodName := ⟨RX12, "bearsAll", "(IIII)Z"⟩
abbrev cX12_needOf : ByteArray := prog_14_method_74_code
def yX12_needOf : MethodName := ⟨RX12, "needOf", "(II)I"⟩
abbrev cX12_need : ByteArray := prog_14_method_75_code
def yX12_need : MethodName := ⟨RX12, "need", "(II)I"⟩
abbrev cX12_allThrough : ByteArray := prog_14_method_76_code
def yX12_allThrough : MethodName := ⟨RX12, "allThrough", "(I)Z"⟩
abbrev cX12_bears : ByteArray := prog_14_method_77_code
def yX12_bears : MethodName := ⟨RX12, "bears", "(I)I"⟩
abbrev cX12_choose : ByteArray := prog_14_method_78_code
def yX12_choose : MethodName := ⟨RX12, "choose", "(II)J"⟩
abbrev cX12_odds : ByteArray := prog_14_method_79_code
def yX12_odds : MethodName := ⟨RX12, "odds", "(IIIII)J"⟩
abbrev cX12_marks : ByteArray := prog_14_method_80_code
def yX12_marks : MethodName := ⟨RX12, "marks", "()V"⟩
abbrev cX12_notes : ByteArray := prog_14_method_81_code
def yX12_notes : MethodName := ⟨RX12, "notes", "(I)V"⟩
abbrev cX12_season : ByteArray := prog_14_method_82_code
def yX12_season : MethodName := ⟨RX12, "season", "(II)I"⟩
abbrev cX12_stuckNow : ByteArray := prog_14_method_83_code
def yX12_stuckNow : MethodName := ⟨RX12, "stuckNow", "()I"⟩
abbrev cX12_leastFor : ByteArray := prog_14_method_84_code
def yX12_leastFor : MethodName := ⟨RX12, "leastFor", "(III)I"⟩
abbrev cX12_rescue : ByteArray := prog_14_method_85_code
def yX12_rescue : MethodName := ⟨RX12, "rescue", "(I)I"⟩
abbrev cX12_carries : ByteArray := prog_14_method_86_code
def yX12_carries : MethodName := ⟨RX12, "carries", "(I)Z"⟩
abbrev cX12_bell : ByteArray := prog_14_method_87_code
def yX12_bell : MethodName := ⟨RX12, "bell", "(I)I"⟩
abbrev cX12_fair : ByteArray := prog_14_method_88_code
def yX12_fair : MethodName := ⟨RX12, "fair", "()I"⟩
abbrev cX12_tell_ : ByteArray := prog_14_method_89_code
def yX12_tell_ : MethodName := ⟨RX12, "tell", "(II)I"⟩
abbrev cX12_forget : ByteArray := prog_14_method_90_code
def yX12_forget : MethodName := ⟨RX12, "forget", "()I"⟩
abbrev cX12_isFit : ByteArray := prog_14_method_91_code
def yX12_isFit : MethodName := ⟨RX12, "isFit", "(II)Z"⟩
abbrev cX12_fillsWalkers : ByteArray := prog_14_method_92_code
def yX12_fillsWalkers : MethodName := ⟨RX12, "fillsWalkers", "(I)V"⟩
abbrev cX12_fits : ByteArray := prog_14_method_93_code
def yX12_fits : MethodName := ⟨RX12, "fits", "(I)I"⟩
abbrev cX12_walkers : ByteArray := prog_14_method_94_code
def yX12_walkers : MethodName := ⟨RX12, "walkers", "(II)I"⟩
abbrev cX12_who : ByteArray := prog_14_method_95_code
def yX12_who : MethodName := ⟨RX12, "who", "(IZ)I"⟩
abbrev cX12_hold : ByteArray := prog_14_method_96_code
def yX12_hold : MethodName := ⟨RX12, "hold", "(I)Z"⟩
abbrev cX12_restore : ByteArray := prog_14_method_97_code
def yX12_restore : MethodName := ⟨RX12, "restore", "(I)Z"⟩
abbrev cX12_count : ByteArray := prog_14_method_98_code
def yX12_count : MethodName := ⟨RX12, "count", "(I)I"⟩
abbrev cJ6_numberOfLeadingZeros_0f7a4 : ByteArray := prog_16_method_47_code
def yJ6_numberOfLeadingZeros_0f7a4 : MethodName := ⟨RJ6, "numberOfLeadingZeros", "(I)I"⟩
abbrev cJ6_bitCount_0f7a4 : ByteArray := prog_16_method_49_code
def yJ6_bitCount_0f7a4 : MethodName := ⟨RJ6, "bitCount", "(I)I"⟩
abbrev cJ0_length_8abf5 : ByteArray := prog_18_method_54_code
def yJ0_length_8abf5 : MethodName := ⟨RJ0, "length", "()I"⟩
abbrev cJ0_charAt_5068e : ByteArray := prog_18_method_56_code
def yJ0_charAt_5068e : MethodName := ⟨RJ0, "charAt", "(I)C"⟩
abbrev cJ0_indexOf_0f7a4 : ByteArray := prog_18_method_79_code
def yJ0_indexOf_0f7a4 : MethodName := ⟨RJ0, "indexOf", "(I)I"⟩
abbrev cJ0_indexOf_7cf53 : ByteArray := prog_18_method_80_code
def yJ0_indexOf_7cf53 : MethodName := ⟨RJ0, "indexOf", "(II)I"⟩
abbrev cJ0_coder_7d493 : ByteArray := prog_18_method_152_code
def yJ0_coder_7d493 : MethodName := ⟨RJ0, "coder", "()B"⟩
abbrev cJ0_isLatin1_aae02 : ByteArray := prog_18_method_154_code
def yJ0_isLatin1_aae02 : MethodName := ⟨RJ0, "isLatin1", "()Z"⟩
abbrev cJ0_checkIndex_df160 : ByteArray := prog_18_method_155_code
def yJ0_checkIndex_df160 : MethodName := ⟨RJ0, "checkIndex", "(II)V"⟩
abbrev cJ0_checkBoundsBeginEnd_23922 : ByteArray := prog_18_method_158_code
def yJ0_checkBoundsBeginEnd_23922 : MethodName := ⟨RJ0, "checkBoundsBeginEnd", "(III)V"⟩
abbrev cJ1_charAt_3b067 : ByteArray := prog_19_method_2_code
def yJ1_charAt_3b067 : MethodName := ⟨RJ1, "charAt", "([BI)C"⟩
abbrev cJ1_canEncode_9a6ad : ByteArray := prog_19_method_4_code
def yJ1_canEncode_9a6ad : MethodName := ⟨RJ1, "canEncode", "(I)Z"⟩
abbrev cJ1_indexOf_4cfef : ByteArray := prog_19_method_22_code
def yJ1_indexOf_4cfef : MethodName := ⟨RJ1, "indexOf", "([BIII)I"⟩
abbrev cJ1_indexOfChar_4cfef : ByteArray := prog_19_method_23_code
def yJ1_indexOfChar_4cfef : MethodName := ⟨RJ1, "indexOfChar", "([BIII)I"⟩
abbrev cL_law : ByteArray := code
def yL_law : MethodName := ⟨RL, "law", "([I)Z"⟩
abbrev amClasses : List vw_C := [(RX0, TX0, 8), (RX1, TX1, 4), (RX2, TX2, 3), (RX3, TX3, 9), (RX4, TX4, 10), (RX5, TX5, 8), (RX6, TX6, 4), (RX7, TX7, 5), (RX8, TX8, 10), (RX9, TX9, 8), (RX10, TX10, 7), (RX11, TX11, 16), (RX12, TX12, 72)]
def amLenL : List Nat := [0, 0, 0, 0, 0, 0, 0, 0, 0, 0, 0, 0, 0, 0, 0, 0, 0, 0, 0, 0, 0, 0, 0, 0, 0, 0, 0, 0, 0, 0, 0, 0, 0, 0, 0, 0, 0, 0, 0, 0, 0, 0, 0, 0, 0, 0, 0, 0, 0, 0, 0, 0, 0, 0, 0, 0, 0, 0, 0, 0, 0, 0, 0, 0, 0, 0, 0, 0, 0, 0, 0, 0, 0, 0, 0, 0, 0, 0, 0, 0, 0, 0, 0, 0, 0, 0, 0, 0, 0, 0, 0, 0, 0, 0, 0, 0, 0, 0, 0, 0, 401, 4, 24, 26, 8, 7, 7, 8, 8, 8, 8, 8, 26, 26, 2000, 401, 401, 401, 26, 14, 8, 8, 30, 30, 6656, 7, 40, 3, 3, 2000, 2000, 403, 403, 403, 403, 19, 8, 2, 50, 2, 28, 2, 2, 2, 16, 16, 2, 8, 8, 100, 100, 100, 100, 100, 840, 840, 64, 7, 400, 100, 100, 4000, 8, 8, 25, 27, 30, 30, 256, 3, 300]
def amKndL : List Nat := [0, 1, 2, 3, 4, 5, 6, 7, 8, 9, 10, 11, 12, 99, 99, 99, 99, 99, 99, 99, 99, 99, 99, 99, 99, 99, 99, 99, 99, 99, 99, 99, 99, 99, 99, 99, 99, 99, 99, 99, 99, 99, 99, 99, 99, 99, 99, 99, 99, 99, 99, 99, 99, 99, 99, 99, 99, 99, 99, 99, 99, 99, 99, 99, 99, 99, 99, 99, 99, 99, 99, 99, 99, 99, 99, 99, 99, 99, 99, 99, 99, 99, 99, 99, 99, 99, 99, 99, 99, 99, 20, 99, 99, 99, 99, 99, 99, 99, 29, 29, 20, 20, 20, 20, 25, 20, 20, 21, 20, 20, 20, 20, 20, 20, 22, 20, 21, 20, 20, 20, 20, 20, 20, 20, 20, 20, 24, 24, 23, 22, 22, 20, 20, 20, 21, 21, 21, 20, 20, 20, 20, 20, 20, 20, 20, 20, 20, 20, 20, 23, 20, 20, 20, 20, 20, 20, 20, 20, 20, 20, 20, 20, 20, 20, 23, 20, 20, 20, 20, 23, 20]
def amFkL : List (List Nat) := [[2, 2, 2, 0, 0, 0, 0, 0], [2, 0, 2, 2], [2, 2, 2], [2, 2, 2, 2, 0, 0, 0, 0, 0], [2, 2, 2, 0, 0, 0, 0, 0, 0, 0], [2, 2, 2, 2, 2, 2, 0, 0], [2, 2, 0, 0], [2, 0, 2, 2, 2], [2, 2, 2, 2, 2, 0, 0, 0, 0, 0], [2, 2, 2, 2, 2, 0, 2, 3], [2, 2, 0, 0, 0, 0, 0], [2, 2, 2, 2, 2, 2, 2, 2, 2, 2, 2, 2, 2, 0, 0, 0], [0, 2, 0, 2, 0, 2, 2, 2, 2, 2, 0, 0, 0, 0, 0, 0, 0, 0, 0, 0, 0, 2, 2, 2, 2, 2, 2, 2, 2, 2, 2, 2, 2, 2, 0, 2, 2, 2, 2, 2, 0, 2, 2, 2, 0, 2, 2, 3, 2, 2, 0, 0, 0, 0, 2, 0, 2, 2, 0, 0, 0, 0, 0, 2, 2, 0, 2, 2, 2, 0, 2, 2]]
def amOwn : List Nat := [0, 0, 0, 0, 0, 0, 0, 0, 0, 0, 0, 1, 1, 1, 1, 1, 1, 1, 2, 2, 2, 2, 2, 2, 2, 3, 3, 3, 4, 4, 4, 4, 4, 4, 4, 4, 4, 4, 4, 4, 4, 4, 4, 4, 5, 5, 5, 5, 5, 5, 5, 5, 6, 6, 6, 6, 6, 6, 6, 6, 6, 6, 6, 7, 7, 7, 7, 7, 7, 7, 7, 7, 7, 7, 7, 7, 7, 7, 7, 7, 7, 8, 8, 8, 8, 9, 9, 9, 9, 9, 9, 9, 9, 9, 9, 9, 9, 10, 10, 10, 10, 10, 10, 10, 10, 10, 10, 11, 11, 11, 11, 11, 11, 11, 11, 11, 11, 11, 11, 11, 11, 11, 11, 11, 11, 11, 11, 11, 11, 11, 11, 11, 11, 11, 11, 11, 11, 11, 11, 11, 11, 11, 11, 11, 11, 11, 11, 12, 12, 12, 12, 12, 12, 12, 12, 12, 12, 12, 12, 12, 12, 12, 12, 12, 12, 12, 12, 12, 12, 12, 12, 12, 12, 12, 12, 12, 12, 12, 12, 12, 12, 12, 12, 12, 12, 12, 12, 12, 12, 12, 12, 12, 12, 12, 12, 12, 12, 12, 12, 12, 12, 12, 12, 12, 12, 12, 12, 12, 12, 12, 12, 12, 12, 12, 12, 12, 12, 12, 12, 12, 12, 12, 12, 12, 12, 12, 12, 12, 12, 12, 12, 12, 12, 12, 12, 12, 12, 12, 12, 12, 12, 12, 12, 14, 14, 13]
def amFull : List (Nat × Nat) := [(11, 0), (7, 0), (114, 0), (115, 0), (116, 0), (117, 0), (8, 0), (118, 0), (119, 0), (120, 0), (121, 0), (1, 0), (100, 0), (101, 0), (102, 0), (4, 0), (8, 1), (118, 1), (119, 1), (120, 1), (121, 1), (1, 1), (100, 1), (101, 1), (102, 1), (107, 0), (10, 0), (125, 0), (5, 0), (6, 0), (112, 0), (113, 0), (108, 0), (109, 0), (110, 0), (111, 0), (126, 0), (127, 0), (128, 0), (6, 44), (112, 44), (113, 44), (3, 0), (104, 0), (105, 0), (106, 0), (6, 45), (112, 45), (113, 45), (6, 46), (112, 46), (113, 46), (6, 47), (112, 47), (113, 47), (6, 48), (112, 48), (113, 48), (6, 49), (112, 49), (113, 49), (6, 50), (112, 50), (113, 50), (6, 51), (112, 51), (113, 51), (6, 52), (112, 52), (113, 52), (0, 0), (6, 53), (112, 53), (113, 53), (2, 0), (103, 0), (9, 0), (6, 54), (112, 54), (113, 54), (122, 0), (123, 0), (124, 0), (5, 1), (6, 1), (112, 1), (113, 1), (108, 1), (109, 1), (110, 1), (111, 1), (5, 2), (6, 2), (112, 2), (113, 2), (108, 2), (109, 2), (110, 2), (111, 2), (5, 3), (6, 3), (112, 3), (113, 3), (108, 3), (109, 3), (110, 3), (111, 3), (5, 4), (6, 4), (112, 4), (113, 4), (108, 4), (109, 4), (110, 4), (111, 4), (5, 5), (6, 5), (112, 5), (113, 5), (108, 5), (109, 5), (110, 5), (111, 5), (5, 6), (6, 6), (112, 6), (113, 6), (108, 6), (109, 6), (110, 6), (111, 6), (5, 7), (6, 7), (112, 7), (113, 7), (108, 7), (109, 7), (110, 7), (111, 7), (5, 8), (6, 8), (112, 8), (113, 8), (108, 8), (109, 8), (110, 8), (111, 8), (5, 9), (6, 9), (112, 9), (113, 9), (108, 9), (109, 9), (110, 9), (111, 9), (5, 10), (6, 10), (112, 10), (113, 10), (108, 10), (109, 10), (110, 10), (111, 10), (5, 11), (6, 11), (112, 11), (113, 11), (108, 11), (109, 11), (110, 11), (111, 11), (5, 12), (6, 12), (112, 12), (113, 12), (108, 12), (109, 12), (110, 12), (111, 12), (5, 13), (6, 13), (112, 13), (113, 13), (108, 13), (109, 13), (110, 13), (111, 13), (5, 14), (6, 14), (112, 14), (113, 14), (108, 14), (109, 14), (110, 14), (111, 14), (5, 15), (6, 15), (112, 15), (113, 15), (108, 15), (109, 15), (110, 15), (111, 15), (5, 16), (6, 16), (112, 16), (113, 16), (108, 16), (109, 16), (110, 16), (111, 16), (5, 17), (6, 17), (112, 17), (113, 17), (108, 17), (109, 17), (110, 17), (111, 17), (5, 18), (6, 18), (112, 18), (113, 18), (108, 18), (109, 18), (110, 18), (111, 18), (5, 19), (6, 19), (112, 19), (113, 19), (108, 19), (109, 19), (110, 19), (111, 19), (5, 20), (6, 20), (112, 20), (113, 20), (108, 20), (109, 20), (110, 20), (111, 20), (5, 21), (6, 21), (112, 21), (113, 21), (108, 21), (109, 21), (110, 21), (111, 21), (5, 22), (6, 22), (112, 22), (113, 22), (108, 22), (109, 22), (110, 22), (111, 22), (5, 23), (6, 23), (112, 23), (113, 23), (108, 23), (109, 23), (110, 23), (111, 23), (5, 24), (6, 24), (112, 24), (113, 24), (108, 24), (109, 24), (110, 24), (111, 24), (5, 25), (6, 25), (112, 25), (113, 25), (108, 25), (109, 25), (110, 25), (111, 25), (5, 26), (6, 26), (112, 26), (113, 26), (108, 26), (109, 26), (110, 26), (111, 26), (5, 27), (6, 27), (112, 27), (113, 27), (108, 27), (109, 27), (110, 27), (111, 27), (5, 28), (6, 28), (112, 28), (113, 28), (108, 28), (109, 28), (110, 28), (111, 28), (5, 29), (6, 29), (112, 29), (113, 29), (108, 29), (109, 29), (110, 29), (111, 29), (5, 30), (6, 30), (112, 30), (113, 30), (108, 30), (109, 30), (110, 30), (111, 30), (5, 31), (6, 31), (112, 31), (113, 31), (108, 31), (109, 31), (110, 31), (111, 31), (5, 32), (6, 32), (112, 32), (113, 32), (108, 32), (109, 32), (110, 32), (111, 32), (5, 33), (6, 33), (112, 33), (113, 33), (108, 33), (109, 33), (110, 33), (111, 33), (5, 34), (6, 34), (112, 34), (113, 34), (108, 34), (109, 34), (110, 34), (111, 34), (5, 35), (6, 35), (112, 35), (113, 35), (108, 35), (109, 35), (110, 35), (111, 35), (5, 36), (6, 36), (112, 36), (113, 36), (108, 36), (109, 36), (110, 36), (111, 36), (5, 37), (6, 37), (112, 37), (113, 37), (108, 37), (109, 37), (110, 37), (111, 37), (5, 38), (6, 38), (112, 38), (113, 38), (108, 38), (109, 38), (110, 38), (111, 38), (5, 39), (6, 39), (112, 39), (113, 39), (108, 39), (109, 39), (110, 39), (111, 39), (5, 40), (6, 40), (112, 40), (113, 40), (108, 40), (109, 40), (110, 40), (111, 40), (5, 41), (6, 41), (112, 41), (113, 41), (108, 41), (109, 41), (110, 41), (111, 41), (5, 42), (6, 42), (112, 42), (113, 42), (108, 42), (109, 42), (110, 42), (111, 42), (5, 43), (6, 43), (112, 43), (113, 43), (108, 43), (109, 43), (110, 43), (111, 43), (12, 0), (129, 0), (130, 0), (131, 0), (132, 0), (133, 0), (134, 0), (135, 0), (136, 0), (137, 0), (138, 0), (139, 0), (140, 0), (141, 0), (142, 0), (143, 0), (144, 0), (145, 0), (146, 0), (147, 0), (148, 0), (149, 0), (150, 0), (151, 0), (152, 0), (153, 0), (154, 0), (155, 0), (156, 0), (157, 0), (158, 0), (159, 0), (160, 0), (161, 0), (162, 0), (163, 0), (164, 0), (165, 0), (166, 0), (167, 0), (168, 0), (169, 0), (170, 0)]
def amWords : List Nat := [115, 116, 101, 112, 115, 32, 32, 32, 114, 97, 105, 110, 32, 32, 32, 32, 98, 114, 105, 110, 101, 32, 32, 32, 112, 105, 108, 103, 114, 105, 109, 32, 108, 97, 119, 32, 32, 32, 32, 32, 105, 102, 32, 32, 32, 32, 32, 32, 116, 104, 101, 110, 32, 32, 32, 32, 101, 108, 115, 101, 32, 32, 32, 32, 112, 108, 97, 105, 110, 32, 32, 32, 107, 110, 101, 101, 115, 32, 32, 32, 108, 111, 110, 103, 32, 32, 32, 32, 115, 116, 97, 121, 115, 32, 32, 32, 119, 101, 105, 103, 104, 116, 32, 32, 116, 104, 105, 99, 107, 32, 32, 32, 115, 116, 101, 112, 32, 32, 32, 32, 100, 97, 121, 32, 32, 32, 32, 32, 119, 101, 116, 32, 32, 32, 32, 32, 117, 112, 32, 32, 32, 32, 32, 32, 103, 111, 110, 101, 32, 32, 32, 32]
def amSigns : List Nat := [59, 61, 43, 45, 42, 47, 60, 40, 41]
end
section
/-! THE SMALL MACHINE: bytecode over typed columns of whole numbers. A value: a cell (kind, column, row), null, an int, a long, nothing. -/
abbrev AmV : Type := Option (Nat × Nat × Nat) ⊕ (Int ⊕ (Int ⊕ Unit))
abbrev AmM : Type := Nat → Nat → Nat → Int
abbrev AmG : Type := Nat → Nat → Nat → AmV
abbrev AmE : Type := Jvm.ClassFile.Instr × Nat × Nat × Nat × Nat × Int × List Nat
abbrev AmC : Type := Nat × List AmV × List AmV × AmM
abbrev AmR : Type := AmC ⊕ Option (AmV × AmM)
abbrev vR (k c s : Nat) : AmV := .inl (some (k, c, s))
abbrev vN : AmV := .inl none
abbrev vI (x : Int) : AmV := .inr (.inl x)
abbrev vL (x : Int) : AmV := .inr (.inr (.inl x))
abbrev vU : AmV := .inr (.inr (.inr ()))
def w32 (x : Int) : Int := (x + 2147483648) % 4294967296 - 2147483648
def w64 (x : Int) : Int := (x + 9223372036854775808) % 18446744073709551616 - 9223372036854775808
def w8 (x : Int) : Int := (x + 128) % 256 - 128
def i32 (x : Int) : Prop := -2147483648 ≤ x ∧ x < 2147483648
def i64 (x : Int) : Prop := -9223372036854775808 ≤ x ∧ x < 9223372036854775808
def bAnd (x y : Int) : Int := (Int32.ofInt x &&& Int32.ofInt y).toInt
def bOr (x y : Int) : Int := (Int32.ofInt x ||| Int32.ofInt y).toInt
def bXor (x y : Int) : Int := (Int32.ofInt x ^^^ Int32.ofInt y).toInt
def bShl (x y : Int) : Int := (Int32.ofInt x <<< (Int32.ofInt y &&& 31)).toInt
def bShr (x y : Int) : Int := (Int32.ofInt x >>> (Int32.ofInt y &&& 31)).toInt
def bUsh (x y : Int) : Int := ((Int32.ofInt x).toUInt32 >>> ((Int32.ofInt y).toUInt32 &&& Int32.toUInt32 31)).toInt32.toInt
def amCmp (x y : Int) : Int := if x < y then -1 else if x = y then 0 else 1
def amMax (x y : Int) : Int := if x < y then y else x
def amMin (x y : Int) : Int := if y < x then y else x
def amZ (x : Int) : Bool := x == 0 || x == 1
def amUp (M : AmM) (c s j : Nat) (v : Int) : AmM := fun c' s' j' => bif (c' == c && (s' == s && j' == j)) then v else M c' s' j'
def amCpy (M : AmM) (c0 s0 : Nat) (sp : Int) (c1 s1 : Nat) (dp n : Int) : AmM := fun c s j => if c = c1 ∧ s = s1 ∧ dp ≤ (j : Int) ∧ (j : Int) < dp + n then M c0 s0 (sp + ((j : Int) - dp)).toNat else M c s j
def amLd (M : AmM) (c : Nat) : Nat := bif c == 90 then (M 90 1 0).toNat else amLenL.getD c 0
def amIdxF (x : Int) : List Nat → Int → Int
  | [], _ => -1
  | b :: l, k => if (b : Int) = x then k else amIdxF x l (k + 1)
def amStr (c : Nat) : List Nat := if c = 98 then amWords else amSigns
def amSt1 (L : List AmV) (i : Nat) (v : AmV) (q : Nat) : List AmV := match q with
  | 0 => L.set i v
  | _ => (L.set (i - 1) vU).set i v
def amSt2 (L : List AmV) (i : Nat) (v : AmV) (q : Nat) : List AmV := (amSt1 L i v q).set (i + 1) vU
def amNo : AmR := .inr none
def amLoI (L st : List AmV) (M : AmM) (nx k : Nat) : AmR := match L[k]? with
  | some (.inr (.inl x)) => .inl (nx, L, vI x :: st, M)
  | _ => amNo
def amLoL (L st : List AmV) (M : AmM) (nx k : Nat) : AmR := match L[k]? with
  | some (.inr (.inr (.inl x))) => .inl (nx, L, vL x :: st, M)
  | _ => amNo
def amLoA (L st : List AmV) (M : AmM) (nx k : Nat) : AmR := match L[k]? with
  | some (.inl (some r)) => .inl (nx, L, .inl (some r) :: st, M)
  | _ => amNo
def amStoI (L st : List AmV) (M : AmM) (nx k q : Nat) : AmR := match st with
  | .inr (.inl x) :: st' => bif Nat.blt k L.length then .inl (nx, amSt1 L k (vI x) q, st', M) else amNo
  | _ => amNo
def amStoL (L st : List AmV) (M : AmM) (nx k q : Nat) : AmR := match st with
  | .inr (.inr (.inl x)) :: st' => bif Nat.blt (k + 1) L.length then .inl (nx, amSt2 L k (vL x) q, st', M) else amNo
  | _ => amNo
def amStoA (L st : List AmV) (M : AmM) (nx k q : Nat) : AmR := match st with
  | .inl (some r) :: st' => bif Nat.blt k L.length then .inl (nx, amSt1 L k (.inl (some r)) q, st', M) else amNo
  | _ => amNo
def amIf (c : Jvm.ClassFile.Cond) (x y : Int) (A B : AmR) : AmR := match c with
  | .eq => if x = y then A else B
  | .ne => if x = y then B else A
  | .lt => if x < y then A else B
  | .ge => if x < y then B else A
  | .gt => if y < x then A else B
  | .le => if y < x then B else A
def amTs (x : Int) : Int → List Nat → (Nat → AmR) → Nat → AmR
  | _, [], f, d => f d
  | lo, t :: ts, f, d => if x = lo then f t else amTs x (lo + 1) ts f d
def amPu (z : Int) (o : Option (AmV × AmM)) (f : List AmV → AmM → AmR) : AmR := match o with
  | some (.inr (.inr (.inr ())), M') => bif z == 0 then f [] M' else amNo
  | some (.inr (.inl r), M') => bif z == 1 then f [vI r] M' else amNo
  | some (.inr (.inr (.inl r)), M') => bif z == 2 then f [vL r] M' else amNo
  | _ => amNo
def amCat : List AmV → Nat
  | [] => 0
  | .inr (.inr (.inl _)) :: r => amCat r + 2
  | _ :: r => amCat r + 1
def amInv (cal : Nat → List AmV → AmM → Option (AmV × AmM)) (nx a b q : Nat) (z : Int) (L st : List AmV) (M : AmM) : AmR := match q with
  | 0 => bif Nat.ble b st.length && Nat.ble (amCat (st.drop b)) 8 then amPu z (cal a (st.take b).reverse M) (fun r M' => .inl (nx, L, r ++ st.drop b, M')) else amNo
  | 1 => (match st.drop (b - 1) with
    | .inl (some (_, c, _)) :: _ => bif c == amOwn.getD a 99 && (Nat.ble b st.length && Nat.ble (amCat (st.drop b)) 8) then amPu z (cal a (st.take b).reverse M) (fun r M' => .inl (nx, L, r ++ st.drop b, M')) else amNo
    | _ => amNo)
  | 5 => (match st with
    | .inr (.inl y) :: .inr (.inl x) :: st' => bif Nat.ble (amCat st') 8 then .inl (nx, L, vI (amMax x y) :: st', M) else amNo
    | _ => amNo)
  | 6 => (match st with
    | .inr (.inl y) :: .inr (.inl x) :: st' => bif Nat.ble (amCat st') 8 then .inl (nx, L, vI (amMin x y) :: st', M) else amNo
    | _ => amNo)
  | 7 => (match st with
    | .inr (.inl n) :: .inr (.inl dp) :: .inl (some (k1, c1, s1)) :: .inr (.inl sp) :: .inl (some (k0, c0, s0)) :: st' =>
      bif Nat.ble (amCat st') 8 && (k1 == 20 && (k0 == 20 && (!(c1 == 90) && !(c0 == 90)))) then (if 0 ≤ sp ∧ 0 ≤ dp ∧ 0 ≤ n ∧ sp + n ≤ (amLd M c0 : Int) ∧ dp + n ≤ (amLd M c1 : Int) then .inl (nx, L, st', amCpy M c0 s0 sp c1 s1 dp n) else amNo) else amNo
    | _ => amNo)
  | 9 => (match st with
    | .inl (some (29, c, _)) :: st' => bif Nat.ble (amCat st') 8 then .inl (nx, L, vI ((amStr c).length : Int) :: st', M) else amNo
    | _ => amNo)
  | 10 => (match st with
    | .inr (.inl j) :: .inl (some (29, c, _)) :: st' => bif Nat.ble (amCat st') 8 then (if 0 ≤ j ∧ j < ((amStr c).length : Int) then .inl (nx, L, vI ((amStr c).getD j.toNat 0 : Nat) :: st', M) else amNo) else amNo
    | _ => amNo)
  | 11 => (match st with
    | .inr (.inl x) :: .inl (some (29, c, _)) :: st' => bif Nat.ble (amCat st') 8 then (if 0 ≤ x ∧ x < 256 then .inl (nx, L, vI (amIdxF x (amStr c) 0) :: st', M) else amNo) else amNo
    | _ => amNo)
  | _ => amNo
def amEx (G : AmG) (cal : Nat → List AmV → AmM → Option (AmV × AmM)) (i : Jvm.ClassFile.Instr) (nx a b q : Nat) (z : Int) (ts : List Nat) (L st : List AmV) (M : AmM) : AmR := match i with
  | .iload k => amLoI L st M nx k
  | .iload_n k => amLoI L st M nx k.val
  | .lload k => amLoL L st M nx k
  | .lload_n k => amLoL L st M nx k.val
  | .aload k => amLoA L st M nx k
  | .aload_n k => amLoA L st M nx k.val
  | .istore k => amStoI L st M nx k q
  | .istore_n k => amStoI L st M nx k.val q
  | .lstore k => amStoL L st M nx k q
  | .lstore_n k => amStoL L st M nx k.val q
  | .astore k => amStoA L st M nx k q
  | .astore_n k => amStoA L st M nx k.val q
  | .iconst _ => .inl (nx, L, vI z :: st, M)
  | .bipush _ => .inl (nx, L, vI z :: st, M)
  | .sipush _ => .inl (nx, L, vI z :: st, M)
  | .lconst _ => .inl (nx, L, vL z :: st, M)
  | .ldc _ => (match q with
    | 0 => .inl (nx, L, vI z :: st, M)
    | _ => .inl (nx, L, vR 29 a 0 :: st, M))
  | .ldc_w _ => .inl (nx, L, vI z :: st, M)
  | .ldc2_w _ => .inl (nx, L, vL z :: st, M)
  | .iinc k _ => (match L[k]? with
    | some (.inr (.inl x)) => .inl (nx, amSt1 L k (vI (w32 (x + z))) q, st, M)
    | _ => amNo)
  | .iadd => (match st with
    | .inr (.inl y) :: .inr (.inl x) :: st' => .inl (nx, L, vI (w32 (x + y)) :: st', M)
    | _ => amNo)
  | .isub => (match st with
    | .inr (.inl y) :: .inr (.inl x) :: st' => .inl (nx, L, vI (w32 (x - y)) :: st', M)
    | _ => amNo)
  | .imul => (match st with
    | .inr (.inl y) :: .inr (.inl x) :: st' => .inl (nx, L, vI (w32 (x * y)) :: st', M)
    | _ => amNo)
  | .idiv => (match st with
    | .inr (.inl y) :: .inr (.inl x) :: st' => if y = 0 then amNo else .inl (nx, L, vI (w32 (Int.tdiv x y)) :: st', M)
    | _ => amNo)
  | .irem => (match st with
    | .inr (.inl y) :: .inr (.inl x) :: st' => if y = 0 then amNo else .inl (nx, L, vI (Int.tmod x y) :: st', M)
    | _ => amNo)
  | .iand => (match st with
    | .inr (.inl y) :: .inr (.inl x) :: st' => .inl (nx, L, vI (bAnd x y) :: st', M)
    | _ => amNo)
  | .ior => (match st with
    | .inr (.inl y) :: .inr (.inl x) :: st' => .inl (nx, L, vI (bOr x y) :: st', M)
    | _ => amNo)
  | .ixor => (match st with
    | .inr (.inl y) :: .inr (.inl x) :: st' => .inl (nx, L, vI (bXor x y) :: st', M)
    | _ => amNo)
  | .ishl => (match st with
    | .inr (.inl y) :: .inr (.inl x) :: st' => .inl (nx, L, vI (bShl x y) :: st', M)
    | _ => amNo)
  | .ishr => (match st with
    | .inr (.inl y) :: .inr (.inl x) :: st' => .inl (nx, L, vI (bShr x y) :: st', M)
    | _ => amNo)
  | .iushr => (match st with
    | .inr (.inl y) :: .inr (.inl x) :: st' => .inl (nx, L, vI (bUsh x y) :: st', M)
    | _ => amNo)
  | .ladd => (match st with
    | .inr (.inr (.inl y)) :: .inr (.inr (.inl x)) :: st' => .inl (nx, L, vL (w64 (x + y)) :: st', M)
    | _ => amNo)
  | .lsub => (match st with
    | .inr (.inr (.inl y)) :: .inr (.inr (.inl x)) :: st' => .inl (nx, L, vL (w64 (x - y)) :: st', M)
    | _ => amNo)
  | .lmul => (match st with
    | .inr (.inr (.inl y)) :: .inr (.inr (.inl x)) :: st' => .inl (nx, L, vL (w64 (x * y)) :: st', M)
    | _ => amNo)
  | .ldiv => (match st with
    | .inr (.inr (.inl y)) :: .inr (.inr (.inl x)) :: st' => if y = 0 then amNo else .inl (nx, L, vL (w64 (Int.tdiv x y)) :: st', M)
    | _ => amNo)
  | .lcmp => (match st with
    | .inr (.inr (.inl y)) :: .inr (.inr (.inl x)) :: st' => .inl (nx, L, vI (amCmp x y) :: st', M)
    | _ => amNo)
  | .i2l => (match st with
    | .inr (.inl x) :: st' => .inl (nx, L, vL x :: st', M)
    | _ => amNo)
  | .l2i => (match st with
    | .inr (.inr (.inl x)) :: st' => .inl (nx, L, vI (w32 x) :: st', M)
    | _ => amNo)
  | .i2b => (match st with
    | .inr (.inl x) :: st' => .inl (nx, L, vI (w8 x) :: st', M)
    | _ => amNo)
  | .i2c => (match st with
    | .inr (.inl x) :: st' => .inl (nx, L, vI (x % 65536) :: st', M)
    | _ => amNo)
  | .dup => (match st with
    | .inr (.inl x) :: st' => .inl (nx, L, vI x :: vI x :: st', M)
    | .inl r :: st' => .inl (nx, L, .inl r :: .inl r :: st', M)
    | _ => amNo)
  | .pop => (match st with
    | .inr (.inl _) :: st' => .inl (nx, L, st', M)
    | .inl _ :: st' => .inl (nx, L, st', M)
    | _ => amNo)
  | .dup2 => (match st with
    | .inr (.inl x) :: .inl r :: st' => .inl (nx, L, vI x :: .inl r :: vI x :: .inl r :: st', M)
    | _ => amNo)
  | .goto _ => .inl (a, L, st, M)
  | .ifCond c _ => (match st with
    | .inr (.inl x) :: st' => amIf c x 0 (.inl (a, L, st', M)) (.inl (nx, L, st', M))
    | _ => amNo)
  | .if_icmp c _ => (match st with
    | .inr (.inl y) :: .inr (.inl x) :: st' => amIf c x y (.inl (a, L, st', M)) (.inl (nx, L, st', M))
    | _ => amNo)
  | .ifnonnull _ => (match st with
    | .inl (some _) :: st' => .inl (a, L, st', M)
    | _ => amNo)
  | .ifnull _ => (match st with
    | .inl (some _) :: st' => .inl (nx, L, st', M)
    | _ => amNo)
  | .tableswitch _ _ _ _ => (match st with
    | .inr (.inl x) :: st' => amTs x z ts (fun t => .inl (t, L, st', M)) a
    | _ => amNo)
  | .getfield _ => (match st with
    | .inl (some (_, c, s)) :: st' => bif c == a then (match q with
      | 2 => .inl (nx, L, G c s b :: st', M)
      | _ => .inl (nx, L, vI (M c s b) :: st', M)) else amNo
    | _ => amNo)
  | .putfield _ => (match st with
    | .inr (.inl x) :: .inl (some (_, c, s)) :: st' => bif c == a then (match q with
      | 0 => .inl (nx, L, st', amUp M c s b x)
      | 3 => bif amZ x then .inl (nx, L, st', amUp M c s b x) else amNo
      | _ => amNo) else amNo
    | _ => amNo)
  | .arraylength => (match st with
    | .inl (some (k, c, _)) :: st' => bif Nat.ble 20 k && Nat.ble k 25 then .inl (nx, L, vI (amLd M c : Int) :: st', M) else amNo
    | _ => amNo)
  | .iaload => (match st with
    | .inr (.inl j) :: .inl (some (k, c, s)) :: st' => bif k == 20 then (if 0 ≤ j ∧ j < (amLd M c : Int) then .inl (nx, L, vI (M c s j.toNat) :: st', M) else amNo) else amNo
    | _ => amNo)
  | .baload => (match st with
    | .inr (.inl j) :: .inl (some (k, c, s)) :: st' => bif k == 22 || k == 23 then (if 0 ≤ j ∧ j < (amLd M c : Int) then .inl (nx, L, vI (M c s j.toNat) :: st', M) else amNo) else amNo
    | _ => amNo)
  | .laload => (match st with
    | .inr (.inl j) :: .inl (some (k, c, s)) :: st' => bif k == 21 then (if 0 ≤ j ∧ j < (amLd M c : Int) then .inl (nx, L, vL (M c s j.toNat) :: st', M) else amNo) else amNo
    | _ => amNo)
  | .aaload => (match st with
    | .inr (.inl j) :: .inl (some (k, c, s)) :: st' => bif k == 24 || k == 25 then (if 0 ≤ j ∧ j < (amLd M c : Int) then .inl (nx, L, G c s j.toNat :: st', M) else amNo) else amNo
    | _ => amNo)
  | .iastore => (match st with
    | .inr (.inl x) :: .inr (.inl j) :: .inl (some (k, c, s)) :: st' => bif k == 20 && !(c == 90) then (if 0 ≤ j ∧ j < (amLd M c : Int) then .inl (nx, L, st', amUp M c s j.toNat x) else amNo) else amNo
    | _ => amNo)
  | .bastore => (match st with
    | .inr (.inl x) :: .inr (.inl j) :: .inl (some (k, c, s)) :: st' => if 0 ≤ j ∧ j < (amLd M c : Int) then (match k with
      | 22 => .inl (nx, L, st', amUp M c s j.toNat (w8 x))
      | 23 => bif amZ x then .inl (nx, L, st', amUp M c s j.toNat x) else amNo
      | _ => amNo) else amNo
    | _ => amNo)
  | .lastore => (match st with
    | .inr (.inr (.inl x)) :: .inr (.inl j) :: .inl (some (k, c, s)) :: st' => bif k == 21 then (if 0 ≤ j ∧ j < (amLd M c : Int) then .inl (nx, L, st', amUp M c s j.toNat x) else amNo) else amNo
    | _ => amNo)
  | .invokevirtual _ => amInv cal nx a b q z L st M
  | .invokestatic _ => amInv cal nx a b q z L st M
  | .ireturn => (match st with
    | [.inr (.inl x)] => (match q with
      | 0 => .inr (some (vI x, M))
      | _ => bif amZ x then .inr (some (vI x, M)) else amNo)
    | _ => amNo)
  | .lreturn => (match st with
    | [.inr (.inr (.inl x))] => .inr (some (vL x, M))
    | _ => amNo)
  | .return_ => (match st with
    | [] => .inr (some (vU, M))
    | _ => amNo)
  | _ => amNo
def amStep (G : AmG) (cal : Nat → List AmV → AmM → Option (AmV × AmM)) (cd : List (Option AmE)) (c : AmC) : AmR := match cd[c.1]? with
  | some (some (i, nx, a, b, q, z, ts)) => amEx G cal i nx a b q z ts c.2.1 c.2.2.1 c.2.2.2
  | _ => amNo
/-! runs: a step is a function; a run is where its steps end -/
def amN {σ ρ : Type} (f : σ → σ ⊕ Option ρ) : Nat → σ → Option ρ
  | 0, _ => none
  | n + 1, c => match f c with
    | .inl c' => amN f n c'
    | .inr r => r
theorem amN_mono {σ ρ : Type} {f : σ → σ ⊕ Option ρ} {r : ρ} : ∀ {n : Nat} {c : σ}, amN f n c = some r → ∀ {m : Nat}, n ≤ m → amN f m c = some r
  | 0, _, h, _, _ => by cases h
  | n + 1, c, h, m, hm => by
    obtain ⟨m, rfl⟩ : ∃ k, m = k + 1 := ⟨m - 1, by omega⟩
    unfold amN at h ⊢
    cases hf : f c with
    | inl c' => rw [hf] at h; exact amN_mono h (by omega)
    | inr r' => rw [hf] at h; exact h
noncomputable def amRun {σ ρ : Type} (f : σ → σ ⊕ Option ρ) (c : σ) : Option ρ := Classical.epsilon (fun o : Option ρ => (∃ n r, amN f n c = some r ∧ o = some r) ∨ ((∀ n, amN f n c = none) ∧ o = none))
theorem amRun_spec {σ ρ : Type} (f : σ → σ ⊕ Option ρ) (c : σ) : (∃ n r, amN f n c = some r ∧ amRun f c = some r) ∨ ((∀ n, amN f n c = none) ∧ amRun f c = none) := by
  refine Classical.epsilon_spec (p := fun o : Option ρ => (∃ n r, amN f n c = some r ∧ o = some r) ∨ ((∀ n, amN f n c = none) ∧ o = none)) ?_
  by_cases h : ∃ n r, amN f n c = some r
  · obtain ⟨n, r, h⟩ := h
    exact ⟨some r, Or.inl ⟨n, r, h, rfl⟩⟩
  · refine ⟨none, Or.inr ⟨fun n => ?_, rfl⟩⟩
    cases hn : amN f n c with
    | none => rfl
    | some r => exact absurd ⟨n, r, hn⟩ h
theorem amRun_of {σ ρ : Type} {f : σ → σ ⊕ Option ρ} {c : σ} {r : ρ} {n : Nat} (h : amN f n c = some r) : amRun f c = some r := by
  rcases amRun_spec f c with ⟨m, r', h', e⟩ | ⟨h', -⟩
  · rw [e]
    have h1 := amN_mono h (Nat.le_max_left n m)
    have h2 := amN_mono h' (Nat.le_max_right n m)
    exact h2.symm.trans h1
  · rw [h' n] at h; cases h
theorem amRun_ex {σ ρ : Type} {f : σ → σ ⊕ Option ρ} {c : σ} {r : ρ} (h : amRun f c = some r) : ∃ n, amN f n c = some r := by
  rcases amRun_spec f c with ⟨m, r', h', e⟩ | ⟨-, e⟩
  · exact ⟨m, by rw [h', ← e, h]⟩
  · rw [e] at h; cases h
theorem amRun_in {σ ρ : Type} {f : σ → σ ⊕ Option ρ} {c c' : σ} (h : f c = .inl c') : amRun f c = amRun f c' := by
  rcases amRun_spec f c' with ⟨m, r, h', e⟩ | ⟨h', e⟩
  · rw [e]
    exact amRun_of (n := m + 1) (by unfold amN; rw [h]; exact h')
  · rw [e]
    rcases amRun_spec f c with ⟨m, r, h2, -⟩ | ⟨-, e2⟩
    · cases m with
      | zero => cases h2
      | succ m => unfold amN at h2; rw [h] at h2; have h3 := (h' m).symm.trans h2; cases h3
    · exact e2
theorem amRun_out {σ ρ : Type} {f : σ → σ ⊕ Option ρ} {c : σ} {r : Option ρ} (h : f c = .inr r) : amRun f c = r := by
  rcases amRun_spec f c with ⟨m, r', h', e⟩ | ⟨h', e⟩
  · cases m with
    | zero => cases h'
    | succ m => unfold amN at h'; rw [h] at h'; rw [e]; exact h'.symm
  · have h1 := h' 1
    unfold amN at h1
    rw [h] at h1
    rw [e]
    exact h1.symm
def amB {σ ρ : Type} (f : σ → σ ⊕ Option ρ) : Nat → σ → σ ⊕ Option ρ
  | 0, c => .inl c
  | n + 1, c => match f c with
    | .inl c' => amB f n c'
    | .inr r => .inr r
noncomputable def amK {σ ρ : Type} (f : σ → σ ⊕ Option ρ) (x : σ ⊕ Option ρ) : Option ρ := match x with
  | .inl c => amRun f c
  | .inr r => r
theorem amRun_B {σ ρ : Type} {f : σ → σ ⊕ Option ρ} : ∀ (k : Nat) (c : σ), amRun f c = amK f (amB f k c)
  | 0, _ => rfl
  | k + 1, c => by
    unfold amB
    cases hf : f c with
    | inl c' => rw [amRun_in hf]; exact amRun_B k c'
    | inr r => rw [amRun_out hf]; rfl
theorem amRun_b {σ ρ : Type} {f : σ → σ ⊕ Option ρ} (k : Nat) {c : σ} {x : σ ⊕ Option ρ} (h : amB f k c = x) : amRun f c = amK f x := h ▸ amRun_B k c
def amT {σ ρ : Type} (f : σ → σ ⊕ Option ρ) : Nat → σ → σ ⊕ Option ρ
  | 0, c => f c
  | n + 1, c => match f c with
    | .inl c' => amT f n c'
    | .inr r => .inr r
theorem amRun_T {σ ρ : Type} {f : σ → σ ⊕ Option ρ} : ∀ (k : Nat) (c : σ), amRun f c = amK f (amT f k c)
  | 0, c => by
    unfold amT
    cases hf : f c with
    | inl c' => rw [amRun_in hf]; rfl
    | inr r => rw [amRun_out hf]; rfl
  | k + 1, c => by
    unfold amT
    cases hf : f c with
    | inl c' => rw [amRun_in hf]; exact amRun_T k c'
    | inr r => rw [amRun_out hf]; rfl
theorem amRun_t {σ ρ : Type} {f : σ → σ ⊕ Option ρ} (k : Nat) {c : σ} {x : σ ⊕ Option ρ} (h : amT f k c = x) : amRun f c = amK f x := h ▸ amRun_T k c
theorem amK_if {σ ρ : Type} {f : σ → σ ⊕ Option ρ} {p : Prop} {ip : Decidable p} {a b : σ ⊕ Option ρ} {A B : Option ρ} (h1 : amK f a = A) (h2 : amK f b = B) : amK f (@ite _ p ip a b) = @ite _ p ip A B := by
  by_cases h : p <;> simp [h, h1, h2]
theorem amK_bif {σ ρ : Type} {f : σ → σ ⊕ Option ρ} {p : Bool} {a b : σ ⊕ Option ρ} {A B : Option ρ} (h1 : amK f a = A) (h2 : amK f b = B) : amK f (bif p then a else b) = bif p then A else B := by
  cases p <;> simp [h1, h2]
/-- what goes on behind a call -/
def amCV {ρ : Type} (o : Option (AmV × AmM)) (f : AmM → Option ρ) : Option ρ := match o with
  | some (.inr (.inr (.inr ())), M') => f M'
  | _ => none
def amCI {ρ : Type} (o : Option (AmV × AmM)) (f : Int → AmM → Option ρ) : Option ρ := match o with
  | some (.inr (.inl r), M') => f r M'
  | _ => none
def amCL {ρ : Type} (o : Option (AmV × AmM)) (f : Int → AmM → Option ρ) : Option ρ := match o with
  | some (.inr (.inr (.inl r)), M') => f r M'
  | _ => none
theorem amCV_s {ρ : Type} {f : AmM → Option ρ} {M : AmM} : amCV (some (vU, M)) f = f M := rfl
theorem amCI_s {ρ : Type} {f : Int → AmM → Option ρ} {r : Int} {M : AmM} : amCI (some (vI r, M)) f = f r M := rfl
theorem amCL_s {ρ : Type} {f : Int → AmM → Option ρ} {r : Int} {M : AmM} : amCL (some (vL r, M)) f = f r M := rfl
theorem amK_pV {f : AmC → AmR} {o : Option (AmV × AmM)} {g : List AmV → AmM → AmR} {T : AmM → Option (AmV × AmM)} (h : ∀ M', amK f (g [] M') = T M') : amK f (amPu 0 o g) = amCV o T := by
  rcases o with _ | ⟨_ | _ | _ | _, M'⟩ <;> first | rfl | exact h M'
theorem amK_pI {f : AmC → AmR} {o : Option (AmV × AmM)} {g : List AmV → AmM → AmR} {T : Int → AmM → Option (AmV × AmM)} (h : ∀ r M', amK f (g [vI r] M') = T r M') : amK f (amPu 1 o g) = amCI o T := by
  rcases o with _ | ⟨_ | r | _ | _, M'⟩ <;> first | rfl | exact h r M'
theorem amK_pL {f : AmC → AmR} {o : Option (AmV × AmM)} {g : List AmV → AmM → AmR} {T : Int → AmM → Option (AmV × AmM)} (h : ∀ r M', amK f (g [vL r] M') = T r M') : amK f (amPu 2 o g) = amCL o T := by
  rcases o with _ | ⟨_ | _ | r | _, M'⟩ <;> first | rfl | exact h r M'
theorem w32_id {x : Int} (h1 : -2147483648 ≤ x) (h2 : x < 2147483648) : w32 x = x := by unfold w32; omega
theorem w64_id {x : Int} (h1 : -9223372036854775808 ≤ x) (h2 : x < 9223372036854775808) : w64 x = x := by unfold w64; omega
theorem w32_i (x : Int) : i32 (w32 x) := by unfold w32 i32; omega
theorem w64_i (x : Int) : i64 (w64 x) := by unfold w64 i64; omega
end
section
/-- the cells that final fields and arrays of cells hold, once all is made -/
def amGst : AmG := fun c s k => match c with
  | 0 => (match k with
    | 0 => vR 8 8 0
    | 1 => vR 10 10 0
    | 2 => vR 6 6 53
    | _ => vN)
  | 1 => (match k with
    | 0 => vR 20 100 s
    | 2 => vR 20 101 s
    | 3 => vR 20 102 s
    | _ => vN)
  | 2 => (match k with
    | 0 => vR 8 8 0
    | 1 => vR 10 10 0
    | 2 => vR 20 103 s
    | _ => vN)
  | 3 => (match k with
    | 0 => vR 10 10 0
    | 1 => vR 25 104 s
    | 2 => vR 20 105 s
    | 3 => vR 20 106 s
    | _ => vN)
  | 4 => (match k with
    | 0 => vR 7 7 0
    | 1 => vR 8 8 1
    | 2 => vR 21 107 s
    | _ => vN)
  | 5 => (match k with
    | 0 => vR 8 8 0
    | 1 => vR 6 6 s
    | 2 => vR 20 108 s
    | 3 => vR 20 109 s
    | 4 => vR 20 110 s
    | 5 => vR 20 111 s
    | _ => vN)
  | 6 => (match k with
    | 0 => vR 20 112 s
    | 1 => vR 20 113 s
    | _ => vN)
  | 7 => (match k with
    | 0 => vR 22 114 s
    | 2 => vR 20 115 s
    | 3 => vR 21 116 s
    | 4 => vR 20 117 s
    | _ => vN)
  | 8 => (match k with
    | 0 => vR 20 118 s
    | 1 => vR 20 119 s
    | 2 => vR 20 120 s
    | 3 => vR 20 121 s
    | 4 => vR 1 1 s
    | _ => vN)
  | 9 => (match k with
    | 0 => vR 8 8 0
    | 1 => vR 10 10 0
    | 2 => vR 6 6 54
    | 3 => vR 20 122 s
    | 4 => vR 20 123 s
    | 6 => vR 20 124 s
    | _ => vN)
  | 10 => (match k with
    | 0 => vR 8 8 0
    | 1 => vR 20 125 s
    | _ => vN)
  | 11 => (match k with
    | 0 => vR 7 7 0
    | 1 => vR 8 8 0
    | 2 => vR 4 4 0
    | 3 => vR 10 10 0
    | 4 => vR 5 5 0
    | 5 => vR 24 126 s
    | 6 => vR 24 127 s
    | 7 => vR 23 128 s
    | 8 => vR 6 6 44
    | 9 => vR 3 3 0
    | 10 => vR 0 0 0
    | 11 => vR 2 2 0
    | 12 => vR 9 9 0
    | _ => vN)
  | 12 => (match k with
    | 1 => vR 22 129 s
    | 3 => vR 22 130 s
    | 5 => vR 20 131 s
    | 6 => vR 20 132 s
    | 7 => vR 20 133 s
    | 8 => vR 21 134 s
    | 9 => vR 21 135 s
    | 21 => vR 21 136 s
    | 22 => vR 20 137 s
    | 23 => vR 20 138 s
    | 24 => vR 20 139 s
    | 25 => vR 20 140 s
    | 26 => vR 20 141 s
    | 27 => vR 20 142 s
    | 28 => vR 20 143 s
    | 29 => vR 20 144 s
    | 30 => vR 20 145 s
    | 31 => vR 20 146 s
    | 32 => vR 20 147 s
    | 33 => vR 20 148 s
    | 35 => vR 23 149 s
    | 36 => vR 20 150 s
    | 37 => vR 20 151 s
    | 38 => vR 20 152 s
    | 39 => vR 20 153 s
    | 41 => vR 20 154 s
    | 42 => vR 20 155 s
    | 43 => vR 20 156 s
    | 45 => vR 20 157 s
    | 46 => vR 20 158 s
    | 48 => vR 20 159 s
    | 49 => vR 20 160 s
    | 54 => vR 20 161 s
    | 56 => vR 20 162 s
    | 57 => vR 20 163 s
    | 63 => vR 23 164 s
    | 64 => vR 20 165 s
    | 66 => vR 20 166 s
    | 67 => vR 20 167 s
    | 68 => vR 20 168 s
    | 70 => vR 23 169 s
    | 71 => vR 20 170 s
    | _ => vN)
  | 104 => vR 6 6 (k + 45)
  | 126 => vR 5 5 (k + 1)
  | 127 => vR 5 5 (k + 41)
  | _ => vN
def cdX0_drop : List (Option AmE) := [some (.aload_n 0, 1, 0, 0, 0, 0, []), some (.iconst (-1), 2, 0, 0, 0, (-1), []), some (.putfield 18, 5, 0, 3, 0, 0, []), none, none, some (.return_, 6, 0, 0, 0, 0, [])]
def cdX0_allCome : List (Option AmE) := [some (.aload_n 0, 1, 0, 0, 0, 0, []), some (.getfield 12, 4, 0, 2, 2, 0, []), none, none, some (.aload_n 1, 5, 0, 0, 0, 0, []), some (.getfield 30, 8, 5, 1, 2, 0, []), none, none, some (.invokevirtual 33, 11, 53, 2, 1, 0, []), none, none, some (.aload_n 0, 12, 0, 0, 0, 0, []), some (.iload_n 2, 13, 0, 0, 0, 0, []), some (.aload_n 1, 14, 0, 0, 0, 0, []), some (.getfield 37, 17, 5, 7, 0, 0, []), none, none, some (.invokevirtual 40, 20, 2, 3, 1, 1, []), none, none, some (.ireturn, 21, 0, 0, 3, 0, [])]
def cdX0_allComeOver : List (Option AmE) := [some (.iconst 0, 1, 0, 0, 0, 0, []), some (.istore_n 3, 2, 0, 0, 0, 0, []), some (.iload_n 3, 3, 0, 0, 0, 0, []), some (.bipush 8, 5, 0, 0, 0, 8, []), none, some (.if_icmp .ge 35, 8, 40, 0, 0, 0, []), none, none, some (.iload_n 1, 9, 0, 0, 0, 0, []), some (.iload_n 3, 10, 0, 0, 0, 0, []), some (.invokestatic 44, 13, 146, 2, 0, 1, []), none, none, some (.ifCond .eq 21, 16, 34, 0, 0, 0, []), none, none, some (.aload_n 0, 17, 0, 0, 0, 0, []), some (.getfield 26, 20, 0, 1, 2, 0, []), none, none, some (.aload_n 0, 21, 0, 0, 0, 0, []), some (.getfield 12, 24, 0, 2, 2, 0, []), none, none, some (.iload_n 3, 25, 0, 0, 0, 0, []), some (.iload_n 2, 26, 0, 0, 0, 0, []), some (.invokevirtual 47, 29, 99, 4, 1, 1, []), none, none, some (.ifCond .eq 5, 32, 34, 0, 0, 0, []), none, none, some (.iconst 0, 33, 0, 0, 0, 0, []), some (.ireturn, 34, 0, 0, 3, 0, []), some (.iinc 3 1, 37, 0, 0, 0, 1, []), none, none, some (.goto (-35), 40, 2, 0, 0, 0, []), none, none, some (.iconst 1, 41, 0, 0, 0, 1, []), some (.ireturn, 42, 0, 0, 3, 0, [])]
def cdX0_dryEnoughWays : List (Option AmE) := [some (.lconst 0, 1, 0, 0, 0, 0, []), some (.lstore 7, 3, 0, 0, 0, 0, []), none, some (.iconst 0, 4, 0, 0, 0, 0, []), some (.istore 9, 6, 0, 0, 0, 0, []), none, some (.iload 9, 8, 0, 0, 0, 0, []), none, some (.iload 4, 10, 0, 0, 0, 0, []), none, some (.if_icmp .gt 96, 13, 106, 0, 0, 0, []), none, none, some (.iload 4, 15, 0, 0, 0, 0, []), none, some (.iload 9, 17, 0, 0, 0, 0, []), none, some (.invokestatic 53, 20, 4, 2, 0, 2, []), none, none, some (.iload 5, 22, 0, 0, 0, 0, []), none, some (.iload 9, 24, 0, 0, 0, 0, []), none, some (.invokestatic 57, 27, 5, 2, 0, 2, []), none, none, some (.lmul, 28, 0, 0, 0, 0, []), some (.iload 6, 30, 0, 0, 0, 0, []), none, some (.iload 5, 32, 0, 0, 0, 0, []), none, some (.isub, 33, 0, 0, 0, 0, []), some (.iload 4, 35, 0, 0, 0, 0, []), none, some (.iload 9, 37, 0, 0, 0, 0, []), none, some (.isub, 38, 0, 0, 0, 0, []), some (.invokestatic 57, 41, 5, 2, 0, 2, []), none, none, some (.lmul, 42, 0, 0, 0, 0, []), some (.lstore 10, 44, 0, 0, 0, 0, []), none, some (.lload 10, 46, 0, 0, 0, 0, []), none, some (.lconst 0, 47, 0, 0, 0, 0, []), some (.lcmp, 48, 0, 0, 0, 0, []), some (.ifCond .le 52, 51, 100, 0, 0, 0, []), none, none, some (.aload_n 0, 52, 0, 0, 0, 0, []), some (.getfield 12, 55, 0, 2, 2, 0, []), none, none, some (.aload_n 1, 56, 0, 0, 0, 0, []), some (.getfield 30, 59, 5, 1, 2, 0, []), none, none, some (.invokevirtual 33, 62, 53, 2, 1, 0, []), none, none, some (.aload_n 0, 63, 0, 0, 0, 0, []), some (.getfield 12, 66, 0, 2, 2, 0, []), none, none, some (.iload 9, 68, 0, 0, 0, 0, []), none, some (.iload_n 3, 69, 0, 0, 0, 0, []), some (.imul, 70, 0, 0, 0, 0, []), some (.invokevirtual 60, 73, 61, 2, 1, 1, []), none, none, some (.pop, 74, 0, 0, 0, 0, []), some (.lload 7, 76, 0, 0, 0, 0, []), none, some (.aload_n 0, 77, 0, 0, 0, 0, []), some (.iload_n 2, 78, 0, 0, 0, 0, []), some (.aload_n 1, 79, 0, 0, 0, 0, []), some (.getfield 37, 82, 5, 7, 0, 0, []), none, none, some (.iload 4, 84, 0, 0, 0, 0, []), none, some (.iadd, 85, 0, 0, 0, 0, []), some (.invokevirtual 40, 88, 2, 3, 1, 1, []), none, none, some (.ifCond .eq 8, 91, 96, 0, 0, 0, []), none, none, some (.lload 10, 93, 0, 0, 0, 0, []), none, some (.goto 4, 96, 97, 0, 0, 0, []), none, none, some (.lconst 0, 97, 0, 0, 0, 0, []), some (.ladd, 98, 0, 0, 0, 0, []), some (.lstore 7, 100, 0, 0, 0, 0, []), none, some (.iinc 9 1, 103, 0, 0, 0, 1, []), none, none, some (.goto (-97), 106, 6, 0, 0, 0, []), none, none, some (.lload 7, 108, 0, 0, 0, 0, []), none, some (.lreturn, 109, 0, 0, 0, 0, [])]
def cdX0_choices : List (Option AmE) := [some (.lconst 1, 1, 0, 0, 0, 1, []), some (.lstore_n 2, 2, 0, 0, 0, 0, []), some (.iconst 1, 3, 0, 0, 0, 1, []), some (.istore 4, 5, 0, 0, 0, 0, []), none, some (.iload 4, 7, 0, 0, 0, 0, []), none, some (.iload_n 1, 8, 0, 0, 0, 0, []), some (.if_icmp .gt 23, 11, 31, 0, 0, 0, []), none, none, some (.lload_n 2, 12, 0, 0, 0, 0, []), some (.iload_n 0, 13, 0, 0, 0, 0, []), some (.iload 4, 15, 0, 0, 0, 0, []), none, some (.isub, 16, 0, 0, 0, 0, []), some (.iconst 1, 17, 0, 0, 0, 1, []), some (.iadd, 18, 0, 0, 0, 0, []), some (.i2l, 19, 0, 0, 0, 0, []), some (.lmul, 20, 0, 0, 0, 0, []), some (.iload 4, 22, 0, 0, 0, 0, []), none, some (.i2l, 23, 0, 0, 0, 0, []), some (.ldiv, 24, 0, 0, 0, 0, []), some (.lstore_n 2, 25, 0, 0, 0, 0, []), some (.iinc 4 1, 28, 0, 0, 0, 1, []), none, none, some (.goto (-23), 31, 5, 0, 0, 0, []), none, none, some (.lload_n 2, 32, 0, 0, 0, 0, []), some (.lreturn, 33, 0, 0, 0, 0, [])]
def cdX0_power : List (Option AmE) := [some (.lconst 1, 1, 0, 0, 0, 1, []), some (.lstore_n 2, 2, 0, 0, 0, 0, []), some (.iconst 0, 3, 0, 0, 0, 0, []), some (.istore 4, 5, 0, 0, 0, 0, []), none, some (.iload 4, 7, 0, 0, 0, 0, []), none, some (.iload_n 1, 8, 0, 0, 0, 0, []), some (.if_icmp .ge 14, 11, 22, 0, 0, 0, []), none, none, some (.lload_n 2, 12, 0, 0, 0, 0, []), some (.iload_n 0, 13, 0, 0, 0, 0, []), some (.i2l, 14, 0, 0, 0, 0, []), some (.lmul, 15, 0, 0, 0, 0, []), some (.lstore_n 2, 16, 0, 0, 0, 0, []), some (.iinc 4 1, 19, 0, 0, 0, 1, []), none, none, some (.goto (-14), 22, 5, 0, 0, 0, []), none, none, some (.lload_n 2, 23, 0, 0, 0, 0, []), some (.lreturn, 24, 0, 0, 0, 0, [])]
def cdX0_foresee : List (Option AmE) := [some (.iload_n 2, 1, 0, 0, 0, 0, []), some (.aload_n 0, 2, 0, 0, 0, 0, []), some (.getfield 18, 5, 0, 3, 0, 0, []), none, none, some (.if_icmp .ne 4, 8, 9, 0, 0, 0, []), none, none, some (.return_, 9, 0, 0, 0, 0, []), some (.aload_n 0, 10, 0, 0, 0, 0, []), some (.iload_n 2, 11, 0, 0, 0, 0, []), some (.putfield 18, 14, 0, 3, 0, 0, []), none, none, some (.aload_n 0, 15, 0, 0, 0, 0, []), some (.bipush (-3), 17, 0, 0, 0, (-3), []), none, some (.putfield 64, 20, 0, 4, 0, 0, []), none, none, some (.aload_n 0, 21, 0, 0, 0, 0, []), some (.bipush (-3), 23, 0, 0, 0, (-3), []), none, some (.putfield 67, 26, 0, 5, 0, 0, []), none, none, some (.aload_n 0, 27, 0, 0, 0, 0, []), some (.bipush (-3), 29, 0, 0, 0, (-3), []), none, some (.putfield 70, 32, 0, 6, 0, 0, []), none, none, some (.aload_n 0, 33, 0, 0, 0, 0, []), some (.aload_n 1, 34, 0, 0, 0, 0, []), some (.invokevirtual 73, 37, 51, 1, 1, 1, []), none, none, some (.putfield 77, 40, 0, 7, 0, 0, []), none, none, some (.aload_n 0, 41, 0, 0, 0, 0, []), some (.getfield 12, 44, 0, 2, 2, 0, []), none, none, some (.aload_n 1, 45, 0, 0, 0, 0, []), some (.getfield 30, 48, 5, 1, 2, 0, []), none, none, some (.invokevirtual 33, 51, 53, 2, 1, 0, []), none, none, some (.aload_n 1, 52, 0, 0, 0, 0, []), some (.invokevirtual 80, 55, 49, 1, 1, 1, []), none, none, some (.istore_n 3, 56, 0, 0, 0, 0, []), some (.iconst 0, 57, 0, 0, 0, 0, []), some (.istore 4, 59, 0, 0, 0, 0, []), none, some (.iload 4, 61, 0, 0, 0, 0, []), none, some (.iload_n 2, 62, 0, 0, 0, 0, []), some (.if_icmp .ge 53, 65, 115, 0, 0, 0, []), none, none, some (.aload_n 0, 66, 0, 0, 0, 0, []), some (.iload_n 3, 67, 0, 0, 0, 0, []), some (.iload 4, 69, 0, 0, 0, 0, []), none, some (.aload_n 1, 70, 0, 0, 0, 0, []), some (.getfield 37, 73, 5, 7, 0, 0, []), none, none, some (.iload 4, 75, 0, 0, 0, 0, []), none, some (.iadd, 76, 0, 0, 0, 0, []), some (.invokevirtual 83, 79, 7, 4, 1, 1, []), none, none, some (.istore_n 3, 80, 0, 0, 0, 0, []), some (.aload_n 0, 81, 0, 0, 0, 0, []), some (.iload 4, 83, 0, 0, 0, 0, []), none, some (.aload_n 0, 84, 0, 0, 0, 0, []), some (.getfield 12, 87, 0, 2, 2, 0, []), none, none, some (.aload_n 0, 88, 0, 0, 0, 0, []), some (.getfield 22, 91, 0, 0, 2, 0, []), none, none, some (.aload_n 1, 92, 0, 0, 0, 0, []), some (.getfield 37, 95, 5, 7, 0, 0, []), none, none, some (.iload 4, 97, 0, 0, 0, 0, []), none, some (.iadd, 98, 0, 0, 0, 0, []), some (.invokevirtual 87, 101, 84, 2, 1, 1, []), none, none, some (.invokevirtual 60, 104, 61, 2, 1, 1, []), none, none, some (.bipush (-2), 106, 0, 0, 0, (-2), []), none, some (.invokevirtual 92, 109, 8, 4, 1, 0, []), none, none, some (.iinc 4 1, 112, 0, 0, 0, 1, []), none, none, some (.goto (-53), 115, 59, 0, 0, 0, []), none, none, some (.return_, 116, 0, 0, 0, 0, [])]
def cdX0_groundBehindDay : List (Option AmE) := [some (.iload_n 1, 1, 0, 0, 0, 0, []), some (.istore 4, 3, 0, 0, 0, 0, []), none, some (.iconst 0, 4, 0, 0, 0, 0, []), some (.istore 5, 6, 0, 0, 0, 0, []), none, some (.iload 5, 8, 0, 0, 0, 0, []), none, some (.bipush 8, 10, 0, 0, 0, 8, []), none, some (.if_icmp .ge 94, 13, 104, 0, 0, 0, []), none, none, some (.iload_n 1, 14, 0, 0, 0, 0, []), some (.iload 5, 16, 0, 0, 0, 0, []), none, some (.invokestatic 44, 19, 146, 2, 0, 1, []), none, none, some (.ifCond .eq 79, 22, 98, 0, 0, 0, []), none, none, some (.aload_n 0, 23, 0, 0, 0, 0, []), some (.getfield 26, 26, 0, 1, 2, 0, []), none, none, some (.aload_n 0, 27, 0, 0, 0, 0, []), some (.getfield 12, 30, 0, 2, 2, 0, []), none, none, some (.iload 5, 32, 0, 0, 0, 0, []), none, some (.iload_n 3, 33, 0, 0, 0, 0, []), some (.invokevirtual 47, 36, 99, 4, 1, 1, []), none, none, some (.istore 6, 38, 0, 0, 0, 0, []), none, some (.aload_n 0, 39, 0, 0, 0, 0, []), some (.iload_n 2, 40, 0, 0, 0, 0, []), some (.aload_n 0, 41, 0, 0, 0, 0, []), some (.getfield 26, 44, 0, 1, 2, 0, []), none, none, some (.getfield 96, 47, 10, 6, 0, 0, []), none, none, some (.iload 5, 49, 0, 0, 0, 0, []), none, some (.invokevirtual 92, 52, 8, 4, 1, 0, []), none, none, some (.aload_n 0, 53, 0, 0, 0, 0, []), some (.dup, 54, 0, 0, 0, 0, []), some (.getfield 77, 57, 0, 7, 0, 0, []), none, none, some (.iload 6, 59, 0, 0, 0, 0, []), none, some (.iconst 2, 60, 0, 0, 0, 2, []), some (.if_icmp .ne 7, 63, 67, 0, 0, 0, []), none, none, some (.iconst 1, 64, 0, 0, 0, 1, []), some (.goto 4, 67, 68, 0, 0, 0, []), none, none, some (.iconst 0, 68, 0, 0, 0, 0, []), some (.iadd, 69, 0, 0, 0, 0, []), some (.putfield 77, 72, 0, 7, 0, 0, []), none, none, some (.iload 4, 74, 0, 0, 0, 0, []), none, some (.aload_n 0, 75, 0, 0, 0, 0, []), some (.getfield 26, 78, 0, 1, 2, 0, []), none, none, some (.getfield 99, 81, 10, 4, 0, 0, []), none, none, some (.ifCond .ne 8, 84, 89, 0, 0, 0, []), none, none, some (.iload 4, 86, 0, 0, 0, 0, []), none, some (.goto 9, 89, 95, 0, 0, 0, []), none, none, some (.iconst 1, 90, 0, 0, 0, 1, []), some (.iload 5, 92, 0, 0, 0, 0, []), none, some (.ishl, 93, 0, 0, 0, 0, []), some (.iconst (-1), 94, 0, 0, 0, (-1), []), some (.ixor, 95, 0, 0, 0, 0, []), some (.iand, 96, 0, 0, 0, 0, []), some (.istore 4, 98, 0, 0, 0, 0, []), none, some (.iinc 5 1, 101, 0, 0, 0, 1, []), none, none, some (.goto (-95), 104, 6, 0, 0, 0, []), none, none, some (.iload 4, 106, 0, 0, 0, 0, []), none, some (.ireturn, 107, 0, 0, 0, 0, [])]
def cdX0_noteLost : List (Option AmE) := [some (.aload_n 0, 1, 0, 0, 0, 0, []), some (.getfield 64, 4, 0, 4, 0, 0, []), none, none, some (.bipush (-3), 6, 0, 0, 0, (-3), []), none, some (.if_icmp .ne 23, 9, 29, 0, 0, 0, []), none, none, some (.iload_n 2, 10, 0, 0, 0, 0, []), some (.iconst (-1), 11, 0, 0, 0, (-1), []), some (.if_icmp .eq 18, 14, 29, 0, 0, 0, []), none, none, some (.aload_n 0, 15, 0, 0, 0, 0, []), some (.iload_n 1, 16, 0, 0, 0, 0, []), some (.putfield 64, 19, 0, 4, 0, 0, []), none, none, some (.aload_n 0, 20, 0, 0, 0, 0, []), some (.iload_n 2, 21, 0, 0, 0, 0, []), some (.putfield 67, 24, 0, 5, 0, 0, []), none, none, some (.aload_n 0, 25, 0, 0, 0, 0, []), some (.iload_n 3, 26, 0, 0, 0, 0, []), some (.putfield 70, 29, 0, 6, 0, 0, []), none, none, some (.return_, 30, 0, 0, 0, 0, [])]
def cdX0_fewestHands : List (Option AmE) := [some (.aload_n 1, 1, 0, 0, 0, 0, []), some (.invokevirtual 80, 4, 49, 1, 1, 1, []), none, none, some (.istore_n 3, 5, 0, 0, 0, 0, []), some (.iconst 1, 6, 0, 0, 0, 1, []), some (.istore 4, 8, 0, 0, 0, 0, []), none, some (.iload 4, 10, 0, 0, 0, 0, []), none, some (.iload_n 3, 11, 0, 0, 0, 0, []), some (.invokestatic 102, 14, 244, 1, 0, 1, []), none, none, some (.if_icmp .gt 32, 17, 46, 0, 0, 0, []), none, none, some (.aload_n 0, 18, 0, 0, 0, 0, []), some (.aload_n 1, 19, 0, 0, 0, 0, []), some (.iload_n 3, 20, 0, 0, 0, 0, []), some (.iload 4, 22, 0, 0, 0, 0, []), none, some (.iload_n 2, 23, 0, 0, 0, 0, []), some (.iload 4, 25, 0, 0, 0, 0, []), none, some (.iadd, 26, 0, 0, 0, 0, []), some (.iconst 1, 27, 0, 0, 0, 1, []), some (.isub, 28, 0, 0, 0, 0, []), some (.iload 4, 30, 0, 0, 0, 0, []), none, some (.idiv, 31, 0, 0, 0, 0, []), some (.invokevirtual 107, 34, 10, 5, 1, 1, []), none, none, some (.ifCond .eq 6, 37, 40, 0, 0, 0, []), none, none, some (.iload 4, 39, 0, 0, 0, 0, []), none, some (.ireturn, 40, 0, 0, 0, 0, []), some (.iinc 4 1, 43, 0, 0, 0, 1, []), none, none, some (.goto (-35), 46, 8, 0, 0, 0, []), none, none, some (.bipush (-2), 48, 0, 0, 0, (-2), []), none, some (.ireturn, 49, 0, 0, 0, 0, [])]
def cdX0_isCarried : List (Option AmE) := [some (.aload_n 0, 1, 0, 0, 0, 0, []), some (.getfield 12, 4, 0, 2, 2, 0, []), none, none, some (.aload_n 1, 5, 0, 0, 0, 0, []), some (.getfield 30, 8, 5, 1, 2, 0, []), none, none, some (.invokevirtual 33, 11, 53, 2, 1, 0, []), none, none, some (.iconst 0, 12, 0, 0, 0, 0, []), some (.istore 5, 14, 0, 0, 0, 0, []), none, some (.iconst 0, 15, 0, 0, 0, 0, []), some (.istore 6, 17, 0, 0, 0, 0, []), none, some (.iload 6, 19, 0, 0, 0, 0, []), none, some (.bipush 8, 21, 0, 0, 0, 8, []), none, some (.if_icmp .ge 62, 24, 83, 0, 0, 0, []), none, none, some (.iload 5, 26, 0, 0, 0, 0, []), none, some (.iload_n 3, 27, 0, 0, 0, 0, []), some (.if_icmp .ge 56, 30, 83, 0, 0, 0, []), none, none, some (.iload_n 2, 31, 0, 0, 0, 0, []), some (.iload 6, 33, 0, 0, 0, 0, []), none, some (.invokestatic 44, 36, 146, 2, 0, 1, []), none, none, some (.ifCond .eq 41, 39, 77, 0, 0, 0, []), none, none, some (.iinc 5 1, 42, 0, 0, 0, 1, []), none, none, some (.aload_n 0, 43, 0, 0, 0, 0, []), some (.getfield 26, 46, 0, 1, 2, 0, []), none, none, some (.aload_n 0, 47, 0, 0, 0, 0, []), some (.getfield 12, 50, 0, 2, 2, 0, []), none, none, some (.aload_n 0, 51, 0, 0, 0, 0, []), some (.getfield 22, 54, 0, 0, 2, 0, []), none, none, some (.getfield 111, 57, 8, 2, 2, 0, []), none, none, some (.iload 6, 59, 0, 0, 0, 0, []), none, some (.invokestatic 115, 62, 142, 2, 0, 1, []), none, none, some (.iload 4, 64, 0, 0, 0, 0, []), none, some (.iadd, 65, 0, 0, 0, 0, []), some (.aload_n 1, 66, 0, 0, 0, 0, []), some (.getfield 37, 69, 5, 7, 0, 0, []), none, none, some (.invokevirtual 119, 72, 100, 4, 1, 1, []), none, none, some (.ifCond .ne 5, 75, 77, 0, 0, 0, []), none, none, some (.iconst 0, 76, 0, 0, 0, 0, []), some (.ireturn, 77, 0, 0, 3, 0, []), some (.iinc 6 1, 80, 0, 0, 0, 1, []), none, none, some (.goto (-63), 83, 17, 0, 0, 0, []), none, none, some (.iconst 1, 84, 0, 0, 0, 1, []), some (.ireturn, 85, 0, 0, 3, 0, [])]
def cdX1_clear : List (Option AmE) := [some (.aload_n 0, 1, 0, 0, 0, 0, []), some (.iconst 0, 2, 0, 0, 0, 0, []), some (.putfield 26, 5, 1, 1, 0, 0, []), none, none, some (.iconst 0, 6, 0, 0, 0, 0, []), some (.istore_n 1, 7, 0, 0, 0, 0, []), some (.iload_n 1, 8, 0, 0, 0, 0, []), some (.aload_n 0, 9, 0, 0, 0, 0, []), some (.getfield 17, 12, 1, 2, 2, 0, []), none, none, some (.arraylength, 13, 0, 0, 0, 0, []), some (.if_icmp .ge 16, 16, 29, 0, 0, 0, []), none, none, some (.aload_n 0, 17, 0, 0, 0, 0, []), some (.getfield 17, 20, 1, 2, 2, 0, []), none, none, some (.iload_n 1, 21, 0, 0, 0, 0, []), some (.iconst (-1), 22, 0, 0, 0, (-1), []), some (.iastore, 23, 0, 0, 0, 0, []), some (.iinc 1 1, 26, 0, 0, 0, 1, []), none, none, some (.goto (-19), 29, 7, 0, 0, 0, []), none, none, some (.return_, 30, 0, 0, 0, 0, [])]
def cdX1_copyFrom : List (Option AmE) := [some (.aload_n 1, 1, 0, 0, 0, 0, []), some (.getfield 11, 4, 1, 0, 2, 0, []), none, none, some (.aload_n 0, 5, 0, 0, 0, 0, []), some (.getfield 11, 8, 1, 0, 2, 0, []), none, none, some (.invokestatic 30, 11, 144, 2, 0, 0, []), none, none, some (.aload_n 1, 12, 0, 0, 0, 0, []), some (.getfield 17, 15, 1, 2, 2, 0, []), none, none, some (.aload_n 0, 16, 0, 0, 0, 0, []), some (.getfield 17, 19, 1, 2, 2, 0, []), none, none, some (.invokestatic 30, 22, 144, 2, 0, 0, []), none, none, some (.aload_n 0, 23, 0, 0, 0, 0, []), some (.aload_n 1, 24, 0, 0, 0, 0, []), some (.getfield 26, 27, 1, 1, 0, 0, []), none, none, some (.putfield 26, 30, 1, 1, 0, 0, []), none, none, some (.return_, 31, 0, 0, 0, 0, [])]
def cdX1_open : List (Option AmE) := [some (.aload_n 0, 1, 0, 0, 0, 0, []), some (.getfield 17, 4, 1, 2, 2, 0, []), none, none, some (.iload_n 1, 5, 0, 0, 0, 0, []), some (.aload_n 0, 6, 0, 0, 0, 0, []), some (.getfield 26, 9, 1, 1, 0, 0, []), none, none, some (.invokestatic 34, 12, 143, 3, 0, 0, []), none, none, some (.return_, 13, 0, 0, 0, 0, [])]
def cdX1_emit : List (Option AmE) := [some (.aload_n 0, 1, 0, 0, 0, 0, []), some (.getfield 26, 4, 1, 1, 0, 0, []), none, none, some (.aload_n 0, 5, 0, 0, 0, 0, []), some (.getfield 11, 8, 1, 0, 2, 0, []), none, none, some (.arraylength, 9, 0, 0, 0, 0, []), some (.if_icmp .ge 29, 12, 38, 0, 0, 0, []), none, none, some (.aload_n 0, 13, 0, 0, 0, 0, []), some (.getfield 11, 16, 1, 0, 2, 0, []), none, none, some (.aload_n 0, 17, 0, 0, 0, 0, []), some (.getfield 26, 20, 1, 1, 0, 0, []), none, none, some (.iload_n 1, 21, 0, 0, 0, 0, []), some (.iload_n 2, 22, 0, 0, 0, 0, []), some (.iconst 3, 23, 0, 0, 0, 3, []), some (.ishl, 24, 0, 0, 0, 0, []), some (.ior, 25, 0, 0, 0, 0, []), some (.invokestatic 34, 28, 143, 3, 0, 0, []), none, none, some (.aload_n 0, 29, 0, 0, 0, 0, []), some (.dup, 30, 0, 0, 0, 0, []), some (.getfield 26, 33, 1, 1, 0, 0, []), none, none, some (.iconst 1, 34, 0, 0, 0, 1, []), some (.iadd, 35, 0, 0, 0, 0, []), some (.putfield 26, 38, 1, 1, 0, 0, []), none, none, some (.return_, 39, 0, 0, 0, 0, [])]
def cdX1_elseHere : List (Option AmE) := [some (.aload_n 0, 1, 0, 0, 0, 0, []), some (.getfield 11, 4, 1, 0, 2, 0, []), none, none, some (.iload_n 1, 5, 0, 0, 0, 0, []), some (.iconst 3, 6, 0, 0, 0, 3, []), some (.aload_n 0, 7, 0, 0, 0, 0, []), some (.getfield 26, 10, 1, 1, 0, 0, []), none, none, some (.iconst 3, 11, 0, 0, 0, 3, []), some (.ishl, 12, 0, 0, 0, 0, []), some (.ior, 13, 0, 0, 0, 0, []), some (.invokestatic 34, 16, 143, 3, 0, 0, []), none, none, some (.return_, 17, 0, 0, 0, 0, [])]
def cdX1_tells : List (Option AmE) := [some (.iload_n 1, 1, 0, 0, 0, 0, []), some (.ifCond .lt 25, 4, 26, 0, 0, 0, []), none, none, some (.iload_n 1, 5, 0, 0, 0, 0, []), some (.aload_n 0, 6, 0, 0, 0, 0, []), some (.getfield 17, 9, 1, 2, 2, 0, []), none, none, some (.arraylength, 10, 0, 0, 0, 0, []), some (.if_icmp .ge 16, 13, 26, 0, 0, 0, []), none, none, some (.aload_n 0, 14, 0, 0, 0, 0, []), some (.getfield 17, 17, 1, 2, 2, 0, []), none, none, some (.iload_n 1, 18, 0, 0, 0, 0, []), some (.iaload, 19, 0, 0, 0, 0, []), some (.ifCond .lt 7, 22, 26, 0, 0, 0, []), none, none, some (.iconst 1, 23, 0, 0, 0, 1, []), some (.goto 4, 26, 27, 0, 0, 0, []), none, none, some (.iconst 0, 27, 0, 0, 0, 0, []), some (.ireturn, 28, 0, 0, 3, 0, [])]
def cdX1_worth : List (Option AmE) := [some (.iconst 0, 1, 0, 0, 0, 0, []), some (.istore_n 3, 2, 0, 0, 0, 0, []), some (.iconst 0, 3, 0, 0, 0, 0, []), some (.istore 4, 5, 0, 0, 0, 0, []), none, some (.iload_n 1, 6, 0, 0, 0, 0, []), some (.ifCond .lt 21, 9, 27, 0, 0, 0, []), none, none, some (.iload_n 1, 10, 0, 0, 0, 0, []), some (.aload_n 0, 11, 0, 0, 0, 0, []), some (.getfield 17, 14, 1, 2, 2, 0, []), none, none, some (.arraylength, 15, 0, 0, 0, 0, []), some (.if_icmp .ge 12, 18, 27, 0, 0, 0, []), none, none, some (.aload_n 0, 19, 0, 0, 0, 0, []), some (.getfield 17, 22, 1, 2, 2, 0, []), none, none, some (.iload_n 1, 23, 0, 0, 0, 0, []), some (.iaload, 24, 0, 0, 0, 0, []), some (.goto 4, 27, 28, 0, 0, 0, []), none, none, some (.iconst (-1), 28, 0, 0, 0, (-1), []), some (.istore 5, 30, 0, 0, 0, 0, []), none, some (.iload 5, 32, 0, 0, 0, 0, []), none, some (.istore 6, 34, 0, 0, 0, 0, []), none, some (.iload 6, 36, 0, 0, 0, 0, []), none, some (.ifCond .lt 239, 39, 275, 0, 0, 0, []), none, none, some (.iload 6, 41, 0, 0, 0, 0, []), none, some (.aload_n 0, 42, 0, 0, 0, 0, []), some (.getfield 11, 45, 1, 0, 2, 0, []), none, none, some (.arraylength, 46, 0, 0, 0, 0, []), some (.if_icmp .ge 229, 49, 275, 0, 0, 0, []), none, none, some (.aload_n 0, 50, 0, 0, 0, 0, []), some (.getfield 11, 53, 1, 0, 2, 0, []), none, none, some (.iload 6, 55, 0, 0, 0, 0, []), none, some (.iaload, 56, 0, 0, 0, 0, []), some (.bipush 7, 58, 0, 0, 0, 7, []), none, some (.iand, 59, 0, 0, 0, 0, []), some (.istore 7, 61, 0, 0, 0, 0, []), none, some (.aload_n 0, 62, 0, 0, 0, 0, []), some (.getfield 11, 65, 1, 0, 2, 0, []), none, none, some (.iload 6, 67, 0, 0, 0, 0, []), none, some (.iaload, 68, 0, 0, 0, 0, []), some (.iconst 3, 69, 0, 0, 0, 3, []), some (.ishr, 70, 0, 0, 0, 0, []), some (.istore 8, 72, 0, 0, 0, 0, []), none, some (.iload 7, 74, 0, 0, 0, 0, []), none, some (.ifCond .ne 5, 77, 79, 0, 0, 0, []), none, none, some (.iload_n 3, 78, 0, 0, 0, 0, []), some (.ireturn, 79, 0, 0, 0, 0, []), some (.iload 7, 81, 0, 0, 0, 0, []), none, some (.iconst 1, 82, 0, 0, 0, 1, []), some (.if_icmp .eq 9, 85, 91, 0, 0, 0, []), none, none, some (.iload 7, 87, 0, 0, 0, 0, []), none, some (.iconst 2, 88, 0, 0, 0, 2, []), some (.if_icmp .ne 64, 91, 152, 0, 0, 0, []), none, none, some (.iload 4, 93, 0, 0, 0, 0, []), none, some (.ifCond .lt 21, 96, 114, 0, 0, 0, []), none, none, some (.iload 4, 98, 0, 0, 0, 0, []), none, some (.aload_n 0, 99, 0, 0, 0, 0, []), some (.getfield 20, 102, 1, 3, 2, 0, []), none, none, some (.arraylength, 103, 0, 0, 0, 0, []), some (.if_icmp .ge 11, 106, 114, 0, 0, 0, []), none, none, some (.aload_n 0, 107, 0, 0, 0, 0, []), some (.getfield 20, 110, 1, 3, 2, 0, []), none, none, some (.iload 4, 112, 0, 0, 0, 0, []), none, some (.iload_n 3, 113, 0, 0, 0, 0, []), some (.iastore, 114, 0, 0, 0, 0, []), some (.iinc 4 1, 117, 0, 0, 0, 1, []), none, none, some (.iload 7, 119, 0, 0, 0, 0, []), none, some (.iconst 1, 120, 0, 0, 0, 1, []), some (.if_icmp .ne 8, 123, 128, 0, 0, 0, []), none, none, some (.iload 8, 125, 0, 0, 0, 0, []), none, some (.goto 23, 128, 148, 0, 0, 0, []), none, none, some (.iload 8, 130, 0, 0, 0, 0, []), none, some (.ifCond .lt 17, 133, 147, 0, 0, 0, []), none, none, some (.iload 8, 135, 0, 0, 0, 0, []), none, some (.aload_n 2, 136, 0, 0, 0, 0, []), some (.arraylength, 137, 0, 0, 0, 0, []), some (.if_icmp .ge 10, 140, 147, 0, 0, 0, []), none, none, some (.aload_n 2, 141, 0, 0, 0, 0, []), some (.iload 8, 143, 0, 0, 0, 0, []), none, some (.iaload, 144, 0, 0, 0, 0, []), some (.goto 4, 147, 148, 0, 0, 0, []), none, none, some (.iconst 0, 148, 0, 0, 0, 0, []), some (.istore_n 3, 149, 0, 0, 0, 0, []), some (.goto 120, 152, 269, 0, 0, 0, []), none, none, some (.iinc 4 (-1), 155, 0, 0, 0, (-1), []), none, none, some (.iload 4, 157, 0, 0, 0, 0, []), none, some (.ifCond .lt 23, 160, 180, 0, 0, 0, []), none, none, some (.iload 4, 162, 0, 0, 0, 0, []), none, some (.aload_n 0, 163, 0, 0, 0, 0, []), some (.getfield 20, 166, 1, 3, 2, 0, []), none, none, some (.arraylength, 167, 0, 0, 0, 0, []), some (.if_icmp .ge 13, 170, 180, 0, 0, 0, []), none, none, some (.aload_n 0, 171, 0, 0, 0, 0, []), some (.getfield 20, 174, 1, 3, 2, 0, []), none, none, some (.iload 4, 176, 0, 0, 0, 0, []), none, some (.iaload, 177, 0, 0, 0, 0, []), some (.goto 4, 180, 181, 0, 0, 0, []), none, none, some (.iconst 0, 181, 0, 0, 0, 0, []), some (.istore 9, 183, 0, 0, 0, 0, []), none, some (.iload 7, 185, 0, 0, 0, 0, []), none, some (.iconst 3, 186, 0, 0, 0, 3, []), some (.if_icmp .ne 31, 189, 217, 0, 0, 0, []), none, none, some (.iconst 0, 190, 0, 0, 0, 0, []), some (.istore 4, 192, 0, 0, 0, 0, []), none, some (.iload 9, 194, 0, 0, 0, 0, []), none, some (.iload_n 3, 195, 0, 0, 0, 0, []), some (.if_icmp .ge 8, 198, 203, 0, 0, 0, []), none, none, some (.iload 6, 200, 0, 0, 0, 0, []), none, some (.goto 12, 203, 212, 0, 0, 0, []), none, none, some (.iload 6, 205, 0, 0, 0, 0, []), none, some (.iload 8, 207, 0, 0, 0, 0, []), none, some (.iconst 1, 208, 0, 0, 0, 1, []), some (.isub, 209, 0, 0, 0, 0, []), some (.invokestatic 38, 212, 0, 0, 5, 0, []), none, none, some (.istore 6, 214, 0, 0, 0, 0, []), none, some (.goto 55, 217, 269, 0, 0, 0, []), none, none, some (.iload 7, 219, 0, 0, 0, 0, []), none, some (.bipush 7, 221, 0, 0, 0, 7, []), none, some (.if_icmp .ne 17, 224, 238, 0, 0, 0, []), none, none, some (.iload_n 3, 225, 0, 0, 0, 0, []), some (.ifCond .ne 5, 228, 230, 0, 0, 0, []), none, none, some (.iconst 0, 229, 0, 0, 0, 0, []), some (.ireturn, 230, 0, 0, 0, 0, []), some (.iload 9, 232, 0, 0, 0, 0, []), none, some (.iload_n 3, 233, 0, 0, 0, 0, []), some (.idiv, 234, 0, 0, 0, 0, []), some (.istore_n 3, 235, 0, 0, 0, 0, []), some (.goto 34, 238, 269, 0, 0, 0, []), none, none, some (.iload 7, 240, 0, 0, 0, 0, []), none, some (.iconst 4, 241, 0, 0, 0, 4, []), some (.if_icmp .ne 10, 244, 251, 0, 0, 0, []), none, none, some (.iload 9, 246, 0, 0, 0, 0, []), none, some (.iload_n 3, 247, 0, 0, 0, 0, []), some (.iadd, 248, 0, 0, 0, 0, []), some (.goto 20, 251, 268, 0, 0, 0, []), none, none, some (.iload 7, 253, 0, 0, 0, 0, []), none, some (.iconst 5, 254, 0, 0, 0, 5, []), some (.if_icmp .ne 10, 257, 264, 0, 0, 0, []), none, none, some (.iload 9, 259, 0, 0, 0, 0, []), none, some (.iload_n 3, 260, 0, 0, 0, 0, []), some (.isub, 261, 0, 0, 0, 0, []), some (.goto 7, 264, 268, 0, 0, 0, []), none, none, some (.iload 9, 266, 0, 0, 0, 0, []), none, some (.iload_n 3, 267, 0, 0, 0, 0, []), some (.imul, 268, 0, 0, 0, 0, []), some (.istore_n 3, 269, 0, 0, 0, 0, []), some (.iinc 6 1, 272, 0, 0, 0, 1, []), none, none, some (.goto (-238), 275, 34, 0, 0, 0, []), none, none, some (.iload_n 3, 276, 0, 0, 0, 0, []), some (.ireturn, 277, 0, 0, 0, 0, [])]
def cdX2_allNeed : List (Option AmE) := [some (.iconst 0, 1, 0, 0, 0, 0, []), some (.istore_n 3, 2, 0, 0, 0, 0, []), some (.iconst 1, 3, 0, 0, 0, 1, []), some (.istore 4, 5, 0, 0, 0, 0, []), none, some (.iload 4, 7, 0, 0, 0, 0, []), none, some (.aload_n 0, 8, 0, 0, 0, 0, []), some (.getfield 15, 11, 2, 0, 2, 0, []), none, none, some (.getfield 23, 14, 8, 5, 0, 0, []), none, none, some (.if_icmp .gt 34, 17, 48, 0, 0, 0, []), none, none, some (.aload_n 0, 18, 0, 0, 0, 0, []), some (.aload_n 1, 19, 0, 0, 0, 0, []), some (.iload_n 2, 20, 0, 0, 0, 0, []), some (.iload 4, 22, 0, 0, 0, 0, []), none, some (.invokevirtual 29, 25, 19, 4, 1, 1, []), none, none, some (.istore 5, 27, 0, 0, 0, 0, []), none, some (.iload 5, 29, 0, 0, 0, 0, []), none, some (.bipush (-2), 31, 0, 0, 0, (-2), []), none, some (.if_icmp .ne 6, 34, 37, 0, 0, 0, []), none, none, some (.bipush (-2), 36, 0, 0, 0, (-2), []), none, some (.ireturn, 37, 0, 0, 0, 0, []), some (.iload_n 3, 38, 0, 0, 0, 0, []), some (.iload 5, 40, 0, 0, 0, 0, []), none, some (.iadd, 41, 0, 0, 0, 0, []), some (.istore_n 3, 42, 0, 0, 0, 0, []), some (.iinc 4 1, 45, 0, 0, 0, 1, []), none, none, some (.goto (-40), 48, 5, 0, 0, 0, []), none, none, some (.iload_n 3, 49, 0, 0, 0, 0, []), some (.ireturn, 50, 0, 0, 0, 0, [])]
def cdX2_needOf : List (Option AmE) := [some (.aload_n 1, 1, 0, 0, 0, 0, []), some (.getfield 33, 4, 5, 1, 2, 0, []), none, none, some (.iload_n 3, 5, 0, 0, 0, 0, []), some (.invokevirtual 39, 8, 57, 2, 1, 1, []), none, none, some (.istore 4, 10, 0, 0, 0, 0, []), none, some (.iconst 0, 11, 0, 0, 0, 0, []), some (.istore 5, 13, 0, 0, 0, 0, []), none, some (.iload 5, 15, 0, 0, 0, 0, []), none, some (.aload_n 0, 16, 0, 0, 0, 0, []), some (.getfield 15, 19, 2, 0, 2, 0, []), none, none, some (.getfield 45, 22, 8, 0, 2, 0, []), none, none, some (.iload_n 3, 23, 0, 0, 0, 0, []), some (.invokestatic 48, 26, 142, 2, 0, 1, []), none, none, some (.iload 4, 28, 0, 0, 0, 0, []), none, some (.isub, 29, 0, 0, 0, 0, []), some (.if_icmp .gt 27, 32, 56, 0, 0, 0, []), none, none, some (.aload_n 0, 33, 0, 0, 0, 0, []), some (.aload_n 1, 34, 0, 0, 0, 0, []), some (.iload_n 2, 35, 0, 0, 0, 0, []), some (.iload_n 3, 36, 0, 0, 0, 0, []), some (.iload 4, 38, 0, 0, 0, 0, []), none, some (.iload 5, 40, 0, 0, 0, 0, []), none, some (.iadd, 41, 0, 0, 0, 0, []), some (.invokevirtual 52, 44, 20, 5, 1, 1, []), none, none, some (.ifCond .eq 6, 47, 50, 0, 0, 0, []), none, none, some (.iload 5, 49, 0, 0, 0, 0, []), none, some (.ireturn, 50, 0, 0, 0, 0, []), some (.iinc 5 1, 53, 0, 0, 0, 1, []), none, none, some (.goto (-40), 56, 13, 0, 0, 0, []), none, none, some (.bipush (-2), 58, 0, 0, 0, (-2), []), none, some (.ireturn, 59, 0, 0, 0, 0, [])]
def cdX2_bearsSet : List (Option AmE) := [some (.iload 4, 2, 0, 0, 0, 0, []), none, some (.istore 5, 4, 0, 0, 0, 0, []), none, some (.iconst 0, 5, 0, 0, 0, 0, []), some (.istore 6, 7, 0, 0, 0, 0, []), none, some (.iload 6, 9, 0, 0, 0, 0, []), none, some (.aload_n 0, 10, 0, 0, 0, 0, []), some (.getfield 15, 13, 2, 0, 2, 0, []), none, none, some (.getfield 56, 16, 8, 9, 0, 0, []), none, none, some (.if_icmp .ge 99, 19, 115, 0, 0, 0, []), none, none, some (.iload 5, 21, 0, 0, 0, 0, []), none, some (.ifCond .lt 94, 24, 115, 0, 0, 0, []), none, none, some (.iload_n 2, 25, 0, 0, 0, 0, []), some (.iload 6, 27, 0, 0, 0, 0, []), none, some (.invokestatic 59, 30, 146, 2, 0, 1, []), none, none, some (.ifCond .eq 79, 33, 109, 0, 0, 0, []), none, none, some (.aload_n 0, 34, 0, 0, 0, 0, []), some (.getfield 19, 37, 2, 1, 2, 0, []), none, none, some (.iload 6, 39, 0, 0, 0, 0, []), none, some (.aload_n 1, 40, 0, 0, 0, 0, []), some (.getfield 63, 43, 5, 7, 0, 0, []), none, none, some (.invokevirtual 66, 46, 97, 3, 1, 0, []), none, none, some (.aload_n 0, 47, 0, 0, 0, 0, []), some (.iload_n 3, 48, 0, 0, 0, 0, []), some (.iconst 1, 49, 0, 0, 0, 1, []), some (.invokevirtual 72, 52, 21, 3, 1, 1, []), none, none, some (.ifCond .eq 23, 55, 75, 0, 0, 0, []), none, none, some (.aload_n 0, 56, 0, 0, 0, 0, []), some (.getfield 19, 59, 2, 1, 2, 0, []), none, none, some (.iload_n 3, 60, 0, 0, 0, 0, []), some (.iload 5, 62, 0, 0, 0, 0, []), none, some (.aload_n 1, 63, 0, 0, 0, 0, []), some (.getfield 33, 66, 5, 1, 2, 0, []), none, none, some (.getfield 76, 69, 6, 3, 0, 0, []), none, none, some (.iconst 1, 70, 0, 0, 0, 1, []), some (.invokevirtual 79, 73, 104, 5, 1, 1, []), none, none, some (.istore 5, 75, 0, 0, 0, 0, []), none, some (.iload 5, 77, 0, 0, 0, 0, []), none, some (.ifCond .lt 32, 80, 109, 0, 0, 0, []), none, none, some (.aload_n 0, 81, 0, 0, 0, 0, []), some (.iload_n 3, 82, 0, 0, 0, 0, []), some (.iconst 0, 83, 0, 0, 0, 0, []), some (.invokevirtual 72, 86, 21, 3, 1, 1, []), none, none, some (.ifCond .eq 23, 89, 109, 0, 0, 0, []), none, none, some (.aload_n 0, 90, 0, 0, 0, 0, []), some (.getfield 19, 93, 2, 1, 2, 0, []), none, none, some (.iload_n 3, 94, 0, 0, 0, 0, []), some (.iload 5, 96, 0, 0, 0, 0, []), none, some (.aload_n 1, 97, 0, 0, 0, 0, []), some (.getfield 33, 100, 5, 1, 2, 0, []), none, none, some (.getfield 76, 103, 6, 3, 0, 0, []), none, none, some (.iconst 0, 104, 0, 0, 0, 0, []), some (.invokevirtual 79, 107, 104, 5, 1, 1, []), none, none, some (.istore 5, 109, 0, 0, 0, 0, []), none, some (.iinc 6 1, 112, 0, 0, 0, 1, []), none, none, some (.goto (-105), 115, 7, 0, 0, 0, []), none, none, some (.iload 5, 117, 0, 0, 0, 0, []), none, some (.ifCond .lt 7, 120, 124, 0, 0, 0, []), none, none, some (.iconst 1, 121, 0, 0, 0, 1, []), some (.goto 4, 124, 125, 0, 0, 0, []), none, none, some (.iconst 0, 125, 0, 0, 0, 0, []), some (.ireturn, 126, 0, 0, 3, 0, [])]
def cdX2_treads : List (Option AmE) := [some (.iload_n 2, 1, 0, 0, 0, 0, []), some (.ifCond .ne 16, 4, 17, 0, 0, 0, []), none, none, some (.aload_n 0, 5, 0, 0, 0, 0, []), some (.getfield 19, 8, 2, 1, 2, 0, []), none, none, some (.getfield 83, 11, 10, 3, 0, 0, []), none, none, some (.iconst 3, 12, 0, 0, 0, 3, []), some (.if_icmp .ne 5, 15, 17, 0, 0, 0, []), none, none, some (.iconst 0, 16, 0, 0, 0, 0, []), some (.ireturn, 17, 0, 0, 3, 0, []), some (.iload_n 2, 18, 0, 0, 0, 0, []), some (.ifCond .eq 7, 21, 25, 0, 0, 0, []), none, none, some (.iload_n 1, 22, 0, 0, 0, 0, []), some (.goto 14, 25, 36, 0, 0, 0, []), none, none, some (.aload_n 0, 26, 0, 0, 0, 0, []), some (.getfield 15, 29, 2, 0, 2, 0, []), none, none, some (.getfield 23, 32, 8, 5, 0, 0, []), none, none, some (.iconst 1, 33, 0, 0, 0, 1, []), some (.iadd, 34, 0, 0, 0, 0, []), some (.iload_n 1, 35, 0, 0, 0, 0, []), some (.isub, 36, 0, 0, 0, 0, []), some (.istore_n 3, 37, 0, 0, 0, 0, []), some (.aload_n 0, 38, 0, 0, 0, 0, []), some (.getfield 19, 41, 2, 1, 2, 0, []), none, none, some (.getfield 83, 44, 10, 3, 0, 0, []), none, none, some (.iconst 2, 45, 0, 0, 0, 2, []), some (.if_icmp .ne 9, 48, 54, 0, 0, 0, []), none, none, some (.iload_n 3, 49, 0, 0, 0, 0, []), some (.iconst 2, 50, 0, 0, 0, 2, []), some (.irem, 51, 0, 0, 0, 0, []), some (.ifCond .ne 7, 54, 58, 0, 0, 0, []), none, none, some (.iconst 1, 55, 0, 0, 0, 1, []), some (.goto 4, 58, 59, 0, 0, 0, []), none, none, some (.iconst 0, 59, 0, 0, 0, 0, []), some (.ireturn, 60, 0, 0, 3, 0, [])]
def cdX2_takenOff : List (Option AmE) := [some (.aload_n 0, 1, 0, 0, 0, 0, []), some (.getfield 19, 4, 2, 1, 2, 0, []), none, none, some (.iload_n 2, 5, 0, 0, 0, 0, []), some (.aload_n 1, 6, 0, 0, 0, 0, []), some (.getfield 63, 9, 5, 7, 0, 0, []), none, none, some (.invokevirtual 66, 12, 97, 3, 1, 0, []), none, none, some (.aload_n 1, 13, 0, 0, 0, 0, []), some (.getfield 86, 16, 5, 2, 2, 0, []), none, none, some (.iload_n 2, 17, 0, 0, 0, 0, []), some (.invokestatic 48, 20, 142, 2, 0, 1, []), none, none, some (.istore_n 3, 21, 0, 0, 0, 0, []), some (.aload_n 0, 22, 0, 0, 0, 0, []), some (.getfield 9, 25, 2, 2, 2, 0, []), none, none, some (.iconst 0, 26, 0, 0, 0, 0, []), some (.iconst 0, 27, 0, 0, 0, 0, []), some (.invokestatic 89, 30, 143, 3, 0, 0, []), none, none, some (.iconst 1, 31, 0, 0, 0, 1, []), some (.istore 4, 33, 0, 0, 0, 0, []), none, some (.iload 4, 35, 0, 0, 0, 0, []), none, some (.iload_n 3, 36, 0, 0, 0, 0, []), some (.if_icmp .gt 28, 39, 64, 0, 0, 0, []), none, none, some (.aload_n 0, 40, 0, 0, 0, 0, []), some (.getfield 9, 43, 2, 2, 2, 0, []), none, none, some (.iload 4, 45, 0, 0, 0, 0, []), none, some (.aload_n 0, 46, 0, 0, 0, 0, []), some (.aload_n 1, 47, 0, 0, 0, 0, []), some (.getfield 33, 50, 5, 1, 2, 0, []), none, none, some (.iload 4, 52, 0, 0, 0, 0, []), none, some (.invokevirtual 93, 55, 23, 3, 1, 1, []), none, none, some (.invokestatic 89, 58, 143, 3, 0, 0, []), none, none, some (.iinc 4 1, 61, 0, 0, 0, 1, []), none, none, some (.goto (-28), 64, 33, 0, 0, 0, []), none, none, some (.aload_n 0, 65, 0, 0, 0, 0, []), some (.getfield 9, 68, 2, 2, 2, 0, []), none, none, some (.iload_n 3, 69, 0, 0, 0, 0, []), some (.invokestatic 48, 72, 142, 2, 0, 1, []), none, none, some (.istore 4, 74, 0, 0, 0, 0, []), none, some (.iload 4, 76, 0, 0, 0, 0, []), none, some (.ldc 97, 78, 0, 0, 0, 1000000, []), none, some (.if_icmp .ge 8, 81, 86, 0, 0, 0, []), none, none, some (.iload 4, 83, 0, 0, 0, 0, []), none, some (.goto 5, 86, 88, 0, 0, 0, []), none, none, some (.bipush (-2), 88, 0, 0, 0, (-2), []), none, some (.ireturn, 89, 0, 0, 0, 0, [])]
def cdX2_dearFrom : List (Option AmE) := [some (.aload_n 0, 1, 0, 0, 0, 0, []), some (.getfield 19, 4, 2, 1, 2, 0, []), none, none, some (.getfield 83, 7, 10, 3, 0, 0, []), none, none, some (.iconst 2, 8, 0, 0, 0, 2, []), some (.if_icmp .eq 12, 11, 20, 0, 0, 0, []), none, none, some (.aload_n 0, 12, 0, 0, 0, 0, []), some (.aload_n 1, 13, 0, 0, 0, 0, []), some (.iload_n 2, 14, 0, 0, 0, 0, []), some (.iconst 1, 15, 0, 0, 0, 1, []), some (.isub, 16, 0, 0, 0, 0, []), some (.invokevirtual 98, 19, 24, 3, 1, 1, []), none, none, some (.ireturn, 20, 0, 0, 0, 0, []), some (.iconst 0, 21, 0, 0, 0, 0, []), some (.iload_n 2, 22, 0, 0, 0, 0, []), some (.iconst 2, 23, 0, 0, 0, 2, []), some (.isub, 24, 0, 0, 0, 0, []), some (.invokestatic 101, 27, 0, 0, 5, 0, []), none, none, some (.istore_n 3, 28, 0, 0, 0, 0, []), some (.aload_n 0, 29, 0, 0, 0, 0, []), some (.aload_n 1, 30, 0, 0, 0, 0, []), some (.iload_n 3, 31, 0, 0, 0, 0, []), some (.invokevirtual 98, 34, 24, 3, 1, 1, []), none, none, some (.istore 4, 36, 0, 0, 0, 0, []), none, some (.aload_n 1, 37, 0, 0, 0, 0, []), some (.iload_n 3, 38, 0, 0, 0, 0, []), some (.invokevirtual 107, 41, 56, 2, 1, 1, []), none, none, some (.ifCond .eq 6, 44, 47, 0, 0, 0, []), none, none, some (.iload 4, 46, 0, 0, 0, 0, []), none, some (.ireturn, 47, 0, 0, 0, 0, []), some (.iload 4, 49, 0, 0, 0, 0, []), none, some (.aload_n 0, 50, 0, 0, 0, 0, []), some (.aload_n 1, 51, 0, 0, 0, 0, []), some (.iload_n 2, 52, 0, 0, 0, 0, []), some (.iconst 1, 53, 0, 0, 0, 1, []), some (.isub, 54, 0, 0, 0, 0, []), some (.invokevirtual 98, 57, 24, 3, 1, 1, []), none, none, some (.invokestatic 111, 60, 0, 0, 6, 0, []), none, none, some (.ireturn, 61, 0, 0, 0, 0, [])]
def cdX2_dearOver : List (Option AmE) := [some (.iload_n 2, 1, 0, 0, 0, 0, []), some (.ifCond .gt 5, 4, 6, 0, 0, 0, []), none, none, some (.iconst 0, 5, 0, 0, 0, 0, []), some (.ireturn, 6, 0, 0, 0, 0, []), some (.aload_n 1, 7, 0, 0, 0, 0, []), some (.iload_n 2, 8, 0, 0, 0, 0, []), some (.invokevirtual 39, 11, 57, 2, 1, 1, []), none, none, some (.istore_n 3, 12, 0, 0, 0, 0, []), some (.iconst 0, 13, 0, 0, 0, 0, []), some (.istore 4, 15, 0, 0, 0, 0, []), none, some (.iload 4, 17, 0, 0, 0, 0, []), none, some (.aload_n 0, 18, 0, 0, 0, 0, []), some (.getfield 15, 21, 2, 0, 2, 0, []), none, none, some (.getfield 45, 24, 8, 0, 2, 0, []), none, none, some (.iload_n 2, 25, 0, 0, 0, 0, []), some (.invokestatic 48, 28, 142, 2, 0, 1, []), none, none, some (.iload_n 3, 29, 0, 0, 0, 0, []), some (.isub, 30, 0, 0, 0, 0, []), some (.if_icmp .gt 46, 33, 76, 0, 0, 0, []), none, none, some (.aload_n 0, 34, 0, 0, 0, 0, []), some (.getfield 19, 37, 2, 1, 2, 0, []), none, none, some (.iload_n 2, 38, 0, 0, 0, 0, []), some (.iload_n 3, 39, 0, 0, 0, 0, []), some (.iload 4, 41, 0, 0, 0, 0, []), none, some (.iadd, 42, 0, 0, 0, 0, []), some (.aload_n 1, 43, 0, 0, 0, 0, []), some (.getfield 76, 46, 6, 3, 0, 0, []), none, none, some (.iconst 0, 47, 0, 0, 0, 0, []), some (.invokevirtual 79, 50, 104, 5, 1, 1, []), none, none, some (.ifCond .lt 20, 53, 70, 0, 0, 0, []), none, none, some (.ldc 97, 55, 0, 0, 0, 1000000, []), none, some (.iload 4, 57, 0, 0, 0, 0, []), none, some (.aload_n 0, 58, 0, 0, 0, 0, []), some (.getfield 9, 61, 2, 2, 2, 0, []), none, none, some (.iload_n 2, 62, 0, 0, 0, 0, []), some (.invokestatic 48, 65, 142, 2, 0, 1, []), none, none, some (.iadd, 66, 0, 0, 0, 0, []), some (.invokestatic 111, 69, 0, 0, 6, 0, []), none, none, some (.ireturn, 70, 0, 0, 0, 0, []), some (.iinc 4 1, 73, 0, 0, 0, 1, []), none, none, some (.goto (-58), 76, 15, 0, 0, 0, []), none, none, some (.ldc 97, 78, 0, 0, 0, 1000000, []), none, some (.ireturn, 79, 0, 0, 0, 0, [])]
def cdX3_drop : List (Option AmE) := [some (.aload_n 0, 1, 0, 0, 0, 0, []), some (.iconst (-1), 2, 0, 0, 0, (-1), []), some (.putfield 24, 5, 3, 4, 0, 0, []), none, none, some (.return_, 6, 0, 0, 0, 0, [])]
def cdX3_seek : List (Option AmE) := [some (.iload_n 2, 1, 0, 0, 0, 0, []), some (.aload_n 0, 2, 0, 0, 0, 0, []), some (.getfield 24, 5, 3, 4, 0, 0, []), none, none, some (.if_icmp .eq 21, 8, 26, 0, 0, 0, []), none, none, some (.aload_n 0, 9, 0, 0, 0, 0, []), some (.getfield 11, 12, 3, 1, 2, 0, []), none, none, some (.arraylength, 13, 0, 0, 0, 0, []), some (.iconst 1, 14, 0, 0, 0, 1, []), some (.if_icmp .lt 12, 17, 26, 0, 0, 0, []), none, none, some (.aload_n 0, 18, 0, 0, 0, 0, []), some (.getfield 11, 21, 3, 1, 2, 0, []), none, none, some (.iconst 0, 22, 0, 0, 0, 0, []), some (.aaload, 23, 0, 0, 0, 0, []), some (.ifnonnull 4, 26, 27, 0, 0, 0, []), none, none, some (.return_, 27, 0, 0, 0, 0, []), some (.aload_n 0, 28, 0, 0, 0, 0, []), some (.iload_n 2, 29, 0, 0, 0, 0, []), some (.putfield 24, 32, 3, 4, 0, 0, []), none, none, some (.aload_n 0, 33, 0, 0, 0, 0, []), some (.iload_n 2, 34, 0, 0, 0, 0, []), some (.invokestatic 33, 37, 244, 1, 0, 1, []), none, none, some (.putfield 39, 40, 3, 5, 0, 0, []), none, none, some (.aload_n 0, 41, 0, 0, 0, 0, []), some (.aload_n 1, 42, 0, 0, 0, 0, []), some (.getfield 42, 45, 5, 7, 0, 0, []), none, none, some (.putfield 47, 48, 3, 6, 0, 0, []), none, none, some (.aload_n 0, 49, 0, 0, 0, 0, []), some (.iconst (-1), 50, 0, 0, 0, (-1), []), some (.putfield 48, 53, 3, 7, 0, 0, []), none, none, some (.aload_n 0, 54, 0, 0, 0, 0, []), some (.iconst 0, 55, 0, 0, 0, 0, []), some (.putfield 51, 58, 3, 8, 0, 0, []), none, none, some (.aload_n 0, 59, 0, 0, 0, 0, []), some (.getfield 11, 62, 3, 1, 2, 0, []), none, none, some (.iconst 0, 63, 0, 0, 0, 0, []), some (.aaload, 64, 0, 0, 0, 0, []), some (.aload_n 1, 65, 0, 0, 0, 0, []), some (.getfield 54, 68, 5, 1, 2, 0, []), none, none, some (.invokevirtual 58, 71, 53, 2, 1, 0, []), none, none, some (.aload_n 0, 72, 0, 0, 0, 0, []), some (.iconst 0, 73, 0, 0, 0, 0, []), some (.iload_n 2, 74, 0, 0, 0, 0, []), some (.iconst 0, 75, 0, 0, 0, 0, []), some (.iconst 0, 76, 0, 0, 0, 0, []), some (.invokevirtual 62, 79, 27, 5, 1, 0, []), none, none, some (.return_, 80, 0, 0, 0, 0, [])]
def cdX3_search : List (Option AmE) := [some (.iload_n 3, 1, 0, 0, 0, 0, []), some (.aload_n 0, 2, 0, 0, 0, 0, []), some (.getfield 39, 5, 3, 5, 0, 0, []), none, none, some (.iadd, 6, 0, 0, 0, 0, []), some (.iload_n 1, 7, 0, 0, 0, 0, []), some (.isub, 8, 0, 0, 0, 0, []), some (.istore 5, 10, 0, 0, 0, 0, []), none, some (.iload 5, 12, 0, 0, 0, 0, []), none, some (.aload_n 0, 13, 0, 0, 0, 0, []), some (.getfield 48, 16, 3, 7, 0, 0, []), none, none, some (.if_icmp .lt 21, 19, 37, 0, 0, 0, []), none, none, some (.iload 5, 21, 0, 0, 0, 0, []), none, some (.aload_n 0, 22, 0, 0, 0, 0, []), some (.getfield 48, 25, 3, 7, 0, 0, []), none, none, some (.if_icmp .ne 13, 28, 38, 0, 0, 0, []), none, none, some (.iload 4, 30, 0, 0, 0, 0, []), none, some (.aload_n 0, 31, 0, 0, 0, 0, []), some (.getfield 51, 34, 3, 8, 0, 0, []), none, none, some (.if_icmp .lt 4, 37, 38, 0, 0, 0, []), none, none, some (.return_, 38, 0, 0, 0, 0, []), some (.iload_n 1, 39, 0, 0, 0, 0, []), some (.aload_n 0, 40, 0, 0, 0, 0, []), some (.getfield 39, 43, 3, 5, 0, 0, []), none, none, some (.if_icmp .lt 26, 46, 69, 0, 0, 0, []), none, none, some (.aload_n 0, 47, 0, 0, 0, 0, []), some (.iload_n 3, 48, 0, 0, 0, 0, []), some (.putfield 48, 51, 3, 7, 0, 0, []), none, none, some (.aload_n 0, 52, 0, 0, 0, 0, []), some (.iload 4, 54, 0, 0, 0, 0, []), none, some (.putfield 51, 57, 3, 8, 0, 0, []), none, none, some (.aload_n 0, 58, 0, 0, 0, 0, []), some (.getfield 17, 61, 3, 2, 2, 0, []), none, none, some (.aload_n 0, 62, 0, 0, 0, 0, []), some (.getfield 21, 65, 3, 3, 2, 0, []), none, none, some (.invokestatic 66, 68, 144, 2, 0, 0, []), none, none, some (.return_, 69, 0, 0, 0, 0, []), some (.iload_n 1, 70, 0, 0, 0, 0, []), some (.ifCond .lt 43, 73, 113, 0, 0, 0, []), none, none, some (.iload_n 1, 74, 0, 0, 0, 0, []), some (.aload_n 0, 75, 0, 0, 0, 0, []), some (.getfield 17, 78, 3, 2, 2, 0, []), none, none, some (.arraylength, 79, 0, 0, 0, 0, []), some (.if_icmp .ge 34, 82, 113, 0, 0, 0, []), none, none, some (.iload_n 1, 83, 0, 0, 0, 0, []), some (.iconst 1, 84, 0, 0, 0, 1, []), some (.iadd, 85, 0, 0, 0, 0, []), some (.aload_n 0, 86, 0, 0, 0, 0, []), some (.getfield 11, 89, 3, 1, 2, 0, []), none, none, some (.arraylength, 90, 0, 0, 0, 0, []), some (.if_icmp .ge 23, 93, 113, 0, 0, 0, []), none, none, some (.aload_n 0, 94, 0, 0, 0, 0, []), some (.getfield 11, 97, 3, 1, 2, 0, []), none, none, some (.iload_n 1, 98, 0, 0, 0, 0, []), some (.aaload, 99, 0, 0, 0, 0, []), some (.ifnull 14, 102, 113, 0, 0, 0, []), none, none, some (.aload_n 0, 103, 0, 0, 0, 0, []), some (.getfield 11, 106, 3, 1, 2, 0, []), none, none, some (.iload_n 1, 107, 0, 0, 0, 0, []), some (.iconst 1, 108, 0, 0, 0, 1, []), some (.iadd, 109, 0, 0, 0, 0, []), some (.aaload, 110, 0, 0, 0, 0, []), some (.ifnonnull 4, 113, 114, 0, 0, 0, []), none, none, some (.return_, 114, 0, 0, 0, 0, []), some (.iconst 0, 115, 0, 0, 0, 0, []), some (.istore 6, 117, 0, 0, 0, 0, []), none, some (.iload 6, 119, 0, 0, 0, 0, []), none, some (.bipush 8, 121, 0, 0, 0, 8, []), none, some (.if_icmp .ge 107, 124, 228, 0, 0, 0, []), none, none, some (.iload_n 2, 125, 0, 0, 0, 0, []), some (.iload 6, 127, 0, 0, 0, 0, []), none, some (.invokestatic 70, 130, 146, 2, 0, 1, []), none, none, some (.ifCond .eq 92, 133, 222, 0, 0, 0, []), none, none, some (.aload_n 0, 134, 0, 0, 0, 0, []), some (.getfield 11, 137, 3, 1, 2, 0, []), none, none, some (.iload_n 1, 138, 0, 0, 0, 0, []), some (.iconst 1, 139, 0, 0, 0, 1, []), some (.iadd, 140, 0, 0, 0, 0, []), some (.aaload, 141, 0, 0, 0, 0, []), some (.aload_n 0, 142, 0, 0, 0, 0, []), some (.getfield 11, 145, 3, 1, 2, 0, []), none, none, some (.iload_n 1, 146, 0, 0, 0, 0, []), some (.aaload, 147, 0, 0, 0, 0, []), some (.invokevirtual 58, 150, 53, 2, 1, 0, []), none, none, some (.aload_n 0, 151, 0, 0, 0, 0, []), some (.getfield 28, 154, 3, 0, 2, 0, []), none, none, some (.aload_n 0, 155, 0, 0, 0, 0, []), some (.getfield 11, 158, 3, 1, 2, 0, []), none, none, some (.iload_n 1, 159, 0, 0, 0, 0, []), some (.iconst 1, 160, 0, 0, 0, 1, []), some (.iadd, 161, 0, 0, 0, 0, []), some (.aaload, 162, 0, 0, 0, 0, []), some (.iload 6, 164, 0, 0, 0, 0, []), none, some (.aload_n 0, 165, 0, 0, 0, 0, []), some (.getfield 47, 168, 3, 6, 0, 0, []), none, none, some (.invokevirtual 74, 171, 99, 4, 1, 1, []), none, none, some (.istore 7, 173, 0, 0, 0, 0, []), none, some (.aload_n 0, 174, 0, 0, 0, 0, []), some (.getfield 17, 177, 3, 2, 2, 0, []), none, none, some (.iload_n 1, 178, 0, 0, 0, 0, []), some (.iload 6, 180, 0, 0, 0, 0, []), none, some (.iastore, 181, 0, 0, 0, 0, []), some (.aload_n 0, 182, 0, 0, 0, 0, []), some (.iload_n 1, 183, 0, 0, 0, 0, []), some (.iconst 1, 184, 0, 0, 0, 1, []), some (.iadd, 185, 0, 0, 0, 0, []), some (.iload_n 2, 186, 0, 0, 0, 0, []), some (.iconst 1, 187, 0, 0, 0, 1, []), some (.iload 6, 189, 0, 0, 0, 0, []), none, some (.ishl, 190, 0, 0, 0, 0, []), some (.iconst (-1), 191, 0, 0, 0, (-1), []), some (.ixor, 192, 0, 0, 0, 0, []), some (.iand, 193, 0, 0, 0, 0, []), some (.iload_n 3, 194, 0, 0, 0, 0, []), some (.iload 7, 196, 0, 0, 0, 0, []), none, some (.ifCond .ne 7, 199, 203, 0, 0, 0, []), none, none, some (.iconst 1, 200, 0, 0, 0, 1, []), some (.goto 4, 203, 204, 0, 0, 0, []), none, none, some (.iconst 0, 204, 0, 0, 0, 0, []), some (.iadd, 205, 0, 0, 0, 0, []), some (.iload 4, 207, 0, 0, 0, 0, []), none, some (.iload 7, 209, 0, 0, 0, 0, []), none, some (.iconst 2, 210, 0, 0, 0, 2, []), some (.if_icmp .ne 7, 213, 217, 0, 0, 0, []), none, none, some (.iconst 1, 214, 0, 0, 0, 1, []), some (.goto 4, 217, 218, 0, 0, 0, []), none, none, some (.iconst 0, 218, 0, 0, 0, 0, []), some (.iadd, 219, 0, 0, 0, 0, []), some (.invokevirtual 62, 222, 27, 5, 1, 0, []), none, none, some (.iinc 6 1, 225, 0, 0, 0, 1, []), none, none, some (.goto (-108), 228, 117, 0, 0, 0, []), none, none, some (.return_, 229, 0, 0, 0, 0, [])]
def cdX4_parse : List (Option AmE) := [some (.aload_n 0, 1, 0, 0, 0, 0, []), some (.getfield 22, 4, 4, 0, 2, 0, []), none, none, some (.invokevirtual 26, 7, 70, 1, 1, 0, []), none, none, some (.aload_n 0, 8, 0, 0, 0, 0, []), some (.iconst 0, 9, 0, 0, 0, 0, []), some (.putfield 31, 12, 4, 3, 0, 0, []), none, none, some (.aload_n 0, 13, 0, 0, 0, 0, []), some (.aload_n 0, 14, 0, 0, 0, 0, []), some (.getfield 22, 17, 4, 0, 2, 0, []), none, none, some (.aload_n 0, 18, 0, 0, 0, 0, []), some (.getfield 31, 21, 4, 3, 0, 0, []), none, none, some (.invokevirtual 35, 24, 67, 2, 1, 1, []), none, none, some (.putfield 39, 27, 4, 4, 0, 0, []), none, none, some (.aload_n 0, 28, 0, 0, 0, 0, []), some (.iconst 0, 29, 0, 0, 0, 0, []), some (.putfield 42, 32, 4, 5, 0, 0, []), none, none, some (.aload_n 0, 33, 0, 0, 0, 0, []), some (.iconst 0, 34, 0, 0, 0, 0, []), some (.putfield 45, 37, 4, 6, 0, 0, []), none, none, some (.aload_n 0, 38, 0, 0, 0, 0, []), some (.iconst 0, 39, 0, 0, 0, 0, []), some (.putfield 48, 42, 4, 8, 0, 0, []), none, none, some (.aload_n 0, 43, 0, 0, 0, 0, []), some (.getfield 12, 46, 4, 1, 2, 0, []), none, none, some (.invokevirtual 51, 49, 81, 1, 1, 0, []), none, none, some (.iconst 0, 50, 0, 0, 0, 0, []), some (.istore_n 1, 51, 0, 0, 0, 0, []), some (.iload_n 1, 52, 0, 0, 0, 0, []), some (.sipush 400, 55, 0, 0, 0, 400, []), none, none, some (.if_icmp .gt 147, 58, 202, 0, 0, 0, []), none, none, some (.aload_n 0, 59, 0, 0, 0, 0, []), some (.getfield 45, 62, 4, 6, 0, 0, []), none, none, some (.ifCond .ne 140, 65, 202, 0, 0, 0, []), none, none, some (.aload_n 0, 66, 0, 0, 0, 0, []), some (.getfield 39, 69, 4, 4, 0, 0, []), none, none, some (.bipush 21, 71, 0, 0, 0, 21, []), none, some (.if_icmp .eq 131, 74, 202, 0, 0, 0, []), none, none, some (.aload_n 0, 75, 0, 0, 0, 0, []), some (.getfield 39, 78, 4, 4, 0, 0, []), none, none, some (.tableswitch 107 0 4 #[34, 60, 86, 93, 100], 112, 185, 0, 0, 0, [112, 138, 164, 171, 178]), none, none, none, none, none, none, none, none, none, none, none, none, none, none, none, none, none, none, none, none, none, none, none, none, none, none, none, none, none, none, none, none, none, some (.aload_n 0, 113, 0, 0, 0, 0, []), some (.getfield 12, 116, 4, 1, 2, 0, []), none, none, some (.aload_n 0, 117, 0, 0, 0, 0, []), some (.aload_n 0, 118, 0, 0, 0, 0, []), some (.getfield 12, 121, 4, 1, 2, 0, []), none, none, some (.getfield 54, 124, 8, 0, 2, 0, []), none, none, some (.iconst 1, 125, 0, 0, 0, 1, []), some (.bipush 24, 127, 0, 0, 0, 24, []), none, some (.bipush 99, 129, 0, 0, 0, 99, []), none, some (.invokevirtual 58, 132, 30, 5, 1, 1, []), none, none, some (.putfield 62, 135, 8, 5, 0, 0, []), none, none, some (.goto 55, 138, 190, 0, 0, 0, []), none, none, some (.aload_n 0, 139, 0, 0, 0, 0, []), some (.getfield 12, 142, 4, 1, 2, 0, []), none, none, some (.aload_n 0, 143, 0, 0, 0, 0, []), some (.aload_n 0, 144, 0, 0, 0, 0, []), some (.getfield 12, 147, 4, 1, 2, 0, []), none, none, some (.getfield 65, 150, 8, 1, 2, 0, []), none, none, some (.iconst 0, 151, 0, 0, 0, 0, []), some (.bipush 14, 153, 0, 0, 0, 14, []), none, some (.bipush 9, 155, 0, 0, 0, 9, []), none, some (.invokevirtual 58, 158, 30, 5, 1, 1, []), none, none, some (.putfield 68, 161, 8, 6, 0, 0, []), none, none, some (.goto 29, 164, 190, 0, 0, 0, []), none, none, some (.aload_n 0, 165, 0, 0, 0, 0, []), some (.invokevirtual 71, 168, 31, 1, 1, 0, []), none, none, some (.goto 22, 171, 190, 0, 0, 0, []), none, none, some (.aload_n 0, 172, 0, 0, 0, 0, []), some (.invokevirtual 74, 175, 32, 1, 1, 0, []), none, none, some (.goto 15, 178, 190, 0, 0, 0, []), none, none, some (.aload_n 0, 179, 0, 0, 0, 0, []), some (.invokevirtual 77, 182, 34, 1, 1, 0, []), none, none, some (.goto 8, 185, 190, 0, 0, 0, []), none, none, some (.aload_n 0, 186, 0, 0, 0, 0, []), some (.iconst 1, 187, 0, 0, 0, 1, []), some (.invokevirtual 80, 190, 42, 2, 1, 0, []), none, none, some (.aload_n 0, 191, 0, 0, 0, 0, []), some (.bipush 59, 193, 0, 0, 0, 59, []), none, some (.invokevirtual 84, 196, 39, 2, 1, 0, []), none, none, some (.iinc 1 1, 199, 0, 0, 0, 1, []), none, none, some (.goto (-148), 202, 51, 0, 0, 0, []), none, none, some (.aload_n 0, 203, 0, 0, 0, 0, []), some (.getfield 45, 206, 4, 6, 0, 0, []), none, none, some (.ifCond .eq 10, 209, 216, 0, 0, 0, []), none, none, some (.aload_n 0, 210, 0, 0, 0, 0, []), some (.getfield 45, 213, 4, 6, 0, 0, []), none, none, some (.goto 7, 216, 220, 0, 0, 0, []), none, none, some (.aload_n 0, 217, 0, 0, 0, 0, []), some (.getfield 48, 220, 4, 8, 0, 0, []), none, none, some (.ireturn, 221, 0, 0, 0, 0, [])]
def cdX4_faultPlace : List (Option AmE) := [some (.aload_n 0, 1, 0, 0, 0, 0, []), some (.getfield 22, 4, 4, 0, 2, 0, []), none, none, some (.aload_n 0, 5, 0, 0, 0, 0, []), some (.getfield 45, 8, 4, 6, 0, 0, []), none, none, some (.ifCond .eq 10, 11, 18, 0, 0, 0, []), none, none, some (.aload_n 0, 12, 0, 0, 0, 0, []), some (.getfield 87, 15, 4, 7, 0, 0, []), none, none, some (.goto 7, 18, 22, 0, 0, 0, []), none, none, some (.aload_n 0, 19, 0, 0, 0, 0, []), some (.getfield 90, 22, 4, 9, 0, 0, []), none, none, some (.invokevirtual 93, 25, 69, 2, 1, 1, []), none, none, some (.ireturn, 26, 0, 0, 0, 0, [])]
def cdX4_readRow : List (Option AmE) := [some (.aload_n 0, 1, 0, 0, 0, 0, []), some (.aload_n 0, 2, 0, 0, 0, 0, []), some (.getfield 39, 5, 4, 4, 0, 0, []), none, none, some (.invokevirtual 84, 8, 39, 2, 1, 0, []), none, none, some (.iconst 0, 9, 0, 0, 0, 0, []), some (.istore 5, 11, 0, 0, 0, 0, []), none, some (.iload 5, 13, 0, 0, 0, 0, []), none, some (.iload_n 3, 14, 0, 0, 0, 0, []), some (.if_icmp .ge 33, 17, 47, 0, 0, 0, []), none, none, some (.aload_n 0, 18, 0, 0, 0, 0, []), some (.getfield 39, 21, 4, 4, 0, 0, []), none, none, some (.bipush 20, 23, 0, 0, 0, 20, []), none, some (.if_icmp .ne 24, 26, 47, 0, 0, 0, []), none, none, some (.aload_n 1, 27, 0, 0, 0, 0, []), some (.iload_n 2, 28, 0, 0, 0, 0, []), some (.iload 5, 30, 0, 0, 0, 0, []), none, some (.iadd, 31, 0, 0, 0, 0, []), some (.aload_n 0, 32, 0, 0, 0, 0, []), some (.iconst 0, 33, 0, 0, 0, 0, []), some (.iload 4, 35, 0, 0, 0, 0, []), none, some (.invokevirtual 96, 38, 40, 3, 1, 1, []), none, none, some (.invokestatic 100, 41, 143, 3, 0, 0, []), none, none, some (.iinc 5 1, 44, 0, 0, 0, 1, []), none, none, some (.goto (-33), 47, 11, 0, 0, 0, []), none, none, some (.aload_n 0, 48, 0, 0, 0, 0, []), some (.getfield 39, 51, 4, 4, 0, 0, []), none, none, some (.bipush 20, 53, 0, 0, 0, 20, []), none, some (.if_icmp .ne 8, 56, 61, 0, 0, 0, []), none, none, some (.aload_n 0, 57, 0, 0, 0, 0, []), some (.iconst 2, 58, 0, 0, 0, 2, []), some (.invokevirtual 80, 61, 42, 2, 1, 0, []), none, none, some (.iload 5, 63, 0, 0, 0, 0, []), none, some (.ireturn, 64, 0, 0, 0, 0, [])]
def cdX4_readBrine : List (Option AmE) := [some (.aload_n 0, 1, 0, 0, 0, 0, []), some (.iconst 2, 2, 0, 0, 0, 2, []), some (.invokevirtual 84, 5, 39, 2, 1, 0, []), none, none, some (.aload_n 0, 6, 0, 0, 0, 0, []), some (.getfield 12, 9, 4, 1, 2, 0, []), none, none, some (.aload_n 0, 10, 0, 0, 0, 0, []), some (.iconst 0, 11, 0, 0, 0, 0, []), some (.sipush 999, 14, 0, 0, 0, 999, []), none, none, some (.invokevirtual 96, 17, 40, 3, 1, 1, []), none, none, some (.putfield 104, 20, 8, 7, 0, 0, []), none, none, some (.aload_n 0, 21, 0, 0, 0, 0, []), some (.getfield 12, 24, 4, 1, 2, 0, []), none, none, some (.aload_n 0, 25, 0, 0, 0, 0, []), some (.iconst 0, 26, 0, 0, 0, 0, []), some (.bipush 99, 28, 0, 0, 0, 99, []), none, some (.invokevirtual 96, 31, 40, 3, 1, 1, []), none, none, some (.putfield 107, 34, 8, 8, 0, 0, []), none, none, some (.return_, 35, 0, 0, 0, 0, [])]
def cdX4_readPilgrim : List (Option AmE) := [some (.aload_n 0, 1, 0, 0, 0, 0, []), some (.getfield 12, 4, 4, 1, 2, 0, []), none, none, some (.getfield 110, 7, 8, 9, 0, 0, []), none, none, some (.istore_n 1, 8, 0, 0, 0, 0, []), some (.iload_n 1, 9, 0, 0, 0, 0, []), some (.bipush 8, 11, 0, 0, 0, 8, []), none, some (.if_icmp .lt 9, 14, 20, 0, 0, 0, []), none, none, some (.aload_n 0, 15, 0, 0, 0, 0, []), some (.iconst 2, 16, 0, 0, 0, 2, []), some (.invokevirtual 80, 19, 42, 2, 1, 0, []), none, none, some (.return_, 20, 0, 0, 0, 0, []), some (.aload_n 0, 21, 0, 0, 0, 0, []), some (.iconst 3, 22, 0, 0, 0, 3, []), some (.invokevirtual 84, 25, 39, 2, 1, 0, []), none, none, some (.aload_n 0, 26, 0, 0, 0, 0, []), some (.iload_n 1, 27, 0, 0, 0, 0, []), some (.invokevirtual 113, 30, 33, 2, 1, 0, []), none, none, some (.aload_n 0, 31, 0, 0, 0, 0, []), some (.getfield 12, 34, 4, 1, 2, 0, []), none, none, some (.getfield 116, 37, 8, 2, 2, 0, []), none, none, some (.iload_n 1, 38, 0, 0, 0, 0, []), some (.aload_n 0, 39, 0, 0, 0, 0, []), some (.iconst 1, 40, 0, 0, 0, 1, []), some (.bipush 30, 42, 0, 0, 0, 30, []), none, some (.invokevirtual 96, 45, 40, 3, 1, 1, []), none, none, some (.invokestatic 100, 48, 143, 3, 0, 0, []), none, none, some (.aload_n 0, 49, 0, 0, 0, 0, []), some (.getfield 12, 52, 4, 1, 2, 0, []), none, none, some (.getfield 119, 55, 8, 3, 2, 0, []), none, none, some (.iload_n 1, 56, 0, 0, 0, 0, []), some (.aload_n 0, 57, 0, 0, 0, 0, []), some (.invokevirtual 122, 60, 41, 1, 1, 1, []), none, none, some (.invokestatic 100, 63, 143, 3, 0, 0, []), none, none, some (.aload_n 0, 64, 0, 0, 0, 0, []), some (.getfield 12, 67, 4, 1, 2, 0, []), none, none, some (.iload_n 1, 68, 0, 0, 0, 0, []), some (.iconst 1, 69, 0, 0, 0, 1, []), some (.iadd, 70, 0, 0, 0, 0, []), some (.putfield 110, 73, 8, 9, 0, 0, []), none, none, some (.return_, 74, 0, 0, 0, 0, [])]
def cdX4_takeName : List (Option AmE) := [some (.aload_n 0, 1, 0, 0, 0, 0, []), some (.getfield 22, 4, 4, 0, 2, 0, []), none, none, some (.aload_n 0, 5, 0, 0, 0, 0, []), some (.getfield 31, 8, 4, 3, 0, 0, []), none, none, some (.invokevirtual 126, 11, 68, 2, 1, 2, []), none, none, some (.lstore_n 2, 12, 0, 0, 0, 0, []), some (.iconst 0, 13, 0, 0, 0, 0, []), some (.istore 4, 15, 0, 0, 0, 0, []), none, some (.iload 4, 17, 0, 0, 0, 0, []), none, some (.iload_n 1, 18, 0, 0, 0, 0, []), some (.if_icmp .ge 45, 21, 63, 0, 0, 0, []), none, none, some (.iload 4, 23, 0, 0, 0, 0, []), none, some (.aload_n 0, 24, 0, 0, 0, 0, []), some (.getfield 18, 27, 4, 2, 2, 0, []), none, none, some (.arraylength, 28, 0, 0, 0, 0, []), some (.if_icmp .ge 35, 31, 63, 0, 0, 0, []), none, none, some (.aload_n 0, 32, 0, 0, 0, 0, []), some (.getfield 39, 35, 4, 4, 0, 0, []), none, none, some (.bipush 19, 37, 0, 0, 0, 19, []), none, some (.if_icmp .ne 20, 40, 57, 0, 0, 0, []), none, none, some (.aload_n 0, 41, 0, 0, 0, 0, []), some (.getfield 18, 44, 4, 2, 2, 0, []), none, none, some (.iload 4, 46, 0, 0, 0, 0, []), none, some (.laload, 47, 0, 0, 0, 0, []), some (.lload_n 2, 48, 0, 0, 0, 0, []), some (.lcmp, 49, 0, 0, 0, 0, []), some (.ifCond .ne 8, 52, 57, 0, 0, 0, []), none, none, some (.aload_n 0, 53, 0, 0, 0, 0, []), some (.iconst 3, 54, 0, 0, 0, 3, []), some (.invokevirtual 130, 57, 43, 2, 1, 0, []), none, none, some (.iinc 4 1, 60, 0, 0, 0, 1, []), none, none, some (.goto (-45), 63, 15, 0, 0, 0, []), none, none, some (.iload_n 1, 64, 0, 0, 0, 0, []), some (.ifCond .lt 19, 67, 83, 0, 0, 0, []), none, none, some (.iload_n 1, 68, 0, 0, 0, 0, []), some (.aload_n 0, 69, 0, 0, 0, 0, []), some (.getfield 18, 72, 4, 2, 2, 0, []), none, none, some (.arraylength, 73, 0, 0, 0, 0, []), some (.if_icmp .ge 10, 76, 83, 0, 0, 0, []), none, none, some (.aload_n 0, 77, 0, 0, 0, 0, []), some (.getfield 18, 80, 4, 2, 2, 0, []), none, none, some (.iload_n 1, 81, 0, 0, 0, 0, []), some (.lload_n 2, 82, 0, 0, 0, 0, []), some (.lastore, 83, 0, 0, 0, 0, []), some (.aload_n 0, 84, 0, 0, 0, 0, []), some (.bipush 19, 86, 0, 0, 0, 19, []), none, some (.invokevirtual 84, 89, 39, 2, 1, 0, []), none, none, some (.return_, 90, 0, 0, 0, 0, [])]
def cdX4_readLaw : List (Option AmE) := [some (.aload_n 0, 1, 0, 0, 0, 0, []), some (.dup, 2, 0, 0, 0, 0, []), some (.getfield 42, 5, 4, 5, 0, 0, []), none, none, some (.iconst 1, 6, 0, 0, 0, 1, []), some (.iadd, 7, 0, 0, 0, 0, []), some (.putfield 42, 10, 4, 5, 0, 0, []), none, none, some (.aload_n 0, 11, 0, 0, 0, 0, []), some (.getfield 42, 14, 4, 5, 0, 0, []), none, none, some (.bipush 8, 16, 0, 0, 0, 8, []), none, some (.if_icmp .le 9, 19, 25, 0, 0, 0, []), none, none, some (.aload_n 0, 20, 0, 0, 0, 0, []), some (.iconst 2, 21, 0, 0, 0, 2, []), some (.invokevirtual 80, 24, 42, 2, 1, 0, []), none, none, some (.return_, 25, 0, 0, 0, 0, []), some (.aload_n 0, 26, 0, 0, 0, 0, []), some (.iconst 4, 27, 0, 0, 0, 4, []), some (.invokevirtual 84, 30, 39, 2, 1, 0, []), none, none, some (.aload_n 0, 31, 0, 0, 0, 0, []), some (.invokevirtual 122, 34, 41, 1, 1, 1, []), none, none, some (.istore_n 1, 35, 0, 0, 0, 0, []), some (.aload_n 0, 36, 0, 0, 0, 0, []), some (.bipush 61, 38, 0, 0, 0, 61, []), none, some (.invokevirtual 84, 41, 39, 2, 1, 0, []), none, none, some (.aload_n 0, 42, 0, 0, 0, 0, []), some (.getfield 12, 45, 4, 1, 2, 0, []), none, none, some (.getfield 133, 48, 8, 4, 2, 0, []), none, none, some (.iload_n 1, 49, 0, 0, 0, 0, []), some (.invokevirtual 137, 52, 13, 2, 1, 0, []), none, none, some (.iconst 0, 53, 0, 0, 0, 0, []), some (.istore_n 2, 54, 0, 0, 0, 0, []), some (.iload_n 2, 55, 0, 0, 0, 0, []), some (.iconst 4, 56, 0, 0, 0, 4, []), some (.if_icmp .ge 21, 59, 77, 0, 0, 0, []), none, none, some (.aload_n 0, 60, 0, 0, 0, 0, []), some (.getfield 39, 63, 4, 4, 0, 0, []), none, none, some (.iconst 5, 64, 0, 0, 0, 5, []), some (.if_icmp .ne 13, 67, 77, 0, 0, 0, []), none, none, some (.aload_n 0, 68, 0, 0, 0, 0, []), some (.invokevirtual 142, 71, 35, 1, 1, 0, []), none, none, some (.iinc 2 1, 74, 0, 0, 0, 1, []), none, none, some (.goto (-20), 77, 54, 0, 0, 0, []), none, none, some (.aload_n 0, 78, 0, 0, 0, 0, []), some (.getfield 39, 81, 4, 4, 0, 0, []), none, none, some (.iconst 5, 82, 0, 0, 0, 5, []), some (.if_icmp .ne 8, 85, 90, 0, 0, 0, []), none, none, some (.aload_n 0, 86, 0, 0, 0, 0, []), some (.iconst 2, 87, 0, 0, 0, 2, []), some (.invokevirtual 80, 90, 42, 2, 1, 0, []), none, none, some (.aload_n 0, 91, 0, 0, 0, 0, []), some (.iconst 0, 92, 0, 0, 0, 0, []), some (.invokevirtual 145, 95, 36, 2, 1, 0, []), none, none, some (.aload_n 0, 96, 0, 0, 0, 0, []), some (.getfield 12, 99, 4, 1, 2, 0, []), none, none, some (.getfield 133, 102, 8, 4, 2, 0, []), none, none, some (.iconst 0, 103, 0, 0, 0, 0, []), some (.iconst 0, 104, 0, 0, 0, 0, []), some (.invokevirtual 148, 107, 14, 3, 1, 0, []), none, none, some (.return_, 108, 0, 0, 0, 0, [])]
def cdX4_readIf : List (Option AmE) := [some (.aload_n 0, 1, 0, 0, 0, 0, []), some (.iconst 5, 2, 0, 0, 0, 5, []), some (.invokevirtual 84, 5, 39, 2, 1, 0, []), none, none, some (.aload_n 0, 6, 0, 0, 0, 0, []), some (.iconst 0, 7, 0, 0, 0, 0, []), some (.invokevirtual 145, 10, 36, 2, 1, 0, []), none, none, some (.aload_n 0, 11, 0, 0, 0, 0, []), some (.bipush 60, 13, 0, 0, 0, 60, []), none, some (.invokevirtual 84, 16, 39, 2, 1, 0, []), none, none, some (.aload_n 0, 17, 0, 0, 0, 0, []), some (.iconst 0, 18, 0, 0, 0, 0, []), some (.invokevirtual 145, 21, 36, 2, 1, 0, []), none, none, some (.aload_n 0, 22, 0, 0, 0, 0, []), some (.bipush 6, 24, 0, 0, 0, 6, []), none, some (.invokevirtual 84, 27, 39, 2, 1, 0, []), none, none, some (.aload_n 0, 28, 0, 0, 0, 0, []), some (.getfield 12, 31, 4, 1, 2, 0, []), none, none, some (.getfield 133, 34, 8, 4, 2, 0, []), none, none, some (.getfield 152, 37, 1, 1, 0, 0, []), none, none, some (.istore_n 1, 38, 0, 0, 0, 0, []), some (.aload_n 0, 39, 0, 0, 0, 0, []), some (.getfield 12, 42, 4, 1, 2, 0, []), none, none, some (.getfield 133, 45, 8, 4, 2, 0, []), none, none, some (.iconst 3, 46, 0, 0, 0, 3, []), some (.iconst 0, 47, 0, 0, 0, 0, []), some (.invokevirtual 148, 50, 14, 3, 1, 0, []), none, none, some (.aload_n 0, 51, 0, 0, 0, 0, []), some (.iconst 0, 52, 0, 0, 0, 0, []), some (.invokevirtual 145, 55, 36, 2, 1, 0, []), none, none, some (.aload_n 0, 56, 0, 0, 0, 0, []), some (.bipush 7, 58, 0, 0, 0, 7, []), none, some (.invokevirtual 84, 61, 39, 2, 1, 0, []), none, none, some (.aload_n 0, 62, 0, 0, 0, 0, []), some (.getfield 12, 65, 4, 1, 2, 0, []), none, none, some (.getfield 133, 68, 8, 4, 2, 0, []), none, none, some (.iconst 0, 69, 0, 0, 0, 0, []), some (.iconst 0, 70, 0, 0, 0, 0, []), some (.invokevirtual 148, 73, 14, 3, 1, 0, []), none, none, some (.aload_n 0, 74, 0, 0, 0, 0, []), some (.getfield 12, 77, 4, 1, 2, 0, []), none, none, some (.getfield 133, 80, 8, 4, 2, 0, []), none, none, some (.iload_n 1, 81, 0, 0, 0, 0, []), some (.invokevirtual 155, 84, 15, 2, 1, 0, []), none, none, some (.return_, 85, 0, 0, 0, 0, [])]
def cdX4_readSum : List (Option AmE) := [some (.iconst (-1), 1, 0, 0, 0, (-1), []), some (.istore_n 2, 2, 0, 0, 0, 0, []), some (.aload_n 0, 3, 0, 0, 0, 0, []), some (.iload_n 1, 4, 0, 0, 0, 0, []), some (.invokevirtual 158, 7, 38, 2, 1, 0, []), none, none, some (.iconst 0, 8, 0, 0, 0, 0, []), some (.istore_n 3, 9, 0, 0, 0, 0, []), some (.iload_n 3, 10, 0, 0, 0, 0, []), some (.sipush 400, 13, 0, 0, 0, 400, []), none, none, some (.if_icmp .ge 125, 16, 138, 0, 0, 0, []), none, none, some (.aload_n 0, 17, 0, 0, 0, 0, []), some (.getfield 39, 20, 4, 4, 0, 0, []), none, none, some (.invokestatic 161, 23, 37, 1, 0, 1, []), none, none, some (.ifCond .eq 115, 26, 138, 0, 0, 0, []), none, none, some (.aload_n 0, 27, 0, 0, 0, 0, []), some (.getfield 39, 30, 4, 4, 0, 0, []), none, none, some (.istore 4, 32, 0, 0, 0, 0, []), none, some (.iload 4, 34, 0, 0, 0, 0, []), none, some (.bipush 43, 36, 0, 0, 0, 43, []), none, some (.if_icmp .eq 10, 39, 46, 0, 0, 0, []), none, none, some (.iload 4, 41, 0, 0, 0, 0, []), none, some (.bipush 45, 43, 0, 0, 0, 45, []), none, some (.if_icmp .ne 7, 46, 50, 0, 0, 0, []), none, none, some (.iconst 1, 47, 0, 0, 0, 1, []), some (.goto 4, 50, 51, 0, 0, 0, []), none, none, some (.iconst 0, 51, 0, 0, 0, 0, []), some (.istore 5, 53, 0, 0, 0, 0, []), none, some (.iload 5, 55, 0, 0, 0, 0, []), none, some (.ifCond .eq 20, 58, 75, 0, 0, 0, []), none, none, some (.iload_n 2, 59, 0, 0, 0, 0, []), some (.iconst (-1), 60, 0, 0, 0, (-1), []), some (.if_icmp .eq 15, 63, 75, 0, 0, 0, []), none, none, some (.aload_n 0, 64, 0, 0, 0, 0, []), some (.getfield 12, 67, 4, 1, 2, 0, []), none, none, some (.getfield 133, 70, 8, 4, 2, 0, []), none, none, some (.iload_n 2, 71, 0, 0, 0, 0, []), some (.iconst 0, 72, 0, 0, 0, 0, []), some (.invokevirtual 148, 75, 14, 3, 1, 0, []), none, none, some (.aload_n 0, 76, 0, 0, 0, 0, []), some (.iload 4, 78, 0, 0, 0, 0, []), none, some (.invokevirtual 84, 81, 39, 2, 1, 0, []), none, none, some (.aload_n 0, 82, 0, 0, 0, 0, []), some (.iload_n 1, 83, 0, 0, 0, 0, []), some (.invokevirtual 158, 86, 38, 2, 1, 0, []), none, none, some (.iload 5, 88, 0, 0, 0, 0, []), none, some (.ifCond .eq 19, 91, 107, 0, 0, 0, []), none, none, some (.iload 4, 93, 0, 0, 0, 0, []), none, some (.bipush 43, 95, 0, 0, 0, 43, []), none, some (.if_icmp .ne 7, 98, 102, 0, 0, 0, []), none, none, some (.iconst 4, 99, 0, 0, 0, 4, []), some (.goto 4, 102, 103, 0, 0, 0, []), none, none, some (.iconst 5, 103, 0, 0, 0, 5, []), some (.istore_n 2, 104, 0, 0, 0, 0, []), some (.goto 28, 107, 132, 0, 0, 0, []), none, none, some (.aload_n 0, 108, 0, 0, 0, 0, []), some (.getfield 12, 111, 4, 1, 2, 0, []), none, none, some (.getfield 133, 114, 8, 4, 2, 0, []), none, none, some (.iload 4, 116, 0, 0, 0, 0, []), none, some (.bipush 42, 118, 0, 0, 0, 42, []), none, some (.if_icmp .ne 8, 121, 126, 0, 0, 0, []), none, none, some (.bipush 6, 123, 0, 0, 0, 6, []), none, some (.goto 5, 126, 128, 0, 0, 0, []), none, none, some (.bipush 7, 128, 0, 0, 0, 7, []), none, some (.iconst 0, 129, 0, 0, 0, 0, []), some (.invokevirtual 148, 132, 14, 3, 1, 0, []), none, none, some (.iinc 3 1, 135, 0, 0, 0, 1, []), none, none, some (.goto (-126), 138, 9, 0, 0, 0, []), none, none, some (.iload_n 2, 139, 0, 0, 0, 0, []), some (.iconst (-1), 140, 0, 0, 0, (-1), []), some (.if_icmp .eq 15, 143, 155, 0, 0, 0, []), none, none, some (.aload_n 0, 144, 0, 0, 0, 0, []), some (.getfield 12, 147, 4, 1, 2, 0, []), none, none, some (.getfield 133, 150, 8, 4, 2, 0, []), none, none, some (.iload_n 2, 151, 0, 0, 0, 0, []), some (.iconst 0, 152, 0, 0, 0, 0, []), some (.invokevirtual 148, 155, 14, 3, 1, 0, []), none, none, some (.return_, 156, 0, 0, 0, 0, [])]
def cdX4_isSign : List (Option AmE) := [some (.iload_n 0, 1, 0, 0, 0, 0, []), some (.bipush 43, 3, 0, 0, 0, 43, []), none, some (.if_icmp .eq 21, 6, 24, 0, 0, 0, []), none, none, some (.iload_n 0, 7, 0, 0, 0, 0, []), some (.bipush 45, 9, 0, 0, 0, 45, []), none, some (.if_icmp .eq 15, 12, 24, 0, 0, 0, []), none, none, some (.iload_n 0, 13, 0, 0, 0, 0, []), some (.bipush 42, 15, 0, 0, 0, 42, []), none, some (.if_icmp .eq 9, 18, 24, 0, 0, 0, []), none, none, some (.iload_n 0, 19, 0, 0, 0, 0, []), some (.bipush 47, 21, 0, 0, 0, 47, []), none, some (.if_icmp .ne 7, 24, 28, 0, 0, 0, []), none, none, some (.iconst 1, 25, 0, 0, 0, 1, []), some (.goto 4, 28, 29, 0, 0, 0, []), none, none, some (.iconst 0, 29, 0, 0, 0, 0, []), some (.ireturn, 30, 0, 0, 3, 0, [])]
def cdX4_readUnit : List (Option AmE) := [some (.aload_n 0, 1, 0, 0, 0, 0, []), some (.getfield 39, 4, 4, 4, 0, 0, []), none, none, some (.bipush 12, 6, 0, 0, 0, 12, []), none, some (.isub, 7, 0, 0, 0, 0, []), some (.istore_n 2, 8, 0, 0, 0, 0, []), some (.aload_n 0, 9, 0, 0, 0, 0, []), some (.getfield 39, 12, 4, 4, 0, 0, []), none, none, some (.bipush 20, 14, 0, 0, 0, 20, []), none, some (.if_icmp .ne 35, 17, 49, 0, 0, 0, []), none, none, some (.aload_n 0, 18, 0, 0, 0, 0, []), some (.getfield 12, 21, 4, 1, 2, 0, []), none, none, some (.getfield 133, 24, 8, 4, 2, 0, []), none, none, some (.iconst 1, 25, 0, 0, 0, 1, []), some (.aload_n 0, 26, 0, 0, 0, 0, []), some (.getfield 22, 29, 4, 0, 2, 0, []), none, none, some (.aload_n 0, 30, 0, 0, 0, 0, []), some (.getfield 31, 33, 4, 3, 0, 0, []), none, none, some (.invokevirtual 126, 36, 68, 2, 1, 2, []), none, none, some (.l2i, 37, 0, 0, 0, 0, []), some (.invokevirtual 148, 40, 14, 3, 1, 0, []), none, none, some (.aload_n 0, 41, 0, 0, 0, 0, []), some (.bipush 20, 43, 0, 0, 0, 20, []), none, some (.invokevirtual 84, 46, 39, 2, 1, 0, []), none, none, some (.goto 94, 49, 140, 0, 0, 0, []), none, none, some (.aload_n 0, 50, 0, 0, 0, 0, []), some (.getfield 39, 53, 4, 4, 0, 0, []), none, none, some (.bipush 12, 55, 0, 0, 0, 12, []), none, some (.if_icmp .lt 35, 58, 90, 0, 0, 0, []), none, none, some (.aload_n 0, 59, 0, 0, 0, 0, []), some (.getfield 39, 62, 4, 4, 0, 0, []), none, none, some (.bipush 18, 64, 0, 0, 0, 18, []), none, some (.if_icmp .gt 26, 67, 90, 0, 0, 0, []), none, none, some (.aload_n 0, 68, 0, 0, 0, 0, []), some (.aload_n 0, 69, 0, 0, 0, 0, []), some (.getfield 39, 72, 4, 4, 0, 0, []), none, none, some (.invokevirtual 84, 75, 39, 2, 1, 0, []), none, none, some (.aload_n 0, 76, 0, 0, 0, 0, []), some (.getfield 12, 79, 4, 1, 2, 0, []), none, none, some (.getfield 133, 82, 8, 4, 2, 0, []), none, none, some (.iconst 2, 83, 0, 0, 0, 2, []), some (.iload_n 2, 84, 0, 0, 0, 0, []), some (.invokevirtual 148, 87, 14, 3, 1, 0, []), none, none, some (.goto 53, 90, 140, 0, 0, 0, []), none, none, some (.aload_n 0, 91, 0, 0, 0, 0, []), some (.getfield 39, 94, 4, 4, 0, 0, []), none, none, some (.bipush 40, 96, 0, 0, 0, 40, []), none, some (.if_icmp .eq 11, 99, 107, 0, 0, 0, []), none, none, some (.aload_n 0, 100, 0, 0, 0, 0, []), some (.iconst 1, 101, 0, 0, 0, 1, []), some (.invokevirtual 80, 104, 42, 2, 1, 0, []), none, none, some (.goto 36, 107, 140, 0, 0, 0, []), none, none, some (.iload_n 1, 108, 0, 0, 0, 0, []), some (.bipush 6, 110, 0, 0, 0, 6, []), none, some (.if_icmp .lt 11, 113, 121, 0, 0, 0, []), none, none, some (.aload_n 0, 114, 0, 0, 0, 0, []), some (.iconst 2, 115, 0, 0, 0, 2, []), some (.invokevirtual 80, 118, 42, 2, 1, 0, []), none, none, some (.goto 22, 121, 140, 0, 0, 0, []), none, none, some (.aload_n 0, 122, 0, 0, 0, 0, []), some (.bipush 40, 124, 0, 0, 0, 40, []), none, some (.invokevirtual 84, 127, 39, 2, 1, 0, []), none, none, some (.aload_n 0, 128, 0, 0, 0, 0, []), some (.iload_n 1, 129, 0, 0, 0, 0, []), some (.iconst 1, 130, 0, 0, 0, 1, []), some (.iadd, 131, 0, 0, 0, 0, []), some (.invokevirtual 145, 134, 36, 2, 1, 0, []), none, none, some (.aload_n 0, 135, 0, 0, 0, 0, []), some (.bipush 41, 137, 0, 0, 0, 41, []), none, some (.invokevirtual 84, 140, 39, 2, 1, 0, []), none, none, some (.return_, 141, 0, 0, 0, 0, [])]
def cdX4_take : List (Option AmE) := [some (.aload_n 0, 1, 0, 0, 0, 0, []), some (.getfield 39, 4, 4, 4, 0, 0, []), none, none, some (.iload_n 1, 5, 0, 0, 0, 0, []), some (.if_icmp .eq 11, 8, 16, 0, 0, 0, []), none, none, some (.aload_n 0, 9, 0, 0, 0, 0, []), some (.iconst 1, 10, 0, 0, 0, 1, []), some (.invokevirtual 80, 13, 42, 2, 1, 0, []), none, none, some (.goto 46, 16, 59, 0, 0, 0, []), none, none, some (.aload_n 0, 17, 0, 0, 0, 0, []), some (.getfield 31, 20, 4, 3, 0, 0, []), none, none, some (.sipush 400, 23, 0, 0, 0, 400, []), none, none, some (.if_icmp .lt 11, 26, 34, 0, 0, 0, []), none, none, some (.aload_n 0, 27, 0, 0, 0, 0, []), some (.iconst 2, 28, 0, 0, 0, 2, []), some (.invokevirtual 80, 31, 42, 2, 1, 0, []), none, none, some (.goto 28, 34, 59, 0, 0, 0, []), none, none, some (.aload_n 0, 35, 0, 0, 0, 0, []), some (.dup, 36, 0, 0, 0, 0, []), some (.getfield 31, 39, 4, 3, 0, 0, []), none, none, some (.iconst 1, 40, 0, 0, 0, 1, []), some (.iadd, 41, 0, 0, 0, 0, []), some (.putfield 31, 44, 4, 3, 0, 0, []), none, none, some (.aload_n 0, 45, 0, 0, 0, 0, []), some (.aload_n 0, 46, 0, 0, 0, 0, []), some (.getfield 22, 49, 4, 0, 2, 0, []), none, none, some (.aload_n 0, 50, 0, 0, 0, 0, []), some (.getfield 31, 53, 4, 3, 0, 0, []), none, none, some (.invokevirtual 35, 56, 67, 2, 1, 1, []), none, none, some (.putfield 39, 59, 4, 4, 0, 0, []), none, none, some (.return_, 60, 0, 0, 0, 0, [])]
def cdX4_takeInt : List (Option AmE) := [some (.aload_n 0, 1, 0, 0, 0, 0, []), some (.getfield 22, 4, 4, 0, 2, 0, []), none, none, some (.aload_n 0, 5, 0, 0, 0, 0, []), some (.getfield 31, 8, 4, 3, 0, 0, []), none, none, some (.invokevirtual 126, 11, 68, 2, 1, 2, []), none, none, some (.l2i, 12, 0, 0, 0, 0, []), some (.istore_n 3, 13, 0, 0, 0, 0, []), some (.aload_n 0, 14, 0, 0, 0, 0, []), some (.getfield 39, 17, 4, 4, 0, 0, []), none, none, some (.bipush 20, 19, 0, 0, 0, 20, []), none, some (.if_icmp .ne 18, 22, 37, 0, 0, 0, []), none, none, some (.iload_n 3, 23, 0, 0, 0, 0, []), some (.iload_n 1, 24, 0, 0, 0, 0, []), some (.if_icmp .lt 8, 27, 32, 0, 0, 0, []), none, none, some (.iload_n 3, 28, 0, 0, 0, 0, []), some (.iload_n 2, 29, 0, 0, 0, 0, []), some (.if_icmp .le 8, 32, 37, 0, 0, 0, []), none, none, some (.aload_n 0, 33, 0, 0, 0, 0, []), some (.iconst 5, 34, 0, 0, 0, 5, []), some (.invokevirtual 130, 37, 43, 2, 1, 0, []), none, none, some (.aload_n 0, 38, 0, 0, 0, 0, []), some (.bipush 20, 40, 0, 0, 0, 20, []), none, some (.invokevirtual 84, 43, 39, 2, 1, 0, []), none, none, some (.iload_n 3, 44, 0, 0, 0, 0, []), some (.ireturn, 45, 0, 0, 0, 0, [])]
def cdX4_takeVow : List (Option AmE) := [some (.aload_n 0, 1, 0, 0, 0, 0, []), some (.getfield 39, 4, 4, 4, 0, 0, []), none, none, some (.bipush 8, 6, 0, 0, 0, 8, []), none, some (.isub, 7, 0, 0, 0, 0, []), some (.istore_n 1, 8, 0, 0, 0, 0, []), some (.aload_n 0, 9, 0, 0, 0, 0, []), some (.getfield 39, 12, 4, 4, 0, 0, []), none, none, some (.bipush 8, 14, 0, 0, 0, 8, []), none, some (.if_icmp .lt 12, 17, 26, 0, 0, 0, []), none, none, some (.aload_n 0, 18, 0, 0, 0, 0, []), some (.getfield 39, 21, 4, 4, 0, 0, []), none, none, some (.bipush 11, 23, 0, 0, 0, 11, []), none, some (.if_icmp .le 10, 26, 33, 0, 0, 0, []), none, none, some (.aload_n 0, 27, 0, 0, 0, 0, []), some (.iconst 1, 28, 0, 0, 0, 1, []), some (.invokevirtual 80, 31, 42, 2, 1, 0, []), none, none, some (.iconst 0, 32, 0, 0, 0, 0, []), some (.ireturn, 33, 0, 0, 0, 0, []), some (.aload_n 0, 34, 0, 0, 0, 0, []), some (.aload_n 0, 35, 0, 0, 0, 0, []), some (.getfield 39, 38, 4, 4, 0, 0, []), none, none, some (.invokevirtual 84, 41, 39, 2, 1, 0, []), none, none, some (.iload_n 1, 42, 0, 0, 0, 0, []), some (.ireturn, 43, 0, 0, 0, 0, [])]
def cdX4_fail : List (Option AmE) := [some (.aload_n 0, 1, 0, 0, 0, 0, []), some (.getfield 45, 4, 4, 6, 0, 0, []), none, none, some (.ifCond .ne 22, 7, 26, 0, 0, 0, []), none, none, some (.aload_n 0, 8, 0, 0, 0, 0, []), some (.iload_n 1, 9, 0, 0, 0, 0, []), some (.putfield 45, 12, 4, 6, 0, 0, []), none, none, some (.aload_n 0, 13, 0, 0, 0, 0, []), some (.aload_n 0, 14, 0, 0, 0, 0, []), some (.getfield 31, 17, 4, 3, 0, 0, []), none, none, some (.putfield 87, 20, 4, 7, 0, 0, []), none, none, some (.aload_n 0, 21, 0, 0, 0, 0, []), some (.bipush 22, 23, 0, 0, 0, 22, []), none, some (.putfield 39, 26, 4, 4, 0, 0, []), none, none, some (.return_, 27, 0, 0, 0, 0, [])]
def cdX4_failLater : List (Option AmE) := [some (.aload_n 0, 1, 0, 0, 0, 0, []), some (.getfield 48, 4, 4, 8, 0, 0, []), none, none, some (.ifCond .ne 16, 7, 20, 0, 0, 0, []), none, none, some (.aload_n 0, 8, 0, 0, 0, 0, []), some (.iload_n 1, 9, 0, 0, 0, 0, []), some (.putfield 48, 12, 4, 8, 0, 0, []), none, none, some (.aload_n 0, 13, 0, 0, 0, 0, []), some (.aload_n 0, 14, 0, 0, 0, 0, []), some (.getfield 31, 17, 4, 3, 0, 0, []), none, none, some (.putfield 90, 20, 4, 9, 0, 0, []), none, none, some (.return_, 21, 0, 0, 0, 0, [])]
def cdX5_start : List (Option AmE) := [some (.aload_n 0, 1, 0, 0, 0, 0, []), some (.getfield 12, 4, 5, 1, 2, 0, []), none, none, some (.aload_n 0, 5, 0, 0, 0, 0, []), some (.getfield 31, 8, 5, 0, 2, 0, []), none, none, some (.invokevirtual 35, 11, 52, 2, 1, 0, []), none, none, some (.aload_n 0, 12, 0, 0, 0, 0, []), some (.getfield 18, 15, 5, 2, 2, 0, []), none, none, some (.invokestatic 39, 18, 145, 1, 0, 0, []), none, none, some (.aload_n 0, 19, 0, 0, 0, 0, []), some (.getfield 22, 22, 5, 3, 2, 0, []), none, none, some (.invokestatic 39, 25, 145, 1, 0, 0, []), none, none, some (.aload_n 0, 26, 0, 0, 0, 0, []), some (.getfield 25, 29, 5, 4, 2, 0, []), none, none, some (.invokestatic 39, 32, 145, 1, 0, 0, []), none, none, some (.aload_n 0, 33, 0, 0, 0, 0, []), some (.getfield 28, 36, 5, 5, 2, 0, []), none, none, some (.invokestatic 39, 39, 145, 1, 0, 0, []), none, none, some (.aload_n 0, 40, 0, 0, 0, 0, []), some (.aload_n 0, 41, 0, 0, 0, 0, []), some (.getfield 31, 44, 5, 0, 2, 0, []), none, none, some (.getfield 43, 47, 8, 7, 0, 0, []), none, none, some (.putfield 49, 50, 5, 6, 0, 0, []), none, none, some (.aload_n 0, 51, 0, 0, 0, 0, []), some (.iconst 0, 52, 0, 0, 0, 0, []), some (.putfield 50, 55, 5, 7, 0, 0, []), none, none, some (.return_, 56, 0, 0, 0, 0, [])]
def cdX5_copyFrom : List (Option AmE) := [some (.aload_n 0, 1, 0, 0, 0, 0, []), some (.getfield 12, 4, 5, 1, 2, 0, []), none, none, some (.aload_n 1, 5, 0, 0, 0, 0, []), some (.getfield 12, 8, 5, 1, 2, 0, []), none, none, some (.invokevirtual 53, 11, 53, 2, 1, 0, []), none, none, some (.aload_n 1, 12, 0, 0, 0, 0, []), some (.getfield 18, 15, 5, 2, 2, 0, []), none, none, some (.aload_n 0, 16, 0, 0, 0, 0, []), some (.getfield 18, 19, 5, 2, 2, 0, []), none, none, some (.invokestatic 57, 22, 144, 2, 0, 0, []), none, none, some (.aload_n 1, 23, 0, 0, 0, 0, []), some (.getfield 22, 26, 5, 3, 2, 0, []), none, none, some (.aload_n 0, 27, 0, 0, 0, 0, []), some (.getfield 22, 30, 5, 3, 2, 0, []), none, none, some (.invokestatic 57, 33, 144, 2, 0, 0, []), none, none, some (.aload_n 1, 34, 0, 0, 0, 0, []), some (.getfield 25, 37, 5, 4, 2, 0, []), none, none, some (.aload_n 0, 38, 0, 0, 0, 0, []), some (.getfield 25, 41, 5, 4, 2, 0, []), none, none, some (.invokestatic 57, 44, 144, 2, 0, 0, []), none, none, some (.aload_n 1, 45, 0, 0, 0, 0, []), some (.getfield 28, 48, 5, 5, 2, 0, []), none, none, some (.aload_n 0, 49, 0, 0, 0, 0, []), some (.getfield 28, 52, 5, 5, 2, 0, []), none, none, some (.invokestatic 57, 55, 144, 2, 0, 0, []), none, none, some (.aload_n 0, 56, 0, 0, 0, 0, []), some (.aload_n 1, 57, 0, 0, 0, 0, []), some (.getfield 49, 60, 5, 6, 0, 0, []), none, none, some (.putfield 49, 63, 5, 6, 0, 0, []), none, none, some (.aload_n 0, 64, 0, 0, 0, 0, []), some (.aload_n 1, 65, 0, 0, 0, 0, []), some (.getfield 50, 68, 5, 7, 0, 0, []), none, none, some (.putfield 50, 71, 5, 7, 0, 0, []), none, none, some (.return_, 72, 0, 0, 0, 0, [])]
def cdX5_settle : List (Option AmE) := [some (.aload_n 0, 1, 0, 0, 0, 0, []), some (.getfield 18, 4, 5, 2, 2, 0, []), none, none, some (.iload_n 1, 5, 0, 0, 0, 0, []), some (.iload_n 3, 6, 0, 0, 0, 0, []), some (.invokestatic 61, 9, 143, 3, 0, 0, []), none, none, some (.aload_n 0, 10, 0, 0, 0, 0, []), some (.getfield 22, 13, 5, 3, 2, 0, []), none, none, some (.iload_n 1, 14, 0, 0, 0, 0, []), some (.aload_n 0, 15, 0, 0, 0, 0, []), some (.getfield 22, 18, 5, 3, 2, 0, []), none, none, some (.iload_n 1, 19, 0, 0, 0, 0, []), some (.invokestatic 65, 22, 142, 2, 0, 1, []), none, none, some (.iload 4, 24, 0, 0, 0, 0, []), none, some (.iadd, 25, 0, 0, 0, 0, []), some (.invokestatic 61, 28, 143, 3, 0, 0, []), none, none, some (.aload_n 0, 29, 0, 0, 0, 0, []), some (.getfield 25, 32, 5, 4, 2, 0, []), none, none, some (.iload_n 1, 33, 0, 0, 0, 0, []), some (.aload_n 0, 34, 0, 0, 0, 0, []), some (.getfield 25, 37, 5, 4, 2, 0, []), none, none, some (.iload_n 1, 38, 0, 0, 0, 0, []), some (.invokestatic 65, 41, 142, 2, 0, 1, []), none, none, some (.iload_n 2, 42, 0, 0, 0, 0, []), some (.ifCond .ne 7, 45, 49, 0, 0, 0, []), none, none, some (.iconst 1, 46, 0, 0, 0, 1, []), some (.goto 4, 49, 50, 0, 0, 0, []), none, none, some (.iconst 0, 50, 0, 0, 0, 0, []), some (.iadd, 51, 0, 0, 0, 0, []), some (.invokestatic 61, 54, 143, 3, 0, 0, []), none, none, some (.aload_n 0, 55, 0, 0, 0, 0, []), some (.getfield 28, 58, 5, 5, 2, 0, []), none, none, some (.iload_n 1, 59, 0, 0, 0, 0, []), some (.iload_n 2, 60, 0, 0, 0, 0, []), some (.iconst 2, 61, 0, 0, 0, 2, []), some (.if_icmp .ne 7, 64, 68, 0, 0, 0, []), none, none, some (.iconst 1, 65, 0, 0, 0, 1, []), some (.goto 4, 68, 69, 0, 0, 0, []), none, none, some (.iconst 0, 69, 0, 0, 0, 0, []), some (.invokestatic 61, 72, 143, 3, 0, 0, []), none, none, some (.return_, 73, 0, 0, 0, 0, [])]
def cdX5_passNight : List (Option AmE) := [some (.aload_n 0, 1, 0, 0, 0, 0, []), some (.getfield 12, 4, 5, 1, 2, 0, []), none, none, some (.aload_n 0, 5, 0, 0, 0, 0, []), some (.getfield 31, 8, 5, 0, 2, 0, []), none, none, some (.aload_n 0, 9, 0, 0, 0, 0, []), some (.getfield 50, 12, 5, 7, 0, 0, []), none, none, some (.invokevirtual 69, 15, 84, 2, 1, 1, []), none, none, some (.invokevirtual 73, 18, 61, 2, 1, 1, []), none, none, some (.pop, 19, 0, 0, 0, 0, []), some (.aload_n 0, 20, 0, 0, 0, 0, []), some (.sipush 9999, 23, 0, 0, 0, 9999, []), none, none, some (.aload_n 0, 24, 0, 0, 0, 0, []), some (.getfield 49, 27, 5, 6, 0, 0, []), none, none, some (.aload_n 0, 28, 0, 0, 0, 0, []), some (.getfield 31, 31, 5, 0, 2, 0, []), none, none, some (.getfield 76, 34, 8, 8, 0, 0, []), none, none, some (.iadd, 35, 0, 0, 0, 0, []), some (.invokestatic 79, 38, 0, 0, 6, 0, []), none, none, some (.putfield 49, 41, 5, 6, 0, 0, []), none, none, some (.aload_n 0, 42, 0, 0, 0, 0, []), some (.dup, 43, 0, 0, 0, 0, []), some (.getfield 50, 46, 5, 7, 0, 0, []), none, none, some (.iconst 1, 47, 0, 0, 0, 1, []), some (.iadd, 48, 0, 0, 0, 0, []), some (.putfield 50, 51, 5, 7, 0, 0, []), none, none, some (.return_, 52, 0, 0, 0, 0, [])]
def cdX5_isOnGround : List (Option AmE) := [some (.aload_n 0, 1, 0, 0, 0, 0, []), some (.getfield 31, 4, 5, 0, 2, 0, []), none, none, some (.iload_n 1, 5, 0, 0, 0, 0, []), some (.invokevirtual 85, 8, 83, 2, 1, 1, []), none, none, some (.ifCond .eq 18, 11, 26, 0, 0, 0, []), none, none, some (.aload_n 0, 12, 0, 0, 0, 0, []), some (.getfield 18, 15, 5, 2, 2, 0, []), none, none, some (.iload_n 1, 16, 0, 0, 0, 0, []), some (.invokestatic 65, 19, 142, 2, 0, 1, []), none, none, some (.ifCond .ne 7, 22, 26, 0, 0, 0, []), none, none, some (.iconst 1, 23, 0, 0, 0, 1, []), some (.goto 4, 26, 27, 0, 0, 0, []), none, none, some (.iconst 0, 27, 0, 0, 0, 0, []), some (.ireturn, 28, 0, 0, 3, 0, [])]
def cdX5_grounded : List (Option AmE) := [some (.iconst 0, 1, 0, 0, 0, 0, []), some (.istore_n 1, 2, 0, 0, 0, 0, []), some (.iconst 0, 3, 0, 0, 0, 0, []), some (.istore_n 2, 4, 0, 0, 0, 0, []), some (.iload_n 2, 5, 0, 0, 0, 0, []), some (.bipush 8, 7, 0, 0, 0, 8, []), none, some (.if_icmp .ge 27, 10, 34, 0, 0, 0, []), none, none, some (.iload_n 1, 11, 0, 0, 0, 0, []), some (.aload_n 0, 12, 0, 0, 0, 0, []), some (.iload_n 2, 13, 0, 0, 0, 0, []), some (.invokevirtual 89, 16, 48, 2, 1, 1, []), none, none, some (.ifCond .eq 9, 19, 25, 0, 0, 0, []), none, none, some (.iconst 1, 20, 0, 0, 0, 1, []), some (.iload_n 2, 21, 0, 0, 0, 0, []), some (.ishl, 22, 0, 0, 0, 0, []), some (.goto 4, 25, 26, 0, 0, 0, []), none, none, some (.iconst 0, 26, 0, 0, 0, 0, []), some (.ior, 27, 0, 0, 0, 0, []), some (.istore_n 1, 28, 0, 0, 0, 0, []), some (.iinc 2 1, 31, 0, 0, 0, 1, []), none, none, some (.goto (-27), 34, 4, 0, 0, 0, []), none, none, some (.iload_n 1, 35, 0, 0, 0, 0, []), some (.ireturn, 36, 0, 0, 0, 0, [])]
def cdX5_standingOn : List (Option AmE) := [some (.iconst 0, 1, 0, 0, 0, 0, []), some (.istore_n 2, 2, 0, 0, 0, 0, []), some (.iconst 0, 3, 0, 0, 0, 0, []), some (.istore_n 3, 4, 0, 0, 0, 0, []), some (.iload_n 3, 5, 0, 0, 0, 0, []), some (.aload_n 0, 6, 0, 0, 0, 0, []), some (.getfield 31, 9, 5, 0, 2, 0, []), none, none, some (.getfield 92, 12, 8, 9, 0, 0, []), none, none, some (.if_icmp .ge 29, 15, 41, 0, 0, 0, []), none, none, some (.iload_n 2, 16, 0, 0, 0, 0, []), some (.aload_n 0, 17, 0, 0, 0, 0, []), some (.getfield 18, 20, 5, 2, 2, 0, []), none, none, some (.iload_n 3, 21, 0, 0, 0, 0, []), some (.invokestatic 65, 24, 142, 2, 0, 1, []), none, none, some (.iload_n 1, 25, 0, 0, 0, 0, []), some (.if_icmp .ne 7, 28, 32, 0, 0, 0, []), none, none, some (.iconst 1, 29, 0, 0, 0, 1, []), some (.goto 4, 32, 33, 0, 0, 0, []), none, none, some (.iconst 0, 33, 0, 0, 0, 0, []), some (.iadd, 34, 0, 0, 0, 0, []), some (.istore_n 2, 35, 0, 0, 0, 0, []), some (.iinc 3 1, 38, 0, 0, 0, 1, []), none, none, some (.goto (-34), 41, 4, 0, 0, 0, []), none, none, some (.iload_n 2, 42, 0, 0, 0, 0, []), some (.ireturn, 43, 0, 0, 0, 0, [])]
def cdX5_stuckOnes : List (Option AmE) := [some (.iconst 0, 1, 0, 0, 0, 0, []), some (.istore_n 1, 2, 0, 0, 0, 0, []), some (.iconst 0, 3, 0, 0, 0, 0, []), some (.istore_n 2, 4, 0, 0, 0, 0, []), some (.iload_n 2, 5, 0, 0, 0, 0, []), some (.aload_n 0, 6, 0, 0, 0, 0, []), some (.getfield 31, 9, 5, 0, 2, 0, []), none, none, some (.getfield 92, 12, 8, 9, 0, 0, []), none, none, some (.if_icmp .ge 20, 15, 32, 0, 0, 0, []), none, none, some (.iload_n 1, 16, 0, 0, 0, 0, []), some (.aload_n 0, 17, 0, 0, 0, 0, []), some (.getfield 28, 20, 5, 5, 2, 0, []), none, none, some (.iload_n 2, 21, 0, 0, 0, 0, []), some (.invokestatic 65, 24, 142, 2, 0, 1, []), none, none, some (.iadd, 25, 0, 0, 0, 0, []), some (.istore_n 1, 26, 0, 0, 0, 0, []), some (.iinc 2 1, 29, 0, 0, 0, 1, []), none, none, some (.goto (-25), 32, 4, 0, 0, 0, []), none, none, some (.iload_n 1, 33, 0, 0, 0, 0, []), some (.ireturn, 34, 0, 0, 0, 0, [])]
def cdX6_build : List (Option AmE) := [some (.aload_n 0, 1, 0, 0, 0, 0, []), some (.aload_n 1, 2, 0, 0, 0, 0, []), some (.getfield 18, 5, 8, 5, 0, 0, []), none, none, some (.putfield 24, 8, 6, 2, 0, 0, []), none, none, some (.aload_n 1, 9, 0, 0, 0, 0, []), some (.getfield 25, 12, 8, 0, 2, 0, []), none, none, some (.aload_n 0, 13, 0, 0, 0, 0, []), some (.getfield 9, 16, 6, 0, 2, 0, []), none, none, some (.invokestatic 26, 19, 144, 2, 0, 0, []), none, none, some (.aload_n 0, 20, 0, 0, 0, 0, []), some (.getfield 15, 23, 6, 1, 2, 0, []), none, none, some (.invokestatic 30, 26, 145, 1, 0, 0, []), none, none, some (.aload_n 0, 27, 0, 0, 0, 0, []), some (.iconst 0, 28, 0, 0, 0, 0, []), some (.putfield 34, 31, 6, 3, 0, 0, []), none, none, some (.iconst 1, 32, 0, 0, 0, 1, []), some (.istore_n 2, 33, 0, 0, 0, 0, []), some (.iload_n 2, 34, 0, 0, 0, 0, []), some (.aload_n 0, 35, 0, 0, 0, 0, []), some (.getfield 24, 38, 6, 2, 0, 0, []), none, none, some (.if_icmp .gt 34, 41, 72, 0, 0, 0, []), none, none, some (.aload_n 0, 42, 0, 0, 0, 0, []), some (.dup, 43, 0, 0, 0, 0, []), some (.getfield 34, 46, 6, 3, 0, 0, []), none, none, some (.aload_n 0, 47, 0, 0, 0, 0, []), some (.getfield 9, 50, 6, 0, 2, 0, []), none, none, some (.iload_n 2, 51, 0, 0, 0, 0, []), some (.invokestatic 37, 54, 142, 2, 0, 1, []), none, none, some (.ifCond .le 7, 57, 61, 0, 0, 0, []), none, none, some (.iconst 0, 58, 0, 0, 0, 0, []), some (.goto 4, 61, 62, 0, 0, 0, []), none, none, some (.iconst 1, 62, 0, 0, 0, 1, []), some (.iadd, 63, 0, 0, 0, 0, []), some (.putfield 34, 66, 6, 3, 0, 0, []), none, none, some (.iinc 2 1, 69, 0, 0, 0, 1, []), none, none, some (.goto (-36), 72, 33, 0, 0, 0, []), none, none, some (.return_, 73, 0, 0, 0, 0, [])]
def cdX6_copyFrom : List (Option AmE) := [some (.aload_n 1, 1, 0, 0, 0, 0, []), some (.getfield 9, 4, 6, 0, 2, 0, []), none, none, some (.aload_n 0, 5, 0, 0, 0, 0, []), some (.getfield 9, 8, 6, 0, 2, 0, []), none, none, some (.invokestatic 26, 11, 144, 2, 0, 0, []), none, none, some (.aload_n 1, 12, 0, 0, 0, 0, []), some (.getfield 15, 15, 6, 1, 2, 0, []), none, none, some (.aload_n 0, 16, 0, 0, 0, 0, []), some (.getfield 15, 19, 6, 1, 2, 0, []), none, none, some (.invokestatic 26, 22, 144, 2, 0, 0, []), none, none, some (.aload_n 0, 23, 0, 0, 0, 0, []), some (.aload_n 1, 24, 0, 0, 0, 0, []), some (.getfield 24, 27, 6, 2, 0, 0, []), none, none, some (.putfield 24, 30, 6, 2, 0, 0, []), none, none, some (.aload_n 0, 31, 0, 0, 0, 0, []), some (.aload_n 1, 32, 0, 0, 0, 0, []), some (.getfield 34, 35, 6, 3, 0, 0, []), none, none, some (.putfield 34, 38, 6, 3, 0, 0, []), none, none, some (.return_, 39, 0, 0, 0, 0, [])]
def cdX6_top : List (Option AmE) := [some (.aload_n 0, 1, 0, 0, 0, 0, []), some (.getfield 24, 4, 6, 2, 0, 0, []), none, none, some (.iconst 1, 5, 0, 0, 0, 1, []), some (.iadd, 6, 0, 0, 0, 0, []), some (.ireturn, 7, 0, 0, 0, 0, [])]
def cdX6_isStep : List (Option AmE) := [some (.iload_n 1, 1, 0, 0, 0, 0, []), some (.iconst 1, 2, 0, 0, 0, 1, []), some (.if_icmp .lt 15, 5, 17, 0, 0, 0, []), none, none, some (.iload_n 1, 6, 0, 0, 0, 0, []), some (.aload_n 0, 7, 0, 0, 0, 0, []), some (.getfield 24, 10, 6, 2, 0, 0, []), none, none, some (.if_icmp .gt 7, 13, 17, 0, 0, 0, []), none, none, some (.iconst 1, 14, 0, 0, 0, 1, []), some (.goto 4, 17, 18, 0, 0, 0, []), none, none, some (.iconst 0, 18, 0, 0, 0, 0, []), some (.ireturn, 19, 0, 0, 3, 0, [])]
def cdX6_isThere : List (Option AmE) := [some (.iload_n 1, 1, 0, 0, 0, 0, []), some (.ifCond .eq 29, 4, 30, 0, 0, 0, []), none, none, some (.iload_n 1, 5, 0, 0, 0, 0, []), some (.aload_n 0, 6, 0, 0, 0, 0, []), some (.getfield 24, 9, 6, 2, 0, 0, []), none, none, some (.iconst 1, 10, 0, 0, 0, 1, []), some (.iadd, 11, 0, 0, 0, 0, []), some (.if_icmp .eq 19, 14, 30, 0, 0, 0, []), none, none, some (.aload_n 0, 15, 0, 0, 0, 0, []), some (.iload_n 1, 16, 0, 0, 0, 0, []), some (.invokevirtual 41, 19, 55, 2, 1, 1, []), none, none, some (.ifCond .eq 15, 22, 34, 0, 0, 0, []), none, none, some (.aload_n 0, 23, 0, 0, 0, 0, []), some (.iload_n 1, 24, 0, 0, 0, 0, []), some (.invokevirtual 45, 27, 57, 2, 1, 1, []), none, none, some (.ifCond .le 7, 30, 34, 0, 0, 0, []), none, none, some (.iconst 1, 31, 0, 0, 0, 1, []), some (.goto 4, 34, 35, 0, 0, 0, []), none, none, some (.iconst 0, 35, 0, 0, 0, 0, []), some (.ireturn, 36, 0, 0, 3, 0, [])]
def cdX6_thickAt : List (Option AmE) := [some (.iload_n 1, 1, 0, 0, 0, 0, []), some (.ifCond .lt 21, 4, 22, 0, 0, 0, []), none, none, some (.iload_n 1, 5, 0, 0, 0, 0, []), some (.aload_n 0, 6, 0, 0, 0, 0, []), some (.getfield 9, 9, 6, 0, 2, 0, []), none, none, some (.arraylength, 10, 0, 0, 0, 0, []), some (.if_icmp .ge 12, 13, 22, 0, 0, 0, []), none, none, some (.aload_n 0, 14, 0, 0, 0, 0, []), some (.getfield 9, 17, 6, 0, 2, 0, []), none, none, some (.iload_n 1, 18, 0, 0, 0, 0, []), some (.iaload, 19, 0, 0, 0, 0, []), some (.goto 4, 22, 23, 0, 0, 0, []), none, none, some (.iconst 0, 23, 0, 0, 0, 0, []), some (.ireturn, 24, 0, 0, 0, 0, [])]
def cdX6_borneAt : List (Option AmE) := [some (.aload_n 0, 1, 0, 0, 0, 0, []), some (.getfield 15, 4, 6, 1, 2, 0, []), none, none, some (.iload_n 1, 5, 0, 0, 0, 0, []), some (.invokestatic 37, 8, 142, 2, 0, 1, []), none, none, some (.ireturn, 9, 0, 0, 0, 0, [])]
def cdX6_bear : List (Option AmE) := [some (.aload_n 0, 1, 0, 0, 0, 0, []), some (.getfield 15, 4, 6, 1, 2, 0, []), none, none, some (.iload_n 1, 5, 0, 0, 0, 0, []), some (.aload_n 0, 6, 0, 0, 0, 0, []), some (.getfield 15, 9, 6, 1, 2, 0, []), none, none, some (.iload_n 1, 10, 0, 0, 0, 0, []), some (.invokestatic 37, 13, 142, 2, 0, 1, []), none, none, some (.iconst 1, 14, 0, 0, 0, 1, []), some (.iadd, 15, 0, 0, 0, 0, []), some (.invokestatic 49, 18, 143, 3, 0, 0, []), none, none, some (.return_, 19, 0, 0, 0, 0, [])]
def cdX6_setThick : List (Option AmE) := [some (.aload_n 0, 1, 0, 0, 0, 0, []), some (.dup, 2, 0, 0, 0, 0, []), some (.getfield 34, 5, 6, 3, 0, 0, []), none, none, some (.aload_n 0, 6, 0, 0, 0, 0, []), some (.iload_n 1, 7, 0, 0, 0, 0, []), some (.invokevirtual 45, 10, 57, 2, 1, 1, []), none, none, some (.ifCond .le 7, 13, 17, 0, 0, 0, []), none, none, some (.iconst 1, 14, 0, 0, 0, 1, []), some (.goto 4, 17, 18, 0, 0, 0, []), none, none, some (.iconst 0, 18, 0, 0, 0, 0, []), some (.iload_n 2, 19, 0, 0, 0, 0, []), some (.ifCond .le 7, 22, 26, 0, 0, 0, []), none, none, some (.iconst 1, 23, 0, 0, 0, 1, []), some (.goto 4, 26, 27, 0, 0, 0, []), none, none, some (.iconst 0, 27, 0, 0, 0, 0, []), some (.isub, 28, 0, 0, 0, 0, []), some (.iadd, 29, 0, 0, 0, 0, []), some (.putfield 34, 32, 6, 3, 0, 0, []), none, none, some (.aload_n 0, 33, 0, 0, 0, 0, []), some (.getfield 9, 36, 6, 0, 2, 0, []), none, none, some (.iload_n 1, 37, 0, 0, 0, 0, []), some (.iload_n 2, 38, 0, 0, 0, 0, []), some (.invokestatic 49, 41, 143, 3, 0, 0, []), none, none, some (.return_, 42, 0, 0, 0, 0, [])]
def cdX6_rainOn : List (Option AmE) := [some (.iconst (-1), 1, 0, 0, 0, (-1), []), some (.istore_n 2, 2, 0, 0, 0, 0, []), some (.iconst 1, 3, 0, 0, 0, 1, []), some (.istore_n 3, 4, 0, 0, 0, 0, []), some (.iload_n 3, 5, 0, 0, 0, 0, []), some (.aload_n 0, 6, 0, 0, 0, 0, []), some (.getfield 24, 9, 6, 2, 0, 0, []), none, none, some (.if_icmp .gt 49, 12, 58, 0, 0, 0, []), none, none, some (.aload_n 0, 13, 0, 0, 0, 0, []), some (.iload_n 3, 14, 0, 0, 0, 0, []), some (.invokevirtual 45, 17, 57, 2, 1, 1, []), none, none, some (.istore 4, 19, 0, 0, 0, 0, []), none, some (.aload_n 0, 20, 0, 0, 0, 0, []), some (.iload_n 3, 21, 0, 0, 0, 0, []), some (.iconst 0, 22, 0, 0, 0, 0, []), some (.iload 4, 24, 0, 0, 0, 0, []), none, some (.iload_n 1, 25, 0, 0, 0, 0, []), some (.isub, 26, 0, 0, 0, 0, []), some (.invokestatic 53, 29, 0, 0, 5, 0, []), none, none, some (.invokevirtual 59, 32, 60, 3, 1, 0, []), none, none, some (.iload_n 2, 33, 0, 0, 0, 0, []), some (.iconst (-1), 34, 0, 0, 0, (-1), []), some (.if_icmp .ne 18, 37, 52, 0, 0, 0, []), none, none, some (.iload 4, 39, 0, 0, 0, 0, []), none, some (.ifCond .le 13, 42, 52, 0, 0, 0, []), none, none, some (.aload_n 0, 43, 0, 0, 0, 0, []), some (.iload_n 3, 44, 0, 0, 0, 0, []), some (.invokevirtual 45, 47, 57, 2, 1, 1, []), none, none, some (.ifCond .ne 5, 50, 52, 0, 0, 0, []), none, none, some (.iload_n 3, 51, 0, 0, 0, 0, []), some (.istore_n 2, 52, 0, 0, 0, 0, []), some (.iinc 3 1, 55, 0, 0, 0, 1, []), none, none, some (.goto (-51), 58, 4, 0, 0, 0, []), none, none, some (.iload_n 2, 59, 0, 0, 0, 0, []), some (.ireturn, 60, 0, 0, 0, 0, [])]
def cdX6_allThick : List (Option AmE) := [some (.iconst 0, 1, 0, 0, 0, 0, []), some (.istore_n 1, 2, 0, 0, 0, 0, []), some (.iconst 1, 3, 0, 0, 0, 1, []), some (.istore_n 2, 4, 0, 0, 0, 0, []), some (.iload_n 2, 5, 0, 0, 0, 0, []), some (.aload_n 0, 6, 0, 0, 0, 0, []), some (.getfield 24, 9, 6, 2, 0, 0, []), none, none, some (.if_icmp .gt 17, 12, 26, 0, 0, 0, []), none, none, some (.iload_n 1, 13, 0, 0, 0, 0, []), some (.aload_n 0, 14, 0, 0, 0, 0, []), some (.iload_n 2, 15, 0, 0, 0, 0, []), some (.invokevirtual 45, 18, 57, 2, 1, 1, []), none, none, some (.iadd, 19, 0, 0, 0, 0, []), some (.istore_n 1, 20, 0, 0, 0, 0, []), some (.iinc 2 1, 23, 0, 0, 0, 1, []), none, none, some (.goto (-19), 26, 4, 0, 0, 0, []), none, none, some (.iload_n 1, 27, 0, 0, 0, 0, []), some (.ireturn, 28, 0, 0, 0, 0, [])]
def cdX7_add : List (Option AmE) := [some (.aload_n 0, 1, 0, 0, 0, 0, []), some (.getfield 26, 4, 7, 1, 0, 0, []), none, none, some (.bipush 20, 6, 0, 0, 0, 20, []), none, some (.iadd, 7, 0, 0, 0, 0, []), some (.sipush 2000, 10, 0, 0, 0, 2000, []), none, none, some (.if_icmp .le 5, 13, 15, 0, 0, 0, []), none, none, some (.iconst (-1), 14, 0, 0, 0, (-1), []), some (.ireturn, 15, 0, 0, 0, 0, []), some (.aload_n 0, 16, 0, 0, 0, 0, []), some (.iload_n 1, 17, 0, 0, 0, 0, []), some (.invokevirtual 30, 20, 64, 2, 1, 0, []), none, none, some (.aload_n 0, 21, 0, 0, 0, 0, []), some (.iload_n 2, 22, 0, 0, 0, 0, []), some (.invokevirtual 30, 25, 64, 2, 1, 0, []), none, none, some (.aload_n 0, 26, 0, 0, 0, 0, []), some (.iload_n 3, 27, 0, 0, 0, 0, []), some (.invokevirtual 30, 30, 64, 2, 1, 0, []), none, none, some (.aload_n 0, 31, 0, 0, 0, 0, []), some (.iload 4, 33, 0, 0, 0, 0, []), none, some (.invokevirtual 30, 36, 64, 2, 1, 0, []), none, none, some (.aload_n 0, 37, 0, 0, 0, 0, []), some (.iload 5, 39, 0, 0, 0, 0, []), none, some (.invokevirtual 30, 42, 64, 2, 1, 0, []), none, none, some (.aload_n 0, 43, 0, 0, 0, 0, []), some (.getfield 26, 46, 7, 1, 0, 0, []), none, none, some (.ireturn, 47, 0, 0, 0, 0, [])]
def cdX7_addFour : List (Option AmE) := [some (.bipush 24, 2, 0, 0, 0, 24, []), none, some (.istore_n 2, 3, 0, 0, 0, 0, []), some (.iload_n 2, 4, 0, 0, 0, 0, []), some (.ifCond .lt 51, 7, 55, 0, 0, 0, []), none, none, some (.aload_n 0, 8, 0, 0, 0, 0, []), some (.getfield 26, 11, 7, 1, 0, 0, []), none, none, some (.ifCond .lt 38, 14, 49, 0, 0, 0, []), none, none, some (.aload_n 0, 15, 0, 0, 0, 0, []), some (.getfield 26, 18, 7, 1, 0, 0, []), none, none, some (.aload_n 0, 19, 0, 0, 0, 0, []), some (.getfield 11, 22, 7, 0, 2, 0, []), none, none, some (.arraylength, 23, 0, 0, 0, 0, []), some (.if_icmp .ge 26, 26, 49, 0, 0, 0, []), none, none, some (.aload_n 0, 27, 0, 0, 0, 0, []), some (.getfield 11, 30, 7, 0, 2, 0, []), none, none, some (.aload_n 0, 31, 0, 0, 0, 0, []), some (.getfield 26, 34, 7, 1, 0, 0, []), none, none, some (.iload_n 1, 35, 0, 0, 0, 0, []), some (.iload_n 2, 36, 0, 0, 0, 0, []), some (.ishr, 37, 0, 0, 0, 0, []), some (.i2b, 38, 0, 0, 0, 0, []), some (.bastore, 39, 0, 0, 0, 0, []), some (.aload_n 0, 40, 0, 0, 0, 0, []), some (.dup, 41, 0, 0, 0, 0, []), some (.getfield 26, 44, 7, 1, 0, 0, []), none, none, some (.iconst 1, 45, 0, 0, 0, 1, []), some (.iadd, 46, 0, 0, 0, 0, []), some (.putfield 26, 49, 7, 1, 0, 0, []), none, none, some (.iinc 2 (-8), 52, 0, 0, 0, (-8), []), none, none, some (.goto (-49), 55, 3, 0, 0, 0, []), none, none, some (.return_, 56, 0, 0, 0, 0, [])]
def cdX7_cut : List (Option AmE) := [some (.iload_n 1, 1, 0, 0, 0, 0, []), some (.ifCond .lt 11, 4, 12, 0, 0, 0, []), none, none, some (.iload_n 1, 5, 0, 0, 0, 0, []), some (.aload_n 0, 6, 0, 0, 0, 0, []), some (.getfield 26, 9, 7, 1, 0, 0, []), none, none, some (.if_icmp .le 5, 12, 14, 0, 0, 0, []), none, none, some (.iconst (-1), 13, 0, 0, 0, (-1), []), some (.ireturn, 14, 0, 0, 0, 0, []), some (.aload_n 0, 15, 0, 0, 0, 0, []), some (.dup, 16, 0, 0, 0, 0, []), some (.getfield 26, 19, 7, 1, 0, 0, []), none, none, some (.iload_n 1, 20, 0, 0, 0, 0, []), some (.isub, 21, 0, 0, 0, 0, []), some (.putfield 26, 24, 7, 1, 0, 0, []), none, none, some (.aload_n 0, 25, 0, 0, 0, 0, []), some (.getfield 26, 28, 7, 1, 0, 0, []), none, none, some (.ireturn, 29, 0, 0, 0, 0, [])]
def cdX7_clear : List (Option AmE) := [some (.aload_n 0, 1, 0, 0, 0, 0, []), some (.iconst 0, 2, 0, 0, 0, 0, []), some (.putfield 26, 5, 7, 1, 0, 0, []), none, none, some (.return_, 6, 0, 0, 0, 0, [])]
def cdX7_kindAt : List (Option AmE) := [some (.iload_n 1, 1, 0, 0, 0, 0, []), some (.ifCond .lt 21, 4, 22, 0, 0, 0, []), none, none, some (.iload_n 1, 5, 0, 0, 0, 0, []), some (.aload_n 0, 6, 0, 0, 0, 0, []), some (.getfield 15, 9, 7, 2, 2, 0, []), none, none, some (.arraylength, 10, 0, 0, 0, 0, []), some (.if_icmp .ge 12, 13, 22, 0, 0, 0, []), none, none, some (.aload_n 0, 14, 0, 0, 0, 0, []), some (.getfield 15, 17, 7, 2, 2, 0, []), none, none, some (.iload_n 1, 18, 0, 0, 0, 0, []), some (.iaload, 19, 0, 0, 0, 0, []), some (.goto 5, 22, 24, 0, 0, 0, []), none, none, some (.bipush 22, 24, 0, 0, 0, 22, []), none, some (.ireturn, 25, 0, 0, 0, 0, [])]
def cdX7_valueAt : List (Option AmE) := [some (.iload_n 1, 1, 0, 0, 0, 0, []), some (.ifCond .lt 21, 4, 22, 0, 0, 0, []), none, none, some (.iload_n 1, 5, 0, 0, 0, 0, []), some (.aload_n 0, 6, 0, 0, 0, 0, []), some (.getfield 19, 9, 7, 3, 2, 0, []), none, none, some (.arraylength, 10, 0, 0, 0, 0, []), some (.if_icmp .ge 12, 13, 22, 0, 0, 0, []), none, none, some (.aload_n 0, 14, 0, 0, 0, 0, []), some (.getfield 19, 17, 7, 3, 2, 0, []), none, none, some (.iload_n 1, 18, 0, 0, 0, 0, []), some (.laload, 19, 0, 0, 0, 0, []), some (.goto 4, 22, 23, 0, 0, 0, []), none, none, some (.lconst 0, 23, 0, 0, 0, 0, []), some (.lreturn, 24, 0, 0, 0, 0, [])]
def cdX7_startAt : List (Option AmE) := [some (.aload_n 0, 1, 0, 0, 0, 0, []), some (.getfield 23, 4, 7, 4, 2, 0, []), none, none, some (.iload_n 1, 5, 0, 0, 0, 0, []), some (.invokestatic 34, 8, 142, 2, 0, 1, []), none, none, some (.ireturn, 9, 0, 0, 0, 0, [])]
def cdX7_cutIntoTokens : List (Option AmE) := [some (.iconst 0, 1, 0, 0, 0, 0, []), some (.istore_n 1, 2, 0, 0, 0, 0, []), some (.iconst 1, 3, 0, 0, 0, 1, []), some (.istore_n 2, 4, 0, 0, 0, 0, []), some (.iconst 0, 5, 0, 0, 0, 0, []), some (.istore_n 3, 6, 0, 0, 0, 0, []), some (.iload_n 3, 7, 0, 0, 0, 0, []), some (.aload_n 0, 8, 0, 0, 0, 0, []), some (.getfield 15, 11, 7, 2, 2, 0, []), none, none, some (.arraylength, 12, 0, 0, 0, 0, []), some (.if_icmp .ge 97, 15, 109, 0, 0, 0, []), none, none, some (.iload_n 2, 16, 0, 0, 0, 0, []), some (.ifCond .eq 93, 19, 109, 0, 0, 0, []), none, none, some (.aload_n 0, 20, 0, 0, 0, 0, []), some (.iload_n 1, 21, 0, 0, 0, 0, []), some (.invokevirtual 38, 24, 71, 2, 1, 1, []), none, none, some (.istore_n 1, 25, 0, 0, 0, 0, []), some (.aload_n 0, 26, 0, 0, 0, 0, []), some (.iload_n 1, 27, 0, 0, 0, 0, []), some (.invokevirtual 42, 30, 72, 2, 1, 1, []), none, none, some (.istore 4, 32, 0, 0, 0, 0, []), none, some (.aload_n 0, 33, 0, 0, 0, 0, []), some (.iload_n 1, 34, 0, 0, 0, 0, []), some (.iload 4, 36, 0, 0, 0, 0, []), none, some (.invokevirtual 45, 39, 73, 3, 1, 1, []), none, none, some (.istore 5, 41, 0, 0, 0, 0, []), none, some (.aload_n 0, 42, 0, 0, 0, 0, []), some (.getfield 15, 45, 7, 2, 2, 0, []), none, none, some (.iload_n 3, 46, 0, 0, 0, 0, []), some (.iload 5, 48, 0, 0, 0, 0, []), none, some (.iastore, 49, 0, 0, 0, 0, []), some (.aload_n 0, 50, 0, 0, 0, 0, []), some (.getfield 23, 53, 7, 4, 2, 0, []), none, none, some (.iload_n 3, 54, 0, 0, 0, 0, []), some (.iload_n 1, 55, 0, 0, 0, 0, []), some (.invokestatic 49, 58, 143, 3, 0, 0, []), none, none, some (.iload_n 3, 59, 0, 0, 0, 0, []), some (.aload_n 0, 60, 0, 0, 0, 0, []), some (.getfield 19, 63, 7, 3, 2, 0, []), none, none, some (.arraylength, 64, 0, 0, 0, 0, []), some (.if_icmp .ge 16, 67, 80, 0, 0, 0, []), none, none, some (.aload_n 0, 68, 0, 0, 0, 0, []), some (.getfield 19, 71, 7, 3, 2, 0, []), none, none, some (.iload_n 3, 72, 0, 0, 0, 0, []), some (.aload_n 0, 73, 0, 0, 0, 0, []), some (.iload_n 1, 74, 0, 0, 0, 0, []), some (.iload 4, 76, 0, 0, 0, 0, []), none, some (.invokevirtual 53, 79, 76, 3, 1, 2, []), none, none, some (.lastore, 80, 0, 0, 0, 0, []), some (.iload 5, 82, 0, 0, 0, 0, []), none, some (.bipush 21, 84, 0, 0, 0, 21, []), none, some (.if_icmp .eq 14, 87, 98, 0, 0, 0, []), none, none, some (.iload 5, 89, 0, 0, 0, 0, []), none, some (.bipush 22, 91, 0, 0, 0, 22, []), none, some (.if_icmp .eq 7, 94, 98, 0, 0, 0, []), none, none, some (.iconst 1, 95, 0, 0, 0, 1, []), some (.goto 4, 98, 99, 0, 0, 0, []), none, none, some (.iconst 0, 99, 0, 0, 0, 0, []), some (.istore_n 2, 100, 0, 0, 0, 0, []), some (.iload 4, 102, 0, 0, 0, 0, []), none, some (.istore_n 1, 103, 0, 0, 0, 0, []), some (.iinc 3 1, 106, 0, 0, 0, 1, []), none, none, some (.goto (-100), 109, 6, 0, 0, 0, []), none, none, some (.return_, 110, 0, 0, 0, 0, [])]
def cdX7_afterBlanks : List (Option AmE) := [some (.iload_n 1, 1, 0, 0, 0, 0, []), some (.istore_n 2, 2, 0, 0, 0, 0, []), some (.iload_n 2, 3, 0, 0, 0, 0, []), some (.aload_n 0, 4, 0, 0, 0, 0, []), some (.getfield 26, 7, 7, 1, 0, 0, []), none, none, some (.if_icmp .ge 20, 10, 27, 0, 0, 0, []), none, none, some (.aload_n 0, 11, 0, 0, 0, 0, []), some (.iload_n 2, 12, 0, 0, 0, 0, []), some (.invokevirtual 57, 15, 77, 2, 1, 1, []), none, none, some (.invokestatic 60, 18, 78, 1, 0, 1, []), none, none, some (.ifCond .eq 9, 21, 27, 0, 0, 0, []), none, none, some (.iinc 2 1, 24, 0, 0, 0, 1, []), none, none, some (.goto (-22), 27, 2, 0, 0, 0, []), none, none, some (.iload_n 2, 28, 0, 0, 0, 0, []), some (.ireturn, 29, 0, 0, 0, 0, [])]
def cdX7_endOf : List (Option AmE) := [some (.iload_n 1, 1, 0, 0, 0, 0, []), some (.iconst 1, 2, 0, 0, 0, 1, []), some (.iadd, 3, 0, 0, 0, 0, []), some (.istore_n 2, 4, 0, 0, 0, 0, []), some (.aload_n 0, 5, 0, 0, 0, 0, []), some (.iload_n 1, 6, 0, 0, 0, 0, []), some (.invokevirtual 57, 9, 77, 2, 1, 1, []), none, none, some (.invokestatic 64, 12, 79, 1, 0, 1, []), none, none, some (.ifCond .eq 28, 15, 40, 0, 0, 0, []), none, none, some (.iload_n 2, 16, 0, 0, 0, 0, []), some (.aload_n 0, 17, 0, 0, 0, 0, []), some (.getfield 26, 20, 7, 1, 0, 0, []), none, none, some (.if_icmp .ge 56, 23, 76, 0, 0, 0, []), none, none, some (.aload_n 0, 24, 0, 0, 0, 0, []), some (.iload_n 2, 25, 0, 0, 0, 0, []), some (.invokevirtual 57, 28, 77, 2, 1, 1, []), none, none, some (.invokestatic 64, 31, 79, 1, 0, 1, []), none, none, some (.ifCond .eq 45, 34, 76, 0, 0, 0, []), none, none, some (.iinc 2 1, 37, 0, 0, 0, 1, []), none, none, some (.goto (-22), 40, 15, 0, 0, 0, []), none, none, some (.aload_n 0, 41, 0, 0, 0, 0, []), some (.iload_n 1, 42, 0, 0, 0, 0, []), some (.invokevirtual 57, 45, 77, 2, 1, 1, []), none, none, some (.invokestatic 67, 48, 80, 1, 0, 1, []), none, none, some (.ifCond .eq 28, 51, 76, 0, 0, 0, []), none, none, some (.iload_n 2, 52, 0, 0, 0, 0, []), some (.aload_n 0, 53, 0, 0, 0, 0, []), some (.getfield 26, 56, 7, 1, 0, 0, []), none, none, some (.if_icmp .ge 20, 59, 76, 0, 0, 0, []), none, none, some (.aload_n 0, 60, 0, 0, 0, 0, []), some (.iload_n 2, 61, 0, 0, 0, 0, []), some (.invokevirtual 57, 64, 77, 2, 1, 1, []), none, none, some (.invokestatic 67, 67, 80, 1, 0, 1, []), none, none, some (.ifCond .eq 9, 70, 76, 0, 0, 0, []), none, none, some (.iinc 2 1, 73, 0, 0, 0, 1, []), none, none, some (.goto (-22), 76, 51, 0, 0, 0, []), none, none, some (.iload_n 2, 77, 0, 0, 0, 0, []), some (.ireturn, 78, 0, 0, 0, 0, [])]
def cdX7_kindOf : List (Option AmE) := [some (.iload_n 1, 1, 0, 0, 0, 0, []), some (.aload_n 0, 2, 0, 0, 0, 0, []), some (.getfield 26, 5, 7, 1, 0, 0, []), none, none, some (.if_icmp .lt 6, 8, 11, 0, 0, 0, []), none, none, some (.bipush 21, 10, 0, 0, 0, 21, []), none, some (.ireturn, 11, 0, 0, 0, 0, []), some (.aload_n 0, 12, 0, 0, 0, 0, []), some (.iload_n 1, 13, 0, 0, 0, 0, []), some (.invokevirtual 57, 16, 77, 2, 1, 1, []), none, none, some (.istore_n 3, 17, 0, 0, 0, 0, []), some (.iload_n 3, 18, 0, 0, 0, 0, []), some (.invokestatic 64, 21, 79, 1, 0, 1, []), none, none, some (.ifCond .eq 23, 24, 44, 0, 0, 0, []), none, none, some (.iload_n 2, 25, 0, 0, 0, 0, []), some (.iload_n 1, 26, 0, 0, 0, 0, []), some (.isub, 27, 0, 0, 0, 0, []), some (.bipush 8, 29, 0, 0, 0, 8, []), none, some (.if_icmp .le 8, 32, 37, 0, 0, 0, []), none, none, some (.bipush 22, 34, 0, 0, 0, 22, []), none, some (.goto 9, 37, 43, 0, 0, 0, []), none, none, some (.aload_n 0, 38, 0, 0, 0, 0, []), some (.iload_n 1, 39, 0, 0, 0, 0, []), some (.iload_n 2, 40, 0, 0, 0, 0, []), some (.invokevirtual 70, 43, 74, 3, 1, 1, []), none, none, some (.ireturn, 44, 0, 0, 0, 0, []), some (.iload_n 3, 45, 0, 0, 0, 0, []), some (.invokestatic 67, 48, 80, 1, 0, 1, []), none, none, some (.ifCond .eq 18, 51, 66, 0, 0, 0, []), none, none, some (.iload_n 2, 52, 0, 0, 0, 0, []), some (.iload_n 1, 53, 0, 0, 0, 0, []), some (.isub, 54, 0, 0, 0, 0, []), some (.iconst 4, 55, 0, 0, 0, 4, []), some (.if_icmp .le 8, 58, 63, 0, 0, 0, []), none, none, some (.bipush 22, 60, 0, 0, 0, 22, []), none, some (.goto 5, 63, 65, 0, 0, 0, []), none, none, some (.bipush 20, 65, 0, 0, 0, 20, []), none, some (.ireturn, 66, 0, 0, 0, 0, []), some (.ldc 73, 68, 99, 0, 1, 0, []), none, some (.iload_n 3, 69, 0, 0, 0, 0, []), some (.i2c, 70, 0, 0, 0, 0, []), some (.invokevirtual 75, 73, 0, 0, 11, 0, []), none, none, some (.ifCond .lt 7, 76, 80, 0, 0, 0, []), none, none, some (.iload_n 3, 77, 0, 0, 0, 0, []), some (.goto 5, 80, 82, 0, 0, 0, []), none, none, some (.bipush 22, 82, 0, 0, 0, 22, []), none, some (.ireturn, 83, 0, 0, 0, 0, [])]
def cdX7_wordOf : List (Option AmE) := [some (.iconst 0, 1, 0, 0, 0, 0, []), some (.istore_n 3, 2, 0, 0, 0, 0, []), some (.iload_n 3, 3, 0, 0, 0, 0, []), some (.bipush 18, 5, 0, 0, 0, 18, []), none, some (.if_icmp .gt 21, 8, 26, 0, 0, 0, []), none, none, some (.aload_n 0, 9, 0, 0, 0, 0, []), some (.iload_n 3, 10, 0, 0, 0, 0, []), some (.iload_n 1, 11, 0, 0, 0, 0, []), some (.iload_n 2, 12, 0, 0, 0, 0, []), some (.invokevirtual 80, 15, 75, 4, 1, 1, []), none, none, some (.ifCond .eq 5, 18, 20, 0, 0, 0, []), none, none, some (.iload_n 3, 19, 0, 0, 0, 0, []), some (.ireturn, 20, 0, 0, 0, 0, []), some (.iinc 3 1, 23, 0, 0, 0, 1, []), none, none, some (.goto (-21), 26, 2, 0, 0, 0, []), none, none, some (.bipush 19, 28, 0, 0, 0, 19, []), none, some (.ireturn, 29, 0, 0, 0, 0, [])]
def cdX7_isWord : List (Option AmE) := [some (.iconst 0, 1, 0, 0, 0, 0, []), some (.istore 4, 3, 0, 0, 0, 0, []), none, some (.iload 4, 5, 0, 0, 0, 0, []), none, some (.bipush 8, 7, 0, 0, 0, 8, []), none, some (.if_icmp .ge 70, 10, 77, 0, 0, 0, []), none, none, some (.iload_n 2, 11, 0, 0, 0, 0, []), some (.iload 4, 13, 0, 0, 0, 0, []), none, some (.iadd, 14, 0, 0, 0, 0, []), some (.iload_n 3, 15, 0, 0, 0, 0, []), some (.if_icmp .ge 14, 18, 29, 0, 0, 0, []), none, none, some (.aload_n 0, 19, 0, 0, 0, 0, []), some (.iload_n 2, 20, 0, 0, 0, 0, []), some (.iload 4, 22, 0, 0, 0, 0, []), none, some (.iadd, 23, 0, 0, 0, 0, []), some (.invokevirtual 57, 26, 77, 2, 1, 1, []), none, none, some (.goto 5, 29, 31, 0, 0, 0, []), none, none, some (.bipush 32, 31, 0, 0, 0, 32, []), none, some (.istore 5, 33, 0, 0, 0, 0, []), none, some (.iload_n 1, 34, 0, 0, 0, 0, []), some (.bipush 8, 36, 0, 0, 0, 8, []), none, some (.imul, 37, 0, 0, 0, 0, []), some (.iload 4, 39, 0, 0, 0, 0, []), none, some (.iadd, 40, 0, 0, 0, 0, []), some (.istore 6, 42, 0, 0, 0, 0, []), none, some (.iload 6, 44, 0, 0, 0, 0, []), none, some (.ifCond .lt 25, 47, 69, 0, 0, 0, []), none, none, some (.iload 6, 49, 0, 0, 0, 0, []), none, some (.ldc 84, 51, 98, 0, 1, 0, []), none, some (.invokevirtual 86, 54, 0, 0, 9, 0, []), none, none, some (.if_icmp .ge 15, 57, 69, 0, 0, 0, []), none, none, some (.ldc 84, 59, 98, 0, 1, 0, []), none, some (.iload 6, 61, 0, 0, 0, 0, []), none, some (.invokevirtual 89, 64, 0, 0, 10, 0, []), none, none, some (.iload 5, 66, 0, 0, 0, 0, []), none, some (.if_icmp .eq 5, 69, 71, 0, 0, 0, []), none, none, some (.iconst 0, 70, 0, 0, 0, 0, []), some (.ireturn, 71, 0, 0, 3, 0, []), some (.iinc 4 1, 74, 0, 0, 0, 1, []), none, none, some (.goto (-71), 77, 3, 0, 0, 0, []), none, none, some (.iconst 1, 78, 0, 0, 0, 1, []), some (.ireturn, 79, 0, 0, 3, 0, [])]
def cdX7_valueOf : List (Option AmE) := [some (.lconst 0, 1, 0, 0, 0, 0, []), some (.lstore_n 3, 2, 0, 0, 0, 0, []), some (.iload_n 1, 3, 0, 0, 0, 0, []), some (.istore 5, 5, 0, 0, 0, 0, []), none, some (.iload 5, 7, 0, 0, 0, 0, []), none, some (.iload_n 2, 8, 0, 0, 0, 0, []), some (.if_icmp .ge 57, 11, 65, 0, 0, 0, []), none, none, some (.aload_n 0, 12, 0, 0, 0, 0, []), some (.iload 5, 14, 0, 0, 0, 0, []), none, some (.invokevirtual 57, 17, 77, 2, 1, 1, []), none, none, some (.istore 6, 19, 0, 0, 0, 0, []), none, some (.iload 6, 21, 0, 0, 0, 0, []), none, some (.invokestatic 67, 24, 80, 1, 0, 1, []), none, none, some (.ifCond .eq 19, 27, 43, 0, 0, 0, []), none, none, some (.lload_n 3, 28, 0, 0, 0, 0, []), some (.ldc2_w 93, 31, 0, 0, 0, 10, []), none, none, some (.lmul, 32, 0, 0, 0, 0, []), some (.iload 6, 34, 0, 0, 0, 0, []), none, some (.i2l, 35, 0, 0, 0, 0, []), some (.ladd, 36, 0, 0, 0, 0, []), some (.ldc2_w 95, 39, 0, 0, 0, 48, []), none, none, some (.lsub, 40, 0, 0, 0, 0, []), some (.goto 18, 43, 58, 0, 0, 0, []), none, none, some (.lload_n 3, 44, 0, 0, 0, 0, []), some (.ldc2_w 97, 47, 0, 0, 0, 27, []), none, none, some (.lmul, 48, 0, 0, 0, 0, []), some (.iload 6, 50, 0, 0, 0, 0, []), none, some (.i2l, 51, 0, 0, 0, 0, []), some (.ladd, 52, 0, 0, 0, 0, []), some (.ldc2_w 99, 55, 0, 0, 0, 97, []), none, none, some (.lsub, 56, 0, 0, 0, 0, []), some (.lconst 1, 57, 0, 0, 0, 1, []), some (.ladd, 58, 0, 0, 0, 0, []), some (.lstore_n 3, 59, 0, 0, 0, 0, []), some (.iinc 5 1, 62, 0, 0, 0, 1, []), none, none, some (.goto (-57), 65, 5, 0, 0, 0, []), none, none, some (.lload_n 3, 66, 0, 0, 0, 0, []), some (.lreturn, 67, 0, 0, 0, 0, [])]
def cdX7_byteAt : List (Option AmE) := [some (.iload_n 1, 1, 0, 0, 0, 0, []), some (.ifCond .lt 33, 4, 34, 0, 0, 0, []), none, none, some (.iload_n 1, 5, 0, 0, 0, 0, []), some (.aload_n 0, 6, 0, 0, 0, 0, []), some (.getfield 26, 9, 7, 1, 0, 0, []), none, none, some (.if_icmp .ge 25, 12, 34, 0, 0, 0, []), none, none, some (.iload_n 1, 13, 0, 0, 0, 0, []), some (.aload_n 0, 14, 0, 0, 0, 0, []), some (.getfield 11, 17, 7, 0, 2, 0, []), none, none, some (.arraylength, 18, 0, 0, 0, 0, []), some (.if_icmp .ge 16, 21, 34, 0, 0, 0, []), none, none, some (.aload_n 0, 22, 0, 0, 0, 0, []), some (.getfield 11, 25, 7, 0, 2, 0, []), none, none, some (.iload_n 1, 26, 0, 0, 0, 0, []), some (.baload, 27, 0, 0, 0, 0, []), some (.sipush 255, 30, 0, 0, 0, 255, []), none, none, some (.iand, 31, 0, 0, 0, 0, []), some (.goto 4, 34, 35, 0, 0, 0, []), none, none, some (.iconst 0, 35, 0, 0, 0, 0, []), some (.ireturn, 36, 0, 0, 0, 0, [])]
def cdX7_isBlank : List (Option AmE) := [some (.iload_n 0, 1, 0, 0, 0, 0, []), some (.bipush 9, 3, 0, 0, 0, 9, []), none, some (.if_icmp .eq 21, 6, 24, 0, 0, 0, []), none, none, some (.iload_n 0, 7, 0, 0, 0, 0, []), some (.bipush 10, 9, 0, 0, 0, 10, []), none, some (.if_icmp .eq 15, 12, 24, 0, 0, 0, []), none, none, some (.iload_n 0, 13, 0, 0, 0, 0, []), some (.bipush 13, 15, 0, 0, 0, 13, []), none, some (.if_icmp .eq 9, 18, 24, 0, 0, 0, []), none, none, some (.iload_n 0, 19, 0, 0, 0, 0, []), some (.bipush 32, 21, 0, 0, 0, 32, []), none, some (.if_icmp .ne 7, 24, 28, 0, 0, 0, []), none, none, some (.iconst 1, 25, 0, 0, 0, 1, []), some (.goto 4, 28, 29, 0, 0, 0, []), none, none, some (.iconst 0, 29, 0, 0, 0, 0, []), some (.ireturn, 30, 0, 0, 3, 0, [])]
def cdX7_isLetter : List (Option AmE) := [some (.iload_n 0, 1, 0, 0, 0, 0, []), some (.bipush 97, 3, 0, 0, 0, 97, []), none, some (.if_icmp .lt 13, 6, 16, 0, 0, 0, []), none, none, some (.iload_n 0, 7, 0, 0, 0, 0, []), some (.bipush 122, 9, 0, 0, 0, 122, []), none, some (.if_icmp .gt 7, 12, 16, 0, 0, 0, []), none, none, some (.iconst 1, 13, 0, 0, 0, 1, []), some (.goto 4, 16, 17, 0, 0, 0, []), none, none, some (.iconst 0, 17, 0, 0, 0, 0, []), some (.ireturn, 18, 0, 0, 3, 0, [])]
def cdX7_isDigit : List (Option AmE) := [some (.iload_n 0, 1, 0, 0, 0, 0, []), some (.bipush 48, 3, 0, 0, 0, 48, []), none, some (.if_icmp .lt 13, 6, 16, 0, 0, 0, []), none, none, some (.iload_n 0, 7, 0, 0, 0, 0, []), some (.bipush 57, 9, 0, 0, 0, 57, []), none, some (.if_icmp .gt 7, 12, 16, 0, 0, 0, []), none, none, some (.iconst 1, 13, 0, 0, 0, 1, []), some (.goto 4, 16, 17, 0, 0, 0, []), none, none, some (.iconst 0, 17, 0, 0, 0, 0, []), some (.ireturn, 18, 0, 0, 3, 0, [])]
def cdX8_clear : List (Option AmE) := [some (.aload_n 0, 1, 0, 0, 0, 0, []), some (.iconst 0, 2, 0, 0, 0, 0, []), some (.putfield 31, 5, 8, 5, 0, 0, []), none, none, some (.aload_n 0, 6, 0, 0, 0, 0, []), some (.iconst 0, 7, 0, 0, 0, 0, []), some (.putfield 35, 10, 8, 6, 0, 0, []), none, none, some (.aload_n 0, 11, 0, 0, 0, 0, []), some (.iconst 0, 12, 0, 0, 0, 0, []), some (.putfield 38, 15, 8, 7, 0, 0, []), none, none, some (.aload_n 0, 16, 0, 0, 0, 0, []), some (.iconst 0, 17, 0, 0, 0, 0, []), some (.putfield 41, 20, 8, 8, 0, 0, []), none, none, some (.aload_n 0, 21, 0, 0, 0, 0, []), some (.iconst 0, 22, 0, 0, 0, 0, []), some (.putfield 44, 25, 8, 9, 0, 0, []), none, none, some (.aload_n 0, 26, 0, 0, 0, 0, []), some (.getfield 27, 29, 8, 4, 2, 0, []), none, none, some (.invokevirtual 47, 32, 11, 1, 1, 0, []), none, none, some (.return_, 33, 0, 0, 0, 0, [])]
def cdX8_copyFrom : List (Option AmE) := [some (.aload_n 1, 1, 0, 0, 0, 0, []), some (.getfield 9, 4, 8, 0, 2, 0, []), none, none, some (.aload_n 0, 5, 0, 0, 0, 0, []), some (.getfield 9, 8, 8, 0, 2, 0, []), none, none, some (.invokestatic 50, 11, 144, 2, 0, 0, []), none, none, some (.aload_n 1, 12, 0, 0, 0, 0, []), some (.getfield 15, 15, 8, 1, 2, 0, []), none, none, some (.aload_n 0, 16, 0, 0, 0, 0, []), some (.getfield 15, 19, 8, 1, 2, 0, []), none, none, some (.invokestatic 50, 22, 144, 2, 0, 0, []), none, none, some (.aload_n 1, 23, 0, 0, 0, 0, []), some (.getfield 18, 26, 8, 2, 2, 0, []), none, none, some (.aload_n 0, 27, 0, 0, 0, 0, []), some (.getfield 18, 30, 8, 2, 2, 0, []), none, none, some (.invokestatic 50, 33, 144, 2, 0, 0, []), none, none, some (.aload_n 1, 34, 0, 0, 0, 0, []), some (.getfield 21, 37, 8, 3, 2, 0, []), none, none, some (.aload_n 0, 38, 0, 0, 0, 0, []), some (.getfield 21, 41, 8, 3, 2, 0, []), none, none, some (.invokestatic 50, 44, 144, 2, 0, 0, []), none, none, some (.aload_n 0, 45, 0, 0, 0, 0, []), some (.getfield 27, 48, 8, 4, 2, 0, []), none, none, some (.aload_n 1, 49, 0, 0, 0, 0, []), some (.getfield 27, 52, 8, 4, 2, 0, []), none, none, some (.invokevirtual 54, 55, 12, 2, 1, 0, []), none, none, some (.aload_n 0, 56, 0, 0, 0, 0, []), some (.aload_n 1, 57, 0, 0, 0, 0, []), some (.getfield 31, 60, 8, 5, 0, 0, []), none, none, some (.putfield 31, 63, 8, 5, 0, 0, []), none, none, some (.aload_n 0, 64, 0, 0, 0, 0, []), some (.aload_n 1, 65, 0, 0, 0, 0, []), some (.getfield 35, 68, 8, 6, 0, 0, []), none, none, some (.putfield 35, 71, 8, 6, 0, 0, []), none, none, some (.aload_n 0, 72, 0, 0, 0, 0, []), some (.aload_n 1, 73, 0, 0, 0, 0, []), some (.getfield 38, 76, 8, 7, 0, 0, []), none, none, some (.putfield 38, 79, 8, 7, 0, 0, []), none, none, some (.aload_n 0, 80, 0, 0, 0, 0, []), some (.aload_n 1, 81, 0, 0, 0, 0, []), some (.getfield 41, 84, 8, 8, 0, 0, []), none, none, some (.putfield 41, 87, 8, 8, 0, 0, []), none, none, some (.aload_n 0, 88, 0, 0, 0, 0, []), some (.aload_n 1, 89, 0, 0, 0, 0, []), some (.getfield 44, 92, 8, 9, 0, 0, []), none, none, some (.putfield 44, 95, 8, 9, 0, 0, []), none, none, some (.return_, 96, 0, 0, 0, 0, [])]
def cdX8_hasPilgrim : List (Option AmE) := [some (.iload_n 1, 1, 0, 0, 0, 0, []), some (.ifCond .lt 15, 4, 16, 0, 0, 0, []), none, none, some (.iload_n 1, 5, 0, 0, 0, 0, []), some (.aload_n 0, 6, 0, 0, 0, 0, []), some (.getfield 44, 9, 8, 9, 0, 0, []), none, none, some (.if_icmp .ge 7, 12, 16, 0, 0, 0, []), none, none, some (.iconst 1, 13, 0, 0, 0, 1, []), some (.goto 4, 16, 17, 0, 0, 0, []), none, none, some (.iconst 0, 17, 0, 0, 0, 0, []), some (.ireturn, 18, 0, 0, 3, 0, [])]
def cdX8_rainOf : List (Option AmE) := [some (.aload_n 0, 1, 0, 0, 0, 0, []), some (.getfield 35, 4, 8, 6, 0, 0, []), none, none, some (.ifCond .le 19, 7, 23, 0, 0, 0, []), none, none, some (.aload_n 0, 8, 0, 0, 0, 0, []), some (.getfield 15, 11, 8, 1, 2, 0, []), none, none, some (.iload_n 1, 12, 0, 0, 0, 0, []), some (.aload_n 0, 13, 0, 0, 0, 0, []), some (.getfield 35, 16, 8, 6, 0, 0, []), none, none, some (.irem, 17, 0, 0, 0, 0, []), some (.invokestatic 58, 20, 142, 2, 0, 1, []), none, none, some (.goto 4, 23, 24, 0, 0, 0, []), none, none, some (.iconst 0, 24, 0, 0, 0, 0, []), some (.ireturn, 25, 0, 0, 0, 0, [])]
def cdX9_startAnew : List (Option AmE) := [some (.aload_n 0, 1, 0, 0, 0, 0, []), some (.iconst 0, 2, 0, 0, 0, 0, []), some (.putfield 36, 5, 9, 5, 0, 0, []), none, none, some (.aload_n 0, 6, 0, 0, 0, 0, []), some (.iconst 0, 7, 0, 0, 0, 0, []), some (.putfield 40, 10, 9, 7, 3, 0, []), none, none, some (.return_, 11, 0, 0, 0, 0, [])]
def cdX9_add : List (Option AmE) := [some (.aload_n 0, 1, 0, 0, 0, 0, []), some (.getfield 36, 4, 9, 5, 0, 0, []), none, none, some (.bipush 30, 6, 0, 0, 0, 30, []), none, some (.if_icmp .lt 5, 9, 11, 0, 0, 0, []), none, none, some (.iconst (-1), 10, 0, 0, 0, (-1), []), some (.ireturn, 11, 0, 0, 0, 0, []), some (.aload_n 0, 12, 0, 0, 0, 0, []), some (.getfield 18, 15, 9, 3, 2, 0, []), none, none, some (.aload_n 0, 16, 0, 0, 0, 0, []), some (.getfield 36, 19, 9, 5, 0, 0, []), none, none, some (.iload_n 1, 20, 0, 0, 0, 0, []), some (.invokestatic 44, 23, 143, 3, 0, 0, []), none, none, some (.aload_n 0, 24, 0, 0, 0, 0, []), some (.getfield 22, 27, 9, 4, 2, 0, []), none, none, some (.aload_n 0, 28, 0, 0, 0, 0, []), some (.getfield 36, 31, 9, 5, 0, 0, []), none, none, some (.iload_n 2, 32, 0, 0, 0, 0, []), some (.invokestatic 44, 35, 143, 3, 0, 0, []), none, none, some (.aload_n 0, 36, 0, 0, 0, 0, []), some (.dup, 37, 0, 0, 0, 0, []), some (.getfield 36, 40, 9, 5, 0, 0, []), none, none, some (.iconst 1, 41, 0, 0, 0, 1, []), some (.iadd, 42, 0, 0, 0, 0, []), some (.putfield 36, 45, 9, 5, 0, 0, []), none, none, some (.aload_n 0, 46, 0, 0, 0, 0, []), some (.getfield 36, 49, 9, 5, 0, 0, []), none, none, some (.iconst 1, 50, 0, 0, 0, 1, []), some (.isub, 51, 0, 0, 0, 0, []), some (.ireturn, 52, 0, 0, 0, 0, [])]
def cdX9_knows : List (Option AmE) := [some (.iload_n 1, 1, 0, 0, 0, 0, []), some (.ifCond .lt 11, 4, 12, 0, 0, 0, []), none, none, some (.iload_n 1, 5, 0, 0, 0, 0, []), some (.aload_n 0, 6, 0, 0, 0, 0, []), some (.getfield 36, 9, 9, 5, 0, 0, []), none, none, some (.if_icmp .le 5, 12, 14, 0, 0, 0, []), none, none, some (.iconst 0, 13, 0, 0, 0, 0, []), some (.ireturn, 14, 0, 0, 3, 0, []), some (.aload_n 0, 15, 0, 0, 0, 0, []), some (.getfield 40, 18, 9, 7, 3, 0, []), none, none, some (.ifCond .ne 7, 21, 25, 0, 0, 0, []), none, none, some (.aload_n 0, 22, 0, 0, 0, 0, []), some (.invokevirtual 48, 25, 94, 1, 1, 0, []), none, none, some (.iconst 1, 26, 0, 0, 0, 1, []), some (.ireturn, 27, 0, 0, 3, 0, [])]
def cdX9_fitting : List (Option AmE) := [some (.iconst 0, 1, 0, 0, 0, 0, []), some (.istore_n 2, 2, 0, 0, 0, 0, []), some (.iconst 0, 3, 0, 0, 0, 0, []), some (.istore_n 3, 4, 0, 0, 0, 0, []), some (.iload_n 3, 5, 0, 0, 0, 0, []), some (.aload_n 0, 6, 0, 0, 0, 0, []), some (.invokevirtual 51, 9, 92, 1, 1, 1, []), none, none, some (.if_icmp .ge 26, 12, 35, 0, 0, 0, []), none, none, some (.iload_n 2, 13, 0, 0, 0, 0, []), some (.aload_n 0, 14, 0, 0, 0, 0, []), some (.iload_n 3, 15, 0, 0, 0, 0, []), some (.iload_n 1, 16, 0, 0, 0, 0, []), some (.invokevirtual 55, 19, 93, 3, 1, 1, []), none, none, some (.ifCond .eq 7, 22, 26, 0, 0, 0, []), none, none, some (.iconst 1, 23, 0, 0, 0, 1, []), some (.goto 4, 26, 27, 0, 0, 0, []), none, none, some (.iconst 0, 27, 0, 0, 0, 0, []), some (.iadd, 28, 0, 0, 0, 0, []), some (.istore_n 2, 29, 0, 0, 0, 0, []), some (.iinc 3 1, 32, 0, 0, 0, 1, []), none, none, some (.goto (-28), 35, 4, 0, 0, 0, []), none, none, some (.iload_n 2, 36, 0, 0, 0, 0, []), some (.ireturn, 37, 0, 0, 0, 0, [])]
def cdX9_fittingAt : List (Option AmE) := [some (.iconst 0, 1, 0, 0, 0, 0, []), some (.istore_n 3, 2, 0, 0, 0, 0, []), some (.iconst 0, 3, 0, 0, 0, 0, []), some (.istore 4, 5, 0, 0, 0, 0, []), none, some (.iload 4, 7, 0, 0, 0, 0, []), none, some (.aload_n 0, 8, 0, 0, 0, 0, []), some (.invokevirtual 51, 11, 92, 1, 1, 1, []), none, none, some (.if_icmp .ge 30, 14, 41, 0, 0, 0, []), none, none, some (.aload_n 0, 15, 0, 0, 0, 0, []), some (.iload 4, 17, 0, 0, 0, 0, []), none, some (.iload_n 1, 18, 0, 0, 0, 0, []), some (.invokevirtual 55, 21, 93, 3, 1, 1, []), none, none, some (.ifCond .eq 14, 24, 35, 0, 0, 0, []), none, none, some (.iload_n 3, 25, 0, 0, 0, 0, []), some (.iload_n 2, 26, 0, 0, 0, 0, []), some (.if_icmp .ne 6, 29, 32, 0, 0, 0, []), none, none, some (.iload 4, 31, 0, 0, 0, 0, []), none, some (.ireturn, 32, 0, 0, 0, 0, []), some (.iinc 3 1, 35, 0, 0, 0, 1, []), none, none, some (.iinc 4 1, 38, 0, 0, 0, 1, []), none, none, some (.goto (-33), 41, 5, 0, 0, 0, []), none, none, some (.iconst (-1), 42, 0, 0, 0, (-1), []), some (.ireturn, 43, 0, 0, 0, 0, [])]
def cdX9_inSome : List (Option AmE) := [some (.iconst 0, 1, 0, 0, 0, 0, []), some (.istore_n 2, 2, 0, 0, 0, 0, []), some (.iconst 0, 3, 0, 0, 0, 0, []), some (.istore_n 3, 4, 0, 0, 0, 0, []), some (.iload_n 3, 5, 0, 0, 0, 0, []), some (.aload_n 0, 6, 0, 0, 0, 0, []), some (.invokevirtual 51, 9, 92, 1, 1, 1, []), none, none, some (.if_icmp .ge 26, 12, 35, 0, 0, 0, []), none, none, some (.iload_n 2, 13, 0, 0, 0, 0, []), some (.aload_n 0, 14, 0, 0, 0, 0, []), some (.iload_n 3, 15, 0, 0, 0, 0, []), some (.iload_n 1, 16, 0, 0, 0, 0, []), some (.invokevirtual 55, 19, 93, 3, 1, 1, []), none, none, some (.ifCond .eq 7, 22, 26, 0, 0, 0, []), none, none, some (.iload_n 3, 23, 0, 0, 0, 0, []), some (.goto 4, 26, 27, 0, 0, 0, []), none, none, some (.iconst 0, 27, 0, 0, 0, 0, []), some (.ior, 28, 0, 0, 0, 0, []), some (.istore_n 2, 29, 0, 0, 0, 0, []), some (.iinc 3 1, 32, 0, 0, 0, 1, []), none, none, some (.goto (-28), 35, 4, 0, 0, 0, []), none, none, some (.iload_n 2, 36, 0, 0, 0, 0, []), some (.ireturn, 37, 0, 0, 0, 0, [])]
def cdX9_inAll : List (Option AmE) := [some (.aload_n 0, 1, 0, 0, 0, 0, []), some (.iload_n 1, 2, 0, 0, 0, 0, []), some (.invokevirtual 59, 5, 90, 2, 1, 1, []), none, none, some (.istore_n 2, 6, 0, 0, 0, 0, []), some (.iconst 0, 7, 0, 0, 0, 0, []), some (.istore_n 3, 8, 0, 0, 0, 0, []), some (.iload_n 3, 9, 0, 0, 0, 0, []), some (.aload_n 0, 10, 0, 0, 0, 0, []), some (.invokevirtual 51, 13, 92, 1, 1, 1, []), none, none, some (.if_icmp .ge 26, 16, 39, 0, 0, 0, []), none, none, some (.iload_n 2, 17, 0, 0, 0, 0, []), some (.aload_n 0, 18, 0, 0, 0, 0, []), some (.iload_n 3, 19, 0, 0, 0, 0, []), some (.iload_n 1, 20, 0, 0, 0, 0, []), some (.invokevirtual 55, 23, 93, 3, 1, 1, []), none, none, some (.ifCond .eq 7, 26, 30, 0, 0, 0, []), none, none, some (.iload_n 3, 27, 0, 0, 0, 0, []), some (.goto 4, 30, 31, 0, 0, 0, []), none, none, some (.iload_n 2, 31, 0, 0, 0, 0, []), some (.iand, 32, 0, 0, 0, 0, []), some (.istore_n 2, 33, 0, 0, 0, 0, []), some (.iinc 3 1, 36, 0, 0, 0, 1, []), none, none, some (.goto (-28), 39, 8, 0, 0, 0, []), none, none, some (.iload_n 2, 40, 0, 0, 0, 0, []), some (.ireturn, 41, 0, 0, 0, 0, [])]
def cdX9_sets : List (Option AmE) := [some (.iconst 1, 1, 0, 0, 0, 1, []), some (.aload_n 0, 2, 0, 0, 0, 0, []), some (.getfield 28, 5, 9, 0, 2, 0, []), none, none, some (.getfield 63, 8, 8, 9, 0, 0, []), none, none, some (.ishl, 9, 0, 0, 0, 0, []), some (.ireturn, 10, 0, 0, 0, 0, [])]
def cdX9_isFitting : List (Option AmE) := [some (.iconst 0, 1, 0, 0, 0, 0, []), some (.istore_n 3, 2, 0, 0, 0, 0, []), some (.iload_n 3, 3, 0, 0, 0, 0, []), some (.iload_n 2, 4, 0, 0, 0, 0, []), some (.if_icmp .ge 42, 7, 46, 0, 0, 0, []), none, none, some (.aload_n 0, 8, 0, 0, 0, 0, []), some (.getfield 25, 11, 9, 6, 2, 0, []), none, none, some (.iload_n 1, 12, 0, 0, 0, 0, []), some (.bipush 26, 14, 0, 0, 0, 26, []), none, some (.imul, 15, 0, 0, 0, 0, []), some (.aload_n 0, 16, 0, 0, 0, 0, []), some (.getfield 18, 19, 9, 3, 2, 0, []), none, none, some (.iload_n 3, 20, 0, 0, 0, 0, []), some (.invokestatic 68, 23, 142, 2, 0, 1, []), none, none, some (.iadd, 24, 0, 0, 0, 0, []), some (.invokestatic 68, 27, 142, 2, 0, 1, []), none, none, some (.aload_n 0, 28, 0, 0, 0, 0, []), some (.getfield 22, 31, 9, 4, 2, 0, []), none, none, some (.iload_n 3, 32, 0, 0, 0, 0, []), some (.invokestatic 68, 35, 142, 2, 0, 1, []), none, none, some (.if_icmp .eq 5, 38, 40, 0, 0, 0, []), none, none, some (.iconst 0, 39, 0, 0, 0, 0, []), some (.ireturn, 40, 0, 0, 3, 0, []), some (.iinc 3 1, 43, 0, 0, 0, 1, []), none, none, some (.goto (-41), 46, 2, 0, 0, 0, []), none, none, some (.iconst 1, 47, 0, 0, 0, 1, []), some (.ireturn, 48, 0, 0, 3, 0, [])]
def cdX9_walkAllSets : List (Option AmE) := [some (.aload_n 0, 1, 0, 0, 0, 0, []), some (.iconst 1, 2, 0, 0, 0, 1, []), some (.putfield 40, 5, 9, 7, 3, 0, []), none, none, some (.aload_n 0, 6, 0, 0, 0, 0, []), some (.getfield 12, 9, 9, 2, 2, 0, []), none, none, some (.aload_n 0, 10, 0, 0, 0, 0, []), some (.getfield 28, 13, 9, 0, 2, 0, []), none, none, some (.invokevirtual 72, 16, 52, 2, 1, 0, []), none, none, some (.aload_n 0, 17, 0, 0, 0, 0, []), some (.iconst 0, 18, 0, 0, 0, 0, []), some (.invokevirtual 76, 21, 95, 2, 1, 0, []), none, none, some (.iconst 1, 22, 0, 0, 0, 1, []), some (.istore_n 1, 23, 0, 0, 0, 0, []), some (.iload_n 1, 24, 0, 0, 0, 0, []), some (.aload_n 0, 25, 0, 0, 0, 0, []), some (.invokevirtual 51, 28, 92, 1, 1, 1, []), none, none, some (.if_icmp .ge 47, 31, 75, 0, 0, 0, []), none, none, some (.bipush 31, 33, 0, 0, 0, 31, []), none, some (.iload_n 1, 34, 0, 0, 0, 0, []), some (.invokestatic 80, 37, 243, 1, 0, 1, []), none, none, some (.isub, 38, 0, 0, 0, 0, []), some (.istore_n 2, 39, 0, 0, 0, 0, []), some (.aload_n 0, 40, 0, 0, 0, 0, []), some (.iload_n 1, 41, 0, 0, 0, 0, []), some (.iconst 1, 42, 0, 0, 0, 1, []), some (.iload_n 2, 43, 0, 0, 0, 0, []), some (.ishl, 44, 0, 0, 0, 0, []), some (.iconst (-1), 45, 0, 0, 0, (-1), []), some (.ixor, 46, 0, 0, 0, 0, []), some (.iand, 47, 0, 0, 0, 0, []), some (.invokevirtual 85, 50, 96, 2, 1, 0, []), none, none, some (.aload_n 0, 51, 0, 0, 0, 0, []), some (.getfield 32, 54, 9, 1, 2, 0, []), none, none, some (.aload_n 0, 55, 0, 0, 0, 0, []), some (.getfield 12, 58, 9, 2, 2, 0, []), none, none, some (.iload_n 2, 59, 0, 0, 0, 0, []), some (.iconst 0, 60, 0, 0, 0, 0, []), some (.invokevirtual 88, 63, 99, 4, 1, 1, []), none, none, some (.pop, 64, 0, 0, 0, 0, []), some (.aload_n 0, 65, 0, 0, 0, 0, []), some (.iload_n 1, 66, 0, 0, 0, 0, []), some (.invokevirtual 76, 69, 95, 2, 1, 0, []), none, none, some (.iinc 1 1, 72, 0, 0, 0, 1, []), none, none, some (.goto (-49), 75, 23, 0, 0, 0, []), none, none, some (.return_, 76, 0, 0, 0, 0, [])]
def cdX9_writeRow : List (Option AmE) := [some (.iconst 1, 1, 0, 0, 0, 1, []), some (.istore_n 2, 2, 0, 0, 0, 0, []), some (.iload_n 2, 3, 0, 0, 0, 0, []), some (.aload_n 0, 4, 0, 0, 0, 0, []), some (.getfield 28, 7, 9, 0, 2, 0, []), none, none, some (.getfield 94, 10, 8, 5, 0, 0, []), none, none, some (.if_icmp .gt 30, 13, 40, 0, 0, 0, []), none, none, some (.aload_n 0, 14, 0, 0, 0, 0, []), some (.getfield 25, 17, 9, 6, 2, 0, []), none, none, some (.iload_n 1, 18, 0, 0, 0, 0, []), some (.bipush 26, 20, 0, 0, 0, 26, []), none, some (.imul, 21, 0, 0, 0, 0, []), some (.iload_n 2, 22, 0, 0, 0, 0, []), some (.iadd, 23, 0, 0, 0, 0, []), some (.aload_n 0, 24, 0, 0, 0, 0, []), some (.getfield 12, 27, 9, 2, 2, 0, []), none, none, some (.iload_n 2, 28, 0, 0, 0, 0, []), some (.invokevirtual 96, 31, 57, 2, 1, 1, []), none, none, some (.invokestatic 44, 34, 143, 3, 0, 0, []), none, none, some (.iinc 2 1, 37, 0, 0, 0, 1, []), none, none, some (.goto (-35), 40, 2, 0, 0, 0, []), none, none, some (.return_, 41, 0, 0, 0, 0, [])]
def cdX9_readRow : List (Option AmE) := [some (.iconst 1, 1, 0, 0, 0, 1, []), some (.istore_n 2, 2, 0, 0, 0, 0, []), some (.iload_n 2, 3, 0, 0, 0, 0, []), some (.aload_n 0, 4, 0, 0, 0, 0, []), some (.getfield 28, 7, 9, 0, 2, 0, []), none, none, some (.getfield 94, 10, 8, 5, 0, 0, []), none, none, some (.if_icmp .gt 30, 13, 40, 0, 0, 0, []), none, none, some (.aload_n 0, 14, 0, 0, 0, 0, []), some (.getfield 12, 17, 9, 2, 2, 0, []), none, none, some (.iload_n 2, 18, 0, 0, 0, 0, []), some (.aload_n 0, 19, 0, 0, 0, 0, []), some (.getfield 25, 22, 9, 6, 2, 0, []), none, none, some (.iload_n 1, 23, 0, 0, 0, 0, []), some (.bipush 26, 25, 0, 0, 0, 26, []), none, some (.imul, 26, 0, 0, 0, 0, []), some (.iload_n 2, 27, 0, 0, 0, 0, []), some (.iadd, 28, 0, 0, 0, 0, []), some (.invokestatic 68, 31, 142, 2, 0, 1, []), none, none, some (.invokevirtual 99, 34, 60, 3, 1, 0, []), none, none, some (.iinc 2 1, 37, 0, 0, 0, 1, []), none, none, some (.goto (-35), 40, 2, 0, 0, 0, []), none, none, some (.return_, 41, 0, 0, 0, 0, [])]
def cdX10_begin : List (Option AmE) := [some (.aload_n 0, 1, 0, 0, 0, 0, []), some (.aload_n 0, 2, 0, 0, 0, 0, []), some (.getfield 15, 5, 10, 0, 2, 0, []), none, none, some (.getfield 19, 8, 8, 2, 2, 0, []), none, none, some (.iload_n 1, 9, 0, 0, 0, 0, []), some (.invokestatic 24, 12, 142, 2, 0, 1, []), none, none, some (.aload_n 0, 13, 0, 0, 0, 0, []), some (.getfield 15, 16, 10, 0, 2, 0, []), none, none, some (.getfield 28, 19, 8, 3, 2, 0, []), none, none, some (.iload_n 1, 20, 0, 0, 0, 0, []), some (.invokestatic 24, 23, 142, 2, 0, 1, []), none, none, some (.iload_n 2, 24, 0, 0, 0, 0, []), some (.invokevirtual 31, 27, 98, 4, 1, 0, []), none, none, some (.return_, 28, 0, 0, 0, 0, [])]
def cdX10_beginAs : List (Option AmE) := [some (.aload_n 0, 1, 0, 0, 0, 0, []), some (.iload_n 1, 2, 0, 0, 0, 0, []), some (.putfield 35, 5, 10, 2, 0, 0, []), none, none, some (.aload_n 0, 6, 0, 0, 0, 0, []), some (.iload_n 2, 7, 0, 0, 0, 0, []), some (.putfield 39, 10, 10, 3, 0, 0, []), none, none, some (.aload_n 0, 11, 0, 0, 0, 0, []), some (.getfield 9, 14, 10, 1, 2, 0, []), none, none, some (.iconst 0, 15, 0, 0, 0, 0, []), some (.iload_n 1, 16, 0, 0, 0, 0, []), some (.iastore, 17, 0, 0, 0, 0, []), some (.aload_n 0, 18, 0, 0, 0, 0, []), some (.getfield 9, 21, 10, 1, 2, 0, []), none, none, some (.iconst 3, 22, 0, 0, 0, 3, []), some (.iload_n 3, 23, 0, 0, 0, 0, []), some (.iastore, 24, 0, 0, 0, 0, []), some (.aload_n 0, 25, 0, 0, 0, 0, []), some (.getfield 9, 28, 10, 1, 2, 0, []), none, none, some (.iconst 4, 29, 0, 0, 0, 4, []), some (.aload_n 0, 30, 0, 0, 0, 0, []), some (.getfield 15, 33, 10, 0, 2, 0, []), none, none, some (.iload_n 3, 34, 0, 0, 0, 0, []), some (.invokevirtual 42, 37, 84, 2, 1, 1, []), none, none, some (.iastore, 38, 0, 0, 0, 0, []), some (.aload_n 0, 39, 0, 0, 0, 0, []), some (.iconst 0, 40, 0, 0, 0, 0, []), some (.putfield 46, 43, 10, 4, 0, 0, []), none, none, some (.aload_n 0, 44, 0, 0, 0, 0, []), some (.iconst 0, 45, 0, 0, 0, 0, []), some (.putfield 49, 48, 10, 5, 0, 0, []), none, none, some (.aload_n 0, 49, 0, 0, 0, 0, []), some (.iconst (-1), 50, 0, 0, 0, (-1), []), some (.putfield 52, 53, 10, 6, 0, 0, []), none, none, some (.return_, 54, 0, 0, 0, 0, [])]
def cdX10_through : List (Option AmE) := [some (.aload_n 0, 1, 0, 0, 0, 0, []), some (.iload_n 2, 2, 0, 0, 0, 0, []), some (.iload_n 3, 3, 0, 0, 0, 0, []), some (.invokevirtual 55, 6, 97, 3, 1, 0, []), none, none, some (.iconst 0, 7, 0, 0, 0, 0, []), some (.istore 4, 9, 0, 0, 0, 0, []), none, some (.iconst 0, 10, 0, 0, 0, 0, []), some (.istore 5, 12, 0, 0, 0, 0, []), none, some (.iload 5, 14, 0, 0, 0, 0, []), none, some (.bipush 26, 16, 0, 0, 0, 26, []), none, some (.if_icmp .ge 65, 19, 81, 0, 0, 0, []), none, none, some (.iload 4, 21, 0, 0, 0, 0, []), none, some (.ifCond .ne 60, 24, 81, 0, 0, 0, []), none, none, some (.aload_n 0, 25, 0, 0, 0, 0, []), some (.getfield 46, 28, 10, 4, 0, 0, []), none, none, some (.aload_n 1, 29, 0, 0, 0, 0, []), some (.invokevirtual 59, 32, 54, 1, 1, 1, []), none, none, some (.if_icmp .ge 49, 35, 81, 0, 0, 0, []), none, none, some (.aload_n 0, 36, 0, 0, 0, 0, []), some (.aload_n 1, 37, 0, 0, 0, 0, []), some (.iconst 1, 38, 0, 0, 0, 1, []), some (.invokevirtual 65, 41, 101, 3, 1, 1, []), none, none, some (.istore 6, 43, 0, 0, 0, 0, []), none, some (.iload 6, 45, 0, 0, 0, 0, []), none, some (.iconst 2, 46, 0, 0, 0, 2, []), some (.if_icmp .ne 16, 49, 62, 0, 0, 0, []), none, none, some (.aload_n 0, 50, 0, 0, 0, 0, []), some (.getfield 46, 53, 10, 4, 0, 0, []), none, none, some (.ifCond .ne 7, 56, 60, 0, 0, 0, []), none, none, some (.iconst 1, 57, 0, 0, 0, 1, []), some (.goto 4, 60, 61, 0, 0, 0, []), none, none, some (.iconst 2, 61, 0, 0, 0, 2, []), some (.ireturn, 62, 0, 0, 0, 0, []), some (.iload 6, 64, 0, 0, 0, 0, []), none, some (.iconst 1, 65, 0, 0, 0, 1, []), some (.if_icmp .ne 7, 68, 72, 0, 0, 0, []), none, none, some (.iconst 1, 69, 0, 0, 0, 1, []), some (.goto 4, 72, 73, 0, 0, 0, []), none, none, some (.iconst 0, 73, 0, 0, 0, 0, []), some (.istore 4, 75, 0, 0, 0, 0, []), none, some (.iinc 5 1, 78, 0, 0, 0, 1, []), none, none, some (.goto (-66), 81, 12, 0, 0, 0, []), none, none, some (.aload_n 0, 82, 0, 0, 0, 0, []), some (.getfield 39, 85, 10, 3, 0, 0, []), none, none, some (.iconst 3, 86, 0, 0, 0, 3, []), some (.if_icmp .ne 10, 89, 96, 0, 0, 0, []), none, none, some (.iload 4, 91, 0, 0, 0, 0, []), none, some (.ifCond .ne 5, 94, 96, 0, 0, 0, []), none, none, some (.iconst 0, 95, 0, 0, 0, 0, []), some (.ireturn, 96, 0, 0, 0, 0, []), some (.iconst 0, 97, 0, 0, 0, 0, []), some (.istore 5, 99, 0, 0, 0, 0, []), none, some (.iload 5, 101, 0, 0, 0, 0, []), none, some (.bipush 26, 103, 0, 0, 0, 26, []), none, some (.if_icmp .ge 27, 106, 130, 0, 0, 0, []), none, none, some (.aload_n 0, 107, 0, 0, 0, 0, []), some (.getfield 46, 110, 10, 4, 0, 0, []), none, none, some (.ifCond .le 20, 113, 130, 0, 0, 0, []), none, none, some (.aload_n 0, 114, 0, 0, 0, 0, []), some (.aload_n 1, 115, 0, 0, 0, 0, []), some (.iconst 0, 116, 0, 0, 0, 0, []), some (.invokevirtual 65, 119, 101, 3, 1, 1, []), none, none, some (.ifCond .eq 5, 122, 124, 0, 0, 0, []), none, none, some (.iconst 2, 123, 0, 0, 0, 2, []), some (.ireturn, 124, 0, 0, 0, 0, []), some (.iinc 5 1, 127, 0, 0, 0, 1, []), none, none, some (.goto (-28), 130, 99, 0, 0, 0, []), none, none, some (.iload 4, 132, 0, 0, 0, 0, []), none, some (.ifCond .eq 7, 135, 139, 0, 0, 0, []), none, none, some (.iconst 1, 136, 0, 0, 0, 1, []), some (.goto 4, 139, 140, 0, 0, 0, []), none, none, some (.iconst 0, 140, 0, 0, 0, 0, []), some (.ireturn, 141, 0, 0, 0, 0, [])]
def cdX10_carriesUp : List (Option AmE) := [some (.aload_n 0, 1, 0, 0, 0, 0, []), some (.iload_n 2, 2, 0, 0, 0, 0, []), some (.iconst 0, 3, 0, 0, 0, 0, []), some (.iload_n 3, 4, 0, 0, 0, 0, []), some (.invokevirtual 31, 7, 98, 4, 1, 0, []), none, none, some (.iconst 0, 8, 0, 0, 0, 0, []), some (.istore 4, 10, 0, 0, 0, 0, []), none, some (.iload 4, 12, 0, 0, 0, 0, []), none, some (.bipush 26, 14, 0, 0, 0, 26, []), none, some (.if_icmp .ge 31, 17, 45, 0, 0, 0, []), none, none, some (.aload_n 0, 18, 0, 0, 0, 0, []), some (.getfield 46, 21, 10, 4, 0, 0, []), none, none, some (.aload_n 1, 22, 0, 0, 0, 0, []), some (.invokevirtual 59, 25, 54, 1, 1, 1, []), none, none, some (.if_icmp .ge 20, 28, 45, 0, 0, 0, []), none, none, some (.aload_n 0, 29, 0, 0, 0, 0, []), some (.aload_n 1, 30, 0, 0, 0, 0, []), some (.iconst 1, 31, 0, 0, 0, 1, []), some (.invokevirtual 65, 34, 101, 3, 1, 1, []), none, none, some (.ifCond .eq 5, 37, 39, 0, 0, 0, []), none, none, some (.iconst 0, 38, 0, 0, 0, 0, []), some (.ireturn, 39, 0, 0, 3, 0, []), some (.iinc 4 1, 42, 0, 0, 0, 1, []), none, none, some (.goto (-32), 45, 10, 0, 0, 0, []), none, none, some (.iconst 1, 46, 0, 0, 0, 1, []), some (.ireturn, 47, 0, 0, 3, 0, [])]
def cdX10_advance : List (Option AmE) := [some (.aload_n 0, 1, 0, 0, 0, 0, []), some (.aload_n 1, 2, 0, 0, 0, 0, []), some (.iload_n 2, 3, 0, 0, 0, 0, []), some (.invokevirtual 69, 6, 102, 3, 1, 1, []), none, none, some (.istore_n 3, 7, 0, 0, 0, 0, []), some (.aload_n 1, 8, 0, 0, 0, 0, []), some (.iload_n 3, 9, 0, 0, 0, 0, []), some (.invokevirtual 72, 12, 56, 2, 1, 1, []), none, none, some (.ifCond .ne 5, 15, 17, 0, 0, 0, []), none, none, some (.iconst 1, 16, 0, 0, 0, 1, []), some (.ireturn, 17, 0, 0, 0, 0, []), some (.aload_n 1, 18, 0, 0, 0, 0, []), some (.iload_n 3, 19, 0, 0, 0, 0, []), some (.invokevirtual 76, 22, 55, 2, 1, 1, []), none, none, some (.ifCond .eq 15, 25, 37, 0, 0, 0, []), none, none, some (.aload_n 0, 26, 0, 0, 0, 0, []), some (.aload_n 1, 27, 0, 0, 0, 0, []), some (.iload_n 3, 28, 0, 0, 0, 0, []), some (.iload_n 2, 29, 0, 0, 0, 0, []), some (.invokevirtual 79, 32, 103, 4, 1, 1, []), none, none, some (.ifCond .ne 5, 35, 37, 0, 0, 0, []), none, none, some (.iconst 2, 36, 0, 0, 0, 2, []), some (.ireturn, 37, 0, 0, 0, 0, []), some (.aload_n 0, 38, 0, 0, 0, 0, []), some (.iload_n 3, 39, 0, 0, 0, 0, []), some (.putfield 46, 42, 10, 4, 0, 0, []), none, none, some (.iconst 0, 43, 0, 0, 0, 0, []), some (.ireturn, 44, 0, 0, 0, 0, [])]
def cdX10_nextSpot : List (Option AmE) := [some (.iload_n 2, 1, 0, 0, 0, 0, []), some (.ifCond .eq 7, 4, 8, 0, 0, 0, []), none, none, some (.iconst 1, 5, 0, 0, 0, 1, []), some (.goto 4, 8, 9, 0, 0, 0, []), none, none, some (.iconst (-1), 9, 0, 0, 0, (-1), []), some (.istore_n 3, 10, 0, 0, 0, 0, []), some (.aload_n 0, 11, 0, 0, 0, 0, []), some (.getfield 39, 14, 10, 3, 0, 0, []), none, none, some (.iconst 2, 15, 0, 0, 0, 2, []), some (.if_icmp .ne 36, 18, 51, 0, 0, 0, []), none, none, some (.iconst 0, 19, 0, 0, 0, 0, []), some (.aload_n 1, 20, 0, 0, 0, 0, []), some (.invokevirtual 59, 23, 54, 1, 1, 1, []), none, none, some (.aload_n 0, 24, 0, 0, 0, 0, []), some (.getfield 46, 27, 10, 4, 0, 0, []), none, none, some (.iconst 2, 28, 0, 0, 0, 2, []), some (.iload_n 3, 29, 0, 0, 0, 0, []), some (.imul, 30, 0, 0, 0, 0, []), some (.iadd, 31, 0, 0, 0, 0, []), some (.invokestatic 83, 34, 0, 0, 6, 0, []), none, none, some (.invokestatic 89, 37, 0, 0, 5, 0, []), none, none, some (.istore 4, 39, 0, 0, 0, 0, []), none, some (.aload_n 1, 40, 0, 0, 0, 0, []), some (.iload 4, 42, 0, 0, 0, 0, []), none, some (.invokevirtual 72, 45, 56, 2, 1, 1, []), none, none, some (.ifCond .eq 6, 48, 51, 0, 0, 0, []), none, none, some (.iload 4, 50, 0, 0, 0, 0, []), none, some (.ireturn, 51, 0, 0, 0, 0, []), some (.aload_n 0, 52, 0, 0, 0, 0, []), some (.getfield 46, 55, 10, 4, 0, 0, []), none, none, some (.iload_n 3, 56, 0, 0, 0, 0, []), some (.iadd, 57, 0, 0, 0, 0, []), some (.ireturn, 58, 0, 0, 0, 0, [])]
def cdX10_tread : List (Option AmE) := [some (.iconst 0, 1, 0, 0, 0, 0, []), some (.istore 4, 3, 0, 0, 0, 0, []), none, some (.iload 4, 5, 0, 0, 0, 0, []), none, some (.aload_n 0, 6, 0, 0, 0, 0, []), some (.invokevirtual 92, 9, 105, 1, 1, 1, []), none, none, some (.if_icmp .ge 99, 12, 108, 0, 0, 0, []), none, none, some (.aload_n 1, 13, 0, 0, 0, 0, []), some (.iload_n 2, 14, 0, 0, 0, 0, []), some (.invokevirtual 95, 17, 57, 2, 1, 1, []), none, none, some (.istore 5, 19, 0, 0, 0, 0, []), none, some (.aload_n 0, 20, 0, 0, 0, 0, []), some (.iload_n 2, 21, 0, 0, 0, 0, []), some (.iload 5, 23, 0, 0, 0, 0, []), none, some (.aload_n 1, 24, 0, 0, 0, 0, []), some (.getfield 98, 27, 6, 3, 0, 0, []), none, none, some (.iload_n 3, 28, 0, 0, 0, 0, []), some (.invokevirtual 101, 31, 106, 5, 1, 1, []), none, none, some (.istore 6, 33, 0, 0, 0, 0, []), none, some (.iload 6, 35, 0, 0, 0, 0, []), none, some (.iload 5, 37, 0, 0, 0, 0, []), none, some (.invokestatic 83, 40, 0, 0, 6, 0, []), none, none, some (.istore 7, 42, 0, 0, 0, 0, []), none, some (.aload_n 1, 43, 0, 0, 0, 0, []), some (.iload_n 2, 44, 0, 0, 0, 0, []), some (.iload 5, 46, 0, 0, 0, 0, []), none, some (.iload 7, 48, 0, 0, 0, 0, []), none, some (.isub, 49, 0, 0, 0, 0, []), some (.invokevirtual 105, 52, 60, 3, 1, 0, []), none, none, some (.aload_n 0, 53, 0, 0, 0, 0, []), some (.dup, 54, 0, 0, 0, 0, []), some (.getfield 49, 57, 10, 5, 0, 0, []), none, none, some (.iload 7, 59, 0, 0, 0, 0, []), none, some (.iadd, 60, 0, 0, 0, 0, []), some (.putfield 49, 63, 10, 5, 0, 0, []), none, none, some (.aload_n 0, 64, 0, 0, 0, 0, []), some (.getfield 52, 67, 10, 6, 0, 0, []), none, none, some (.iconst (-1), 68, 0, 0, 0, (-1), []), some (.if_icmp .ne 20, 71, 88, 0, 0, 0, []), none, none, some (.iload 7, 73, 0, 0, 0, 0, []), none, some (.ifCond .le 15, 76, 88, 0, 0, 0, []), none, none, some (.iload 7, 78, 0, 0, 0, 0, []), none, some (.iload 5, 80, 0, 0, 0, 0, []), none, some (.if_icmp .ne 8, 83, 88, 0, 0, 0, []), none, none, some (.aload_n 0, 84, 0, 0, 0, 0, []), some (.iload_n 2, 85, 0, 0, 0, 0, []), some (.putfield 52, 88, 10, 6, 0, 0, []), none, none, some (.iload 6, 90, 0, 0, 0, 0, []), none, some (.iload 5, 92, 0, 0, 0, 0, []), none, some (.if_icmp .le 5, 95, 97, 0, 0, 0, []), none, none, some (.iconst 0, 96, 0, 0, 0, 0, []), some (.ireturn, 97, 0, 0, 3, 0, []), some (.aload_n 1, 98, 0, 0, 0, 0, []), some (.iload_n 2, 99, 0, 0, 0, 0, []), some (.invokevirtual 108, 102, 59, 2, 1, 0, []), none, none, some (.iinc 4 1, 105, 0, 0, 0, 1, []), none, none, some (.goto (-102), 108, 3, 0, 0, 0, []), none, none, some (.iconst 1, 109, 0, 0, 0, 1, []), some (.ireturn, 110, 0, 0, 3, 0, [])]
def cdX10_leftBehind : List (Option AmE) := [some (.iload_n 2, 1, 0, 0, 0, 0, []), some (.iconst 1, 2, 0, 0, 0, 1, []), some (.if_icmp .ge 5, 5, 7, 0, 0, 0, []), none, none, some (.iconst (-1), 6, 0, 0, 0, (-1), []), some (.ireturn, 7, 0, 0, 0, 0, []), some (.iload_n 2, 8, 0, 0, 0, 0, []), some (.istore 5, 10, 0, 0, 0, 0, []), none, some (.iconst 0, 11, 0, 0, 0, 0, []), some (.istore 6, 13, 0, 0, 0, 0, []), none, some (.iload 6, 15, 0, 0, 0, 0, []), none, some (.aload_n 0, 16, 0, 0, 0, 0, []), some (.invokevirtual 92, 19, 105, 1, 1, 1, []), none, none, some (.if_icmp .ge 29, 22, 48, 0, 0, 0, []), none, none, some (.iload 5, 24, 0, 0, 0, 0, []), none, some (.ifCond .lt 24, 27, 48, 0, 0, 0, []), none, none, some (.iload 5, 29, 0, 0, 0, 0, []), none, some (.aload_n 0, 30, 0, 0, 0, 0, []), some (.iload_n 1, 31, 0, 0, 0, 0, []), some (.iload 5, 33, 0, 0, 0, 0, []), none, some (.iload_n 3, 34, 0, 0, 0, 0, []), some (.iload 4, 36, 0, 0, 0, 0, []), none, some (.invokevirtual 101, 39, 106, 5, 1, 1, []), none, none, some (.isub, 40, 0, 0, 0, 0, []), some (.istore 5, 42, 0, 0, 0, 0, []), none, some (.iinc 6 1, 45, 0, 0, 0, 1, []), none, none, some (.goto (-32), 48, 13, 0, 0, 0, []), none, none, some (.iconst (-1), 49, 0, 0, 0, (-1), []), some (.iload 5, 51, 0, 0, 0, 0, []), none, some (.invokestatic 89, 54, 0, 0, 5, 0, []), none, none, some (.ireturn, 55, 0, 0, 0, 0, [])]
def cdX10_wearsATread : List (Option AmE) := [some (.aload_n 0, 1, 0, 0, 0, 0, []), some (.getfield 39, 4, 10, 3, 0, 0, []), none, none, some (.iconst 1, 5, 0, 0, 0, 1, []), some (.if_icmp .ne 7, 8, 12, 0, 0, 0, []), none, none, some (.iconst 2, 9, 0, 0, 0, 2, []), some (.goto 4, 12, 13, 0, 0, 0, []), none, none, some (.iconst 1, 13, 0, 0, 0, 1, []), some (.ireturn, 14, 0, 0, 0, 0, [])]
def cdX10_wearOn : List (Option AmE) := [some (.aload_n 0, 1, 0, 0, 0, 0, []), some (.getfield 15, 4, 10, 0, 2, 0, []), none, none, some (.getfield 112, 7, 8, 4, 2, 0, []), none, none, some (.aload_n 0, 8, 0, 0, 0, 0, []), some (.getfield 39, 11, 10, 3, 0, 0, []), none, none, some (.invokevirtual 116, 14, 16, 2, 1, 1, []), none, none, some (.ifCond .ne 8, 17, 22, 0, 0, 0, []), none, none, some (.aload_n 0, 18, 0, 0, 0, 0, []), some (.getfield 35, 21, 10, 2, 0, 0, []), none, none, some (.ireturn, 22, 0, 0, 0, 0, []), some (.aload_n 0, 23, 0, 0, 0, 0, []), some (.getfield 9, 26, 10, 1, 2, 0, []), none, none, some (.iconst 1, 27, 0, 0, 0, 1, []), some (.iload_n 2, 28, 0, 0, 0, 0, []), some (.iastore, 29, 0, 0, 0, 0, []), some (.aload_n 0, 30, 0, 0, 0, 0, []), some (.getfield 9, 33, 10, 1, 2, 0, []), none, none, some (.iconst 2, 34, 0, 0, 0, 2, []), some (.iload_n 1, 35, 0, 0, 0, 0, []), some (.iastore, 36, 0, 0, 0, 0, []), some (.aload_n 0, 37, 0, 0, 0, 0, []), some (.getfield 9, 40, 10, 1, 2, 0, []), none, none, some (.iconst 5, 41, 0, 0, 0, 5, []), some (.iload 4, 43, 0, 0, 0, 0, []), none, some (.ifCond .eq 7, 46, 50, 0, 0, 0, []), none, none, some (.iconst 1, 47, 0, 0, 0, 1, []), some (.goto 4, 50, 51, 0, 0, 0, []), none, none, some (.iconst 0, 51, 0, 0, 0, 0, []), some (.iastore, 52, 0, 0, 0, 0, []), some (.aload_n 0, 53, 0, 0, 0, 0, []), some (.getfield 9, 56, 10, 1, 2, 0, []), none, none, some (.bipush 6, 58, 0, 0, 0, 6, []), none, some (.iload_n 3, 59, 0, 0, 0, 0, []), some (.iastore, 60, 0, 0, 0, 0, []), some (.iconst 0, 61, 0, 0, 0, 0, []), some (.bipush 99, 63, 0, 0, 0, 99, []), none, some (.aload_n 0, 64, 0, 0, 0, 0, []), some (.getfield 15, 67, 10, 0, 2, 0, []), none, none, some (.getfield 112, 70, 8, 4, 2, 0, []), none, none, some (.aload_n 0, 71, 0, 0, 0, 0, []), some (.getfield 39, 74, 10, 3, 0, 0, []), none, none, some (.aload_n 0, 75, 0, 0, 0, 0, []), some (.getfield 9, 78, 10, 1, 2, 0, []), none, none, some (.invokevirtual 121, 81, 17, 3, 1, 1, []), none, none, some (.invokestatic 83, 84, 0, 0, 6, 0, []), none, none, some (.invokestatic 89, 87, 0, 0, 5, 0, []), none, none, some (.ireturn, 88, 0, 0, 0, 0, [])]
def cdX11_feed : List (Option AmE) := [some (.aload_n 0, 1, 0, 0, 0, 0, []), some (.getfield 12, 4, 11, 0, 2, 0, []), none, none, some (.iload_n 1, 5, 0, 0, 0, 0, []), some (.iload_n 2, 6, 0, 0, 0, 0, []), some (.iload_n 3, 7, 0, 0, 0, 0, []), some (.iload 4, 9, 0, 0, 0, 0, []), none, some (.iload 5, 11, 0, 0, 0, 0, []), none, some (.invokevirtual 102, 14, 63, 6, 1, 1, []), none, none, some (.ireturn, 15, 0, 0, 0, 0, [])]
def cdX11_back : List (Option AmE) := [some (.aload_n 0, 1, 0, 0, 0, 0, []), some (.getfield 12, 4, 11, 0, 2, 0, []), none, none, some (.iload_n 1, 5, 0, 0, 0, 0, []), some (.invokevirtual 106, 8, 65, 2, 1, 1, []), none, none, some (.ireturn, 9, 0, 0, 0, 0, [])]
def cdX11_read : List (Option AmE) := [some (.aload_n 0, 1, 0, 0, 0, 0, []), some (.getfield 28, 4, 11, 2, 2, 0, []), none, none, some (.invokevirtual 110, 7, 28, 1, 1, 1, []), none, none, some (.istore_n 1, 8, 0, 0, 0, 0, []), some (.aload_n 0, 9, 0, 0, 0, 0, []), some (.getfield 12, 12, 11, 0, 2, 0, []), none, none, some (.invokevirtual 114, 15, 66, 1, 1, 0, []), none, none, some (.aload_n 0, 16, 0, 0, 0, 0, []), some (.iload_n 1, 17, 0, 0, 0, 0, []), some (.ifCond .ne 7, 20, 24, 0, 0, 0, []), none, none, some (.iconst (-1), 21, 0, 0, 0, (-1), []), some (.goto 10, 24, 31, 0, 0, 0, []), none, none, some (.aload_n 0, 25, 0, 0, 0, 0, []), some (.getfield 28, 28, 11, 2, 2, 0, []), none, none, some (.invokevirtual 117, 31, 29, 1, 1, 1, []), none, none, some (.putfield 98, 34, 11, 15, 0, 0, []), none, none, some (.iload_n 1, 35, 0, 0, 0, 0, []), some (.ifCond .ne 7, 38, 42, 0, 0, 0, []), none, none, some (.aload_n 0, 39, 0, 0, 0, 0, []), some (.invokevirtual 119, 42, 136, 1, 1, 0, []), none, none, some (.iload_n 1, 43, 0, 0, 0, 0, []), some (.ireturn, 44, 0, 0, 0, 0, [])]
def cdX11_place : List (Option AmE) := [some (.aload_n 0, 1, 0, 0, 0, 0, []), some (.getfield 98, 4, 11, 15, 0, 0, []), none, none, some (.ireturn, 5, 0, 0, 0, 0, [])]
def cdX11_step : List (Option AmE) := [some (.aload_n 0, 1, 0, 0, 0, 0, []), some (.getfield 44, 4, 11, 4, 2, 0, []), none, none, some (.getfield 122, 7, 5, 1, 2, 0, []), none, none, some (.iload_n 1, 8, 0, 0, 0, 0, []), some (.invokevirtual 125, 11, 55, 2, 1, 1, []), none, none, some (.ifCond .ne 5, 14, 16, 0, 0, 0, []), none, none, some (.iconst (-1), 15, 0, 0, 0, (-1), []), some (.ireturn, 16, 0, 0, 0, 0, []), some (.iload_n 2, 17, 0, 0, 0, 0, []), some (.tableswitch 76 0 3 #[31, 43, 55, 67], 48, 93, 0, 0, 0, [48, 60, 72, 84]), none, none, none, none, none, none, none, none, none, none, none, none, none, none, none, none, none, none, none, none, none, none, none, none, none, none, none, none, none, none, some (.aload_n 0, 49, 0, 0, 0, 0, []), some (.getfield 44, 52, 11, 4, 2, 0, []), none, none, some (.getfield 122, 55, 5, 1, 2, 0, []), none, none, some (.iload_n 1, 56, 0, 0, 0, 0, []), some (.invokevirtual 129, 59, 57, 2, 1, 1, []), none, none, some (.ireturn, 60, 0, 0, 0, 0, []), some (.aload_n 0, 61, 0, 0, 0, 0, []), some (.getfield 19, 64, 11, 1, 2, 0, []), none, none, some (.getfield 132, 67, 8, 0, 2, 0, []), none, none, some (.iload_n 1, 68, 0, 0, 0, 0, []), some (.invokestatic 136, 71, 142, 2, 0, 1, []), none, none, some (.ireturn, 72, 0, 0, 0, 0, []), some (.aload_n 0, 73, 0, 0, 0, 0, []), some (.getfield 44, 76, 11, 4, 2, 0, []), none, none, some (.getfield 122, 79, 5, 1, 2, 0, []), none, none, some (.iload_n 1, 80, 0, 0, 0, 0, []), some (.invokevirtual 140, 83, 58, 2, 1, 1, []), none, none, some (.ireturn, 84, 0, 0, 0, 0, []), some (.aload_n 0, 85, 0, 0, 0, 0, []), some (.getfield 44, 88, 11, 4, 2, 0, []), none, none, some (.iload_n 1, 89, 0, 0, 0, 0, []), some (.invokevirtual 143, 92, 50, 2, 1, 1, []), none, none, some (.ireturn, 93, 0, 0, 0, 0, []), some (.iconst (-1), 94, 0, 0, 0, (-1), []), some (.ireturn, 95, 0, 0, 0, 0, [])]
def cdX11_pilgrim : List (Option AmE) := [some (.aload_n 0, 1, 0, 0, 0, 0, []), some (.getfield 19, 4, 11, 1, 2, 0, []), none, none, some (.iload_n 1, 5, 0, 0, 0, 0, []), some (.invokevirtual 146, 8, 83, 2, 1, 1, []), none, none, some (.ifCond .ne 5, 11, 13, 0, 0, 0, []), none, none, some (.iconst (-1), 12, 0, 0, 0, (-1), []), some (.ireturn, 13, 0, 0, 0, 0, []), some (.iload_n 2, 14, 0, 0, 0, 0, []), some (.tableswitch 110 0 5 #[38, 50, 62, 74, 86, 98], 52, 124, 0, 0, 0, [52, 64, 76, 88, 100, 112]), none, none, none, none, none, none, none, none, none, none, none, none, none, none, none, none, none, none, none, none, none, none, none, none, none, none, none, none, none, none, none, none, none, none, none, none, none, some (.aload_n 0, 53, 0, 0, 0, 0, []), some (.getfield 44, 56, 11, 4, 2, 0, []), none, none, some (.getfield 149, 59, 5, 2, 2, 0, []), none, none, some (.iload_n 1, 60, 0, 0, 0, 0, []), some (.invokestatic 136, 63, 142, 2, 0, 1, []), none, none, some (.ireturn, 64, 0, 0, 0, 0, []), some (.aload_n 0, 65, 0, 0, 0, 0, []), some (.getfield 19, 68, 11, 1, 2, 0, []), none, none, some (.getfield 152, 71, 8, 2, 2, 0, []), none, none, some (.iload_n 1, 72, 0, 0, 0, 0, []), some (.invokestatic 136, 75, 142, 2, 0, 1, []), none, none, some (.ireturn, 76, 0, 0, 0, 0, []), some (.aload_n 0, 77, 0, 0, 0, 0, []), some (.getfield 19, 80, 11, 1, 2, 0, []), none, none, some (.getfield 155, 83, 8, 3, 2, 0, []), none, none, some (.iload_n 1, 84, 0, 0, 0, 0, []), some (.invokestatic 136, 87, 142, 2, 0, 1, []), none, none, some (.ireturn, 88, 0, 0, 0, 0, []), some (.aload_n 0, 89, 0, 0, 0, 0, []), some (.getfield 44, 92, 11, 4, 2, 0, []), none, none, some (.getfield 158, 95, 5, 3, 2, 0, []), none, none, some (.iload_n 1, 96, 0, 0, 0, 0, []), some (.invokestatic 136, 99, 142, 2, 0, 1, []), none, none, some (.ireturn, 100, 0, 0, 0, 0, []), some (.aload_n 0, 101, 0, 0, 0, 0, []), some (.getfield 44, 104, 11, 4, 2, 0, []), none, none, some (.getfield 161, 107, 5, 4, 2, 0, []), none, none, some (.iload_n 1, 108, 0, 0, 0, 0, []), some (.invokestatic 136, 111, 142, 2, 0, 1, []), none, none, some (.ireturn, 112, 0, 0, 0, 0, []), some (.aload_n 0, 113, 0, 0, 0, 0, []), some (.getfield 44, 116, 11, 4, 2, 0, []), none, none, some (.getfield 164, 119, 5, 5, 2, 0, []), none, none, some (.iload_n 1, 120, 0, 0, 0, 0, []), some (.invokestatic 136, 123, 142, 2, 0, 1, []), none, none, some (.ireturn, 124, 0, 0, 0, 0, []), some (.iconst (-1), 125, 0, 0, 0, (-1), []), some (.ireturn, 126, 0, 0, 0, 0, [])]
def cdX11_wear : List (Option AmE) := [some (.aload_n 0, 1, 0, 0, 0, 0, []), some (.getfield 19, 4, 11, 1, 2, 0, []), none, none, some (.iload_n 1, 5, 0, 0, 0, 0, []), some (.invokevirtual 146, 8, 83, 2, 1, 1, []), none, none, some (.ifCond .eq 17, 11, 25, 0, 0, 0, []), none, none, some (.aload_n 0, 12, 0, 0, 0, 0, []), some (.getfield 44, 15, 11, 4, 2, 0, []), none, none, some (.getfield 122, 18, 5, 1, 2, 0, []), none, none, some (.iload_n 2, 19, 0, 0, 0, 0, []), some (.invokevirtual 125, 22, 55, 2, 1, 1, []), none, none, some (.ifCond .ne 5, 25, 27, 0, 0, 0, []), none, none, some (.iconst (-1), 26, 0, 0, 0, (-1), []), some (.ireturn, 27, 0, 0, 0, 0, []), some (.aload_n 0, 28, 0, 0, 0, 0, []), some (.getfield 37, 31, 11, 3, 2, 0, []), none, none, some (.iload_n 1, 32, 0, 0, 0, 0, []), some (.aload_n 0, 33, 0, 0, 0, 0, []), some (.getfield 44, 36, 11, 4, 2, 0, []), none, none, some (.getfield 167, 39, 5, 7, 0, 0, []), none, none, some (.invokevirtual 170, 42, 97, 3, 1, 0, []), none, none, some (.aload_n 0, 43, 0, 0, 0, 0, []), some (.getfield 37, 46, 11, 3, 2, 0, []), none, none, some (.iload_n 2, 47, 0, 0, 0, 0, []), some (.aload_n 0, 48, 0, 0, 0, 0, []), some (.getfield 44, 51, 11, 4, 2, 0, []), none, none, some (.getfield 122, 54, 5, 1, 2, 0, []), none, none, some (.iload_n 2, 55, 0, 0, 0, 0, []), some (.invokevirtual 129, 58, 57, 2, 1, 1, []), none, none, some (.aload_n 0, 59, 0, 0, 0, 0, []), some (.getfield 44, 62, 11, 4, 2, 0, []), none, none, some (.getfield 122, 65, 5, 1, 2, 0, []), none, none, some (.getfield 174, 68, 6, 3, 0, 0, []), none, none, some (.iload_n 3, 69, 0, 0, 0, 0, []), some (.invokevirtual 177, 72, 106, 5, 1, 1, []), none, none, some (.ireturn, 73, 0, 0, 0, 0, [])]
def cdX11_go : List (Option AmE) := [some (.aload_n 0, 1, 0, 0, 0, 0, []), some (.getfield 19, 4, 11, 1, 2, 0, []), none, none, some (.iload_n 1, 5, 0, 0, 0, 0, []), some (.invokevirtual 146, 8, 83, 2, 1, 1, []), none, none, some (.ifCond .ne 5, 11, 13, 0, 0, 0, []), none, none, some (.iconst (-1), 12, 0, 0, 0, (-1), []), some (.ireturn, 13, 0, 0, 0, 0, []), some (.aload_n 0, 14, 0, 0, 0, 0, []), some (.getfield 44, 17, 11, 4, 2, 0, []), none, none, some (.iload_n 1, 18, 0, 0, 0, 0, []), some (.invokevirtual 181, 21, 48, 2, 1, 1, []), none, none, some (.ifCond .ne 5, 24, 26, 0, 0, 0, []), none, none, some (.iconst 3, 25, 0, 0, 0, 3, []), some (.ireturn, 26, 0, 0, 0, 0, []), some (.aload_n 0, 27, 0, 0, 0, 0, []), some (.invokevirtual 184, 30, 137, 1, 1, 0, []), none, none, some (.aload_n 0, 31, 0, 0, 0, 0, []), some (.getfield 37, 34, 11, 3, 2, 0, []), none, none, some (.aload_n 0, 35, 0, 0, 0, 0, []), some (.getfield 44, 38, 11, 4, 2, 0, []), none, none, some (.getfield 122, 41, 5, 1, 2, 0, []), none, none, some (.iload_n 1, 42, 0, 0, 0, 0, []), some (.aload_n 0, 43, 0, 0, 0, 0, []), some (.getfield 44, 46, 11, 4, 2, 0, []), none, none, some (.getfield 167, 49, 5, 7, 0, 0, []), none, none, some (.invokevirtual 187, 52, 99, 4, 1, 1, []), none, none, some (.istore_n 2, 53, 0, 0, 0, 0, []), some (.aload_n 0, 54, 0, 0, 0, 0, []), some (.getfield 44, 57, 11, 4, 2, 0, []), none, none, some (.iload_n 1, 58, 0, 0, 0, 0, []), some (.iload_n 2, 59, 0, 0, 0, 0, []), some (.aload_n 0, 60, 0, 0, 0, 0, []), some (.getfield 37, 63, 11, 3, 2, 0, []), none, none, some (.getfield 191, 66, 10, 4, 0, 0, []), none, none, some (.aload_n 0, 67, 0, 0, 0, 0, []), some (.getfield 37, 70, 11, 3, 2, 0, []), none, none, some (.getfield 194, 73, 10, 5, 0, 0, []), none, none, some (.invokevirtual 196, 76, 46, 5, 1, 0, []), none, none, some (.aload_n 0, 77, 0, 0, 0, 0, []), some (.invokevirtual 200, 80, 139, 1, 1, 0, []), none, none, some (.iload_n 2, 81, 0, 0, 0, 0, []), some (.ireturn, 82, 0, 0, 0, 0, [])]
def cdX11_would : List (Option AmE) := [some (.aload_n 0, 1, 0, 0, 0, 0, []), some (.getfield 19, 4, 11, 1, 2, 0, []), none, none, some (.iload_n 1, 5, 0, 0, 0, 0, []), some (.invokevirtual 146, 8, 83, 2, 1, 1, []), none, none, some (.ifCond .eq 12, 11, 20, 0, 0, 0, []), none, none, some (.iload_n 2, 12, 0, 0, 0, 0, []), some (.ifCond .lt 8, 15, 20, 0, 0, 0, []), none, none, some (.iload_n 2, 16, 0, 0, 0, 0, []), some (.iconst 2, 17, 0, 0, 0, 2, []), some (.if_icmp .le 5, 20, 22, 0, 0, 0, []), none, none, some (.iconst (-1), 21, 0, 0, 0, (-1), []), some (.ireturn, 22, 0, 0, 0, 0, []), some (.iconst 3, 23, 0, 0, 0, 3, []), some (.istore_n 3, 24, 0, 0, 0, 0, []), some (.aload_n 0, 25, 0, 0, 0, 0, []), some (.getfield 44, 28, 11, 4, 2, 0, []), none, none, some (.getfield 149, 31, 5, 2, 2, 0, []), none, none, some (.iload_n 1, 32, 0, 0, 0, 0, []), some (.invokestatic 136, 35, 142, 2, 0, 1, []), none, none, some (.istore 4, 37, 0, 0, 0, 0, []), none, some (.iconst 0, 38, 0, 0, 0, 0, []), some (.istore 5, 40, 0, 0, 0, 0, []), none, some (.aload_n 0, 41, 0, 0, 0, 0, []), some (.getfield 44, 44, 11, 4, 2, 0, []), none, none, some (.iload_n 1, 45, 0, 0, 0, 0, []), some (.invokevirtual 181, 48, 48, 2, 1, 1, []), none, none, some (.ifCond .eq 55, 51, 103, 0, 0, 0, []), none, none, some (.aload_n 0, 52, 0, 0, 0, 0, []), some (.getfield 62, 55, 11, 8, 2, 0, []), none, none, some (.aload_n 0, 56, 0, 0, 0, 0, []), some (.getfield 44, 59, 11, 4, 2, 0, []), none, none, some (.getfield 122, 62, 5, 1, 2, 0, []), none, none, some (.invokevirtual 203, 65, 53, 2, 1, 0, []), none, none, some (.aload_n 0, 66, 0, 0, 0, 0, []), some (.getfield 37, 69, 11, 3, 2, 0, []), none, none, some (.aload_n 0, 70, 0, 0, 0, 0, []), some (.getfield 62, 73, 11, 8, 2, 0, []), none, none, some (.iload_n 1, 74, 0, 0, 0, 0, []), some (.aload_n 0, 75, 0, 0, 0, 0, []), some (.getfield 44, 78, 11, 4, 2, 0, []), none, none, some (.getfield 167, 81, 5, 7, 0, 0, []), none, none, some (.invokevirtual 187, 84, 99, 4, 1, 1, []), none, none, some (.istore_n 3, 85, 0, 0, 0, 0, []), some (.aload_n 0, 86, 0, 0, 0, 0, []), some (.getfield 37, 89, 11, 3, 2, 0, []), none, none, some (.getfield 191, 92, 10, 4, 0, 0, []), none, none, some (.istore 4, 94, 0, 0, 0, 0, []), none, some (.aload_n 0, 95, 0, 0, 0, 0, []), some (.getfield 37, 98, 11, 3, 2, 0, []), none, none, some (.getfield 194, 101, 10, 5, 0, 0, []), none, none, some (.istore 5, 103, 0, 0, 0, 0, []), none, some (.iload_n 2, 104, 0, 0, 0, 0, []), some (.ifCond .ne 7, 107, 111, 0, 0, 0, []), none, none, some (.iload_n 3, 108, 0, 0, 0, 0, []), some (.goto 15, 111, 123, 0, 0, 0, []), none, none, some (.iload_n 2, 112, 0, 0, 0, 0, []), some (.iconst 1, 113, 0, 0, 0, 1, []), some (.if_icmp .ne 8, 116, 121, 0, 0, 0, []), none, none, some (.iload 4, 118, 0, 0, 0, 0, []), none, some (.goto 5, 121, 123, 0, 0, 0, []), none, none, some (.iload 5, 123, 0, 0, 0, 0, []), none, some (.ireturn, 124, 0, 0, 0, 0, [])]
def cdX11_night : List (Option AmE) := [some (.iload_n 1, 1, 0, 0, 0, 0, []), some (.ifCond .lt 9, 4, 10, 0, 0, 0, []), none, none, some (.iload_n 1, 5, 0, 0, 0, 0, []), some (.bipush 100, 7, 0, 0, 0, 100, []), none, some (.if_icmp .le 5, 10, 12, 0, 0, 0, []), none, none, some (.iconst (-1), 11, 0, 0, 0, (-1), []), some (.ireturn, 12, 0, 0, 0, 0, []), some (.iload_n 1, 13, 0, 0, 0, 0, []), some (.ifCond .le 31, 16, 44, 0, 0, 0, []), none, none, some (.aload_n 0, 17, 0, 0, 0, 0, []), some (.invokevirtual 184, 20, 137, 1, 1, 0, []), none, none, some (.iconst 0, 21, 0, 0, 0, 0, []), some (.istore_n 2, 22, 0, 0, 0, 0, []), some (.iload_n 2, 23, 0, 0, 0, 0, []), some (.iload_n 1, 24, 0, 0, 0, 0, []), some (.if_icmp .ge 16, 27, 40, 0, 0, 0, []), none, none, some (.aload_n 0, 28, 0, 0, 0, 0, []), some (.getfield 44, 31, 11, 4, 2, 0, []), none, none, some (.invokevirtual 207, 34, 47, 1, 1, 0, []), none, none, some (.iinc 2 1, 37, 0, 0, 0, 1, []), none, none, some (.goto (-15), 40, 22, 0, 0, 0, []), none, none, some (.aload_n 0, 41, 0, 0, 0, 0, []), some (.invokevirtual 200, 44, 139, 1, 1, 0, []), none, none, some (.aload_n 0, 45, 0, 0, 0, 0, []), some (.getfield 44, 48, 11, 4, 2, 0, []), none, none, some (.getfield 167, 51, 5, 7, 0, 0, []), none, none, some (.ireturn, 52, 0, 0, 0, 0, [])]
def cdX11_mend : List (Option AmE) := [some (.aload_n 0, 1, 0, 0, 0, 0, []), some (.getfield 44, 4, 11, 4, 2, 0, []), none, none, some (.getfield 122, 7, 5, 1, 2, 0, []), none, none, some (.iload_n 1, 8, 0, 0, 0, 0, []), some (.invokevirtual 125, 11, 55, 2, 1, 1, []), none, none, some (.ifCond .eq 8, 14, 19, 0, 0, 0, []), none, none, some (.iload_n 2, 15, 0, 0, 0, 0, []), some (.iconst 1, 16, 0, 0, 0, 1, []), some (.if_icmp .ge 5, 19, 21, 0, 0, 0, []), none, none, some (.iconst (-1), 20, 0, 0, 0, (-1), []), some (.ireturn, 21, 0, 0, 0, 0, []), some (.aload_n 0, 22, 0, 0, 0, 0, []), some (.getfield 44, 25, 11, 4, 2, 0, []), none, none, some (.getfield 122, 28, 5, 1, 2, 0, []), none, none, some (.iload_n 1, 29, 0, 0, 0, 0, []), some (.invokevirtual 129, 32, 57, 2, 1, 1, []), none, none, some (.istore_n 3, 33, 0, 0, 0, 0, []), some (.iload_n 2, 34, 0, 0, 0, 0, []), some (.aload_n 0, 35, 0, 0, 0, 0, []), some (.getfield 44, 38, 11, 4, 2, 0, []), none, none, some (.getfield 210, 41, 5, 6, 0, 0, []), none, none, some (.if_icmp .gt 20, 44, 61, 0, 0, 0, []), none, none, some (.iload_n 2, 45, 0, 0, 0, 0, []), some (.aload_n 0, 46, 0, 0, 0, 0, []), some (.getfield 19, 49, 11, 1, 2, 0, []), none, none, some (.getfield 132, 52, 8, 0, 2, 0, []), none, none, some (.iload_n 1, 53, 0, 0, 0, 0, []), some (.invokestatic 136, 56, 142, 2, 0, 1, []), none, none, some (.iload_n 3, 57, 0, 0, 0, 0, []), some (.isub, 58, 0, 0, 0, 0, []), some (.if_icmp .le 6, 61, 64, 0, 0, 0, []), none, none, some (.bipush (-2), 63, 0, 0, 0, (-2), []), none, some (.ireturn, 64, 0, 0, 0, 0, []), some (.aload_n 0, 65, 0, 0, 0, 0, []), some (.invokevirtual 184, 68, 137, 1, 1, 0, []), none, none, some (.aload_n 0, 69, 0, 0, 0, 0, []), some (.getfield 44, 72, 11, 4, 2, 0, []), none, none, some (.getfield 122, 75, 5, 1, 2, 0, []), none, none, some (.iload_n 1, 76, 0, 0, 0, 0, []), some (.iload_n 3, 77, 0, 0, 0, 0, []), some (.iload_n 2, 78, 0, 0, 0, 0, []), some (.iadd, 79, 0, 0, 0, 0, []), some (.invokevirtual 213, 82, 60, 3, 1, 0, []), none, none, some (.aload_n 0, 83, 0, 0, 0, 0, []), some (.getfield 44, 86, 11, 4, 2, 0, []), none, none, some (.dup, 87, 0, 0, 0, 0, []), some (.getfield 210, 90, 5, 6, 0, 0, []), none, none, some (.iload_n 2, 91, 0, 0, 0, 0, []), some (.isub, 92, 0, 0, 0, 0, []), some (.putfield 210, 95, 5, 6, 0, 0, []), none, none, some (.aload_n 0, 96, 0, 0, 0, 0, []), some (.invokevirtual 200, 99, 139, 1, 1, 0, []), none, none, some (.aload_n 0, 100, 0, 0, 0, 0, []), some (.getfield 44, 103, 11, 4, 2, 0, []), none, none, some (.getfield 210, 106, 5, 6, 0, 0, []), none, none, some (.ireturn, 107, 0, 0, 0, 0, [])]
def cdX11_undo : List (Option AmE) := [some (.aload_n 0, 1, 0, 0, 0, 0, []), some (.getfield 216, 4, 11, 13, 0, 0, []), none, none, some (.ifCond .gt 5, 7, 9, 0, 0, 0, []), none, none, some (.iconst 0, 8, 0, 0, 0, 0, []), some (.ireturn, 9, 0, 0, 3, 0, []), some (.aload_n 0, 10, 0, 0, 0, 0, []), some (.dup, 11, 0, 0, 0, 0, []), some (.getfield 216, 14, 11, 13, 0, 0, []), none, none, some (.iconst 1, 15, 0, 0, 0, 1, []), some (.isub, 16, 0, 0, 0, 0, []), some (.putfield 216, 19, 11, 13, 0, 0, []), none, none, some (.aload_n 0, 20, 0, 0, 0, 0, []), some (.aload_n 0, 21, 0, 0, 0, 0, []), some (.getfield 219, 24, 11, 14, 0, 0, []), none, none, some (.bipush 40, 26, 0, 0, 0, 40, []), none, some (.iadd, 27, 0, 0, 0, 0, []), some (.iconst 1, 28, 0, 0, 0, 1, []), some (.isub, 29, 0, 0, 0, 0, []), some (.bipush 40, 31, 0, 0, 0, 40, []), none, some (.irem, 32, 0, 0, 0, 0, []), some (.putfield 219, 35, 11, 14, 0, 0, []), none, none, some (.aload_n 0, 36, 0, 0, 0, 0, []), some (.aload_n 0, 37, 0, 0, 0, 0, []), some (.getfield 48, 40, 11, 5, 2, 0, []), none, none, some (.aload_n 0, 41, 0, 0, 0, 0, []), some (.getfield 219, 44, 11, 14, 0, 0, []), none, none, some (.invokevirtual 222, 47, 138, 3, 1, 1, []), none, none, some (.ireturn, 48, 0, 0, 3, 0, [])]
def cdX11_order : List (Option AmE) := [some (.aload_n 0, 1, 0, 0, 0, 0, []), some (.iload_n 1, 2, 0, 0, 0, 0, []), some (.invokevirtual 226, 5, 140, 2, 1, 1, []), none, none, some (.ifCond .eq 12, 8, 17, 0, 0, 0, []), none, none, some (.iload_n 2, 9, 0, 0, 0, 0, []), some (.ifCond .lt 8, 12, 17, 0, 0, 0, []), none, none, some (.iload_n 2, 13, 0, 0, 0, 0, []), some (.iconst 1, 14, 0, 0, 0, 1, []), some (.if_icmp .le 5, 17, 19, 0, 0, 0, []), none, none, some (.iconst (-1), 18, 0, 0, 0, (-1), []), some (.ireturn, 19, 0, 0, 0, 0, []), some (.iload_n 1, 20, 0, 0, 0, 0, []), some (.invokestatic 229, 23, 244, 1, 0, 1, []), none, none, some (.bipush 7, 25, 0, 0, 0, 7, []), none, some (.if_icmp .le 6, 28, 31, 0, 0, 0, []), none, none, some (.bipush (-2), 30, 0, 0, 0, (-2), []), none, some (.ireturn, 31, 0, 0, 0, 0, []), some (.aload_n 0, 32, 0, 0, 0, 0, []), some (.getfield 71, 35, 11, 9, 2, 0, []), none, none, some (.aload_n 0, 36, 0, 0, 0, 0, []), some (.getfield 44, 39, 11, 4, 2, 0, []), none, none, some (.iload_n 1, 40, 0, 0, 0, 0, []), some (.invokevirtual 234, 43, 26, 3, 1, 0, []), none, none, some (.iload_n 2, 44, 0, 0, 0, 0, []), some (.ifCond .ne 13, 47, 57, 0, 0, 0, []), none, none, some (.aload_n 0, 48, 0, 0, 0, 0, []), some (.getfield 71, 51, 11, 9, 2, 0, []), none, none, some (.getfield 238, 54, 3, 7, 0, 0, []), none, none, some (.goto 10, 57, 64, 0, 0, 0, []), none, none, some (.aload_n 0, 58, 0, 0, 0, 0, []), some (.getfield 71, 61, 11, 9, 2, 0, []), none, none, some (.getfield 241, 64, 3, 8, 0, 0, []), none, none, some (.ireturn, 65, 0, 0, 0, 0, [])]
def cdX11_orderAt : List (Option AmE) := [some (.iload_n 1, 1, 0, 0, 0, 0, []), some (.invokestatic 229, 4, 244, 1, 0, 1, []), none, none, some (.istore_n 3, 5, 0, 0, 0, 0, []), some (.aload_n 0, 6, 0, 0, 0, 0, []), some (.iload_n 1, 7, 0, 0, 0, 0, []), some (.invokevirtual 226, 10, 140, 2, 1, 1, []), none, none, some (.ifCond .eq 12, 13, 22, 0, 0, 0, []), none, none, some (.iload_n 2, 14, 0, 0, 0, 0, []), some (.ifCond .lt 8, 17, 22, 0, 0, 0, []), none, none, some (.iload_n 2, 18, 0, 0, 0, 0, []), some (.iload_n 3, 19, 0, 0, 0, 0, []), some (.if_icmp .lt 5, 22, 24, 0, 0, 0, []), none, none, some (.iconst (-1), 23, 0, 0, 0, (-1), []), some (.ireturn, 24, 0, 0, 0, 0, []), some (.iload_n 3, 25, 0, 0, 0, 0, []), some (.bipush 7, 27, 0, 0, 0, 7, []), none, some (.if_icmp .le 6, 30, 33, 0, 0, 0, []), none, none, some (.bipush (-2), 32, 0, 0, 0, (-2), []), none, some (.ireturn, 33, 0, 0, 0, 0, []), some (.aload_n 0, 34, 0, 0, 0, 0, []), some (.getfield 71, 37, 11, 9, 2, 0, []), none, none, some (.aload_n 0, 38, 0, 0, 0, 0, []), some (.getfield 44, 41, 11, 4, 2, 0, []), none, none, some (.iload_n 1, 42, 0, 0, 0, 0, []), some (.invokevirtual 234, 45, 26, 3, 1, 0, []), none, none, some (.aload_n 0, 46, 0, 0, 0, 0, []), some (.getfield 71, 49, 11, 9, 2, 0, []), none, none, some (.getfield 244, 52, 3, 3, 2, 0, []), none, none, some (.iload_n 2, 53, 0, 0, 0, 0, []), some (.invokestatic 136, 56, 142, 2, 0, 1, []), none, none, some (.ireturn, 57, 0, 0, 0, 0, [])]
def cdX11_need : List (Option AmE) := [some (.aload_n 0, 1, 0, 0, 0, 0, []), some (.iload_n 1, 2, 0, 0, 0, 0, []), some (.invokevirtual 226, 5, 140, 2, 1, 1, []), none, none, some (.ifCond .ne 5, 8, 10, 0, 0, 0, []), none, none, some (.iconst (-1), 9, 0, 0, 0, (-1), []), some (.ireturn, 10, 0, 0, 0, 0, []), some (.iload_n 2, 11, 0, 0, 0, 0, []), some (.iconst (-1), 12, 0, 0, 0, (-1), []), some (.if_icmp .ne 16, 15, 28, 0, 0, 0, []), none, none, some (.aload_n 0, 16, 0, 0, 0, 0, []), some (.getfield 87, 19, 11, 11, 2, 0, []), none, none, some (.aload_n 0, 20, 0, 0, 0, 0, []), some (.getfield 44, 23, 11, 4, 2, 0, []), none, none, some (.iload_n 1, 24, 0, 0, 0, 0, []), some (.invokevirtual 247, 27, 18, 3, 1, 1, []), none, none, some (.ireturn, 28, 0, 0, 0, 0, []), some (.aload_n 0, 29, 0, 0, 0, 0, []), some (.getfield 44, 32, 11, 4, 2, 0, []), none, none, some (.getfield 122, 35, 5, 1, 2, 0, []), none, none, some (.iload_n 2, 36, 0, 0, 0, 0, []), some (.invokevirtual 125, 39, 55, 2, 1, 1, []), none, none, some (.ifCond .eq 19, 42, 58, 0, 0, 0, []), none, none, some (.aload_n 0, 43, 0, 0, 0, 0, []), some (.getfield 87, 46, 11, 11, 2, 0, []), none, none, some (.aload_n 0, 47, 0, 0, 0, 0, []), some (.getfield 44, 50, 11, 4, 2, 0, []), none, none, some (.iload_n 1, 51, 0, 0, 0, 0, []), some (.iload_n 2, 52, 0, 0, 0, 0, []), some (.invokevirtual 251, 55, 19, 4, 1, 1, []), none, none, some (.goto 4, 58, 59, 0, 0, 0, []), none, none, some (.iconst (-1), 59, 0, 0, 0, (-1), []), some (.ireturn, 60, 0, 0, 0, 0, [])]
def cdX11_bears : List (Option AmE) := [some (.aload_n 0, 1, 0, 0, 0, 0, []), some (.iload_n 1, 2, 0, 0, 0, 0, []), some (.invokevirtual 226, 5, 140, 2, 1, 1, []), none, none, some (.ifCond .ne 5, 8, 10, 0, 0, 0, []), none, none, some (.iconst (-1), 9, 0, 0, 0, (-1), []), some (.ireturn, 10, 0, 0, 0, 0, []), some (.aload_n 0, 11, 0, 0, 0, 0, []), some (.getfield 80, 14, 11, 10, 2, 0, []), none, none, some (.aload_n 0, 15, 0, 0, 0, 0, []), some (.getfield 44, 18, 11, 4, 2, 0, []), none, none, some (.iload_n 1, 19, 0, 0, 0, 0, []), some (.invokevirtual 255, 22, 1, 3, 1, 1, []), none, none, some (.ifCond .eq 7, 25, 29, 0, 0, 0, []), none, none, some (.iconst 1, 26, 0, 0, 0, 1, []), some (.goto 4, 29, 30, 0, 0, 0, []), none, none, some (.iconst 0, 30, 0, 0, 0, 0, []), some (.ireturn, 31, 0, 0, 0, 0, [])]
def cdX11_odds : List (Option AmE) := [some (.iload_n 2, 1, 0, 0, 0, 0, []), some (.ifCond .lt 23, 4, 24, 0, 0, 0, []), none, none, some (.iload_n 2, 5, 0, 0, 0, 0, []), some (.bipush 9, 7, 0, 0, 0, 9, []), none, some (.if_icmp .gt 17, 10, 24, 0, 0, 0, []), none, none, some (.iload_n 3, 11, 0, 0, 0, 0, []), some (.ifCond .lt 13, 14, 24, 0, 0, 0, []), none, none, some (.iload_n 3, 15, 0, 0, 0, 0, []), some (.bipush 12, 17, 0, 0, 0, 12, []), none, some (.if_icmp .gt 7, 20, 24, 0, 0, 0, []), none, none, some (.iconst 1, 21, 0, 0, 0, 1, []), some (.goto 4, 24, 25, 0, 0, 0, []), none, none, some (.iconst 0, 25, 0, 0, 0, 0, []), some (.istore 6, 27, 0, 0, 0, 0, []), none, some (.iload 5, 29, 0, 0, 0, 0, []), none, some (.iconst 1, 30, 0, 0, 0, 1, []), some (.if_icmp .lt 26, 33, 56, 0, 0, 0, []), none, none, some (.iload 5, 35, 0, 0, 0, 0, []), none, some (.bipush 9, 37, 0, 0, 0, 9, []), none, some (.if_icmp .gt 19, 40, 56, 0, 0, 0, []), none, none, some (.iload 4, 42, 0, 0, 0, 0, []), none, some (.ifCond .lt 14, 45, 56, 0, 0, 0, []), none, none, some (.iload 4, 47, 0, 0, 0, 0, []), none, some (.iload 5, 49, 0, 0, 0, 0, []), none, some (.if_icmp .gt 7, 52, 56, 0, 0, 0, []), none, none, some (.iconst 1, 53, 0, 0, 0, 1, []), some (.goto 4, 56, 57, 0, 0, 0, []), none, none, some (.iconst 0, 57, 0, 0, 0, 0, []), some (.istore 7, 59, 0, 0, 0, 0, []), none, some (.aload_n 0, 60, 0, 0, 0, 0, []), some (.iload_n 1, 61, 0, 0, 0, 0, []), some (.invokevirtual 226, 64, 140, 2, 1, 1, []), none, none, some (.ifCond .eq 13, 67, 77, 0, 0, 0, []), none, none, some (.iload 6, 69, 0, 0, 0, 0, []), none, some (.ifCond .eq 8, 72, 77, 0, 0, 0, []), none, none, some (.iload 7, 74, 0, 0, 0, 0, []), none, some (.ifCond .ne 7, 77, 81, 0, 0, 0, []), none, none, some (.ldc2_w 259, 80, 0, 0, 0, (-1), []), none, none, some (.lreturn, 81, 0, 0, 0, 0, []), some (.aload_n 0, 82, 0, 0, 0, 0, []), some (.getfield 80, 85, 11, 10, 2, 0, []), none, none, some (.aload_n 0, 86, 0, 0, 0, 0, []), some (.getfield 44, 89, 11, 4, 2, 0, []), none, none, some (.iload_n 1, 90, 0, 0, 0, 0, []), some (.iload_n 2, 91, 0, 0, 0, 0, []), some (.iload_n 3, 92, 0, 0, 0, 0, []), some (.iload 4, 94, 0, 0, 0, 0, []), none, some (.iload 5, 96, 0, 0, 0, 0, []), none, some (.invokevirtual 261, 99, 3, 7, 1, 2, []), none, none, some (.lreturn, 100, 0, 0, 0, 0, [])]
def cdX11_season : List (Option AmE) := [some (.iload_n 1, 1, 0, 0, 0, 0, []), some (.iconst 1, 2, 0, 0, 0, 1, []), some (.if_icmp .lt 18, 5, 20, 0, 0, 0, []), none, none, some (.iload_n 1, 6, 0, 0, 0, 0, []), some (.bipush 100, 8, 0, 0, 0, 100, []), none, some (.if_icmp .gt 12, 11, 20, 0, 0, 0, []), none, none, some (.iload_n 2, 12, 0, 0, 0, 0, []), some (.ifCond .lt 8, 15, 20, 0, 0, 0, []), none, none, some (.iload_n 2, 16, 0, 0, 0, 0, []), some (.iconst 3, 17, 0, 0, 0, 3, []), some (.if_icmp .le 5, 20, 22, 0, 0, 0, []), none, none, some (.iconst (-1), 21, 0, 0, 0, (-1), []), some (.ireturn, 22, 0, 0, 0, 0, []), some (.aload_n 0, 23, 0, 0, 0, 0, []), some (.getfield 80, 26, 11, 10, 2, 0, []), none, none, some (.aload_n 0, 27, 0, 0, 0, 0, []), some (.getfield 44, 30, 11, 4, 2, 0, []), none, none, some (.iload_n 1, 31, 0, 0, 0, 0, []), some (.invokevirtual 265, 34, 6, 3, 1, 0, []), none, none, some (.iload_n 2, 35, 0, 0, 0, 0, []), some (.tableswitch 49 0 2 #[25, 33, 41], 60, 84, 0, 0, 0, [60, 68, 76]), none, none, none, none, none, none, none, none, none, none, none, none, none, none, none, none, none, none, none, none, none, none, none, none, some (.aload_n 0, 61, 0, 0, 0, 0, []), some (.getfield 80, 64, 11, 10, 2, 0, []), none, none, some (.getfield 268, 67, 0, 4, 0, 0, []), none, none, some (.ireturn, 68, 0, 0, 0, 0, []), some (.aload_n 0, 69, 0, 0, 0, 0, []), some (.getfield 80, 72, 11, 10, 2, 0, []), none, none, some (.getfield 271, 75, 0, 5, 0, 0, []), none, none, some (.ireturn, 76, 0, 0, 0, 0, []), some (.aload_n 0, 77, 0, 0, 0, 0, []), some (.getfield 80, 80, 11, 10, 2, 0, []), none, none, some (.getfield 274, 83, 0, 6, 0, 0, []), none, none, some (.ireturn, 84, 0, 0, 0, 0, []), some (.aload_n 0, 85, 0, 0, 0, 0, []), some (.getfield 80, 88, 11, 10, 2, 0, []), none, none, some (.getfield 277, 91, 0, 7, 0, 0, []), none, none, some (.ireturn, 92, 0, 0, 0, 0, [])]
def cdX11_rescue : List (Option AmE) := [some (.aload_n 0, 1, 0, 0, 0, 0, []), some (.getfield 19, 4, 11, 1, 2, 0, []), none, none, some (.iload_n 1, 5, 0, 0, 0, 0, []), some (.invokevirtual 146, 8, 83, 2, 1, 1, []), none, none, some (.ifCond .eq 17, 11, 25, 0, 0, 0, []), none, none, some (.aload_n 0, 12, 0, 0, 0, 0, []), some (.getfield 44, 15, 11, 4, 2, 0, []), none, none, some (.getfield 164, 18, 5, 5, 2, 0, []), none, none, some (.iload_n 1, 19, 0, 0, 0, 0, []), some (.invokestatic 136, 22, 142, 2, 0, 1, []), none, none, some (.ifCond .ne 5, 25, 27, 0, 0, 0, []), none, none, some (.iconst (-1), 26, 0, 0, 0, (-1), []), some (.ireturn, 27, 0, 0, 0, 0, []), some (.aload_n 0, 28, 0, 0, 0, 0, []), some (.getfield 87, 31, 11, 11, 2, 0, []), none, none, some (.aload_n 0, 32, 0, 0, 0, 0, []), some (.getfield 44, 35, 11, 4, 2, 0, []), none, none, some (.iload_n 1, 36, 0, 0, 0, 0, []), some (.invokevirtual 279, 39, 22, 3, 1, 1, []), none, none, some (.ireturn, 40, 0, 0, 0, 0, [])]
def cdX11_bell : List (Option AmE) := [some (.iload_n 1, 1, 0, 0, 0, 0, []), some (.iconst 1, 2, 0, 0, 0, 1, []), some (.if_icmp .lt 10, 5, 12, 0, 0, 0, []), none, none, some (.iload_n 1, 6, 0, 0, 0, 0, []), some (.sipush 999, 9, 0, 0, 0, 999, []), none, none, some (.if_icmp .le 5, 12, 14, 0, 0, 0, []), none, none, some (.iconst (-1), 13, 0, 0, 0, (-1), []), some (.ireturn, 14, 0, 0, 0, 0, []), some (.aload_n 0, 15, 0, 0, 0, 0, []), some (.getfield 80, 18, 11, 10, 2, 0, []), none, none, some (.aload_n 0, 19, 0, 0, 0, 0, []), some (.getfield 44, 22, 11, 4, 2, 0, []), none, none, some (.iload_n 1, 23, 0, 0, 0, 0, []), some (.invokevirtual 282, 26, 9, 3, 1, 1, []), none, none, some (.ireturn, 27, 0, 0, 0, 0, [])]
def cdX11_fair : List (Option AmE) := [some (.aload_n 0, 1, 0, 0, 0, 0, []), some (.getfield 19, 4, 11, 1, 2, 0, []), none, none, some (.getfield 285, 7, 8, 9, 0, 0, []), none, none, some (.ifCond .gt 6, 10, 13, 0, 0, 0, []), none, none, some (.bipush (-2), 12, 0, 0, 0, (-2), []), none, some (.ireturn, 13, 0, 0, 0, 0, []), some (.aload_n 0, 14, 0, 0, 0, 0, []), some (.getfield 44, 17, 11, 4, 2, 0, []), none, none, some (.getfield 158, 20, 5, 3, 2, 0, []), none, none, some (.iconst 0, 21, 0, 0, 0, 0, []), some (.invokestatic 136, 24, 142, 2, 0, 1, []), none, none, some (.istore_n 1, 25, 0, 0, 0, 0, []), some (.iload_n 1, 26, 0, 0, 0, 0, []), some (.istore_n 2, 27, 0, 0, 0, 0, []), some (.iconst 1, 28, 0, 0, 0, 1, []), some (.istore_n 3, 29, 0, 0, 0, 0, []), some (.iload_n 3, 30, 0, 0, 0, 0, []), some (.aload_n 0, 31, 0, 0, 0, 0, []), some (.getfield 19, 34, 11, 1, 2, 0, []), none, none, some (.getfield 285, 37, 8, 9, 0, 0, []), none, none, some (.if_icmp .ge 41, 40, 78, 0, 0, 0, []), none, none, some (.iload_n 1, 41, 0, 0, 0, 0, []), some (.aload_n 0, 42, 0, 0, 0, 0, []), some (.getfield 44, 45, 11, 4, 2, 0, []), none, none, some (.getfield 158, 48, 5, 3, 2, 0, []), none, none, some (.iload_n 3, 49, 0, 0, 0, 0, []), some (.invokestatic 136, 52, 142, 2, 0, 1, []), none, none, some (.invokestatic 288, 55, 0, 0, 5, 0, []), none, none, some (.istore_n 1, 56, 0, 0, 0, 0, []), some (.iload_n 2, 57, 0, 0, 0, 0, []), some (.aload_n 0, 58, 0, 0, 0, 0, []), some (.getfield 44, 61, 11, 4, 2, 0, []), none, none, some (.getfield 158, 64, 5, 3, 2, 0, []), none, none, some (.iload_n 3, 65, 0, 0, 0, 0, []), some (.invokestatic 136, 68, 142, 2, 0, 1, []), none, none, some (.invokestatic 294, 71, 0, 0, 6, 0, []), none, none, some (.istore_n 2, 72, 0, 0, 0, 0, []), some (.iinc 3 1, 75, 0, 0, 0, 1, []), none, none, some (.goto (-46), 78, 29, 0, 0, 0, []), none, none, some (.iload_n 1, 79, 0, 0, 0, 0, []), some (.iload_n 2, 80, 0, 0, 0, 0, []), some (.isub, 81, 0, 0, 0, 0, []), some (.ireturn, 82, 0, 0, 0, 0, [])]
def cdX11_tell : List (Option AmE) := [some (.aload_n 0, 1, 0, 0, 0, 0, []), some (.getfield 44, 4, 11, 4, 2, 0, []), none, none, some (.getfield 122, 7, 5, 1, 2, 0, []), none, none, some (.iload_n 1, 8, 0, 0, 0, 0, []), some (.invokevirtual 125, 11, 55, 2, 1, 1, []), none, none, some (.ifCond .eq 13, 14, 24, 0, 0, 0, []), none, none, some (.iload_n 2, 15, 0, 0, 0, 0, []), some (.ifCond .lt 9, 18, 24, 0, 0, 0, []), none, none, some (.iload_n 2, 19, 0, 0, 0, 0, []), some (.bipush 99, 21, 0, 0, 0, 99, []), none, some (.if_icmp .le 5, 24, 26, 0, 0, 0, []), none, none, some (.iconst (-1), 25, 0, 0, 0, (-1), []), some (.ireturn, 26, 0, 0, 0, 0, []), some (.aload_n 0, 27, 0, 0, 0, 0, []), some (.getfield 94, 30, 11, 12, 2, 0, []), none, none, some (.iload_n 1, 31, 0, 0, 0, 0, []), some (.iload_n 2, 32, 0, 0, 0, 0, []), some (.invokevirtual 297, 35, 86, 3, 1, 1, []), none, none, some (.ireturn, 36, 0, 0, 0, 0, [])]
def cdX11_forget : List (Option AmE) := [some (.aload_n 0, 1, 0, 0, 0, 0, []), some (.getfield 94, 4, 11, 12, 2, 0, []), none, none, some (.getfield 299, 7, 9, 5, 0, 0, []), none, none, some (.istore_n 1, 8, 0, 0, 0, 0, []), some (.aload_n 0, 9, 0, 0, 0, 0, []), some (.getfield 94, 12, 11, 12, 2, 0, []), none, none, some (.iconst 0, 13, 0, 0, 0, 0, []), some (.putfield 299, 16, 9, 5, 0, 0, []), none, none, some (.iload_n 1, 17, 0, 0, 0, 0, []), some (.ireturn, 18, 0, 0, 0, 0, [])]
def cdX11_fits : List (Option AmE) := [some (.aload_n 0, 1, 0, 0, 0, 0, []), some (.getfield 94, 4, 11, 12, 2, 0, []), none, none, some (.iload_n 1, 5, 0, 0, 0, 0, []), some (.invokevirtual 302, 8, 87, 2, 1, 1, []), none, none, some (.ifCond .eq 14, 11, 22, 0, 0, 0, []), none, none, some (.aload_n 0, 12, 0, 0, 0, 0, []), some (.getfield 94, 15, 11, 12, 2, 0, []), none, none, some (.iload_n 1, 16, 0, 0, 0, 0, []), some (.invokevirtual 305, 19, 88, 2, 1, 1, []), none, none, some (.goto 4, 22, 23, 0, 0, 0, []), none, none, some (.iconst (-1), 23, 0, 0, 0, (-1), []), some (.ireturn, 24, 0, 0, 0, 0, [])]
def cdX11_walkers : List (Option AmE) := [some (.aload_n 0, 1, 0, 0, 0, 0, []), some (.getfield 94, 4, 11, 12, 2, 0, []), none, none, some (.iload_n 1, 5, 0, 0, 0, 0, []), some (.invokevirtual 302, 8, 87, 2, 1, 1, []), none, none, some (.ifCond .eq 15, 11, 23, 0, 0, 0, []), none, none, some (.aload_n 0, 12, 0, 0, 0, 0, []), some (.getfield 94, 15, 11, 12, 2, 0, []), none, none, some (.iload_n 1, 16, 0, 0, 0, 0, []), some (.iload_n 2, 17, 0, 0, 0, 0, []), some (.invokevirtual 308, 20, 89, 3, 1, 1, []), none, none, some (.goto 4, 23, 24, 0, 0, 0, []), none, none, some (.iconst (-1), 24, 0, 0, 0, (-1), []), some (.ireturn, 25, 0, 0, 0, 0, [])]
def cdX11_who : List (Option AmE) := [some (.aload_n 0, 1, 0, 0, 0, 0, []), some (.getfield 94, 4, 11, 12, 2, 0, []), none, none, some (.iload_n 1, 5, 0, 0, 0, 0, []), some (.invokevirtual 302, 8, 87, 2, 1, 1, []), none, none, some (.ifCond .ne 5, 11, 13, 0, 0, 0, []), none, none, some (.iconst (-1), 12, 0, 0, 0, (-1), []), some (.ireturn, 13, 0, 0, 0, 0, []), some (.iload_n 2, 14, 0, 0, 0, 0, []), some (.ifCond .eq 14, 17, 28, 0, 0, 0, []), none, none, some (.aload_n 0, 18, 0, 0, 0, 0, []), some (.getfield 94, 21, 11, 12, 2, 0, []), none, none, some (.iload_n 1, 22, 0, 0, 0, 0, []), some (.invokevirtual 311, 25, 91, 2, 1, 1, []), none, none, some (.goto 11, 28, 36, 0, 0, 0, []), none, none, some (.aload_n 0, 29, 0, 0, 0, 0, []), some (.getfield 94, 32, 11, 12, 2, 0, []), none, none, some (.iload_n 1, 33, 0, 0, 0, 0, []), some (.invokevirtual 314, 36, 90, 2, 1, 1, []), none, none, some (.ireturn, 37, 0, 0, 0, 0, [])]
def cdX11_hold : List (Option AmE) := [some (.iload_n 1, 1, 0, 0, 0, 0, []), some (.ifCond .lt 30, 4, 31, 0, 0, 0, []), none, none, some (.iload_n 1, 5, 0, 0, 0, 0, []), some (.aload_n 0, 6, 0, 0, 0, 0, []), some (.getfield 52, 9, 11, 6, 2, 0, []), none, none, some (.arraylength, 10, 0, 0, 0, 0, []), some (.if_icmp .ge 21, 13, 31, 0, 0, 0, []), none, none, some (.iload_n 1, 14, 0, 0, 0, 0, []), some (.aload_n 0, 15, 0, 0, 0, 0, []), some (.getfield 55, 18, 11, 7, 2, 0, []), none, none, some (.arraylength, 19, 0, 0, 0, 0, []), some (.if_icmp .ge 12, 22, 31, 0, 0, 0, []), none, none, some (.aload_n 0, 23, 0, 0, 0, 0, []), some (.getfield 52, 26, 11, 6, 2, 0, []), none, none, some (.iload_n 1, 27, 0, 0, 0, 0, []), some (.aaload, 28, 0, 0, 0, 0, []), some (.ifnonnull 5, 31, 33, 0, 0, 0, []), none, none, some (.iconst 0, 32, 0, 0, 0, 0, []), some (.ireturn, 33, 0, 0, 3, 0, []), some (.aload_n 0, 34, 0, 0, 0, 0, []), some (.getfield 52, 37, 11, 6, 2, 0, []), none, none, some (.iload_n 1, 38, 0, 0, 0, 0, []), some (.aaload, 39, 0, 0, 0, 0, []), some (.aload_n 0, 40, 0, 0, 0, 0, []), some (.getfield 44, 43, 11, 4, 2, 0, []), none, none, some (.invokevirtual 317, 46, 45, 2, 1, 0, []), none, none, some (.aload_n 0, 47, 0, 0, 0, 0, []), some (.getfield 55, 50, 11, 7, 2, 0, []), none, none, some (.iload_n 1, 51, 0, 0, 0, 0, []), some (.iconst 1, 52, 0, 0, 0, 1, []), some (.bastore, 53, 0, 0, 0, 0, []), some (.iconst 1, 54, 0, 0, 0, 1, []), some (.ireturn, 55, 0, 0, 3, 0, [])]
def cdX11_restore : List (Option AmE) := [some (.iload_n 1, 1, 0, 0, 0, 0, []), some (.ifCond .lt 21, 4, 22, 0, 0, 0, []), none, none, some (.iload_n 1, 5, 0, 0, 0, 0, []), some (.aload_n 0, 6, 0, 0, 0, 0, []), some (.getfield 55, 9, 11, 7, 2, 0, []), none, none, some (.arraylength, 10, 0, 0, 0, 0, []), some (.if_icmp .ge 12, 13, 22, 0, 0, 0, []), none, none, some (.aload_n 0, 14, 0, 0, 0, 0, []), some (.getfield 55, 17, 11, 7, 2, 0, []), none, none, some (.iload_n 1, 18, 0, 0, 0, 0, []), some (.baload, 19, 0, 0, 0, 0, []), some (.ifCond .ne 5, 22, 24, 0, 0, 0, []), none, none, some (.iconst 0, 23, 0, 0, 0, 0, []), some (.ireturn, 24, 0, 0, 3, 0, []), some (.aload_n 0, 25, 0, 0, 0, 0, []), some (.iconst 0, 26, 0, 0, 0, 0, []), some (.putfield 216, 29, 11, 13, 0, 0, []), none, none, some (.aload_n 0, 30, 0, 0, 0, 0, []), some (.aload_n 0, 31, 0, 0, 0, 0, []), some (.getfield 52, 34, 11, 6, 2, 0, []), none, none, some (.iload_n 1, 35, 0, 0, 0, 0, []), some (.invokevirtual 222, 38, 138, 3, 1, 1, []), none, none, some (.ireturn, 39, 0, 0, 3, 0, [])]
def cdX11_count : List (Option AmE) := [some (.iload_n 1, 1, 0, 0, 0, 0, []), some (.tableswitch 159 0 11 #[63, 71, 79, 87, 95, 103, 114, 122, 130, 138, 143, 148], 64, 160, 0, 0, 0, [64, 72, 80, 88, 96, 104, 115, 123, 131, 139, 144, 149]), none, none, none, none, none, none, none, none, none, none, none, none, none, none, none, none, none, none, none, none, none, none, none, none, none, none, none, none, none, none, none, none, none, none, none, none, none, none, none, none, none, none, none, none, none, none, none, none, none, none, none, none, none, none, none, none, none, none, none, none, none, none, some (.aload_n 0, 65, 0, 0, 0, 0, []), some (.getfield 19, 68, 11, 1, 2, 0, []), none, none, some (.getfield 320, 71, 8, 5, 0, 0, []), none, none, some (.ireturn, 72, 0, 0, 0, 0, []), some (.aload_n 0, 73, 0, 0, 0, 0, []), some (.getfield 19, 76, 11, 1, 2, 0, []), none, none, some (.getfield 285, 79, 8, 9, 0, 0, []), none, none, some (.ireturn, 80, 0, 0, 0, 0, []), some (.aload_n 0, 81, 0, 0, 0, 0, []), some (.getfield 44, 84, 11, 4, 2, 0, []), none, none, some (.getfield 210, 87, 5, 6, 0, 0, []), none, none, some (.ireturn, 88, 0, 0, 0, 0, []), some (.aload_n 0, 89, 0, 0, 0, 0, []), some (.getfield 44, 92, 11, 4, 2, 0, []), none, none, some (.getfield 167, 95, 5, 7, 0, 0, []), none, none, some (.ireturn, 96, 0, 0, 0, 0, []), some (.aload_n 0, 97, 0, 0, 0, 0, []), some (.getfield 19, 100, 11, 1, 2, 0, []), none, none, some (.getfield 323, 103, 8, 6, 0, 0, []), none, none, some (.ireturn, 104, 0, 0, 0, 0, []), some (.aload_n 0, 105, 0, 0, 0, 0, []), some (.getfield 44, 108, 11, 4, 2, 0, []), none, none, some (.getfield 122, 111, 5, 1, 2, 0, []), none, none, some (.getfield 174, 114, 6, 3, 0, 0, []), none, none, some (.ireturn, 115, 0, 0, 0, 0, []), some (.aload_n 0, 116, 0, 0, 0, 0, []), some (.getfield 44, 119, 11, 4, 2, 0, []), none, none, some (.invokevirtual 326, 122, 51, 1, 1, 1, []), none, none, some (.ireturn, 123, 0, 0, 0, 0, []), some (.aload_n 0, 124, 0, 0, 0, 0, []), some (.getfield 94, 127, 11, 12, 2, 0, []), none, none, some (.getfield 299, 130, 9, 5, 0, 0, []), none, none, some (.ireturn, 131, 0, 0, 0, 0, []), some (.aload_n 0, 132, 0, 0, 0, 0, []), some (.getfield 12, 135, 11, 0, 2, 0, []), none, none, some (.getfield 329, 138, 7, 1, 0, 0, []), none, none, some (.ireturn, 139, 0, 0, 0, 0, []), some (.aload_n 0, 140, 0, 0, 0, 0, []), some (.getfield 216, 143, 11, 13, 0, 0, []), none, none, some (.ireturn, 144, 0, 0, 0, 0, []), some (.aload_n 0, 145, 0, 0, 0, 0, []), some (.invokevirtual 332, 148, 141, 1, 1, 1, []), none, none, some (.ireturn, 149, 0, 0, 0, 0, []), some (.aload_n 0, 150, 0, 0, 0, 0, []), some (.getfield 44, 153, 11, 4, 2, 0, []), none, none, some (.getfield 122, 156, 5, 1, 2, 0, []), none, none, some (.invokevirtual 335, 159, 62, 1, 1, 1, []), none, none, some (.ireturn, 160, 0, 0, 0, 0, []), some (.iconst (-1), 161, 0, 0, 0, (-1), []), some (.ireturn, 162, 0, 0, 0, 0, [])]
def cdX11_startAnew : List (Option AmE) := [some (.aload_n 0, 1, 0, 0, 0, 0, []), some (.getfield 19, 4, 11, 1, 2, 0, []), none, none, some (.aload_n 0, 5, 0, 0, 0, 0, []), some (.getfield 28, 8, 11, 2, 2, 0, []), none, none, some (.getfield 338, 11, 4, 1, 2, 0, []), none, none, some (.invokevirtual 341, 14, 82, 2, 1, 0, []), none, none, some (.aload_n 0, 15, 0, 0, 0, 0, []), some (.getfield 44, 18, 11, 4, 2, 0, []), none, none, some (.invokevirtual 343, 21, 44, 1, 1, 0, []), none, none, some (.aload_n 0, 22, 0, 0, 0, 0, []), some (.iconst 0, 23, 0, 0, 0, 0, []), some (.putfield 216, 26, 11, 13, 0, 0, []), none, none, some (.iconst 0, 27, 0, 0, 0, 0, []), some (.istore_n 1, 28, 0, 0, 0, 0, []), some (.iload_n 1, 29, 0, 0, 0, 0, []), some (.aload_n 0, 30, 0, 0, 0, 0, []), some (.getfield 55, 33, 11, 7, 2, 0, []), none, none, some (.arraylength, 34, 0, 0, 0, 0, []), some (.if_icmp .ge 16, 37, 50, 0, 0, 0, []), none, none, some (.aload_n 0, 38, 0, 0, 0, 0, []), some (.getfield 55, 41, 11, 7, 2, 0, []), none, none, some (.iload_n 1, 42, 0, 0, 0, 0, []), some (.iconst 0, 43, 0, 0, 0, 0, []), some (.bastore, 44, 0, 0, 0, 0, []), some (.iinc 1 1, 47, 0, 0, 0, 1, []), none, none, some (.goto (-19), 50, 28, 0, 0, 0, []), none, none, some (.aload_n 0, 51, 0, 0, 0, 0, []), some (.getfield 94, 54, 11, 12, 2, 0, []), none, none, some (.invokevirtual 346, 57, 85, 1, 1, 0, []), none, none, some (.aload_n 0, 58, 0, 0, 0, 0, []), some (.invokevirtual 200, 61, 139, 1, 1, 0, []), none, none, some (.return_, 62, 0, 0, 0, 0, [])]
def cdX11_keepPast : List (Option AmE) := [some (.aload_n 0, 1, 0, 0, 0, 0, []), some (.getfield 219, 4, 11, 14, 0, 0, []), none, none, some (.ifCond .lt 43, 7, 47, 0, 0, 0, []), none, none, some (.aload_n 0, 8, 0, 0, 0, 0, []), some (.getfield 219, 11, 11, 14, 0, 0, []), none, none, some (.aload_n 0, 12, 0, 0, 0, 0, []), some (.getfield 48, 15, 11, 5, 2, 0, []), none, none, some (.arraylength, 16, 0, 0, 0, 0, []), some (.if_icmp .ge 31, 19, 47, 0, 0, 0, []), none, none, some (.aload_n 0, 20, 0, 0, 0, 0, []), some (.getfield 48, 23, 11, 5, 2, 0, []), none, none, some (.aload_n 0, 24, 0, 0, 0, 0, []), some (.getfield 219, 27, 11, 14, 0, 0, []), none, none, some (.aaload, 28, 0, 0, 0, 0, []), some (.ifnull 19, 31, 47, 0, 0, 0, []), none, none, some (.aload_n 0, 32, 0, 0, 0, 0, []), some (.getfield 48, 35, 11, 5, 2, 0, []), none, none, some (.aload_n 0, 36, 0, 0, 0, 0, []), some (.getfield 219, 39, 11, 14, 0, 0, []), none, none, some (.aaload, 40, 0, 0, 0, 0, []), some (.aload_n 0, 41, 0, 0, 0, 0, []), some (.getfield 44, 44, 11, 4, 2, 0, []), none, none, some (.invokevirtual 317, 47, 45, 2, 1, 0, []), none, none, some (.aload_n 0, 48, 0, 0, 0, 0, []), some (.aload_n 0, 49, 0, 0, 0, 0, []), some (.getfield 219, 52, 11, 14, 0, 0, []), none, none, some (.iconst 1, 53, 0, 0, 0, 1, []), some (.iadd, 54, 0, 0, 0, 0, []), some (.bipush 40, 56, 0, 0, 0, 40, []), none, some (.irem, 57, 0, 0, 0, 0, []), some (.putfield 219, 60, 11, 14, 0, 0, []), none, none, some (.aload_n 0, 61, 0, 0, 0, 0, []), some (.bipush 40, 63, 0, 0, 0, 40, []), none, some (.aload_n 0, 64, 0, 0, 0, 0, []), some (.getfield 216, 67, 11, 13, 0, 0, []), none, none, some (.iconst 1, 68, 0, 0, 0, 1, []), some (.iadd, 69, 0, 0, 0, 0, []), some (.invokestatic 294, 72, 0, 0, 6, 0, []), none, none, some (.putfield 216, 75, 11, 13, 0, 0, []), none, none, some (.return_, 76, 0, 0, 0, 0, [])]
def cdX11_goOnFrom : List (Option AmE) := [some (.iload_n 2, 1, 0, 0, 0, 0, []), some (.ifCond .lt 15, 4, 16, 0, 0, 0, []), none, none, some (.iload_n 2, 5, 0, 0, 0, 0, []), some (.aload_n 1, 6, 0, 0, 0, 0, []), some (.arraylength, 7, 0, 0, 0, 0, []), some (.if_icmp .ge 9, 10, 16, 0, 0, 0, []), none, none, some (.aload_n 1, 11, 0, 0, 0, 0, []), some (.iload_n 2, 12, 0, 0, 0, 0, []), some (.aaload, 13, 0, 0, 0, 0, []), some (.ifnonnull 5, 16, 18, 0, 0, 0, []), none, none, some (.iconst 0, 17, 0, 0, 0, 0, []), some (.ireturn, 18, 0, 0, 3, 0, []), some (.aload_n 0, 19, 0, 0, 0, 0, []), some (.getfield 44, 22, 11, 4, 2, 0, []), none, none, some (.aload_n 1, 23, 0, 0, 0, 0, []), some (.iload_n 2, 24, 0, 0, 0, 0, []), some (.aaload, 25, 0, 0, 0, 0, []), some (.invokevirtual 317, 28, 45, 2, 1, 0, []), none, none, some (.aload_n 0, 29, 0, 0, 0, 0, []), some (.invokevirtual 200, 32, 139, 1, 1, 0, []), none, none, some (.iconst 1, 33, 0, 0, 0, 1, []), some (.ireturn, 34, 0, 0, 3, 0, [])]
def cdX11_dropAnswers : List (Option AmE) := [some (.aload_n 0, 1, 0, 0, 0, 0, []), some (.getfield 71, 4, 11, 9, 2, 0, []), none, none, some (.invokevirtual 347, 7, 25, 1, 1, 0, []), none, none, some (.aload_n 0, 8, 0, 0, 0, 0, []), some (.getfield 80, 11, 11, 10, 2, 0, []), none, none, some (.invokevirtual 350, 14, 0, 1, 1, 0, []), none, none, some (.return_, 15, 0, 0, 0, 0, [])]
def cdX11_areOnGround : List (Option AmE) := [some (.iload_n 1, 1, 0, 0, 0, 0, []), some (.aload_n 0, 2, 0, 0, 0, 0, []), some (.getfield 44, 5, 11, 4, 2, 0, []), none, none, some (.invokevirtual 351, 8, 49, 1, 1, 1, []), none, none, some (.iconst (-1), 9, 0, 0, 0, (-1), []), some (.ixor, 10, 0, 0, 0, 0, []), some (.iand, 11, 0, 0, 0, 0, []), some (.ifCond .ne 7, 14, 18, 0, 0, 0, []), none, none, some (.iconst 1, 15, 0, 0, 0, 1, []), some (.goto 4, 18, 19, 0, 0, 0, []), none, none, some (.iconst 0, 19, 0, 0, 0, 0, []), some (.ireturn, 20, 0, 0, 3, 0, [])]
def cdX11_heldSlots : List (Option AmE) := [some (.iconst 0, 1, 0, 0, 0, 0, []), some (.istore_n 1, 2, 0, 0, 0, 0, []), some (.iconst 0, 3, 0, 0, 0, 0, []), some (.istore_n 2, 4, 0, 0, 0, 0, []), some (.iload_n 2, 5, 0, 0, 0, 0, []), some (.aload_n 0, 6, 0, 0, 0, 0, []), some (.getfield 55, 9, 11, 7, 2, 0, []), none, none, some (.arraylength, 10, 0, 0, 0, 0, []), some (.if_icmp .ge 26, 13, 36, 0, 0, 0, []), none, none, some (.iload_n 1, 14, 0, 0, 0, 0, []), some (.aload_n 0, 15, 0, 0, 0, 0, []), some (.getfield 55, 18, 11, 7, 2, 0, []), none, none, some (.iload_n 2, 19, 0, 0, 0, 0, []), some (.baload, 20, 0, 0, 0, 0, []), some (.ifCond .eq 7, 23, 27, 0, 0, 0, []), none, none, some (.iconst 1, 24, 0, 0, 0, 1, []), some (.goto 4, 27, 28, 0, 0, 0, []), none, none, some (.iconst 0, 28, 0, 0, 0, 0, []), some (.iadd, 29, 0, 0, 0, 0, []), some (.istore_n 1, 30, 0, 0, 0, 0, []), some (.iinc 2 1, 33, 0, 0, 0, 1, []), none, none, some (.goto (-29), 36, 4, 0, 0, 0, []), none, none, some (.iload_n 1, 37, 0, 0, 0, 0, []), some (.ireturn, 38, 0, 0, 0, 0, [])]
def cdX11_at : List (Option AmE) := [some (.iload_n 1, 1, 0, 0, 0, 0, []), some (.ifCond .lt 15, 4, 16, 0, 0, 0, []), none, none, some (.iload_n 1, 5, 0, 0, 0, 0, []), some (.aload_n 0, 6, 0, 0, 0, 0, []), some (.arraylength, 7, 0, 0, 0, 0, []), some (.if_icmp .ge 9, 10, 16, 0, 0, 0, []), none, none, some (.aload_n 0, 11, 0, 0, 0, 0, []), some (.iload_n 1, 12, 0, 0, 0, 0, []), some (.iaload, 13, 0, 0, 0, 0, []), some (.goto 4, 16, 17, 0, 0, 0, []), none, none, some (.iconst 0, 17, 0, 0, 0, 0, []), some (.ireturn, 18, 0, 0, 0, 0, [])]
def cdX11_put : List (Option AmE) := [some (.iload_n 1, 1, 0, 0, 0, 0, []), some (.ifCond .lt 13, 4, 14, 0, 0, 0, []), none, none, some (.iload_n 1, 5, 0, 0, 0, 0, []), some (.aload_n 0, 6, 0, 0, 0, 0, []), some (.arraylength, 7, 0, 0, 0, 0, []), some (.if_icmp .ge 7, 10, 14, 0, 0, 0, []), none, none, some (.aload_n 0, 11, 0, 0, 0, 0, []), some (.iload_n 1, 12, 0, 0, 0, 0, []), some (.iload_n 2, 13, 0, 0, 0, 0, []), some (.iastore, 14, 0, 0, 0, 0, []), some (.return_, 15, 0, 0, 0, 0, [])]
def cdX11_copy : List (Option AmE) := [some (.aload_n 0, 1, 0, 0, 0, 0, []), some (.iconst 0, 2, 0, 0, 0, 0, []), some (.aload_n 1, 3, 0, 0, 0, 0, []), some (.iconst 0, 4, 0, 0, 0, 0, []), some (.aload_n 0, 5, 0, 0, 0, 0, []), some (.arraylength, 6, 0, 0, 0, 0, []), some (.aload_n 1, 7, 0, 0, 0, 0, []), some (.arraylength, 8, 0, 0, 0, 0, []), some (.invokestatic 294, 11, 0, 0, 6, 0, []), none, none, some (.invokestatic 354, 14, 0, 0, 7, 0, []), none, none, some (.return_, 15, 0, 0, 0, 0, [])]
def cdX11_wipe : List (Option AmE) := [some (.iconst 0, 1, 0, 0, 0, 0, []), some (.istore_n 1, 2, 0, 0, 0, 0, []), some (.iload_n 1, 3, 0, 0, 0, 0, []), some (.aload_n 0, 4, 0, 0, 0, 0, []), some (.arraylength, 5, 0, 0, 0, 0, []), some (.if_icmp .ge 13, 8, 18, 0, 0, 0, []), none, none, some (.aload_n 0, 9, 0, 0, 0, 0, []), some (.iload_n 1, 10, 0, 0, 0, 0, []), some (.iconst 0, 11, 0, 0, 0, 0, []), some (.iastore, 12, 0, 0, 0, 0, []), some (.iinc 1 1, 15, 0, 0, 0, 1, []), none, none, some (.goto (-13), 18, 2, 0, 0, 0, []), none, none, some (.return_, 19, 0, 0, 0, 0, [])]
def cdX11_has : List (Option AmE) := [some (.iload_n 0, 1, 0, 0, 0, 0, []), some (.iload_n 1, 2, 0, 0, 0, 0, []), some (.ishr, 3, 0, 0, 0, 0, []), some (.iconst 1, 4, 0, 0, 0, 1, []), some (.iand, 5, 0, 0, 0, 0, []), some (.iconst 1, 6, 0, 0, 0, 1, []), some (.if_icmp .ne 7, 9, 13, 0, 0, 0, []), none, none, some (.iconst 1, 10, 0, 0, 0, 1, []), some (.goto 4, 13, 14, 0, 0, 0, []), none, none, some (.iconst 0, 14, 0, 0, 0, 0, []), some (.ireturn, 15, 0, 0, 3, 0, [])]
def cdX12_feed : List (Option AmE) := [some (.aload_n 0, 1, 0, 0, 0, 0, []), some (.getfield 150, 4, 12, 2, 0, 0, []), none, none, some (.bipush 20, 6, 0, 0, 0, 20, []), none, some (.iadd, 7, 0, 0, 0, 0, []), some (.sipush 2000, 10, 0, 0, 0, 2000, []), none, none, some (.if_icmp .le 5, 13, 15, 0, 0, 0, []), none, none, some (.iconst (-1), 14, 0, 0, 0, (-1), []), some (.ireturn, 15, 0, 0, 0, 0, []), some (.aload_n 0, 16, 0, 0, 0, 0, []), some (.iload_n 1, 17, 0, 0, 0, 0, []), some (.invokevirtual 153, 20, 148, 2, 1, 0, []), none, none, some (.aload_n 0, 21, 0, 0, 0, 0, []), some (.iload_n 2, 22, 0, 0, 0, 0, []), some (.invokevirtual 153, 25, 148, 2, 1, 0, []), none, none, some (.aload_n 0, 26, 0, 0, 0, 0, []), some (.iload_n 3, 27, 0, 0, 0, 0, []), some (.invokevirtual 153, 30, 148, 2, 1, 0, []), none, none, some (.aload_n 0, 31, 0, 0, 0, 0, []), some (.iload 4, 33, 0, 0, 0, 0, []), none, some (.invokevirtual 153, 36, 148, 2, 1, 0, []), none, none, some (.aload_n 0, 37, 0, 0, 0, 0, []), some (.iload 5, 39, 0, 0, 0, 0, []), none, some (.invokevirtual 153, 42, 148, 2, 1, 0, []), none, none, some (.aload_n 0, 43, 0, 0, 0, 0, []), some (.getfield 150, 46, 12, 2, 0, 0, []), none, none, some (.ireturn, 47, 0, 0, 0, 0, [])]
def cdX12_put : List (Option AmE) := [some (.bipush 24, 2, 0, 0, 0, 24, []), none, some (.istore_n 2, 3, 0, 0, 0, 0, []), some (.iload_n 2, 4, 0, 0, 0, 0, []), some (.ifCond .lt 32, 7, 36, 0, 0, 0, []), none, none, some (.aload_n 0, 8, 0, 0, 0, 0, []), some (.getfield 13, 11, 12, 1, 2, 0, []), none, none, some (.aload_n 0, 12, 0, 0, 0, 0, []), some (.getfield 150, 15, 12, 2, 0, 0, []), none, none, some (.iload_n 1, 16, 0, 0, 0, 0, []), some (.iload_n 2, 17, 0, 0, 0, 0, []), some (.ishr, 18, 0, 0, 0, 0, []), some (.i2b, 19, 0, 0, 0, 0, []), some (.bastore, 20, 0, 0, 0, 0, []), some (.aload_n 0, 21, 0, 0, 0, 0, []), some (.dup, 22, 0, 0, 0, 0, []), some (.getfield 150, 25, 12, 2, 0, 0, []), none, none, some (.iconst 1, 26, 0, 0, 0, 1, []), some (.iadd, 27, 0, 0, 0, 0, []), some (.putfield 150, 30, 12, 2, 0, 0, []), none, none, some (.iinc 2 (-8), 33, 0, 0, 0, (-8), []), none, none, some (.goto (-30), 36, 3, 0, 0, 0, []), none, none, some (.return_, 37, 0, 0, 0, 0, [])]
def cdX12_back : List (Option AmE) := [some (.iload_n 1, 1, 0, 0, 0, 0, []), some (.ifCond .lt 11, 4, 12, 0, 0, 0, []), none, none, some (.iload_n 1, 5, 0, 0, 0, 0, []), some (.aload_n 0, 6, 0, 0, 0, 0, []), some (.getfield 150, 9, 12, 2, 0, 0, []), none, none, some (.if_icmp .le 5, 12, 14, 0, 0, 0, []), none, none, some (.iconst (-1), 13, 0, 0, 0, (-1), []), some (.ireturn, 14, 0, 0, 0, 0, []), some (.aload_n 0, 15, 0, 0, 0, 0, []), some (.dup, 16, 0, 0, 0, 0, []), some (.getfield 150, 19, 12, 2, 0, 0, []), none, none, some (.iload_n 1, 20, 0, 0, 0, 0, []), some (.isub, 21, 0, 0, 0, 0, []), some (.putfield 150, 24, 12, 2, 0, 0, []), none, none, some (.aload_n 0, 25, 0, 0, 0, 0, []), some (.getfield 150, 28, 12, 2, 0, 0, []), none, none, some (.ireturn, 29, 0, 0, 0, 0, [])]
def cdX12_byteAt : List (Option AmE) := [some (.iload_n 1, 1, 0, 0, 0, 0, []), some (.aload_n 0, 2, 0, 0, 0, 0, []), some (.getfield 157, 5, 12, 4, 0, 0, []), none, none, some (.if_icmp .ge 16, 8, 21, 0, 0, 0, []), none, none, some (.aload_n 0, 9, 0, 0, 0, 0, []), some (.getfield 17, 12, 12, 3, 2, 0, []), none, none, some (.iload_n 1, 13, 0, 0, 0, 0, []), some (.baload, 14, 0, 0, 0, 0, []), some (.sipush 255, 17, 0, 0, 0, 255, []), none, none, some (.iand, 18, 0, 0, 0, 0, []), some (.goto 4, 21, 22, 0, 0, 0, []), none, none, some (.iconst 0, 22, 0, 0, 0, 0, []), some (.ireturn, 23, 0, 0, 0, 0, [])]
def cdX12_isDigit : List (Option AmE) := [some (.iload_n 0, 1, 0, 0, 0, 0, []), some (.bipush 48, 3, 0, 0, 0, 48, []), none, some (.if_icmp .lt 13, 6, 16, 0, 0, 0, []), none, none, some (.iload_n 0, 7, 0, 0, 0, 0, []), some (.bipush 57, 9, 0, 0, 0, 57, []), none, some (.if_icmp .gt 7, 12, 16, 0, 0, 0, []), none, none, some (.iconst 1, 13, 0, 0, 0, 1, []), some (.goto 4, 16, 17, 0, 0, 0, []), none, none, some (.iconst 0, 17, 0, 0, 0, 0, []), some (.ireturn, 18, 0, 0, 3, 0, [])]
def cdX12_isLetter : List (Option AmE) := [some (.iload_n 0, 1, 0, 0, 0, 0, []), some (.bipush 97, 3, 0, 0, 0, 97, []), none, some (.if_icmp .lt 13, 6, 16, 0, 0, 0, []), none, none, some (.iload_n 0, 7, 0, 0, 0, 0, []), some (.bipush 122, 9, 0, 0, 0, 122, []), none, some (.if_icmp .gt 7, 12, 16, 0, 0, 0, []), none, none, some (.iconst 1, 13, 0, 0, 0, 1, []), some (.goto 4, 16, 17, 0, 0, 0, []), none, none, some (.iconst 0, 17, 0, 0, 0, 0, []), some (.ireturn, 18, 0, 0, 3, 0, [])]
def cdX12_appends : List (Option AmE) := [some (.iload_n 2, 1, 0, 0, 0, 0, []), some (.ifCond .ne 7, 4, 8, 0, 0, 0, []), none, none, some (.lload_n 0, 5, 0, 0, 0, 0, []), some (.goto 16, 8, 21, 0, 0, 0, []), none, none, some (.ldc2_w 160, 11, 0, 0, 0, 27, []), none, none, some (.lload_n 0, 12, 0, 0, 0, 0, []), some (.lmul, 13, 0, 0, 0, 0, []), some (.iload_n 2, 14, 0, 0, 0, 0, []), some (.bipush 97, 16, 0, 0, 0, 97, []), none, some (.isub, 17, 0, 0, 0, 0, []), some (.iconst 1, 18, 0, 0, 0, 1, []), some (.iadd, 19, 0, 0, 0, 0, []), some (.i2l, 20, 0, 0, 0, 0, []), some (.ladd, 21, 0, 0, 0, 0, []), some (.lreturn, 22, 0, 0, 0, 0, [])]
def cdX12_word : List (Option AmE) := [some (.lconst 0, 1, 0, 0, 0, 0, []), some (.iload_n 0, 2, 0, 0, 0, 0, []), some (.invokestatic 162, 5, 153, 2, 0, 2, []), none, none, some (.iload_n 1, 6, 0, 0, 0, 0, []), some (.invokestatic 162, 9, 153, 2, 0, 2, []), none, none, some (.iload_n 2, 10, 0, 0, 0, 0, []), some (.invokestatic 162, 13, 153, 2, 0, 2, []), none, none, some (.iload_n 3, 14, 0, 0, 0, 0, []), some (.invokestatic 162, 17, 153, 2, 0, 2, []), none, none, some (.iload 4, 19, 0, 0, 0, 0, []), none, some (.invokestatic 162, 22, 153, 2, 0, 2, []), none, none, some (.iload 5, 24, 0, 0, 0, 0, []), none, some (.invokestatic 162, 27, 153, 2, 0, 2, []), none, none, some (.iload 6, 29, 0, 0, 0, 0, []), none, some (.invokestatic 162, 32, 153, 2, 0, 2, []), none, none, some (.lreturn, 33, 0, 0, 0, 0, [])]
def cdX12_token : List (Option AmE) := [some (.aload_n 0, 1, 0, 0, 0, 0, []), some (.getfield 20, 4, 12, 5, 2, 0, []), none, none, some (.aload_n 0, 5, 0, 0, 0, 0, []), some (.getfield 166, 8, 12, 10, 0, 0, []), none, none, some (.iload_n 1, 9, 0, 0, 0, 0, []), some (.iastore, 10, 0, 0, 0, 0, []), some (.aload_n 0, 11, 0, 0, 0, 0, []), some (.getfield 24, 14, 12, 6, 2, 0, []), none, none, some (.aload_n 0, 15, 0, 0, 0, 0, []), some (.getfield 166, 18, 12, 10, 0, 0, []), none, none, some (.iload_n 2, 19, 0, 0, 0, 0, []), some (.iastore, 20, 0, 0, 0, 0, []), some (.aload_n 0, 21, 0, 0, 0, 0, []), some (.getfield 27, 24, 12, 7, 2, 0, []), none, none, some (.aload_n 0, 25, 0, 0, 0, 0, []), some (.getfield 166, 28, 12, 10, 0, 0, []), none, none, some (.iload_n 3, 29, 0, 0, 0, 0, []), some (.iastore, 30, 0, 0, 0, 0, []), some (.aload_n 0, 31, 0, 0, 0, 0, []), some (.getfield 30, 34, 12, 8, 2, 0, []), none, none, some (.aload_n 0, 35, 0, 0, 0, 0, []), some (.getfield 166, 38, 12, 10, 0, 0, []), none, none, some (.lload 4, 40, 0, 0, 0, 0, []), none, some (.lastore, 41, 0, 0, 0, 0, []), some (.aload_n 0, 42, 0, 0, 0, 0, []), some (.dup, 43, 0, 0, 0, 0, []), some (.getfield 166, 46, 12, 10, 0, 0, []), none, none, some (.iconst 1, 47, 0, 0, 0, 1, []), some (.iadd, 48, 0, 0, 0, 0, []), some (.putfield 166, 51, 12, 10, 0, 0, []), none, none, some (.return_, 52, 0, 0, 0, 0, [])]
def cdX12_cut : List (Option AmE) := [some (.aload_n 0, 1, 0, 0, 0, 0, []), some (.iconst 0, 2, 0, 0, 0, 0, []), some (.putfield 166, 5, 12, 10, 0, 0, []), none, none, some (.iconst 0, 6, 0, 0, 0, 0, []), some (.istore_n 1, 7, 0, 0, 0, 0, []), some (.aload_n 0, 8, 0, 0, 0, 0, []), some (.getfield 166, 11, 12, 10, 0, 0, []), none, none, some (.sipush 400, 14, 0, 0, 0, 400, []), none, none, some (.if_icmp .gt 280, 17, 294, 0, 0, 0, []), none, none, some (.aload_n 0, 18, 0, 0, 0, 0, []), some (.iload_n 1, 19, 0, 0, 0, 0, []), some (.invokevirtual 169, 22, 150, 2, 1, 1, []), none, none, some (.istore_n 2, 23, 0, 0, 0, 0, []), some (.iload_n 1, 24, 0, 0, 0, 0, []), some (.aload_n 0, 25, 0, 0, 0, 0, []), some (.getfield 157, 28, 12, 4, 0, 0, []), none, none, some (.if_icmp .lt 15, 31, 43, 0, 0, 0, []), none, none, some (.aload_n 0, 32, 0, 0, 0, 0, []), some (.iconst 0, 33, 0, 0, 0, 0, []), some (.aload_n 0, 34, 0, 0, 0, 0, []), some (.getfield 157, 37, 12, 4, 0, 0, []), none, none, some (.iconst 0, 38, 0, 0, 0, 0, []), some (.lconst 0, 39, 0, 0, 0, 0, []), some (.invokevirtual 173, 42, 155, 5, 1, 0, []), none, none, some (.return_, 43, 0, 0, 0, 0, []), some (.iload_n 2, 44, 0, 0, 0, 0, []), some (.bipush 9, 46, 0, 0, 0, 9, []), none, some (.if_icmp .eq 21, 49, 67, 0, 0, 0, []), none, none, some (.iload_n 2, 50, 0, 0, 0, 0, []), some (.bipush 10, 52, 0, 0, 0, 10, []), none, some (.if_icmp .eq 15, 55, 67, 0, 0, 0, []), none, none, some (.iload_n 2, 56, 0, 0, 0, 0, []), some (.bipush 13, 58, 0, 0, 0, 13, []), none, some (.if_icmp .eq 9, 61, 67, 0, 0, 0, []), none, none, some (.iload_n 2, 62, 0, 0, 0, 0, []), some (.bipush 32, 64, 0, 0, 0, 32, []), none, some (.if_icmp .ne 9, 67, 73, 0, 0, 0, []), none, none, some (.iinc 1 1, 70, 0, 0, 0, 1, []), none, none, some (.goto 221, 73, 291, 0, 0, 0, []), none, none, some (.iload_n 2, 74, 0, 0, 0, 0, []), some (.invokestatic 177, 77, 152, 1, 0, 1, []), none, none, some (.ifCond .eq 119, 80, 196, 0, 0, 0, []), none, none, some (.iconst 0, 81, 0, 0, 0, 0, []), some (.istore_n 3, 82, 0, 0, 0, 0, []), some (.lconst 0, 83, 0, 0, 0, 0, []), some (.lstore 4, 85, 0, 0, 0, 0, []), none, some (.aload_n 0, 86, 0, 0, 0, 0, []), some (.iload_n 1, 87, 0, 0, 0, 0, []), some (.iload_n 3, 88, 0, 0, 0, 0, []), some (.iadd, 89, 0, 0, 0, 0, []), some (.invokevirtual 169, 92, 150, 2, 1, 1, []), none, none, some (.invokestatic 177, 95, 152, 1, 0, 1, []), none, none, some (.ifCond .eq 29, 98, 124, 0, 0, 0, []), none, none, some (.iload_n 3, 99, 0, 0, 0, 0, []), some (.bipush 8, 101, 0, 0, 0, 8, []), none, some (.if_icmp .ge 17, 104, 118, 0, 0, 0, []), none, none, some (.lload 4, 106, 0, 0, 0, 0, []), none, some (.aload_n 0, 107, 0, 0, 0, 0, []), some (.iload_n 1, 108, 0, 0, 0, 0, []), some (.iload_n 3, 109, 0, 0, 0, 0, []), some (.iadd, 110, 0, 0, 0, 0, []), some (.invokevirtual 169, 113, 150, 2, 1, 1, []), none, none, some (.invokestatic 162, 116, 153, 2, 0, 2, []), none, none, some (.lstore 4, 118, 0, 0, 0, 0, []), none, some (.iinc 3 1, 121, 0, 0, 0, 1, []), none, none, some (.goto (-36), 124, 85, 0, 0, 0, []), none, none, some (.iload_n 3, 125, 0, 0, 0, 0, []), some (.bipush 8, 127, 0, 0, 0, 8, []), none, some (.if_icmp .le 7, 130, 134, 0, 0, 0, []), none, none, some (.iconst 3, 131, 0, 0, 0, 3, []), some (.goto 4, 134, 135, 0, 0, 0, []), none, none, some (.iconst 1, 135, 0, 0, 0, 1, []), some (.istore 6, 137, 0, 0, 0, 0, []), none, some (.iload_n 3, 138, 0, 0, 0, 0, []), some (.bipush 7, 140, 0, 0, 0, 7, []), none, some (.if_icmp .gt 39, 143, 179, 0, 0, 0, []), none, none, some (.iconst 0, 144, 0, 0, 0, 0, []), some (.istore 7, 146, 0, 0, 0, 0, []), none, some (.iload 7, 148, 0, 0, 0, 0, []), none, some (.bipush 19, 150, 0, 0, 0, 19, []), none, some (.if_icmp .ge 29, 153, 179, 0, 0, 0, []), none, none, some (.aload_n 0, 154, 0, 0, 0, 0, []), some (.getfield 34, 157, 12, 9, 2, 0, []), none, none, some (.iload 7, 159, 0, 0, 0, 0, []), none, some (.laload, 160, 0, 0, 0, 0, []), some (.lload 4, 162, 0, 0, 0, 0, []), none, some (.lcmp, 163, 0, 0, 0, 0, []), some (.ifCond .ne 10, 166, 173, 0, 0, 0, []), none, none, some (.bipush 20, 168, 0, 0, 0, 20, []), none, some (.iload 7, 170, 0, 0, 0, 0, []), none, some (.iadd, 171, 0, 0, 0, 0, []), some (.istore 6, 173, 0, 0, 0, 0, []), none, some (.iinc 7 1, 176, 0, 0, 0, 1, []), none, none, some (.goto (-30), 179, 146, 0, 0, 0, []), none, none, some (.aload_n 0, 180, 0, 0, 0, 0, []), some (.iload 6, 182, 0, 0, 0, 0, []), none, some (.iload_n 1, 183, 0, 0, 0, 0, []), some (.iconst 0, 184, 0, 0, 0, 0, []), some (.lload 4, 186, 0, 0, 0, 0, []), none, some (.invokevirtual 173, 189, 155, 5, 1, 0, []), none, none, some (.iload_n 1, 190, 0, 0, 0, 0, []), some (.iload_n 3, 191, 0, 0, 0, 0, []), some (.iadd, 192, 0, 0, 0, 0, []), some (.istore_n 1, 193, 0, 0, 0, 0, []), some (.goto 98, 196, 291, 0, 0, 0, []), none, none, some (.iload_n 2, 197, 0, 0, 0, 0, []), some (.invokestatic 181, 200, 151, 1, 0, 1, []), none, none, some (.ifCond .eq 75, 203, 275, 0, 0, 0, []), none, none, some (.iconst 0, 204, 0, 0, 0, 0, []), some (.istore_n 3, 205, 0, 0, 0, 0, []), some (.iconst 0, 206, 0, 0, 0, 0, []), some (.istore 4, 208, 0, 0, 0, 0, []), none, some (.aload_n 0, 209, 0, 0, 0, 0, []), some (.iload_n 1, 210, 0, 0, 0, 0, []), some (.iload_n 3, 211, 0, 0, 0, 0, []), some (.iadd, 212, 0, 0, 0, 0, []), some (.invokevirtual 169, 215, 150, 2, 1, 1, []), none, none, some (.invokestatic 181, 218, 151, 1, 0, 1, []), none, none, some (.ifCond .eq 32, 221, 250, 0, 0, 0, []), none, none, some (.iload_n 3, 222, 0, 0, 0, 0, []), some (.iconst 4, 223, 0, 0, 0, 4, []), some (.if_icmp .ge 21, 226, 244, 0, 0, 0, []), none, none, some (.bipush 10, 228, 0, 0, 0, 10, []), none, some (.iload 4, 230, 0, 0, 0, 0, []), none, some (.imul, 231, 0, 0, 0, 0, []), some (.aload_n 0, 232, 0, 0, 0, 0, []), some (.iload_n 1, 233, 0, 0, 0, 0, []), some (.iload_n 3, 234, 0, 0, 0, 0, []), some (.iadd, 235, 0, 0, 0, 0, []), some (.invokevirtual 169, 238, 150, 2, 1, 1, []), none, none, some (.iadd, 239, 0, 0, 0, 0, []), some (.bipush 48, 241, 0, 0, 0, 48, []), none, some (.isub, 242, 0, 0, 0, 0, []), some (.istore 4, 244, 0, 0, 0, 0, []), none, some (.iinc 3 1, 247, 0, 0, 0, 1, []), none, none, some (.goto (-39), 250, 208, 0, 0, 0, []), none, none, some (.aload_n 0, 251, 0, 0, 0, 0, []), some (.iload_n 3, 252, 0, 0, 0, 0, []), some (.iconst 4, 253, 0, 0, 0, 4, []), some (.if_icmp .le 7, 256, 260, 0, 0, 0, []), none, none, some (.iconst 3, 257, 0, 0, 0, 3, []), some (.goto 4, 260, 261, 0, 0, 0, []), none, none, some (.iconst 2, 261, 0, 0, 0, 2, []), some (.iload_n 1, 262, 0, 0, 0, 0, []), some (.iload 4, 264, 0, 0, 0, 0, []), none, some (.lconst 0, 265, 0, 0, 0, 0, []), some (.invokevirtual 173, 268, 155, 5, 1, 0, []), none, none, some (.iload_n 1, 269, 0, 0, 0, 0, []), some (.iload_n 3, 270, 0, 0, 0, 0, []), some (.iadd, 271, 0, 0, 0, 0, []), some (.istore_n 1, 272, 0, 0, 0, 0, []), some (.goto 19, 275, 291, 0, 0, 0, []), none, none, some (.iload_n 1, 276, 0, 0, 0, 0, []), some (.aload_n 0, 277, 0, 0, 0, 0, []), some (.iload_n 1, 278, 0, 0, 0, 0, []), some (.iload_n 2, 279, 0, 0, 0, 0, []), some (.aload_n 0, 280, 0, 0, 0, 0, []), some (.iload_n 1, 281, 0, 0, 0, 0, []), some (.iconst 1, 282, 0, 0, 0, 1, []), some (.iadd, 283, 0, 0, 0, 0, []), some (.invokevirtual 169, 286, 150, 2, 1, 1, []), none, none, some (.invokevirtual 184, 289, 157, 4, 1, 1, []), none, none, some (.iadd, 290, 0, 0, 0, 0, []), some (.istore_n 1, 291, 0, 0, 0, 0, []), some (.goto (-284), 294, 7, 0, 0, 0, []), none, none, some (.return_, 295, 0, 0, 0, 0, [])]
def cdX12_sign : List (Option AmE) := [some (.iload_n 2, 1, 0, 0, 0, 0, []), some (.bipush 59, 3, 0, 0, 0, 59, []), none, some (.if_icmp .ne 7, 6, 10, 0, 0, 0, []), none, none, some (.iconst 4, 7, 0, 0, 0, 4, []), some (.goto 36, 10, 43, 0, 0, 0, []), none, none, some (.iload_n 2, 11, 0, 0, 0, 0, []), some (.bipush 61, 13, 0, 0, 0, 61, []), none, some (.if_icmp .ne 7, 16, 20, 0, 0, 0, []), none, none, some (.iconst 5, 17, 0, 0, 0, 5, []), some (.goto 26, 20, 43, 0, 0, 0, []), none, none, some (.iload_n 2, 21, 0, 0, 0, 0, []), some (.bipush 40, 23, 0, 0, 0, 40, []), none, some (.if_icmp .ne 8, 26, 31, 0, 0, 0, []), none, none, some (.bipush 6, 28, 0, 0, 0, 6, []), none, some (.goto 15, 31, 43, 0, 0, 0, []), none, none, some (.iload_n 2, 32, 0, 0, 0, 0, []), some (.bipush 41, 34, 0, 0, 0, 41, []), none, some (.if_icmp .ne 8, 37, 42, 0, 0, 0, []), none, none, some (.bipush 7, 39, 0, 0, 0, 7, []), none, some (.goto 4, 42, 43, 0, 0, 0, []), none, none, some (.iconst 3, 43, 0, 0, 0, 3, []), some (.istore 4, 45, 0, 0, 0, 0, []), none, some (.iload_n 2, 46, 0, 0, 0, 0, []), some (.bipush 43, 48, 0, 0, 0, 43, []), none, some (.if_icmp .ne 7, 51, 55, 0, 0, 0, []), none, none, some (.bipush 8, 53, 0, 0, 0, 8, []), none, some (.istore 4, 55, 0, 0, 0, 0, []), none, some (.iload_n 2, 56, 0, 0, 0, 0, []), some (.bipush 45, 58, 0, 0, 0, 45, []), none, some (.if_icmp .ne 7, 61, 65, 0, 0, 0, []), none, none, some (.bipush 9, 63, 0, 0, 0, 9, []), none, some (.istore 4, 65, 0, 0, 0, 0, []), none, some (.iload_n 2, 66, 0, 0, 0, 0, []), some (.bipush 42, 68, 0, 0, 0, 42, []), none, some (.if_icmp .ne 7, 71, 75, 0, 0, 0, []), none, none, some (.bipush 10, 73, 0, 0, 0, 10, []), none, some (.istore 4, 75, 0, 0, 0, 0, []), none, some (.iload_n 2, 76, 0, 0, 0, 0, []), some (.bipush 47, 78, 0, 0, 0, 47, []), none, some (.if_icmp .ne 7, 81, 85, 0, 0, 0, []), none, none, some (.bipush 15, 83, 0, 0, 0, 15, []), none, some (.istore 4, 85, 0, 0, 0, 0, []), none, some (.iload_n 2, 86, 0, 0, 0, 0, []), some (.bipush 60, 88, 0, 0, 0, 60, []), none, some (.if_icmp .ne 7, 91, 95, 0, 0, 0, []), none, none, some (.bipush 13, 93, 0, 0, 0, 13, []), none, some (.istore 4, 95, 0, 0, 0, 0, []), none, some (.aload_n 0, 96, 0, 0, 0, 0, []), some (.iload 4, 98, 0, 0, 0, 0, []), none, some (.iload_n 1, 99, 0, 0, 0, 0, []), some (.iconst 0, 100, 0, 0, 0, 0, []), some (.lconst 0, 101, 0, 0, 0, 0, []), some (.invokevirtual 173, 104, 155, 5, 1, 0, []), none, none, some (.iconst 1, 105, 0, 0, 0, 1, []), some (.ireturn, 106, 0, 0, 0, 0, [])]
def cdX12_is : List (Option AmE) := [some (.aload_n 0, 1, 0, 0, 0, 0, []), some (.getfield 188, 4, 12, 13, 0, 0, []), none, none, some (.ifCond .ne 20, 7, 24, 0, 0, 0, []), none, none, some (.aload_n 0, 8, 0, 0, 0, 0, []), some (.getfield 20, 11, 12, 5, 2, 0, []), none, none, some (.aload_n 0, 12, 0, 0, 0, 0, []), some (.getfield 191, 15, 12, 11, 0, 0, []), none, none, some (.iaload, 16, 0, 0, 0, 0, []), some (.iload_n 1, 17, 0, 0, 0, 0, []), some (.if_icmp .ne 7, 20, 24, 0, 0, 0, []), none, none, some (.iconst 1, 21, 0, 0, 0, 1, []), some (.goto 4, 24, 25, 0, 0, 0, []), none, none, some (.iconst 0, 25, 0, 0, 0, 0, []), some (.ireturn, 26, 0, 0, 3, 0, [])]
def cdX12_fail : List (Option AmE) := [some (.aload_n 0, 1, 0, 0, 0, 0, []), some (.getfield 188, 4, 12, 13, 0, 0, []), none, none, some (.ifCond .le 4, 7, 8, 0, 0, 0, []), none, none, some (.return_, 8, 0, 0, 0, 0, []), some (.aload_n 0, 9, 0, 0, 0, 0, []), some (.iload_n 1, 10, 0, 0, 0, 0, []), some (.putfield 188, 13, 12, 13, 0, 0, []), none, none, some (.aload_n 0, 14, 0, 0, 0, 0, []), some (.aload_n 0, 15, 0, 0, 0, 0, []), some (.getfield 24, 18, 12, 6, 2, 0, []), none, none, some (.aload_n 0, 19, 0, 0, 0, 0, []), some (.getfield 191, 22, 12, 11, 0, 0, []), none, none, some (.iaload, 23, 0, 0, 0, 0, []), some (.putfield 194, 26, 12, 14, 0, 0, []), none, none, some (.return_, 27, 0, 0, 0, 0, [])]
def cdX12_wrong : List (Option AmE) := [some (.aload_n 0, 1, 0, 0, 0, 0, []), some (.getfield 24, 4, 12, 6, 2, 0, []), none, none, some (.iload_n 2, 5, 0, 0, 0, 0, []), some (.iaload, 6, 0, 0, 0, 0, []), some (.istore_n 3, 7, 0, 0, 0, 0, []), some (.aload_n 0, 8, 0, 0, 0, 0, []), some (.getfield 188, 11, 12, 13, 0, 0, []), none, none, some (.ifCond .gt 34, 14, 45, 0, 0, 0, []), none, none, some (.aload_n 0, 15, 0, 0, 0, 0, []), some (.getfield 197, 18, 12, 15, 0, 0, []), none, none, some (.ifCond .eq 28, 21, 46, 0, 0, 0, []), none, none, some (.iload_n 3, 22, 0, 0, 0, 0, []), some (.aload_n 0, 23, 0, 0, 0, 0, []), some (.getfield 200, 26, 12, 16, 0, 0, []), none, none, some (.if_icmp .gt 19, 29, 45, 0, 0, 0, []), none, none, some (.iload_n 3, 30, 0, 0, 0, 0, []), some (.aload_n 0, 31, 0, 0, 0, 0, []), some (.getfield 200, 34, 12, 16, 0, 0, []), none, none, some (.if_icmp .ne 12, 37, 46, 0, 0, 0, []), none, none, some (.iload_n 1, 38, 0, 0, 0, 0, []), some (.aload_n 0, 39, 0, 0, 0, 0, []), some (.getfield 197, 42, 12, 15, 0, 0, []), none, none, some (.if_icmp .lt 4, 45, 46, 0, 0, 0, []), none, none, some (.return_, 46, 0, 0, 0, 0, []), some (.aload_n 0, 47, 0, 0, 0, 0, []), some (.iload_n 1, 48, 0, 0, 0, 0, []), some (.putfield 197, 51, 12, 15, 0, 0, []), none, none, some (.aload_n 0, 52, 0, 0, 0, 0, []), some (.iload_n 3, 53, 0, 0, 0, 0, []), some (.putfield 200, 56, 12, 16, 0, 0, []), none, none, some (.return_, 57, 0, 0, 0, 0, [])]
def cdX12_goesOn : List (Option AmE) := [some (.aload_n 0, 1, 0, 0, 0, 0, []), some (.getfield 191, 4, 12, 11, 0, 0, []), none, none, some (.sipush 400, 7, 0, 0, 0, 400, []), none, none, some (.if_icmp .ne 11, 10, 18, 0, 0, 0, []), none, none, some (.aload_n 0, 11, 0, 0, 0, 0, []), some (.iconst 2, 12, 0, 0, 0, 2, []), some (.invokevirtual 203, 15, 159, 2, 1, 0, []), none, none, some (.goto 13, 18, 28, 0, 0, 0, []), none, none, some (.aload_n 0, 19, 0, 0, 0, 0, []), some (.dup, 20, 0, 0, 0, 0, []), some (.getfield 191, 23, 12, 11, 0, 0, []), none, none, some (.iconst 1, 24, 0, 0, 0, 1, []), some (.iadd, 25, 0, 0, 0, 0, []), some (.putfield 191, 28, 12, 11, 0, 0, []), none, none, some (.return_, 29, 0, 0, 0, 0, [])]
def cdX12_must : List (Option AmE) := [some (.aload_n 0, 1, 0, 0, 0, 0, []), some (.iload_n 1, 2, 0, 0, 0, 0, []), some (.invokevirtual 206, 5, 158, 2, 1, 1, []), none, none, some (.ifCond .eq 10, 8, 15, 0, 0, 0, []), none, none, some (.aload_n 0, 9, 0, 0, 0, 0, []), some (.invokevirtual 209, 12, 161, 1, 1, 0, []), none, none, some (.goto 8, 15, 20, 0, 0, 0, []), none, none, some (.aload_n 0, 16, 0, 0, 0, 0, []), some (.iconst 1, 17, 0, 0, 0, 1, []), some (.invokevirtual 203, 20, 159, 2, 1, 0, []), none, none, some (.return_, 21, 0, 0, 0, 0, [])]
def cdX12_read : List (Option AmE) := [some (.aload_n 0, 1, 0, 0, 0, 0, []), some (.aload_n 0, 2, 0, 0, 0, 0, []), some (.getfield 150, 5, 12, 2, 0, 0, []), none, none, some (.putfield 157, 8, 12, 4, 0, 0, []), none, none, some (.iconst 0, 9, 0, 0, 0, 0, []), some (.istore_n 1, 10, 0, 0, 0, 0, []), some (.iload_n 1, 11, 0, 0, 0, 0, []), some (.aload_n 0, 12, 0, 0, 0, 0, []), some (.getfield 157, 15, 12, 4, 0, 0, []), none, none, some (.if_icmp .ge 21, 18, 36, 0, 0, 0, []), none, none, some (.aload_n 0, 19, 0, 0, 0, 0, []), some (.getfield 17, 22, 12, 3, 2, 0, []), none, none, some (.iload_n 1, 23, 0, 0, 0, 0, []), some (.aload_n 0, 24, 0, 0, 0, 0, []), some (.getfield 13, 27, 12, 1, 2, 0, []), none, none, some (.iload_n 1, 28, 0, 0, 0, 0, []), some (.baload, 29, 0, 0, 0, 0, []), some (.bastore, 30, 0, 0, 0, 0, []), some (.iinc 1 1, 33, 0, 0, 0, 1, []), none, none, some (.goto (-23), 36, 10, 0, 0, 0, []), none, none, some (.aload_n 0, 37, 0, 0, 0, 0, []), some (.iconst 0, 38, 0, 0, 0, 0, []), some (.putfield 150, 41, 12, 2, 0, 0, []), none, none, some (.aload_n 0, 42, 0, 0, 0, 0, []), some (.invokevirtual 212, 45, 156, 1, 1, 0, []), none, none, some (.aload_n 0, 46, 0, 0, 0, 0, []), some (.iconst 0, 47, 0, 0, 0, 0, []), some (.putfield 191, 50, 12, 11, 0, 0, []), none, none, some (.aload_n 0, 51, 0, 0, 0, 0, []), some (.iconst 0, 52, 0, 0, 0, 0, []), some (.putfield 215, 55, 12, 12, 0, 0, []), none, none, some (.aload_n 0, 56, 0, 0, 0, 0, []), some (.iconst 0, 57, 0, 0, 0, 0, []), some (.putfield 188, 60, 12, 13, 0, 0, []), none, none, some (.aload_n 0, 61, 0, 0, 0, 0, []), some (.iconst 0, 62, 0, 0, 0, 0, []), some (.putfield 197, 65, 12, 15, 0, 0, []), none, none, some (.aload_n 0, 66, 0, 0, 0, 0, []), some (.iconst 1, 67, 0, 0, 0, 1, []), some (.aload_n 0, 68, 0, 0, 0, 0, []), some (.getfield 218, 71, 12, 18, 0, 0, []), none, none, some (.isub, 72, 0, 0, 0, 0, []), some (.putfield 221, 75, 12, 19, 0, 0, []), none, none, some (.aload_n 0, 76, 0, 0, 0, 0, []), some (.iconst 0, 77, 0, 0, 0, 0, []), some (.putfield 224, 80, 12, 20, 0, 0, []), none, none, some (.aload_n 0, 81, 0, 0, 0, 0, []), some (.getfield 43, 84, 12, 22, 2, 0, []), none, none, some (.aload_n 0, 85, 0, 0, 0, 0, []), some (.getfield 221, 88, 12, 19, 0, 0, []), none, none, some (.iconst 0, 89, 0, 0, 0, 0, []), some (.iastore, 90, 0, 0, 0, 0, []), some (.aload_n 0, 91, 0, 0, 0, 0, []), some (.getfield 49, 94, 12, 24, 2, 0, []), none, none, some (.aload_n 0, 95, 0, 0, 0, 0, []), some (.getfield 221, 98, 12, 19, 0, 0, []), none, none, some (.iconst 0, 99, 0, 0, 0, 0, []), some (.iastore, 100, 0, 0, 0, 0, []), some (.aload_n 0, 101, 0, 0, 0, 0, []), some (.getfield 55, 104, 12, 26, 2, 0, []), none, none, some (.aload_n 0, 105, 0, 0, 0, 0, []), some (.getfield 221, 108, 12, 19, 0, 0, []), none, none, some (.iconst 0, 109, 0, 0, 0, 0, []), some (.iastore, 110, 0, 0, 0, 0, []), some (.aload_n 0, 111, 0, 0, 0, 0, []), some (.getfield 58, 114, 12, 27, 2, 0, []), none, none, some (.aload_n 0, 115, 0, 0, 0, 0, []), some (.getfield 221, 118, 12, 19, 0, 0, []), none, none, some (.iconst 0, 119, 0, 0, 0, 0, []), some (.iastore, 120, 0, 0, 0, 0, []), some (.aload_n 0, 121, 0, 0, 0, 0, []), some (.getfield 61, 124, 12, 28, 2, 0, []), none, none, some (.aload_n 0, 125, 0, 0, 0, 0, []), some (.getfield 221, 128, 12, 19, 0, 0, []), none, none, some (.iconst 0, 129, 0, 0, 0, 0, []), some (.iastore, 130, 0, 0, 0, 0, []), some (.aload_n 0, 131, 0, 0, 0, 0, []), some (.getfield 70, 134, 12, 31, 2, 0, []), none, none, some (.aload_n 0, 135, 0, 0, 0, 0, []), some (.getfield 221, 138, 12, 19, 0, 0, []), none, none, some (.iconst 0, 139, 0, 0, 0, 0, []), some (.iastore, 140, 0, 0, 0, 0, []), some (.aload_n 0, 141, 0, 0, 0, 0, []), some (.bipush 50, 143, 0, 0, 0, 50, []), none, some (.aload_n 0, 144, 0, 0, 0, 0, []), some (.getfield 221, 147, 12, 19, 0, 0, []), none, none, some (.imul, 148, 0, 0, 0, 0, []), some (.putfield 227, 151, 12, 34, 0, 0, []), none, none, some (.aload_n 0, 152, 0, 0, 0, 0, []), some (.sipush 420, 155, 0, 0, 0, 420, []), none, none, some (.aload_n 0, 156, 0, 0, 0, 0, []), some (.getfield 221, 159, 12, 19, 0, 0, []), none, none, some (.imul, 160, 0, 0, 0, 0, []), some (.putfield 230, 163, 12, 40, 0, 0, []), none, none, some (.iconst 0, 164, 0, 0, 0, 0, []), some (.istore_n 1, 165, 0, 0, 0, 0, []), some (.iload_n 1, 166, 0, 0, 0, 0, []), some (.iconst 4, 167, 0, 0, 0, 4, []), some (.if_icmp .ge 37, 170, 204, 0, 0, 0, []), none, none, some (.aload_n 0, 171, 0, 0, 0, 0, []), some (.getfield 73, 174, 12, 32, 2, 0, []), none, none, some (.iconst 4, 175, 0, 0, 0, 4, []), some (.aload_n 0, 176, 0, 0, 0, 0, []), some (.getfield 221, 179, 12, 19, 0, 0, []), none, none, some (.imul, 180, 0, 0, 0, 0, []), some (.iload_n 1, 181, 0, 0, 0, 0, []), some (.iadd, 182, 0, 0, 0, 0, []), some (.iconst 0, 183, 0, 0, 0, 0, []), some (.iastore, 184, 0, 0, 0, 0, []), some (.aload_n 0, 185, 0, 0, 0, 0, []), some (.getfield 76, 188, 12, 33, 2, 0, []), none, none, some (.iconst 4, 189, 0, 0, 0, 4, []), some (.aload_n 0, 190, 0, 0, 0, 0, []), some (.getfield 221, 193, 12, 19, 0, 0, []), none, none, some (.imul, 194, 0, 0, 0, 0, []), some (.iload_n 1, 195, 0, 0, 0, 0, []), some (.iadd, 196, 0, 0, 0, 0, []), some (.iconst 0, 197, 0, 0, 0, 0, []), some (.iastore, 198, 0, 0, 0, 0, []), some (.iinc 1 1, 201, 0, 0, 0, 1, []), none, none, some (.goto (-36), 204, 165, 0, 0, 0, []), none, none, some (.aload_n 0, 205, 0, 0, 0, 0, []), some (.getfield 188, 208, 12, 13, 0, 0, []), none, none, some (.ifCond .ne 18, 211, 226, 0, 0, 0, []), none, none, some (.aload_n 0, 212, 0, 0, 0, 0, []), some (.iconst 0, 213, 0, 0, 0, 0, []), some (.invokevirtual 206, 216, 158, 2, 1, 1, []), none, none, some (.ifCond .ne 10, 219, 226, 0, 0, 0, []), none, none, some (.aload_n 0, 220, 0, 0, 0, 0, []), some (.invokevirtual 233, 223, 166, 1, 1, 0, []), none, none, some (.goto (-19), 226, 204, 0, 0, 0, []), none, none, some (.aload_n 0, 227, 0, 0, 0, 0, []), some (.aload_n 0, 228, 0, 0, 0, 0, []), some (.getfield 188, 231, 12, 13, 0, 0, []), none, none, some (.ifCond .le 10, 234, 241, 0, 0, 0, []), none, none, some (.aload_n 0, 235, 0, 0, 0, 0, []), some (.getfield 194, 238, 12, 14, 0, 0, []), none, none, some (.goto 18, 241, 256, 0, 0, 0, []), none, none, some (.aload_n 0, 242, 0, 0, 0, 0, []), some (.getfield 197, 245, 12, 15, 0, 0, []), none, none, some (.ifCond .le 10, 248, 255, 0, 0, 0, []), none, none, some (.aload_n 0, 249, 0, 0, 0, 0, []), some (.getfield 200, 252, 12, 16, 0, 0, []), none, none, some (.goto 4, 255, 256, 0, 0, 0, []), none, none, some (.iconst (-1), 256, 0, 0, 0, (-1), []), some (.putfield 37, 259, 12, 17, 0, 0, []), none, none, some (.aload_n 0, 260, 0, 0, 0, 0, []), some (.getfield 188, 263, 12, 13, 0, 0, []), none, none, some (.ifCond .le 8, 266, 271, 0, 0, 0, []), none, none, some (.aload_n 0, 267, 0, 0, 0, 0, []), some (.getfield 188, 270, 12, 13, 0, 0, []), none, none, some (.ireturn, 271, 0, 0, 0, 0, []), some (.aload_n 0, 272, 0, 0, 0, 0, []), some (.getfield 197, 275, 12, 15, 0, 0, []), none, none, some (.ifCond .le 8, 278, 283, 0, 0, 0, []), none, none, some (.aload_n 0, 279, 0, 0, 0, 0, []), some (.getfield 197, 282, 12, 15, 0, 0, []), none, none, some (.ireturn, 283, 0, 0, 0, 0, []), some (.aload_n 0, 284, 0, 0, 0, 0, []), some (.aload_n 0, 285, 0, 0, 0, 0, []), some (.getfield 221, 288, 12, 19, 0, 0, []), none, none, some (.putfield 218, 291, 12, 18, 0, 0, []), none, none, some (.aload_n 0, 292, 0, 0, 0, 0, []), some (.invokevirtual 236, 295, 185, 1, 1, 0, []), none, none, some (.iconst 0, 296, 0, 0, 0, 0, []), some (.istore_n 1, 297, 0, 0, 0, 0, []), some (.iload_n 1, 298, 0, 0, 0, 0, []), some (.bipush 100, 300, 0, 0, 0, 100, []), none, some (.if_icmp .ge 21, 303, 321, 0, 0, 0, []), none, none, some (.aload_n 0, 304, 0, 0, 0, 0, []), some (.getfield 110, 307, 12, 48, 2, 0, []), none, none, some (.iload_n 1, 308, 0, 0, 0, 0, []), some (.aload_n 0, 309, 0, 0, 0, 0, []), some (.getfield 113, 312, 12, 49, 2, 0, []), none, none, some (.iload_n 1, 313, 0, 0, 0, 0, []), some (.iaload, 314, 0, 0, 0, 0, []), some (.iastore, 315, 0, 0, 0, 0, []), some (.iinc 1 1, 318, 0, 0, 0, 1, []), none, none, some (.goto (-21), 321, 297, 0, 0, 0, []), none, none, some (.aload_n 0, 322, 0, 0, 0, 0, []), some (.iconst 0, 323, 0, 0, 0, 0, []), some (.putfield 239, 326, 12, 53, 0, 0, []), none, none, some (.aload_n 0, 327, 0, 0, 0, 0, []), some (.iconst 0, 328, 0, 0, 0, 0, []), some (.putfield 242, 331, 12, 65, 0, 0, []), none, none, some (.iconst 0, 332, 0, 0, 0, 0, []), some (.istore_n 1, 333, 0, 0, 0, 0, []), some (.iload_n 1, 334, 0, 0, 0, 0, []), some (.iconst 3, 335, 0, 0, 0, 3, []), some (.if_icmp .ge 16, 338, 351, 0, 0, 0, []), none, none, some (.aload_n 0, 339, 0, 0, 0, 0, []), some (.getfield 140, 342, 12, 70, 2, 0, []), none, none, some (.iload_n 1, 343, 0, 0, 0, 0, []), some (.iconst 0, 344, 0, 0, 0, 0, []), some (.bastore, 345, 0, 0, 0, 0, []), some (.iinc 1 1, 348, 0, 0, 0, 1, []), none, none, some (.goto (-15), 351, 333, 0, 0, 0, []), none, none, some (.iconst 0, 352, 0, 0, 0, 0, []), some (.ireturn, 353, 0, 0, 0, 0, [])]
def cdX12_place : List (Option AmE) := [some (.aload_n 0, 1, 0, 0, 0, 0, []), some (.getfield 37, 4, 12, 17, 0, 0, []), none, none, some (.ireturn, 5, 0, 0, 0, 0, [])]
def cdX12_roomFor : List (Option AmE) := [some (.iload_n 1, 1, 0, 0, 0, 0, []), some (.iload_n 2, 2, 0, 0, 0, 0, []), some (.if_icmp .ne 8, 5, 10, 0, 0, 0, []), none, none, some (.aload_n 0, 6, 0, 0, 0, 0, []), some (.iconst 2, 7, 0, 0, 0, 2, []), some (.invokevirtual 203, 10, 159, 2, 1, 0, []), none, none, some (.aload_n 0, 11, 0, 0, 0, 0, []), some (.getfield 188, 14, 12, 13, 0, 0, []), none, none, some (.ifCond .ne 7, 17, 21, 0, 0, 0, []), none, none, some (.aload_n 0, 18, 0, 0, 0, 0, []), some (.invokevirtual 209, 21, 161, 1, 1, 0, []), none, none, some (.return_, 22, 0, 0, 0, 0, [])]
def cdX12_tell : List (Option AmE) := [some (.aload_n 0, 1, 0, 0, 0, 0, []), some (.getfield 20, 4, 12, 5, 2, 0, []), none, none, some (.aload_n 0, 5, 0, 0, 0, 0, []), some (.getfield 191, 8, 12, 11, 0, 0, []), none, none, some (.iaload, 9, 0, 0, 0, 0, []), some (.tableswitch 160 20 24 #[35, 46, 57, 102, 131], 44, 169, 0, 0, 20, [44, 55, 66, 111, 140]), none, none, none, none, none, none, none, none, none, none, none, none, none, none, none, none, none, none, none, none, none, none, none, none, none, none, none, none, none, none, none, none, none, none, some (.aload_n 0, 45, 0, 0, 0, 0, []), some (.invokevirtual 209, 48, 161, 1, 1, 0, []), none, none, some (.aload_n 0, 49, 0, 0, 0, 0, []), some (.invokevirtual 245, 52, 168, 1, 1, 0, []), none, none, some (.goto 122, 55, 174, 0, 0, 0, []), none, none, some (.aload_n 0, 56, 0, 0, 0, 0, []), some (.invokevirtual 209, 59, 161, 1, 1, 0, []), none, none, some (.aload_n 0, 60, 0, 0, 0, 0, []), some (.invokevirtual 248, 63, 169, 1, 1, 0, []), none, none, some (.goto 111, 66, 174, 0, 0, 0, []), none, none, some (.aload_n 0, 67, 0, 0, 0, 0, []), some (.invokevirtual 209, 70, 161, 1, 1, 0, []), none, none, some (.aload_n 0, 71, 0, 0, 0, 0, []), some (.getfield 55, 74, 12, 26, 2, 0, []), none, none, some (.aload_n 0, 75, 0, 0, 0, 0, []), some (.getfield 221, 78, 12, 19, 0, 0, []), none, none, some (.aload_n 0, 79, 0, 0, 0, 0, []), some (.iconst 0, 80, 0, 0, 0, 0, []), some (.sipush 999, 83, 0, 0, 0, 999, []), none, none, some (.invokevirtual 251, 86, 167, 3, 1, 1, []), none, none, some (.iastore, 87, 0, 0, 0, 0, []), some (.aload_n 0, 88, 0, 0, 0, 0, []), some (.getfield 58, 91, 12, 27, 2, 0, []), none, none, some (.aload_n 0, 92, 0, 0, 0, 0, []), some (.getfield 221, 95, 12, 19, 0, 0, []), none, none, some (.aload_n 0, 96, 0, 0, 0, 0, []), some (.iconst 0, 97, 0, 0, 0, 0, []), some (.bipush 99, 99, 0, 0, 0, 99, []), none, some (.invokevirtual 251, 102, 167, 3, 1, 1, []), none, none, some (.iastore, 103, 0, 0, 0, 0, []), some (.aload_n 0, 104, 0, 0, 0, 0, []), some (.iconst 4, 105, 0, 0, 0, 4, []), some (.invokevirtual 255, 108, 162, 2, 1, 0, []), none, none, some (.goto 66, 111, 174, 0, 0, 0, []), none, none, some (.aload_n 0, 112, 0, 0, 0, 0, []), some (.aload_n 0, 113, 0, 0, 0, 0, []), some (.getfield 61, 116, 12, 28, 2, 0, []), none, none, some (.aload_n 0, 117, 0, 0, 0, 0, []), some (.getfield 221, 120, 12, 19, 0, 0, []), none, none, some (.iaload, 121, 0, 0, 0, 0, []), some (.bipush 8, 123, 0, 0, 0, 8, []), none, some (.invokevirtual 258, 126, 165, 3, 1, 0, []), none, none, some (.aload_n 0, 127, 0, 0, 0, 0, []), some (.getfield 188, 130, 12, 13, 0, 0, []), none, none, some (.ifCond .ne 44, 133, 174, 0, 0, 0, []), none, none, some (.aload_n 0, 134, 0, 0, 0, 0, []), some (.invokevirtual 262, 137, 171, 1, 1, 0, []), none, none, some (.goto 37, 140, 174, 0, 0, 0, []), none, none, some (.aload_n 0, 141, 0, 0, 0, 0, []), some (.aload_n 0, 142, 0, 0, 0, 0, []), some (.getfield 70, 145, 12, 31, 2, 0, []), none, none, some (.aload_n 0, 146, 0, 0, 0, 0, []), some (.getfield 221, 149, 12, 19, 0, 0, []), none, none, some (.iaload, 150, 0, 0, 0, 0, []), some (.bipush 8, 152, 0, 0, 0, 8, []), none, some (.invokevirtual 258, 155, 165, 3, 1, 0, []), none, none, some (.aload_n 0, 156, 0, 0, 0, 0, []), some (.getfield 188, 159, 12, 13, 0, 0, []), none, none, some (.ifCond .ne 15, 162, 174, 0, 0, 0, []), none, none, some (.aload_n 0, 163, 0, 0, 0, 0, []), some (.invokevirtual 265, 166, 172, 1, 1, 0, []), none, none, some (.goto 8, 169, 174, 0, 0, 0, []), none, none, some (.aload_n 0, 170, 0, 0, 0, 0, []), some (.iconst 1, 171, 0, 0, 0, 1, []), some (.invokevirtual 203, 174, 159, 2, 1, 0, []), none, none, some (.return_, 175, 0, 0, 0, 0, [])]
def cdX12_bounded : List (Option AmE) := [some (.aload_n 0, 1, 0, 0, 0, 0, []), some (.getfield 188, 4, 12, 13, 0, 0, []), none, none, some (.ifCond .gt 11, 7, 15, 0, 0, 0, []), none, none, some (.aload_n 0, 8, 0, 0, 0, 0, []), some (.iconst 2, 9, 0, 0, 0, 2, []), some (.invokevirtual 206, 12, 158, 2, 1, 1, []), none, none, some (.ifCond .ne 10, 15, 22, 0, 0, 0, []), none, none, some (.aload_n 0, 16, 0, 0, 0, 0, []), some (.iconst 1, 17, 0, 0, 0, 1, []), some (.invokevirtual 203, 20, 159, 2, 1, 0, []), none, none, some (.iload_n 1, 21, 0, 0, 0, 0, []), some (.ireturn, 22, 0, 0, 0, 0, []), some (.aload_n 0, 23, 0, 0, 0, 0, []), some (.getfield 27, 26, 12, 7, 2, 0, []), none, none, some (.aload_n 0, 27, 0, 0, 0, 0, []), some (.getfield 191, 30, 12, 11, 0, 0, []), none, none, some (.iaload, 31, 0, 0, 0, 0, []), some (.istore_n 3, 32, 0, 0, 0, 0, []), some (.iload_n 3, 33, 0, 0, 0, 0, []), some (.iload_n 1, 34, 0, 0, 0, 0, []), some (.if_icmp .lt 8, 37, 42, 0, 0, 0, []), none, none, some (.iload_n 3, 38, 0, 0, 0, 0, []), some (.iload_n 2, 39, 0, 0, 0, 0, []), some (.if_icmp .le 12, 42, 51, 0, 0, 0, []), none, none, some (.aload_n 0, 43, 0, 0, 0, 0, []), some (.iconst 5, 44, 0, 0, 0, 5, []), some (.aload_n 0, 45, 0, 0, 0, 0, []), some (.getfield 191, 48, 12, 11, 0, 0, []), none, none, some (.invokevirtual 268, 51, 160, 3, 1, 0, []), none, none, some (.aload_n 0, 52, 0, 0, 0, 0, []), some (.invokevirtual 209, 55, 161, 1, 1, 0, []), none, none, some (.iload_n 3, 56, 0, 0, 0, 0, []), some (.ireturn, 57, 0, 0, 0, 0, [])]
def cdX12_tellSteps : List (Option AmE) := [some (.iconst 0, 1, 0, 0, 0, 0, []), some (.istore_n 1, 2, 0, 0, 0, 0, []), some (.aload_n 0, 3, 0, 0, 0, 0, []), some (.getfield 188, 6, 12, 13, 0, 0, []), none, none, some (.ifCond .ne 57, 9, 63, 0, 0, 0, []), none, none, some (.aload_n 0, 10, 0, 0, 0, 0, []), some (.iconst 2, 11, 0, 0, 0, 2, []), some (.invokevirtual 206, 14, 158, 2, 1, 1, []), none, none, some (.ifCond .eq 49, 17, 63, 0, 0, 0, []), none, none, some (.iload_n 1, 18, 0, 0, 0, 0, []), some (.bipush 24, 20, 0, 0, 0, 24, []), none, some (.if_icmp .ne 8, 23, 28, 0, 0, 0, []), none, none, some (.aload_n 0, 24, 0, 0, 0, 0, []), some (.iconst 2, 25, 0, 0, 0, 2, []), some (.invokevirtual 203, 28, 159, 2, 1, 0, []), none, none, some (.aload_n 0, 29, 0, 0, 0, 0, []), some (.getfield 188, 32, 12, 13, 0, 0, []), none, none, some (.ifCond .le 4, 35, 36, 0, 0, 0, []), none, none, some (.return_, 36, 0, 0, 0, 0, []), some (.iinc 1 1, 39, 0, 0, 0, 1, []), none, none, some (.aload_n 0, 40, 0, 0, 0, 0, []), some (.getfield 46, 43, 12, 23, 2, 0, []), none, none, some (.bipush 25, 45, 0, 0, 0, 25, []), none, some (.aload_n 0, 46, 0, 0, 0, 0, []), some (.getfield 221, 49, 12, 19, 0, 0, []), none, none, some (.imul, 50, 0, 0, 0, 0, []), some (.iload_n 1, 51, 0, 0, 0, 0, []), some (.iadd, 52, 0, 0, 0, 0, []), some (.aload_n 0, 53, 0, 0, 0, 0, []), some (.iconst 0, 54, 0, 0, 0, 0, []), some (.bipush 99, 56, 0, 0, 0, 99, []), none, some (.invokevirtual 251, 59, 167, 3, 1, 1, []), none, none, some (.iastore, 60, 0, 0, 0, 0, []), some (.goto (-58), 63, 2, 0, 0, 0, []), none, none, some (.aload_n 0, 64, 0, 0, 0, 0, []), some (.iconst 4, 65, 0, 0, 0, 4, []), some (.invokevirtual 255, 68, 162, 2, 1, 0, []), none, none, some (.aload_n 0, 69, 0, 0, 0, 0, []), some (.getfield 43, 72, 12, 22, 2, 0, []), none, none, some (.aload_n 0, 73, 0, 0, 0, 0, []), some (.getfield 221, 76, 12, 19, 0, 0, []), none, none, some (.iload_n 1, 77, 0, 0, 0, 0, []), some (.iastore, 78, 0, 0, 0, 0, []), some (.return_, 79, 0, 0, 0, 0, [])]
def cdX12_tellRain : List (Option AmE) := [some (.iconst 0, 1, 0, 0, 0, 0, []), some (.istore_n 1, 2, 0, 0, 0, 0, []), some (.aload_n 0, 3, 0, 0, 0, 0, []), some (.getfield 188, 6, 12, 13, 0, 0, []), none, none, some (.ifCond .ne 57, 9, 63, 0, 0, 0, []), none, none, some (.aload_n 0, 10, 0, 0, 0, 0, []), some (.iconst 2, 11, 0, 0, 0, 2, []), some (.invokevirtual 206, 14, 158, 2, 1, 1, []), none, none, some (.ifCond .eq 49, 17, 63, 0, 0, 0, []), none, none, some (.iload_n 1, 18, 0, 0, 0, 0, []), some (.bipush 14, 20, 0, 0, 0, 14, []), none, some (.if_icmp .ne 8, 23, 28, 0, 0, 0, []), none, none, some (.aload_n 0, 24, 0, 0, 0, 0, []), some (.iconst 2, 25, 0, 0, 0, 2, []), some (.invokevirtual 203, 28, 159, 2, 1, 0, []), none, none, some (.aload_n 0, 29, 0, 0, 0, 0, []), some (.getfield 188, 32, 12, 13, 0, 0, []), none, none, some (.ifCond .le 4, 35, 36, 0, 0, 0, []), none, none, some (.return_, 36, 0, 0, 0, 0, []), some (.aload_n 0, 37, 0, 0, 0, 0, []), some (.getfield 52, 40, 12, 25, 2, 0, []), none, none, some (.bipush 14, 42, 0, 0, 0, 14, []), none, some (.aload_n 0, 43, 0, 0, 0, 0, []), some (.getfield 221, 46, 12, 19, 0, 0, []), none, none, some (.imul, 47, 0, 0, 0, 0, []), some (.iload_n 1, 48, 0, 0, 0, 0, []), some (.iadd, 49, 0, 0, 0, 0, []), some (.aload_n 0, 50, 0, 0, 0, 0, []), some (.iconst 0, 51, 0, 0, 0, 0, []), some (.bipush 9, 53, 0, 0, 0, 9, []), none, some (.invokevirtual 251, 56, 167, 3, 1, 1, []), none, none, some (.iastore, 57, 0, 0, 0, 0, []), some (.iinc 1 1, 60, 0, 0, 0, 1, []), none, none, some (.goto (-58), 63, 2, 0, 0, 0, []), none, none, some (.aload_n 0, 64, 0, 0, 0, 0, []), some (.iconst 4, 65, 0, 0, 0, 4, []), some (.invokevirtual 255, 68, 162, 2, 1, 0, []), none, none, some (.aload_n 0, 69, 0, 0, 0, 0, []), some (.getfield 49, 72, 12, 24, 2, 0, []), none, none, some (.aload_n 0, 73, 0, 0, 0, 0, []), some (.getfield 221, 76, 12, 19, 0, 0, []), none, none, some (.iload_n 1, 77, 0, 0, 0, 0, []), some (.iastore, 78, 0, 0, 0, 0, []), some (.return_, 79, 0, 0, 0, 0, [])]
def cdX12_tellVow : List (Option AmE) := [some (.aload_n 0, 1, 0, 0, 0, 0, []), some (.getfield 188, 4, 12, 13, 0, 0, []), none, none, some (.ifCond .gt 31, 7, 35, 0, 0, 0, []), none, none, some (.aload_n 0, 8, 0, 0, 0, 0, []), some (.getfield 20, 11, 12, 5, 2, 0, []), none, none, some (.aload_n 0, 12, 0, 0, 0, 0, []), some (.getfield 191, 15, 12, 11, 0, 0, []), none, none, some (.iaload, 16, 0, 0, 0, 0, []), some (.bipush 25, 18, 0, 0, 0, 25, []), none, some (.if_icmp .lt 17, 21, 35, 0, 0, 0, []), none, none, some (.aload_n 0, 22, 0, 0, 0, 0, []), some (.getfield 20, 25, 12, 5, 2, 0, []), none, none, some (.aload_n 0, 26, 0, 0, 0, 0, []), some (.getfield 191, 29, 12, 11, 0, 0, []), none, none, some (.iaload, 30, 0, 0, 0, 0, []), some (.bipush 28, 32, 0, 0, 0, 28, []), none, some (.if_icmp .le 8, 35, 40, 0, 0, 0, []), none, none, some (.aload_n 0, 36, 0, 0, 0, 0, []), some (.iconst 1, 37, 0, 0, 0, 1, []), some (.invokevirtual 203, 40, 159, 2, 1, 0, []), none, none, some (.aload_n 0, 41, 0, 0, 0, 0, []), some (.getfield 188, 44, 12, 13, 0, 0, []), none, none, some (.ifCond .le 5, 47, 49, 0, 0, 0, []), none, none, some (.iconst 0, 48, 0, 0, 0, 0, []), some (.ireturn, 49, 0, 0, 0, 0, []), some (.aload_n 0, 50, 0, 0, 0, 0, []), some (.invokevirtual 209, 53, 161, 1, 1, 0, []), none, none, some (.aload_n 0, 54, 0, 0, 0, 0, []), some (.getfield 20, 57, 12, 5, 2, 0, []), none, none, some (.aload_n 0, 58, 0, 0, 0, 0, []), some (.getfield 191, 61, 12, 11, 0, 0, []), none, none, some (.iconst 1, 62, 0, 0, 0, 1, []), some (.isub, 63, 0, 0, 0, 0, []), some (.iaload, 64, 0, 0, 0, 0, []), some (.bipush 25, 66, 0, 0, 0, 25, []), none, some (.isub, 67, 0, 0, 0, 0, []), some (.ireturn, 68, 0, 0, 0, 0, [])]
def cdX12_tellPilgrim : List (Option AmE) := [some (.bipush 8, 2, 0, 0, 0, 8, []), none, some (.aload_n 0, 3, 0, 0, 0, 0, []), some (.getfield 221, 6, 12, 19, 0, 0, []), none, none, some (.imul, 7, 0, 0, 0, 0, []), some (.aload_n 0, 8, 0, 0, 0, 0, []), some (.getfield 61, 11, 12, 28, 2, 0, []), none, none, some (.aload_n 0, 12, 0, 0, 0, 0, []), some (.getfield 221, 15, 12, 19, 0, 0, []), none, none, some (.iaload, 16, 0, 0, 0, 0, []), some (.iadd, 17, 0, 0, 0, 0, []), some (.istore_n 1, 18, 0, 0, 0, 0, []), some (.aload_n 0, 19, 0, 0, 0, 0, []), some (.getfield 191, 22, 12, 11, 0, 0, []), none, none, some (.istore_n 2, 23, 0, 0, 0, 0, []), some (.aload_n 0, 24, 0, 0, 0, 0, []), some (.iconst 1, 25, 0, 0, 0, 1, []), some (.invokevirtual 255, 28, 162, 2, 1, 0, []), none, none, some (.iconst 0, 29, 0, 0, 0, 0, []), some (.istore_n 3, 30, 0, 0, 0, 0, []), some (.iload_n 3, 31, 0, 0, 0, 0, []), some (.aload_n 0, 32, 0, 0, 0, 0, []), some (.getfield 224, 35, 12, 20, 0, 0, []), none, none, some (.if_icmp .ge 38, 38, 73, 0, 0, 0, []), none, none, some (.aload_n 0, 39, 0, 0, 0, 0, []), some (.getfield 188, 42, 12, 13, 0, 0, []), none, none, some (.ifCond .ne 31, 45, 73, 0, 0, 0, []), none, none, some (.aload_n 0, 46, 0, 0, 0, 0, []), some (.getfield 40, 49, 12, 21, 2, 0, []), none, none, some (.iload_n 3, 50, 0, 0, 0, 0, []), some (.laload, 51, 0, 0, 0, 0, []), some (.aload_n 0, 52, 0, 0, 0, 0, []), some (.getfield 30, 55, 12, 8, 2, 0, []), none, none, some (.iload_n 2, 56, 0, 0, 0, 0, []), some (.laload, 57, 0, 0, 0, 0, []), some (.lcmp, 58, 0, 0, 0, 0, []), some (.ifCond .ne 9, 61, 67, 0, 0, 0, []), none, none, some (.aload_n 0, 62, 0, 0, 0, 0, []), some (.iconst 3, 63, 0, 0, 0, 3, []), some (.iload_n 2, 64, 0, 0, 0, 0, []), some (.invokevirtual 268, 67, 160, 3, 1, 0, []), none, none, some (.iinc 3 1, 70, 0, 0, 0, 1, []), none, none, some (.goto (-40), 73, 30, 0, 0, 0, []), none, none, some (.aload_n 0, 74, 0, 0, 0, 0, []), some (.getfield 64, 77, 12, 29, 2, 0, []), none, none, some (.iload_n 1, 78, 0, 0, 0, 0, []), some (.aload_n 0, 79, 0, 0, 0, 0, []), some (.iconst 1, 80, 0, 0, 0, 1, []), some (.bipush 30, 82, 0, 0, 0, 30, []), none, some (.invokevirtual 251, 85, 167, 3, 1, 1, []), none, none, some (.iastore, 86, 0, 0, 0, 0, []), some (.aload_n 0, 87, 0, 0, 0, 0, []), some (.getfield 67, 90, 12, 30, 2, 0, []), none, none, some (.iload_n 1, 91, 0, 0, 0, 0, []), some (.aload_n 0, 92, 0, 0, 0, 0, []), some (.invokevirtual 271, 95, 170, 1, 1, 1, []), none, none, some (.iastore, 96, 0, 0, 0, 0, []), some (.aload_n 0, 97, 0, 0, 0, 0, []), some (.iconst 4, 98, 0, 0, 0, 4, []), some (.invokevirtual 255, 101, 162, 2, 1, 0, []), none, none, some (.aload_n 0, 102, 0, 0, 0, 0, []), some (.getfield 188, 105, 12, 13, 0, 0, []), none, none, some (.ifCond .le 4, 108, 109, 0, 0, 0, []), none, none, some (.return_, 109, 0, 0, 0, 0, []), some (.aload_n 0, 110, 0, 0, 0, 0, []), some (.getfield 40, 113, 12, 21, 2, 0, []), none, none, some (.aload_n 0, 114, 0, 0, 0, 0, []), some (.getfield 224, 117, 12, 20, 0, 0, []), none, none, some (.aload_n 0, 118, 0, 0, 0, 0, []), some (.getfield 30, 121, 12, 8, 2, 0, []), none, none, some (.iload_n 2, 122, 0, 0, 0, 0, []), some (.laload, 123, 0, 0, 0, 0, []), some (.lastore, 124, 0, 0, 0, 0, []), some (.aload_n 0, 125, 0, 0, 0, 0, []), some (.dup, 126, 0, 0, 0, 0, []), some (.getfield 224, 129, 12, 20, 0, 0, []), none, none, some (.iconst 1, 130, 0, 0, 0, 1, []), some (.iadd, 131, 0, 0, 0, 0, []), some (.putfield 224, 134, 12, 20, 0, 0, []), none, none, some (.aload_n 0, 135, 0, 0, 0, 0, []), some (.getfield 61, 138, 12, 28, 2, 0, []), none, none, some (.aload_n 0, 139, 0, 0, 0, 0, []), some (.getfield 221, 142, 12, 19, 0, 0, []), none, none, some (.dup2, 143, 0, 0, 0, 0, []), some (.iaload, 144, 0, 0, 0, 0, []), some (.iconst 1, 145, 0, 0, 0, 1, []), some (.iadd, 146, 0, 0, 0, 0, []), some (.iastore, 147, 0, 0, 0, 0, []), some (.return_, 148, 0, 0, 0, 0, [])]
def cdX12_tellLaw : List (Option AmE) := [some (.aload_n 0, 1, 0, 0, 0, 0, []), some (.invokevirtual 271, 4, 170, 1, 1, 1, []), none, none, some (.istore_n 1, 5, 0, 0, 0, 0, []), some (.aload_n 0, 6, 0, 0, 0, 0, []), some (.iconst 5, 7, 0, 0, 0, 5, []), some (.invokevirtual 255, 10, 162, 2, 1, 0, []), none, none, some (.aload_n 0, 11, 0, 0, 0, 0, []), some (.getfield 227, 14, 12, 34, 0, 0, []), none, none, some (.istore_n 2, 15, 0, 0, 0, 0, []), some (.iconst 0, 16, 0, 0, 0, 0, []), some (.istore_n 3, 17, 0, 0, 0, 0, []), some (.aload_n 0, 18, 0, 0, 0, 0, []), some (.getfield 188, 21, 12, 13, 0, 0, []), none, none, some (.ifCond .ne 113, 24, 134, 0, 0, 0, []), none, none, some (.aload_n 0, 25, 0, 0, 0, 0, []), some (.bipush 29, 27, 0, 0, 0, 29, []), none, some (.invokevirtual 206, 30, 158, 2, 1, 1, []), none, none, some (.ifCond .eq 104, 33, 134, 0, 0, 0, []), none, none, some (.iload_n 3, 34, 0, 0, 0, 0, []), some (.iconst 4, 35, 0, 0, 0, 4, []), some (.if_icmp .ne 8, 38, 43, 0, 0, 0, []), none, none, some (.aload_n 0, 39, 0, 0, 0, 0, []), some (.iconst 2, 40, 0, 0, 0, 2, []), some (.invokevirtual 203, 43, 159, 2, 1, 0, []), none, none, some (.aload_n 0, 44, 0, 0, 0, 0, []), some (.getfield 188, 47, 12, 13, 0, 0, []), none, none, some (.ifCond .le 4, 50, 51, 0, 0, 0, []), none, none, some (.return_, 51, 0, 0, 0, 0, []), some (.iinc 3 1, 54, 0, 0, 0, 1, []), none, none, some (.aload_n 0, 55, 0, 0, 0, 0, []), some (.invokevirtual 209, 58, 161, 1, 1, 0, []), none, none, some (.aload_n 0, 59, 0, 0, 0, 0, []), some (.getfield 79, 62, 12, 35, 2, 0, []), none, none, some (.aload_n 0, 63, 0, 0, 0, 0, []), some (.getfield 227, 66, 12, 34, 0, 0, []), none, none, some (.iconst 1, 67, 0, 0, 0, 1, []), some (.bastore, 68, 0, 0, 0, 0, []), some (.aload_n 0, 69, 0, 0, 0, 0, []), some (.getfield 83, 72, 12, 36, 2, 0, []), none, none, some (.aload_n 0, 73, 0, 0, 0, 0, []), some (.getfield 227, 76, 12, 34, 0, 0, []), none, none, some (.aload_n 0, 77, 0, 0, 0, 0, []), some (.getfield 230, 80, 12, 40, 0, 0, []), none, none, some (.iastore, 81, 0, 0, 0, 0, []), some (.aload_n 0, 82, 0, 0, 0, 0, []), some (.invokevirtual 275, 85, 176, 1, 1, 0, []), none, none, some (.aload_n 0, 86, 0, 0, 0, 0, []), some (.bipush 13, 88, 0, 0, 0, 13, []), none, some (.invokevirtual 255, 91, 162, 2, 1, 0, []), none, none, some (.aload_n 0, 92, 0, 0, 0, 0, []), some (.getfield 86, 95, 12, 37, 2, 0, []), none, none, some (.aload_n 0, 96, 0, 0, 0, 0, []), some (.getfield 227, 99, 12, 34, 0, 0, []), none, none, some (.aload_n 0, 100, 0, 0, 0, 0, []), some (.getfield 230, 103, 12, 40, 0, 0, []), none, none, some (.iastore, 104, 0, 0, 0, 0, []), some (.aload_n 0, 105, 0, 0, 0, 0, []), some (.getfield 188, 108, 12, 13, 0, 0, []), none, none, some (.ifCond .ne 7, 111, 115, 0, 0, 0, []), none, none, some (.aload_n 0, 112, 0, 0, 0, 0, []), some (.invokevirtual 275, 115, 176, 1, 1, 0, []), none, none, some (.aload_n 0, 116, 0, 0, 0, 0, []), some (.bipush 30, 118, 0, 0, 0, 30, []), none, some (.invokevirtual 255, 121, 162, 2, 1, 0, []), none, none, some (.aload_n 0, 122, 0, 0, 0, 0, []), some (.invokevirtual 278, 125, 173, 1, 1, 0, []), none, none, some (.aload_n 0, 126, 0, 0, 0, 0, []), some (.bipush 31, 128, 0, 0, 0, 31, []), none, some (.invokevirtual 255, 131, 162, 2, 1, 0, []), none, none, some (.goto (-114), 134, 17, 0, 0, 0, []), none, none, some (.aload_n 0, 135, 0, 0, 0, 0, []), some (.getfield 79, 138, 12, 35, 2, 0, []), none, none, some (.aload_n 0, 139, 0, 0, 0, 0, []), some (.getfield 227, 142, 12, 34, 0, 0, []), none, none, some (.iconst 0, 143, 0, 0, 0, 0, []), some (.bastore, 144, 0, 0, 0, 0, []), some (.aload_n 0, 145, 0, 0, 0, 0, []), some (.invokevirtual 278, 148, 173, 1, 1, 0, []), none, none, some (.aload_n 0, 149, 0, 0, 0, 0, []), some (.iconst 4, 150, 0, 0, 0, 4, []), some (.invokevirtual 255, 153, 162, 2, 1, 0, []), none, none, some (.aload_n 0, 154, 0, 0, 0, 0, []), some (.getfield 188, 157, 12, 13, 0, 0, []), none, none, some (.ifCond .le 4, 160, 161, 0, 0, 0, []), none, none, some (.return_, 161, 0, 0, 0, 0, []), some (.aload_n 0, 162, 0, 0, 0, 0, []), some (.getfield 70, 165, 12, 31, 2, 0, []), none, none, some (.aload_n 0, 166, 0, 0, 0, 0, []), some (.getfield 221, 169, 12, 19, 0, 0, []), none, none, some (.dup2, 170, 0, 0, 0, 0, []), some (.iaload, 171, 0, 0, 0, 0, []), some (.iconst 1, 172, 0, 0, 0, 1, []), some (.iadd, 173, 0, 0, 0, 0, []), some (.iastore, 174, 0, 0, 0, 0, []), some (.aload_n 0, 175, 0, 0, 0, 0, []), some (.getfield 73, 178, 12, 32, 2, 0, []), none, none, some (.iconst 4, 179, 0, 0, 0, 4, []), some (.aload_n 0, 180, 0, 0, 0, 0, []), some (.getfield 221, 183, 12, 19, 0, 0, []), none, none, some (.imul, 184, 0, 0, 0, 0, []), some (.iload_n 1, 185, 0, 0, 0, 0, []), some (.iadd, 186, 0, 0, 0, 0, []), some (.iload_n 2, 187, 0, 0, 0, 0, []), some (.iastore, 188, 0, 0, 0, 0, []), some (.aload_n 0, 189, 0, 0, 0, 0, []), some (.getfield 76, 192, 12, 33, 2, 0, []), none, none, some (.iconst 4, 193, 0, 0, 0, 4, []), some (.aload_n 0, 194, 0, 0, 0, 0, []), some (.getfield 221, 197, 12, 19, 0, 0, []), none, none, some (.imul, 198, 0, 0, 0, 0, []), some (.iload_n 1, 199, 0, 0, 0, 0, []), some (.iadd, 200, 0, 0, 0, 0, []), some (.aload_n 0, 201, 0, 0, 0, 0, []), some (.getfield 227, 204, 12, 34, 0, 0, []), none, none, some (.iastore, 205, 0, 0, 0, 0, []), some (.return_, 206, 0, 0, 0, 0, [])]
def cdX12_term : List (Option AmE) := [some (.aload_n 0, 1, 0, 0, 0, 0, []), some (.getfield 89, 4, 12, 38, 2, 0, []), none, none, some (.aload_n 0, 5, 0, 0, 0, 0, []), some (.getfield 227, 8, 12, 34, 0, 0, []), none, none, some (.aload_n 0, 9, 0, 0, 0, 0, []), some (.getfield 230, 12, 12, 40, 0, 0, []), none, none, some (.iastore, 13, 0, 0, 0, 0, []), some (.aload_n 0, 14, 0, 0, 0, 0, []), some (.getfield 188, 17, 12, 13, 0, 0, []), none, none, some (.ifCond .ne 7, 20, 24, 0, 0, 0, []), none, none, some (.aload_n 0, 21, 0, 0, 0, 0, []), some (.invokevirtual 275, 24, 176, 1, 1, 0, []), none, none, some (.aload_n 0, 25, 0, 0, 0, 0, []), some (.getfield 92, 28, 12, 39, 2, 0, []), none, none, some (.aload_n 0, 29, 0, 0, 0, 0, []), some (.getfield 227, 32, 12, 34, 0, 0, []), none, none, some (.aload_n 0, 33, 0, 0, 0, 0, []), some (.getfield 230, 36, 12, 40, 0, 0, []), none, none, some (.iastore, 37, 0, 0, 0, 0, []), some (.aload_n 0, 38, 0, 0, 0, 0, []), some (.dup, 39, 0, 0, 0, 0, []), some (.getfield 227, 42, 12, 34, 0, 0, []), none, none, some (.iconst 1, 43, 0, 0, 0, 1, []), some (.iadd, 44, 0, 0, 0, 0, []), some (.putfield 227, 47, 12, 34, 0, 0, []), none, none, some (.return_, 48, 0, 0, 0, 0, [])]
def cdX12_emit : List (Option AmE) := [some (.aload_n 0, 1, 0, 0, 0, 0, []), some (.getfield 95, 4, 12, 41, 2, 0, []), none, none, some (.aload_n 0, 5, 0, 0, 0, 0, []), some (.getfield 230, 8, 12, 40, 0, 0, []), none, none, some (.iload_n 1, 9, 0, 0, 0, 0, []), some (.iastore, 10, 0, 0, 0, 0, []), some (.aload_n 0, 11, 0, 0, 0, 0, []), some (.getfield 98, 14, 12, 42, 2, 0, []), none, none, some (.aload_n 0, 15, 0, 0, 0, 0, []), some (.getfield 230, 18, 12, 40, 0, 0, []), none, none, some (.iload_n 2, 19, 0, 0, 0, 0, []), some (.iastore, 20, 0, 0, 0, 0, []), some (.aload_n 0, 21, 0, 0, 0, 0, []), some (.dup, 22, 0, 0, 0, 0, []), some (.getfield 230, 25, 12, 40, 0, 0, []), none, none, some (.iconst 1, 26, 0, 0, 0, 1, []), some (.iadd, 27, 0, 0, 0, 0, []), some (.putfield 230, 30, 12, 40, 0, 0, []), none, none, some (.return_, 31, 0, 0, 0, 0, [])]
def cdX12_comesOut : List (Option AmE) := [some (.aload_n 0, 1, 0, 0, 0, 0, []), some (.getfield 281, 4, 12, 44, 0, 0, []), none, none, some (.ifCond .le 87, 7, 91, 0, 0, 0, []), none, none, some (.aload_n 0, 8, 0, 0, 0, 0, []), some (.getfield 101, 11, 12, 43, 2, 0, []), none, none, some (.aload_n 0, 12, 0, 0, 0, 0, []), some (.getfield 281, 15, 12, 44, 0, 0, []), none, none, some (.iconst 1, 16, 0, 0, 0, 1, []), some (.isub, 17, 0, 0, 0, 0, []), some (.iaload, 18, 0, 0, 0, 0, []), some (.istore_n 2, 19, 0, 0, 0, 0, []), some (.iload_n 2, 20, 0, 0, 0, 0, []), some (.bipush 6, 22, 0, 0, 0, 6, []), none, some (.if_icmp .eq 19, 25, 41, 0, 0, 0, []), none, none, some (.iload_n 1, 26, 0, 0, 0, 0, []), some (.ifCond .eq 16, 29, 42, 0, 0, 0, []), none, none, some (.iload_n 2, 30, 0, 0, 0, 0, []), some (.bipush 8, 32, 0, 0, 0, 8, []), none, some (.if_icmp .eq 9, 35, 41, 0, 0, 0, []), none, none, some (.iload_n 2, 36, 0, 0, 0, 0, []), some (.bipush 9, 38, 0, 0, 0, 9, []), none, some (.if_icmp .ne 4, 41, 42, 0, 0, 0, []), none, none, some (.return_, 42, 0, 0, 0, 0, []), some (.aload_n 0, 43, 0, 0, 0, 0, []), some (.dup, 44, 0, 0, 0, 0, []), some (.getfield 281, 47, 12, 44, 0, 0, []), none, none, some (.iconst 1, 48, 0, 0, 0, 1, []), some (.isub, 49, 0, 0, 0, 0, []), some (.putfield 281, 52, 12, 44, 0, 0, []), none, none, some (.aload_n 0, 53, 0, 0, 0, 0, []), some (.iload_n 2, 54, 0, 0, 0, 0, []), some (.bipush 8, 56, 0, 0, 0, 8, []), none, some (.if_icmp .ne 7, 59, 63, 0, 0, 0, []), none, none, some (.iconst 2, 60, 0, 0, 0, 2, []), some (.goto 24, 63, 84, 0, 0, 0, []), none, none, some (.iload_n 2, 64, 0, 0, 0, 0, []), some (.bipush 9, 66, 0, 0, 0, 9, []), none, some (.if_icmp .ne 7, 69, 73, 0, 0, 0, []), none, none, some (.iconst 3, 70, 0, 0, 0, 3, []), some (.goto 14, 73, 84, 0, 0, 0, []), none, none, some (.iload_n 2, 74, 0, 0, 0, 0, []), some (.bipush 10, 76, 0, 0, 0, 10, []), none, some (.if_icmp .ne 7, 79, 83, 0, 0, 0, []), none, none, some (.iconst 4, 80, 0, 0, 0, 4, []), some (.goto 4, 83, 84, 0, 0, 0, []), none, none, some (.iconst 5, 84, 0, 0, 0, 5, []), some (.iconst 0, 85, 0, 0, 0, 0, []), some (.invokevirtual 284, 88, 174, 3, 1, 0, []), none, none, some (.goto (-88), 91, 0, 0, 0, 0, []), none, none, some (.return_, 92, 0, 0, 0, 0, [])]
def cdX12_expression : List (Option AmE) := [some (.aload_n 0, 1, 0, 0, 0, 0, []), some (.iconst 0, 2, 0, 0, 0, 0, []), some (.putfield 281, 5, 12, 44, 0, 0, []), none, none, some (.aload_n 0, 6, 0, 0, 0, 0, []), some (.getfield 215, 9, 12, 12, 0, 0, []), none, none, some (.istore_n 1, 10, 0, 0, 0, 0, []), some (.iconst 1, 11, 0, 0, 0, 1, []), some (.istore_n 2, 12, 0, 0, 0, 0, []), some (.iload_n 2, 13, 0, 0, 0, 0, []), some (.ifCond .eq 259, 16, 272, 0, 0, 0, []), none, none, some (.aload_n 0, 17, 0, 0, 0, 0, []), some (.getfield 188, 20, 12, 13, 0, 0, []), none, none, some (.ifCond .ne 252, 23, 272, 0, 0, 0, []), none, none, some (.aload_n 0, 24, 0, 0, 0, 0, []), some (.bipush 6, 26, 0, 0, 0, 6, []), none, some (.invokevirtual 206, 29, 158, 2, 1, 1, []), none, none, some (.ifCond .eq 55, 32, 84, 0, 0, 0, []), none, none, some (.aload_n 0, 33, 0, 0, 0, 0, []), some (.getfield 215, 36, 12, 12, 0, 0, []), none, none, some (.bipush 6, 38, 0, 0, 0, 6, []), none, some (.if_icmp .ne 8, 41, 46, 0, 0, 0, []), none, none, some (.aload_n 0, 42, 0, 0, 0, 0, []), some (.iconst 2, 43, 0, 0, 0, 2, []), some (.invokevirtual 203, 46, 159, 2, 1, 0, []), none, none, some (.aload_n 0, 47, 0, 0, 0, 0, []), some (.dup, 48, 0, 0, 0, 0, []), some (.getfield 215, 51, 12, 12, 0, 0, []), none, none, some (.iconst 1, 52, 0, 0, 0, 1, []), some (.iadd, 53, 0, 0, 0, 0, []), some (.putfield 215, 56, 12, 12, 0, 0, []), none, none, some (.aload_n 0, 57, 0, 0, 0, 0, []), some (.invokevirtual 209, 60, 161, 1, 1, 0, []), none, none, some (.aload_n 0, 61, 0, 0, 0, 0, []), some (.getfield 101, 64, 12, 43, 2, 0, []), none, none, some (.aload_n 0, 65, 0, 0, 0, 0, []), some (.getfield 281, 68, 12, 44, 0, 0, []), none, none, some (.bipush 6, 70, 0, 0, 0, 6, []), none, some (.iastore, 71, 0, 0, 0, 0, []), some (.aload_n 0, 72, 0, 0, 0, 0, []), some (.dup, 73, 0, 0, 0, 0, []), some (.getfield 281, 76, 12, 44, 0, 0, []), none, none, some (.iconst 1, 77, 0, 0, 0, 1, []), some (.iadd, 78, 0, 0, 0, 0, []), some (.putfield 281, 81, 12, 44, 0, 0, []), none, none, some (.goto (-58), 84, 23, 0, 0, 0, []), none, none, some (.aload_n 0, 85, 0, 0, 0, 0, []), some (.invokevirtual 287, 88, 177, 1, 1, 0, []), none, none, some (.aload_n 0, 89, 0, 0, 0, 0, []), some (.getfield 188, 92, 12, 13, 0, 0, []), none, none, some (.ifCond .le 4, 95, 96, 0, 0, 0, []), none, none, some (.return_, 96, 0, 0, 0, 0, []), some (.aload_n 0, 97, 0, 0, 0, 0, []), some (.bipush 7, 99, 0, 0, 0, 7, []), none, some (.invokevirtual 206, 102, 158, 2, 1, 1, []), none, none, some (.ifCond .eq 43, 105, 145, 0, 0, 0, []), none, none, some (.aload_n 0, 106, 0, 0, 0, 0, []), some (.getfield 215, 109, 12, 12, 0, 0, []), none, none, some (.iload_n 1, 110, 0, 0, 0, 0, []), some (.if_icmp .le 35, 113, 145, 0, 0, 0, []), none, none, some (.aload_n 0, 114, 0, 0, 0, 0, []), some (.iconst 0, 115, 0, 0, 0, 0, []), some (.invokevirtual 290, 118, 175, 2, 1, 0, []), none, none, some (.aload_n 0, 119, 0, 0, 0, 0, []), some (.dup, 120, 0, 0, 0, 0, []), some (.getfield 281, 123, 12, 44, 0, 0, []), none, none, some (.iconst 1, 124, 0, 0, 0, 1, []), some (.isub, 125, 0, 0, 0, 0, []), some (.putfield 281, 128, 12, 44, 0, 0, []), none, none, some (.aload_n 0, 129, 0, 0, 0, 0, []), some (.dup, 130, 0, 0, 0, 0, []), some (.getfield 215, 133, 12, 12, 0, 0, []), none, none, some (.iconst 1, 134, 0, 0, 0, 1, []), some (.isub, 135, 0, 0, 0, 0, []), some (.putfield 215, 138, 12, 12, 0, 0, []), none, none, some (.aload_n 0, 139, 0, 0, 0, 0, []), some (.invokevirtual 209, 142, 161, 1, 1, 0, []), none, none, some (.goto (-46), 145, 96, 0, 0, 0, []), none, none, some (.aload_n 0, 146, 0, 0, 0, 0, []), some (.bipush 8, 148, 0, 0, 0, 8, []), none, some (.invokevirtual 206, 151, 158, 2, 1, 1, []), none, none, some (.ifCond .ne 30, 154, 181, 0, 0, 0, []), none, none, some (.aload_n 0, 155, 0, 0, 0, 0, []), some (.bipush 9, 157, 0, 0, 0, 9, []), none, some (.invokevirtual 206, 160, 158, 2, 1, 1, []), none, none, some (.ifCond .ne 21, 163, 181, 0, 0, 0, []), none, none, some (.aload_n 0, 164, 0, 0, 0, 0, []), some (.bipush 10, 166, 0, 0, 0, 10, []), none, some (.invokevirtual 206, 169, 158, 2, 1, 1, []), none, none, some (.ifCond .ne 12, 172, 181, 0, 0, 0, []), none, none, some (.aload_n 0, 173, 0, 0, 0, 0, []), some (.bipush 15, 175, 0, 0, 0, 15, []), none, some (.invokevirtual 206, 178, 158, 2, 1, 1, []), none, none, some (.ifCond .eq 7, 181, 185, 0, 0, 0, []), none, none, some (.iconst 1, 182, 0, 0, 0, 1, []), some (.goto 4, 185, 186, 0, 0, 0, []), none, none, some (.iconst 0, 186, 0, 0, 0, 0, []), some (.istore_n 2, 187, 0, 0, 0, 0, []), some (.iload_n 2, 188, 0, 0, 0, 0, []), some (.ifCond .ne 22, 191, 210, 0, 0, 0, []), none, none, some (.aload_n 0, 192, 0, 0, 0, 0, []), some (.getfield 215, 195, 12, 12, 0, 0, []), none, none, some (.iload_n 1, 196, 0, 0, 0, 0, []), some (.if_icmp .le 8, 199, 204, 0, 0, 0, []), none, none, some (.aload_n 0, 200, 0, 0, 0, 0, []), some (.iconst 1, 201, 0, 0, 0, 1, []), some (.invokevirtual 203, 204, 159, 2, 1, 0, []), none, none, some (.aload_n 0, 205, 0, 0, 0, 0, []), some (.iconst 0, 206, 0, 0, 0, 0, []), some (.invokevirtual 290, 209, 175, 2, 1, 0, []), none, none, some (.return_, 210, 0, 0, 0, 0, []), some (.aload_n 0, 211, 0, 0, 0, 0, []), some (.aload_n 0, 212, 0, 0, 0, 0, []), some (.bipush 10, 214, 0, 0, 0, 10, []), none, some (.invokevirtual 206, 217, 158, 2, 1, 1, []), none, none, some (.ifCond .ne 12, 220, 229, 0, 0, 0, []), none, none, some (.aload_n 0, 221, 0, 0, 0, 0, []), some (.bipush 15, 223, 0, 0, 0, 15, []), none, some (.invokevirtual 206, 226, 158, 2, 1, 1, []), none, none, some (.ifCond .eq 7, 229, 233, 0, 0, 0, []), none, none, some (.iconst 1, 230, 0, 0, 0, 1, []), some (.goto 4, 233, 234, 0, 0, 0, []), none, none, some (.iconst 0, 234, 0, 0, 0, 0, []), some (.invokevirtual 290, 237, 175, 2, 1, 0, []), none, none, some (.aload_n 0, 238, 0, 0, 0, 0, []), some (.getfield 101, 241, 12, 43, 2, 0, []), none, none, some (.aload_n 0, 242, 0, 0, 0, 0, []), some (.getfield 281, 245, 12, 44, 0, 0, []), none, none, some (.aload_n 0, 246, 0, 0, 0, 0, []), some (.getfield 20, 249, 12, 5, 2, 0, []), none, none, some (.aload_n 0, 250, 0, 0, 0, 0, []), some (.getfield 191, 253, 12, 11, 0, 0, []), none, none, some (.iaload, 254, 0, 0, 0, 0, []), some (.iastore, 255, 0, 0, 0, 0, []), some (.aload_n 0, 256, 0, 0, 0, 0, []), some (.dup, 257, 0, 0, 0, 0, []), some (.getfield 281, 260, 12, 44, 0, 0, []), none, none, some (.iconst 1, 261, 0, 0, 0, 1, []), some (.iadd, 262, 0, 0, 0, 0, []), some (.putfield 281, 265, 12, 44, 0, 0, []), none, none, some (.aload_n 0, 266, 0, 0, 0, 0, []), some (.invokevirtual 209, 269, 161, 1, 1, 0, []), none, none, some (.goto (-257), 272, 12, 0, 0, 0, []), none, none, some (.return_, 273, 0, 0, 0, 0, [])]
def cdX12_unit : List (Option AmE) := [some (.aload_n 0, 1, 0, 0, 0, 0, []), some (.iconst 2, 2, 0, 0, 0, 2, []), some (.invokevirtual 206, 5, 158, 2, 1, 1, []), none, none, some (.ifCond .eq 24, 8, 29, 0, 0, 0, []), none, none, some (.aload_n 0, 9, 0, 0, 0, 0, []), some (.iconst 0, 10, 0, 0, 0, 0, []), some (.aload_n 0, 11, 0, 0, 0, 0, []), some (.getfield 27, 14, 12, 7, 2, 0, []), none, none, some (.aload_n 0, 15, 0, 0, 0, 0, []), some (.getfield 191, 18, 12, 11, 0, 0, []), none, none, some (.iaload, 19, 0, 0, 0, 0, []), some (.invokevirtual 284, 22, 174, 3, 1, 0, []), none, none, some (.aload_n 0, 23, 0, 0, 0, 0, []), some (.invokevirtual 209, 26, 161, 1, 1, 0, []), none, none, some (.goto 67, 29, 93, 0, 0, 0, []), none, none, some (.aload_n 0, 30, 0, 0, 0, 0, []), some (.getfield 188, 33, 12, 13, 0, 0, []), none, none, some (.ifCond .ne 55, 36, 88, 0, 0, 0, []), none, none, some (.aload_n 0, 37, 0, 0, 0, 0, []), some (.getfield 20, 40, 12, 5, 2, 0, []), none, none, some (.aload_n 0, 41, 0, 0, 0, 0, []), some (.getfield 191, 44, 12, 11, 0, 0, []), none, none, some (.iaload, 45, 0, 0, 0, 0, []), some (.bipush 32, 47, 0, 0, 0, 32, []), none, some (.if_icmp .lt 41, 50, 88, 0, 0, 0, []), none, none, some (.aload_n 0, 51, 0, 0, 0, 0, []), some (.getfield 20, 54, 12, 5, 2, 0, []), none, none, some (.aload_n 0, 55, 0, 0, 0, 0, []), some (.getfield 191, 58, 12, 11, 0, 0, []), none, none, some (.iaload, 59, 0, 0, 0, 0, []), some (.bipush 38, 61, 0, 0, 0, 38, []), none, some (.if_icmp .gt 27, 64, 88, 0, 0, 0, []), none, none, some (.aload_n 0, 65, 0, 0, 0, 0, []), some (.iconst 1, 66, 0, 0, 0, 1, []), some (.aload_n 0, 67, 0, 0, 0, 0, []), some (.getfield 20, 70, 12, 5, 2, 0, []), none, none, some (.aload_n 0, 71, 0, 0, 0, 0, []), some (.getfield 191, 74, 12, 11, 0, 0, []), none, none, some (.iaload, 75, 0, 0, 0, 0, []), some (.bipush 32, 77, 0, 0, 0, 32, []), none, some (.isub, 78, 0, 0, 0, 0, []), some (.invokevirtual 284, 81, 174, 3, 1, 0, []), none, none, some (.aload_n 0, 82, 0, 0, 0, 0, []), some (.invokevirtual 209, 85, 161, 1, 1, 0, []), none, none, some (.goto 8, 88, 93, 0, 0, 0, []), none, none, some (.aload_n 0, 89, 0, 0, 0, 0, []), some (.iconst 1, 90, 0, 0, 0, 1, []), some (.invokevirtual 203, 93, 159, 2, 1, 0, []), none, none, some (.return_, 94, 0, 0, 0, 0, [])]
def cdX12_termOf : List (Option AmE) := [some (.iconst 0, 1, 0, 0, 0, 0, []), some (.istore_n 3, 2, 0, 0, 0, 0, []), some (.iload_n 1, 3, 0, 0, 0, 0, []), some (.istore 4, 5, 0, 0, 0, 0, []), none, some (.iload 4, 7, 0, 0, 0, 0, []), none, some (.iload_n 2, 8, 0, 0, 0, 0, []), some (.if_icmp .ge 157, 11, 165, 0, 0, 0, []), none, none, some (.aload_n 0, 12, 0, 0, 0, 0, []), some (.getfield 95, 15, 12, 41, 2, 0, []), none, none, some (.iload 4, 17, 0, 0, 0, 0, []), none, some (.iaload, 18, 0, 0, 0, 0, []), some (.istore 5, 20, 0, 0, 0, 0, []), none, some (.iload 5, 22, 0, 0, 0, 0, []), none, some (.iconst 2, 23, 0, 0, 0, 2, []), some (.if_icmp .ge 42, 26, 65, 0, 0, 0, []), none, none, some (.aload_n 0, 27, 0, 0, 0, 0, []), some (.getfield 107, 30, 12, 46, 2, 0, []), none, none, some (.iload_n 3, 31, 0, 0, 0, 0, []), some (.iload 5, 33, 0, 0, 0, 0, []), none, some (.ifCond .ne 13, 36, 46, 0, 0, 0, []), none, none, some (.aload_n 0, 37, 0, 0, 0, 0, []), some (.getfield 98, 40, 12, 42, 2, 0, []), none, none, some (.iload 4, 42, 0, 0, 0, 0, []), none, some (.iaload, 43, 0, 0, 0, 0, []), some (.goto 15, 46, 58, 0, 0, 0, []), none, none, some (.aload_n 0, 47, 0, 0, 0, 0, []), some (.getfield 104, 50, 12, 45, 2, 0, []), none, none, some (.aload_n 0, 51, 0, 0, 0, 0, []), some (.getfield 98, 54, 12, 42, 2, 0, []), none, none, some (.iload 4, 56, 0, 0, 0, 0, []), none, some (.iaload, 57, 0, 0, 0, 0, []), some (.iaload, 58, 0, 0, 0, 0, []), some (.iastore, 59, 0, 0, 0, 0, []), some (.iinc 3 1, 62, 0, 0, 0, 1, []), none, none, some (.goto 97, 65, 159, 0, 0, 0, []), none, none, some (.iinc 3 (-1), 68, 0, 0, 0, (-1), []), none, none, some (.aload_n 0, 69, 0, 0, 0, 0, []), some (.getfield 107, 72, 12, 46, 2, 0, []), none, none, some (.iload_n 3, 73, 0, 0, 0, 0, []), some (.iconst 1, 74, 0, 0, 0, 1, []), some (.isub, 75, 0, 0, 0, 0, []), some (.iaload, 76, 0, 0, 0, 0, []), some (.istore 6, 78, 0, 0, 0, 0, []), none, some (.aload_n 0, 79, 0, 0, 0, 0, []), some (.getfield 107, 82, 12, 46, 2, 0, []), none, none, some (.iload_n 3, 83, 0, 0, 0, 0, []), some (.iaload, 84, 0, 0, 0, 0, []), some (.istore 7, 86, 0, 0, 0, 0, []), none, some (.iload 5, 88, 0, 0, 0, 0, []), none, some (.iconst 5, 89, 0, 0, 0, 5, []), some (.if_icmp .ne 15, 92, 104, 0, 0, 0, []), none, none, some (.iload 7, 94, 0, 0, 0, 0, []), none, some (.ifCond .ne 10, 97, 104, 0, 0, 0, []), none, none, some (.aload_n 0, 98, 0, 0, 0, 0, []), some (.iconst 1, 99, 0, 0, 0, 1, []), some (.putfield 294, 102, 12, 47, 3, 0, []), none, none, some (.iconst 0, 103, 0, 0, 0, 0, []), some (.ireturn, 104, 0, 0, 0, 0, []), some (.aload_n 0, 105, 0, 0, 0, 0, []), some (.getfield 107, 108, 12, 46, 2, 0, []), none, none, some (.iload_n 3, 109, 0, 0, 0, 0, []), some (.iconst 1, 110, 0, 0, 0, 1, []), some (.isub, 111, 0, 0, 0, 0, []), some (.iload 5, 113, 0, 0, 0, 0, []), none, some (.iconst 2, 114, 0, 0, 0, 2, []), some (.if_icmp .ne 11, 117, 125, 0, 0, 0, []), none, none, some (.iload 6, 119, 0, 0, 0, 0, []), none, some (.iload 7, 121, 0, 0, 0, 0, []), none, some (.iadd, 122, 0, 0, 0, 0, []), some (.goto 36, 125, 158, 0, 0, 0, []), none, none, some (.iload 5, 127, 0, 0, 0, 0, []), none, some (.iconst 3, 128, 0, 0, 0, 3, []), some (.if_icmp .ne 11, 131, 139, 0, 0, 0, []), none, none, some (.iload 6, 133, 0, 0, 0, 0, []), none, some (.iload 7, 135, 0, 0, 0, 0, []), none, some (.isub, 136, 0, 0, 0, 0, []), some (.goto 22, 139, 158, 0, 0, 0, []), none, none, some (.iload 5, 141, 0, 0, 0, 0, []), none, some (.iconst 4, 142, 0, 0, 0, 4, []), some (.if_icmp .ne 11, 145, 153, 0, 0, 0, []), none, none, some (.iload 6, 147, 0, 0, 0, 0, []), none, some (.iload 7, 149, 0, 0, 0, 0, []), none, some (.imul, 150, 0, 0, 0, 0, []), some (.goto 8, 153, 158, 0, 0, 0, []), none, none, some (.iload 6, 155, 0, 0, 0, 0, []), none, some (.iload 7, 157, 0, 0, 0, 0, []), none, some (.idiv, 158, 0, 0, 0, 0, []), some (.iastore, 159, 0, 0, 0, 0, []), some (.iinc 4 1, 162, 0, 0, 0, 1, []), none, none, some (.goto (-157), 165, 5, 0, 0, 0, []), none, none, some (.aload_n 0, 166, 0, 0, 0, 0, []), some (.getfield 107, 169, 12, 46, 2, 0, []), none, none, some (.iconst 0, 170, 0, 0, 0, 0, []), some (.iaload, 171, 0, 0, 0, 0, []), some (.ireturn, 172, 0, 0, 0, 0, [])]
def cdX12_in : List (Option AmE) := [some (.iload_n 0, 1, 0, 0, 0, 0, []), some (.iload_n 1, 2, 0, 0, 0, 0, []), some (.if_icmp .lt 12, 5, 14, 0, 0, 0, []), none, none, some (.iload_n 0, 6, 0, 0, 0, 0, []), some (.iload_n 2, 7, 0, 0, 0, 0, []), some (.if_icmp .gt 7, 10, 14, 0, 0, 0, []), none, none, some (.iconst 1, 11, 0, 0, 0, 1, []), some (.goto 4, 14, 15, 0, 0, 0, []), none, none, some (.iconst 0, 15, 0, 0, 0, 0, []), some (.ireturn, 16, 0, 0, 3, 0, [])]
def cdX12_top : List (Option AmE) := [some (.aload_n 0, 1, 0, 0, 0, 0, []), some (.getfield 43, 4, 12, 22, 2, 0, []), none, none, some (.aload_n 0, 5, 0, 0, 0, 0, []), some (.getfield 218, 8, 12, 18, 0, 0, []), none, none, some (.iaload, 9, 0, 0, 0, 0, []), some (.iconst 1, 10, 0, 0, 0, 1, []), some (.iadd, 11, 0, 0, 0, 0, []), some (.ireturn, 12, 0, 0, 0, 0, [])]
def cdX12_many : List (Option AmE) := [some (.aload_n 0, 1, 0, 0, 0, 0, []), some (.getfield 61, 4, 12, 28, 2, 0, []), none, none, some (.aload_n 0, 5, 0, 0, 0, 0, []), some (.getfield 218, 8, 12, 18, 0, 0, []), none, none, some (.iaload, 9, 0, 0, 0, 0, []), some (.ireturn, 10, 0, 0, 0, 0, [])]
def cdX12_isStep : List (Option AmE) := [some (.iload_n 1, 1, 0, 0, 0, 0, []), some (.iconst 1, 2, 0, 0, 0, 1, []), some (.aload_n 0, 3, 0, 0, 0, 0, []), some (.getfield 43, 6, 12, 22, 2, 0, []), none, none, some (.aload_n 0, 7, 0, 0, 0, 0, []), some (.getfield 218, 10, 12, 18, 0, 0, []), none, none, some (.iaload, 11, 0, 0, 0, 0, []), some (.invokestatic 298, 14, 179, 3, 0, 1, []), none, none, some (.ireturn, 15, 0, 0, 3, 0, [])]
def cdX12_isPilgrim : List (Option AmE) := [some (.iload_n 1, 1, 0, 0, 0, 0, []), some (.iconst 0, 2, 0, 0, 0, 0, []), some (.aload_n 0, 3, 0, 0, 0, 0, []), some (.invokevirtual 302, 6, 181, 1, 1, 1, []), none, none, some (.iconst 1, 7, 0, 0, 0, 1, []), some (.isub, 8, 0, 0, 0, 0, []), some (.invokestatic 298, 11, 179, 3, 0, 1, []), none, none, some (.ireturn, 12, 0, 0, 3, 0, [])]
def cdX12_vowOf : List (Option AmE) := [some (.aload_n 0, 1, 0, 0, 0, 0, []), some (.getfield 67, 4, 12, 30, 2, 0, []), none, none, some (.bipush 8, 6, 0, 0, 0, 8, []), none, some (.aload_n 0, 7, 0, 0, 0, 0, []), some (.getfield 218, 10, 12, 18, 0, 0, []), none, none, some (.imul, 11, 0, 0, 0, 0, []), some (.iload_n 1, 12, 0, 0, 0, 0, []), some (.iadd, 13, 0, 0, 0, 0, []), some (.iaload, 14, 0, 0, 0, 0, []), some (.ireturn, 15, 0, 0, 0, 0, [])]
def cdX12_begins : List (Option AmE) := [some (.iconst 0, 1, 0, 0, 0, 0, []), some (.istore_n 1, 2, 0, 0, 0, 0, []), some (.iload_n 1, 3, 0, 0, 0, 0, []), some (.bipush 100, 5, 0, 0, 0, 100, []), none, some (.if_icmp .ge 16, 8, 21, 0, 0, 0, []), none, none, some (.aload_n 0, 9, 0, 0, 0, 0, []), some (.getfield 113, 12, 12, 49, 2, 0, []), none, none, some (.iload_n 1, 13, 0, 0, 0, 0, []), some (.iconst 0, 14, 0, 0, 0, 0, []), some (.iastore, 15, 0, 0, 0, 0, []), some (.iinc 1 1, 18, 0, 0, 0, 1, []), none, none, some (.goto (-16), 21, 2, 0, 0, 0, []), none, none, some (.iconst 1, 22, 0, 0, 0, 1, []), some (.istore_n 1, 23, 0, 0, 0, 0, []), some (.iload_n 1, 24, 0, 0, 0, 0, []), some (.aload_n 0, 25, 0, 0, 0, 0, []), some (.getfield 43, 28, 12, 22, 2, 0, []), none, none, some (.aload_n 0, 29, 0, 0, 0, 0, []), some (.getfield 218, 32, 12, 18, 0, 0, []), none, none, some (.iaload, 33, 0, 0, 0, 0, []), some (.if_icmp .gt 29, 36, 62, 0, 0, 0, []), none, none, some (.aload_n 0, 37, 0, 0, 0, 0, []), some (.getfield 113, 40, 12, 49, 2, 0, []), none, none, some (.iload_n 1, 41, 0, 0, 0, 0, []), some (.aload_n 0, 42, 0, 0, 0, 0, []), some (.getfield 46, 45, 12, 23, 2, 0, []), none, none, some (.bipush 25, 47, 0, 0, 0, 25, []), none, some (.aload_n 0, 48, 0, 0, 0, 0, []), some (.getfield 218, 51, 12, 18, 0, 0, []), none, none, some (.imul, 52, 0, 0, 0, 0, []), some (.iload_n 1, 53, 0, 0, 0, 0, []), some (.iadd, 54, 0, 0, 0, 0, []), some (.iaload, 55, 0, 0, 0, 0, []), some (.iastore, 56, 0, 0, 0, 0, []), some (.iinc 1 1, 59, 0, 0, 0, 1, []), none, none, some (.goto (-36), 62, 23, 0, 0, 0, []), none, none, some (.aload_n 0, 63, 0, 0, 0, 0, []), some (.getfield 113, 66, 12, 49, 2, 0, []), none, none, some (.bipush 82, 68, 0, 0, 0, 82, []), none, some (.aload_n 0, 69, 0, 0, 0, 0, []), some (.getfield 55, 72, 12, 26, 2, 0, []), none, none, some (.aload_n 0, 73, 0, 0, 0, 0, []), some (.getfield 218, 76, 12, 18, 0, 0, []), none, none, some (.iaload, 77, 0, 0, 0, 0, []), some (.iastore, 78, 0, 0, 0, 0, []), some (.return_, 79, 0, 0, 0, 0, [])]
def cdX12_takes : List (Option AmE) := [some (.iconst 0, 1, 0, 0, 0, 0, []), some (.istore_n 1, 2, 0, 0, 0, 0, []), some (.iload_n 1, 3, 0, 0, 0, 0, []), some (.bipush 100, 5, 0, 0, 0, 100, []), none, some (.if_icmp .ge 21, 8, 26, 0, 0, 0, []), none, none, some (.aload_n 0, 9, 0, 0, 0, 0, []), some (.getfield 113, 12, 12, 49, 2, 0, []), none, none, some (.iload_n 1, 13, 0, 0, 0, 0, []), some (.aload_n 0, 14, 0, 0, 0, 0, []), some (.getfield 110, 17, 12, 48, 2, 0, []), none, none, some (.iload_n 1, 18, 0, 0, 0, 0, []), some (.iaload, 19, 0, 0, 0, 0, []), some (.iastore, 20, 0, 0, 0, 0, []), some (.iinc 1 1, 23, 0, 0, 0, 1, []), none, none, some (.goto (-21), 26, 2, 0, 0, 0, []), none, none, some (.return_, 27, 0, 0, 0, 0, [])]
def cdX12_goneNow : List (Option AmE) := [some (.iconst 0, 1, 0, 0, 0, 0, []), some (.istore_n 1, 2, 0, 0, 0, 0, []), some (.iconst 1, 3, 0, 0, 0, 1, []), some (.istore_n 2, 4, 0, 0, 0, 0, []), some (.iload_n 2, 5, 0, 0, 0, 0, []), some (.aload_n 0, 6, 0, 0, 0, 0, []), some (.getfield 43, 9, 12, 22, 2, 0, []), none, none, some (.aload_n 0, 10, 0, 0, 0, 0, []), some (.getfield 218, 13, 12, 18, 0, 0, []), none, none, some (.iaload, 14, 0, 0, 0, 0, []), some (.if_icmp .gt 21, 17, 35, 0, 0, 0, []), none, none, some (.aload_n 0, 18, 0, 0, 0, 0, []), some (.getfield 113, 21, 12, 49, 2, 0, []), none, none, some (.iload_n 2, 22, 0, 0, 0, 0, []), some (.iaload, 23, 0, 0, 0, 0, []), some (.ifCond .ne 6, 26, 29, 0, 0, 0, []), none, none, some (.iinc 1 1, 29, 0, 0, 0, 1, []), none, none, some (.iinc 2 1, 32, 0, 0, 0, 1, []), none, none, some (.goto (-28), 35, 4, 0, 0, 0, []), none, none, some (.iload_n 1, 36, 0, 0, 0, 0, []), some (.ireturn, 37, 0, 0, 0, 0, [])]
def cdX12_wearOf : List (Option AmE) := [some (.aload_n 0, 1, 0, 0, 0, 0, []), some (.getfield 73, 4, 12, 32, 2, 0, []), none, none, some (.iconst 4, 5, 0, 0, 0, 4, []), some (.aload_n 0, 6, 0, 0, 0, 0, []), some (.getfield 218, 9, 12, 18, 0, 0, []), none, none, some (.imul, 10, 0, 0, 0, 0, []), some (.iload_n 1, 11, 0, 0, 0, 0, []), some (.iadd, 12, 0, 0, 0, 0, []), some (.iaload, 13, 0, 0, 0, 0, []), some (.istore 7, 15, 0, 0, 0, 0, []), none, some (.aload_n 0, 16, 0, 0, 0, 0, []), some (.getfield 76, 19, 12, 33, 2, 0, []), none, none, some (.iconst 4, 20, 0, 0, 0, 4, []), some (.aload_n 0, 21, 0, 0, 0, 0, []), some (.getfield 218, 24, 12, 18, 0, 0, []), none, none, some (.imul, 25, 0, 0, 0, 0, []), some (.iload_n 1, 26, 0, 0, 0, 0, []), some (.iadd, 27, 0, 0, 0, 0, []), some (.iaload, 28, 0, 0, 0, 0, []), some (.istore 8, 30, 0, 0, 0, 0, []), none, some (.iload 7, 32, 0, 0, 0, 0, []), none, some (.iload 8, 34, 0, 0, 0, 0, []), none, some (.if_icmp .ne 5, 37, 39, 0, 0, 0, []), none, none, some (.iload_n 2, 38, 0, 0, 0, 0, []), some (.ireturn, 39, 0, 0, 0, 0, []), some (.aload_n 0, 40, 0, 0, 0, 0, []), some (.getfield 104, 43, 12, 45, 2, 0, []), none, none, some (.iconst 0, 44, 0, 0, 0, 0, []), some (.iload_n 2, 45, 0, 0, 0, 0, []), some (.iastore, 46, 0, 0, 0, 0, []), some (.aload_n 0, 47, 0, 0, 0, 0, []), some (.getfield 104, 50, 12, 45, 2, 0, []), none, none, some (.iconst 1, 51, 0, 0, 0, 1, []), some (.iload 4, 53, 0, 0, 0, 0, []), none, some (.iastore, 54, 0, 0, 0, 0, []), some (.aload_n 0, 55, 0, 0, 0, 0, []), some (.getfield 104, 58, 12, 45, 2, 0, []), none, none, some (.iconst 2, 59, 0, 0, 0, 2, []), some (.iload_n 3, 60, 0, 0, 0, 0, []), some (.iastore, 61, 0, 0, 0, 0, []), some (.aload_n 0, 62, 0, 0, 0, 0, []), some (.getfield 104, 65, 12, 45, 2, 0, []), none, none, some (.iconst 3, 66, 0, 0, 0, 3, []), some (.aload_n 0, 67, 0, 0, 0, 0, []), some (.getfield 113, 70, 12, 49, 2, 0, []), none, none, some (.bipush 83, 72, 0, 0, 0, 83, []), none, some (.iaload, 73, 0, 0, 0, 0, []), some (.iastore, 74, 0, 0, 0, 0, []), some (.aload_n 0, 75, 0, 0, 0, 0, []), some (.getfield 104, 78, 12, 45, 2, 0, []), none, none, some (.iconst 4, 79, 0, 0, 0, 4, []), some (.aload_n 0, 80, 0, 0, 0, 0, []), some (.getfield 49, 83, 12, 24, 2, 0, []), none, none, some (.aload_n 0, 84, 0, 0, 0, 0, []), some (.getfield 218, 87, 12, 18, 0, 0, []), none, none, some (.iaload, 88, 0, 0, 0, 0, []), some (.ifCond .ne 7, 91, 95, 0, 0, 0, []), none, none, some (.iconst 0, 92, 0, 0, 0, 0, []), some (.goto 33, 95, 125, 0, 0, 0, []), none, none, some (.aload_n 0, 96, 0, 0, 0, 0, []), some (.getfield 52, 99, 12, 25, 2, 0, []), none, none, some (.bipush 14, 101, 0, 0, 0, 14, []), none, some (.aload_n 0, 102, 0, 0, 0, 0, []), some (.getfield 218, 105, 12, 18, 0, 0, []), none, none, some (.imul, 106, 0, 0, 0, 0, []), some (.aload_n 0, 107, 0, 0, 0, 0, []), some (.getfield 113, 110, 12, 49, 2, 0, []), none, none, some (.bipush 83, 112, 0, 0, 0, 83, []), none, some (.iaload, 113, 0, 0, 0, 0, []), some (.aload_n 0, 114, 0, 0, 0, 0, []), some (.getfield 49, 117, 12, 24, 2, 0, []), none, none, some (.aload_n 0, 118, 0, 0, 0, 0, []), some (.getfield 218, 121, 12, 18, 0, 0, []), none, none, some (.iaload, 122, 0, 0, 0, 0, []), some (.irem, 123, 0, 0, 0, 0, []), some (.iadd, 124, 0, 0, 0, 0, []), some (.iaload, 125, 0, 0, 0, 0, []), some (.iastore, 126, 0, 0, 0, 0, []), some (.aload_n 0, 127, 0, 0, 0, 0, []), some (.getfield 104, 130, 12, 45, 2, 0, []), none, none, some (.iconst 5, 131, 0, 0, 0, 5, []), some (.iload 5, 133, 0, 0, 0, 0, []), none, some (.ifCond .eq 7, 136, 140, 0, 0, 0, []), none, none, some (.iconst 1, 137, 0, 0, 0, 1, []), some (.goto 4, 140, 141, 0, 0, 0, []), none, none, some (.iconst 0, 141, 0, 0, 0, 0, []), some (.iastore, 142, 0, 0, 0, 0, []), some (.aload_n 0, 143, 0, 0, 0, 0, []), some (.getfield 104, 146, 12, 45, 2, 0, []), none, none, some (.bipush 6, 148, 0, 0, 0, 6, []), none, some (.iload 6, 150, 0, 0, 0, 0, []), none, some (.iastore, 151, 0, 0, 0, 0, []), some (.aload_n 0, 152, 0, 0, 0, 0, []), some (.iconst 0, 153, 0, 0, 0, 0, []), some (.putfield 294, 156, 12, 47, 3, 0, []), none, none, some (.iload 7, 158, 0, 0, 0, 0, []), none, some (.istore 9, 160, 0, 0, 0, 0, []), none, some (.iload 9, 162, 0, 0, 0, 0, []), none, some (.iload 8, 164, 0, 0, 0, 0, []), none, some (.if_icmp .ge 129, 167, 293, 0, 0, 0, []), none, none, some (.aload_n 0, 168, 0, 0, 0, 0, []), some (.getfield 79, 171, 12, 35, 2, 0, []), none, none, some (.iload 9, 173, 0, 0, 0, 0, []), none, some (.baload, 174, 0, 0, 0, 0, []), some (.ifCond .eq 62, 177, 236, 0, 0, 0, []), none, none, some (.aload_n 0, 178, 0, 0, 0, 0, []), some (.aload_n 0, 179, 0, 0, 0, 0, []), some (.getfield 83, 182, 12, 36, 2, 0, []), none, none, some (.iload 9, 184, 0, 0, 0, 0, []), none, some (.iaload, 185, 0, 0, 0, 0, []), some (.aload_n 0, 186, 0, 0, 0, 0, []), some (.getfield 86, 189, 12, 37, 2, 0, []), none, none, some (.iload 9, 191, 0, 0, 0, 0, []), none, some (.iaload, 192, 0, 0, 0, 0, []), some (.invokevirtual 305, 195, 178, 3, 1, 1, []), none, none, some (.istore 10, 197, 0, 0, 0, 0, []), none, some (.aload_n 0, 198, 0, 0, 0, 0, []), some (.aload_n 0, 199, 0, 0, 0, 0, []), some (.getfield 86, 202, 12, 37, 2, 0, []), none, none, some (.iload 9, 204, 0, 0, 0, 0, []), none, some (.iaload, 205, 0, 0, 0, 0, []), some (.aload_n 0, 206, 0, 0, 0, 0, []), some (.getfield 89, 209, 12, 38, 2, 0, []), none, none, some (.iload 9, 211, 0, 0, 0, 0, []), none, some (.iaload, 212, 0, 0, 0, 0, []), some (.invokevirtual 305, 215, 178, 3, 1, 1, []), none, none, some (.istore 11, 217, 0, 0, 0, 0, []), none, some (.aload_n 0, 218, 0, 0, 0, 0, []), some (.getfield 294, 221, 12, 47, 3, 0, []), none, none, some (.ifCond .eq 5, 224, 226, 0, 0, 0, []), none, none, some (.iconst 0, 225, 0, 0, 0, 0, []), some (.ireturn, 226, 0, 0, 0, 0, []), some (.iload 10, 228, 0, 0, 0, 0, []), none, some (.iload 11, 230, 0, 0, 0, 0, []), none, some (.if_icmp .lt 6, 233, 236, 0, 0, 0, []), none, none, some (.goto 54, 236, 287, 0, 0, 0, []), none, none, some (.aload_n 0, 237, 0, 0, 0, 0, []), some (.aload_n 0, 238, 0, 0, 0, 0, []), some (.getfield 89, 241, 12, 38, 2, 0, []), none, none, some (.iload 9, 243, 0, 0, 0, 0, []), none, some (.iaload, 244, 0, 0, 0, 0, []), some (.aload_n 0, 245, 0, 0, 0, 0, []), some (.getfield 92, 248, 12, 39, 2, 0, []), none, none, some (.iload 9, 250, 0, 0, 0, 0, []), none, some (.iaload, 251, 0, 0, 0, 0, []), some (.invokevirtual 305, 254, 178, 3, 1, 1, []), none, none, some (.istore 10, 256, 0, 0, 0, 0, []), none, some (.aload_n 0, 257, 0, 0, 0, 0, []), some (.getfield 294, 260, 12, 47, 3, 0, []), none, none, some (.ifCond .ne 8, 263, 268, 0, 0, 0, []), none, none, some (.iload 10, 265, 0, 0, 0, 0, []), none, some (.ifCond .ge 7, 268, 272, 0, 0, 0, []), none, none, some (.iconst 0, 269, 0, 0, 0, 0, []), some (.goto 17, 272, 286, 0, 0, 0, []), none, none, some (.iload 10, 274, 0, 0, 0, 0, []), none, some (.bipush 99, 276, 0, 0, 0, 99, []), none, some (.if_icmp .le 8, 279, 284, 0, 0, 0, []), none, none, some (.bipush 99, 281, 0, 0, 0, 99, []), none, some (.goto 5, 284, 286, 0, 0, 0, []), none, none, some (.iload 10, 286, 0, 0, 0, 0, []), none, some (.ireturn, 287, 0, 0, 0, 0, []), some (.iinc 9 1, 290, 0, 0, 0, 1, []), none, none, some (.goto (-130), 293, 160, 0, 0, 0, []), none, none, some (.iconst 0, 294, 0, 0, 0, 0, []), some (.ireturn, 295, 0, 0, 0, 0, [])]
def cdX12_holds : List (Option AmE) := [some (.iconst 0, 1, 0, 0, 0, 0, []), some (.istore 5, 3, 0, 0, 0, 0, []), none, some (.iload 5, 5, 0, 0, 0, 0, []), none, some (.iload_n 1, 6, 0, 0, 0, 0, []), some (.iconst 1, 7, 0, 0, 0, 1, []), some (.if_icmp .ne 7, 10, 14, 0, 0, 0, []), none, none, some (.iconst 2, 11, 0, 0, 0, 2, []), some (.goto 4, 14, 15, 0, 0, 0, []), none, none, some (.iconst 1, 15, 0, 0, 0, 1, []), some (.if_icmp .ge 122, 18, 137, 0, 0, 0, []), none, none, some (.aload_n 0, 19, 0, 0, 0, 0, []), some (.getfield 113, 22, 12, 49, 2, 0, []), none, none, some (.iload_n 3, 23, 0, 0, 0, 0, []), some (.iaload, 24, 0, 0, 0, 0, []), some (.istore 6, 26, 0, 0, 0, 0, []), none, some (.aload_n 0, 27, 0, 0, 0, 0, []), some (.iload_n 1, 28, 0, 0, 0, 0, []), some (.iload_n 2, 29, 0, 0, 0, 0, []), some (.iload_n 3, 30, 0, 0, 0, 0, []), some (.iload 6, 32, 0, 0, 0, 0, []), none, some (.iload 4, 34, 0, 0, 0, 0, []), none, some (.aload_n 0, 35, 0, 0, 0, 0, []), some (.invokevirtual 308, 38, 187, 1, 1, 1, []), none, none, some (.invokevirtual 311, 41, 188, 7, 1, 1, []), none, none, some (.istore 7, 43, 0, 0, 0, 0, []), none, some (.aload_n 0, 44, 0, 0, 0, 0, []), some (.getfield 113, 47, 12, 49, 2, 0, []), none, none, some (.iload_n 3, 48, 0, 0, 0, 0, []), some (.iload 6, 50, 0, 0, 0, 0, []), none, some (.iload 7, 52, 0, 0, 0, 0, []), none, some (.if_icmp .ge 7, 55, 59, 0, 0, 0, []), none, none, some (.iconst 0, 56, 0, 0, 0, 0, []), some (.goto 8, 59, 64, 0, 0, 0, []), none, none, some (.iload 6, 61, 0, 0, 0, 0, []), none, some (.iload 7, 63, 0, 0, 0, 0, []), none, some (.isub, 64, 0, 0, 0, 0, []), some (.iastore, 65, 0, 0, 0, 0, []), some (.aload_n 0, 66, 0, 0, 0, 0, []), some (.dup, 67, 0, 0, 0, 0, []), some (.getfield 315, 70, 12, 50, 0, 0, []), none, none, some (.iload 6, 72, 0, 0, 0, 0, []), none, some (.aload_n 0, 73, 0, 0, 0, 0, []), some (.getfield 113, 76, 12, 49, 2, 0, []), none, none, some (.iload_n 3, 77, 0, 0, 0, 0, []), some (.iaload, 78, 0, 0, 0, 0, []), some (.isub, 79, 0, 0, 0, 0, []), some (.iadd, 80, 0, 0, 0, 0, []), some (.putfield 315, 83, 12, 50, 0, 0, []), none, none, some (.iload 6, 85, 0, 0, 0, 0, []), none, some (.ifCond .le 24, 88, 109, 0, 0, 0, []), none, none, some (.aload_n 0, 89, 0, 0, 0, 0, []), some (.getfield 113, 92, 12, 49, 2, 0, []), none, none, some (.iload_n 3, 93, 0, 0, 0, 0, []), some (.iaload, 94, 0, 0, 0, 0, []), some (.ifCond .ne 15, 97, 109, 0, 0, 0, []), none, none, some (.aload_n 0, 98, 0, 0, 0, 0, []), some (.getfield 318, 101, 12, 51, 0, 0, []), none, none, some (.ifCond .ge 8, 104, 109, 0, 0, 0, []), none, none, some (.aload_n 0, 105, 0, 0, 0, 0, []), some (.iload_n 3, 106, 0, 0, 0, 0, []), some (.putfield 318, 109, 12, 51, 0, 0, []), none, none, some (.iload 6, 111, 0, 0, 0, 0, []), none, some (.iload 7, 113, 0, 0, 0, 0, []), none, some (.if_icmp .ge 5, 116, 118, 0, 0, 0, []), none, none, some (.iconst 0, 117, 0, 0, 0, 0, []), some (.ireturn, 118, 0, 0, 3, 0, []), some (.aload_n 0, 119, 0, 0, 0, 0, []), some (.getfield 113, 122, 12, 49, 2, 0, []), none, none, some (.bipush 25, 124, 0, 0, 0, 25, []), none, some (.iload_n 3, 125, 0, 0, 0, 0, []), some (.iadd, 126, 0, 0, 0, 0, []), some (.dup2, 127, 0, 0, 0, 0, []), some (.iaload, 128, 0, 0, 0, 0, []), some (.iconst 1, 129, 0, 0, 0, 1, []), some (.iadd, 130, 0, 0, 0, 0, []), some (.iastore, 131, 0, 0, 0, 0, []), some (.iinc 5 1, 134, 0, 0, 0, 1, []), none, none, some (.goto (-131), 137, 3, 0, 0, 0, []), none, none, some (.iconst 1, 138, 0, 0, 0, 1, []), some (.ireturn, 139, 0, 0, 3, 0, [])]
def cdX12_isThere : List (Option AmE) := [some (.iload_n 1, 1, 0, 0, 0, 0, []), some (.ifCond .le 20, 4, 21, 0, 0, 0, []), none, none, some (.iload_n 1, 5, 0, 0, 0, 0, []), some (.aload_n 0, 6, 0, 0, 0, 0, []), some (.invokevirtual 321, 9, 180, 1, 1, 1, []), none, none, some (.if_icmp .ge 12, 12, 21, 0, 0, 0, []), none, none, some (.aload_n 0, 13, 0, 0, 0, 0, []), some (.getfield 113, 16, 12, 49, 2, 0, []), none, none, some (.iload_n 1, 17, 0, 0, 0, 0, []), some (.iaload, 18, 0, 0, 0, 0, []), some (.ifCond .le 7, 21, 25, 0, 0, 0, []), none, none, some (.iconst 1, 22, 0, 0, 0, 1, []), some (.goto 4, 25, 26, 0, 0, 0, []), none, none, some (.iconst 0, 26, 0, 0, 0, 0, []), some (.ireturn, 27, 0, 0, 3, 0, [])]
def cdX12_nextUp : List (Option AmE) := [some (.iload_n 2, 1, 0, 0, 0, 0, []), some (.ifCond .eq 18, 4, 19, 0, 0, 0, []), none, none, some (.iload_n 1, 5, 0, 0, 0, 0, []), some (.iconst 2, 6, 0, 0, 0, 2, []), some (.iadd, 7, 0, 0, 0, 0, []), some (.aload_n 0, 8, 0, 0, 0, 0, []), some (.invokevirtual 321, 11, 180, 1, 1, 1, []), none, none, some (.if_icmp .lt 8, 14, 19, 0, 0, 0, []), none, none, some (.aload_n 0, 15, 0, 0, 0, 0, []), some (.invokevirtual 321, 18, 180, 1, 1, 1, []), none, none, some (.ireturn, 19, 0, 0, 0, 0, []), some (.iload_n 2, 20, 0, 0, 0, 0, []), some (.ifCond .eq 19, 23, 39, 0, 0, 0, []), none, none, some (.aload_n 0, 24, 0, 0, 0, 0, []), some (.iload_n 1, 25, 0, 0, 0, 0, []), some (.iconst 2, 26, 0, 0, 0, 2, []), some (.iadd, 27, 0, 0, 0, 0, []), some (.invokevirtual 324, 30, 190, 2, 1, 1, []), none, none, some (.ifCond .eq 9, 33, 39, 0, 0, 0, []), none, none, some (.iload_n 1, 34, 0, 0, 0, 0, []), some (.iconst 2, 35, 0, 0, 0, 2, []), some (.iadd, 36, 0, 0, 0, 0, []), some (.goto 6, 39, 42, 0, 0, 0, []), none, none, some (.iload_n 1, 40, 0, 0, 0, 0, []), some (.iconst 1, 41, 0, 0, 0, 1, []), some (.iadd, 42, 0, 0, 0, 0, []), some (.ireturn, 43, 0, 0, 0, 0, [])]
def cdX12_nextDown : List (Option AmE) := [some (.iload_n 2, 1, 0, 0, 0, 0, []), some (.ifCond .eq 10, 4, 11, 0, 0, 0, []), none, none, some (.iload_n 1, 5, 0, 0, 0, 0, []), some (.iconst 2, 6, 0, 0, 0, 2, []), some (.if_icmp .gt 5, 9, 11, 0, 0, 0, []), none, none, some (.iconst 0, 10, 0, 0, 0, 0, []), some (.ireturn, 11, 0, 0, 0, 0, []), some (.iload_n 2, 12, 0, 0, 0, 0, []), some (.ifCond .eq 19, 15, 31, 0, 0, 0, []), none, none, some (.aload_n 0, 16, 0, 0, 0, 0, []), some (.iload_n 1, 17, 0, 0, 0, 0, []), some (.iconst 2, 18, 0, 0, 0, 2, []), some (.isub, 19, 0, 0, 0, 0, []), some (.invokevirtual 324, 22, 190, 2, 1, 1, []), none, none, some (.ifCond .eq 9, 25, 31, 0, 0, 0, []), none, none, some (.iload_n 1, 26, 0, 0, 0, 0, []), some (.iconst 2, 27, 0, 0, 0, 2, []), some (.isub, 28, 0, 0, 0, 0, []), some (.goto 6, 31, 34, 0, 0, 0, []), none, none, some (.iload_n 1, 32, 0, 0, 0, 0, []), some (.iconst 1, 33, 0, 0, 0, 1, []), some (.isub, 34, 0, 0, 0, 0, []), some (.ireturn, 35, 0, 0, 0, 0, [])]
def cdX12_goesDown : List (Option AmE) := [some (.iload_n 2, 1, 0, 0, 0, 0, []), some (.istore_n 3, 2, 0, 0, 0, 0, []), some (.iload_n 3, 3, 0, 0, 0, 0, []), some (.ifCond .le 80, 6, 83, 0, 0, 0, []), none, none, some (.aload_n 0, 7, 0, 0, 0, 0, []), some (.iload_n 3, 8, 0, 0, 0, 0, []), some (.aload_n 0, 9, 0, 0, 0, 0, []), some (.iload_n 1, 10, 0, 0, 0, 0, []), some (.invokevirtual 327, 13, 184, 2, 1, 1, []), none, none, some (.iconst 2, 14, 0, 0, 0, 2, []), some (.if_icmp .ne 7, 17, 21, 0, 0, 0, []), none, none, some (.iconst 1, 18, 0, 0, 0, 1, []), some (.goto 4, 21, 22, 0, 0, 0, []), none, none, some (.iconst 0, 22, 0, 0, 0, 0, []), some (.invokevirtual 330, 25, 192, 3, 1, 1, []), none, none, some (.istore 4, 27, 0, 0, 0, 0, []), none, some (.iload 4, 29, 0, 0, 0, 0, []), none, some (.ifCond .le 48, 32, 77, 0, 0, 0, []), none, none, some (.aload_n 0, 33, 0, 0, 0, 0, []), some (.iload 4, 35, 0, 0, 0, 0, []), none, some (.invokevirtual 324, 38, 190, 2, 1, 1, []), none, none, some (.ifCond .eq 32, 41, 70, 0, 0, 0, []), none, none, some (.aload_n 0, 42, 0, 0, 0, 0, []), some (.aload_n 0, 43, 0, 0, 0, 0, []), some (.iload_n 1, 44, 0, 0, 0, 0, []), some (.invokevirtual 327, 47, 184, 2, 1, 1, []), none, none, some (.aload_n 0, 48, 0, 0, 0, 0, []), some (.getfield 64, 51, 12, 29, 2, 0, []), none, none, some (.bipush 8, 53, 0, 0, 0, 8, []), none, some (.aload_n 0, 54, 0, 0, 0, 0, []), some (.getfield 218, 57, 12, 18, 0, 0, []), none, none, some (.imul, 58, 0, 0, 0, 0, []), some (.iload_n 1, 59, 0, 0, 0, 0, []), some (.iadd, 60, 0, 0, 0, 0, []), some (.iaload, 61, 0, 0, 0, 0, []), some (.iload 4, 63, 0, 0, 0, 0, []), none, some (.iconst 0, 64, 0, 0, 0, 0, []), some (.invokevirtual 334, 67, 189, 5, 1, 1, []), none, none, some (.ifCond .ne 10, 70, 77, 0, 0, 0, []), none, none, some (.aload_n 0, 71, 0, 0, 0, 0, []), some (.iload_n 3, 72, 0, 0, 0, 0, []), some (.putfield 338, 75, 12, 52, 0, 0, []), none, none, some (.iconst 2, 76, 0, 0, 0, 2, []), some (.ireturn, 77, 0, 0, 0, 0, []), some (.iload 4, 79, 0, 0, 0, 0, []), none, some (.istore_n 3, 80, 0, 0, 0, 0, []), some (.goto (-78), 83, 2, 0, 0, 0, []), none, none, some (.aload_n 0, 84, 0, 0, 0, 0, []), some (.iconst 0, 85, 0, 0, 0, 0, []), some (.putfield 338, 88, 12, 52, 0, 0, []), none, none, some (.iconst 0, 89, 0, 0, 0, 0, []), some (.ireturn, 90, 0, 0, 0, 0, [])]
def cdX12_comesOf : List (Option AmE) := [some (.aload_n 0, 1, 0, 0, 0, 0, []), some (.iconst 0, 2, 0, 0, 0, 0, []), some (.putfield 315, 5, 12, 50, 0, 0, []), none, none, some (.iconst 0, 6, 0, 0, 0, 0, []), some (.istore_n 2, 7, 0, 0, 0, 0, []), some (.iload_n 2, 8, 0, 0, 0, 0, []), some (.aload_n 0, 9, 0, 0, 0, 0, []), some (.invokevirtual 321, 12, 180, 1, 1, 1, []), none, none, some (.if_icmp .ge 102, 15, 114, 0, 0, 0, []), none, none, some (.aload_n 0, 16, 0, 0, 0, 0, []), some (.iload_n 2, 17, 0, 0, 0, 0, []), some (.aload_n 0, 18, 0, 0, 0, 0, []), some (.iload_n 1, 19, 0, 0, 0, 0, []), some (.invokevirtual 327, 22, 184, 2, 1, 1, []), none, none, some (.iconst 2, 23, 0, 0, 0, 2, []), some (.if_icmp .ne 7, 26, 30, 0, 0, 0, []), none, none, some (.iconst 1, 27, 0, 0, 0, 1, []), some (.goto 4, 30, 31, 0, 0, 0, []), none, none, some (.iconst 0, 31, 0, 0, 0, 0, []), some (.invokevirtual 341, 34, 191, 3, 1, 1, []), none, none, some (.istore_n 3, 35, 0, 0, 0, 0, []), some (.aload_n 0, 36, 0, 0, 0, 0, []), some (.iload_n 3, 37, 0, 0, 0, 0, []), some (.invokevirtual 324, 40, 190, 2, 1, 1, []), none, none, some (.ifCond .ne 18, 43, 58, 0, 0, 0, []), none, none, some (.aload_n 0, 44, 0, 0, 0, 0, []), some (.iload_n 1, 45, 0, 0, 0, 0, []), some (.iload_n 2, 46, 0, 0, 0, 0, []), some (.invokevirtual 344, 49, 193, 3, 1, 1, []), none, none, some (.ifCond .ne 7, 52, 56, 0, 0, 0, []), none, none, some (.iconst 1, 53, 0, 0, 0, 1, []), some (.goto 4, 56, 57, 0, 0, 0, []), none, none, some (.iconst 2, 57, 0, 0, 0, 2, []), some (.ireturn, 58, 0, 0, 0, 0, []), some (.iload_n 3, 59, 0, 0, 0, 0, []), some (.aload_n 0, 60, 0, 0, 0, 0, []), some (.invokevirtual 321, 63, 180, 1, 1, 1, []), none, none, some (.if_icmp .ge 46, 66, 109, 0, 0, 0, []), none, none, some (.aload_n 0, 67, 0, 0, 0, 0, []), some (.aload_n 0, 68, 0, 0, 0, 0, []), some (.iload_n 1, 69, 0, 0, 0, 0, []), some (.invokevirtual 327, 72, 184, 2, 1, 1, []), none, none, some (.aload_n 0, 73, 0, 0, 0, 0, []), some (.getfield 64, 76, 12, 29, 2, 0, []), none, none, some (.bipush 8, 78, 0, 0, 0, 8, []), none, some (.aload_n 0, 79, 0, 0, 0, 0, []), some (.getfield 218, 82, 12, 18, 0, 0, []), none, none, some (.imul, 83, 0, 0, 0, 0, []), some (.iload_n 1, 84, 0, 0, 0, 0, []), some (.iadd, 85, 0, 0, 0, 0, []), some (.iaload, 86, 0, 0, 0, 0, []), some (.iload_n 3, 87, 0, 0, 0, 0, []), some (.iconst 1, 88, 0, 0, 0, 1, []), some (.invokevirtual 334, 91, 189, 5, 1, 1, []), none, none, some (.ifCond .ne 18, 94, 109, 0, 0, 0, []), none, none, some (.aload_n 0, 95, 0, 0, 0, 0, []), some (.iload_n 2, 96, 0, 0, 0, 0, []), some (.putfield 338, 99, 12, 52, 0, 0, []), none, none, some (.iload_n 2, 100, 0, 0, 0, 0, []), some (.ifCond .ne 7, 103, 107, 0, 0, 0, []), none, none, some (.iconst 1, 104, 0, 0, 0, 1, []), some (.goto 4, 107, 108, 0, 0, 0, []), none, none, some (.iconst 2, 108, 0, 0, 0, 2, []), some (.ireturn, 109, 0, 0, 0, 0, []), some (.iload_n 3, 110, 0, 0, 0, 0, []), some (.istore_n 2, 111, 0, 0, 0, 0, []), some (.goto (-104), 114, 7, 0, 0, 0, []), none, none, some (.aload_n 0, 115, 0, 0, 0, 0, []), some (.iload_n 2, 116, 0, 0, 0, 0, []), some (.putfield 338, 119, 12, 52, 0, 0, []), none, none, some (.aload_n 0, 120, 0, 0, 0, 0, []), some (.iload_n 1, 121, 0, 0, 0, 0, []), some (.invokevirtual 327, 124, 184, 2, 1, 1, []), none, none, some (.iconst 3, 125, 0, 0, 0, 3, []), some (.if_icmp .ne 7, 128, 132, 0, 0, 0, []), none, none, some (.iconst 0, 129, 0, 0, 0, 0, []), some (.goto 9, 132, 138, 0, 0, 0, []), none, none, some (.aload_n 0, 133, 0, 0, 0, 0, []), some (.iload_n 1, 134, 0, 0, 0, 0, []), some (.iload_n 2, 135, 0, 0, 0, 0, []), some (.invokevirtual 344, 138, 193, 3, 1, 1, []), none, none, some (.ireturn, 139, 0, 0, 0, 0, [])]
def cdX12_sends : List (Option AmE) := [some (.aload_n 0, 1, 0, 0, 0, 0, []), some (.iload_n 1, 2, 0, 0, 0, 0, []), some (.invokevirtual 347, 5, 194, 2, 1, 1, []), none, none, some (.istore_n 2, 6, 0, 0, 0, 0, []), some (.aload_n 0, 7, 0, 0, 0, 0, []), some (.getfield 113, 10, 12, 49, 2, 0, []), none, none, some (.bipush 50, 12, 0, 0, 0, 50, []), none, some (.iload_n 1, 13, 0, 0, 0, 0, []), some (.iadd, 14, 0, 0, 0, 0, []), some (.aload_n 0, 15, 0, 0, 0, 0, []), some (.getfield 338, 18, 12, 52, 0, 0, []), none, none, some (.iastore, 19, 0, 0, 0, 0, []), some (.aload_n 0, 20, 0, 0, 0, 0, []), some (.getfield 113, 23, 12, 49, 2, 0, []), none, none, some (.bipush 58, 25, 0, 0, 0, 58, []), none, some (.iload_n 1, 26, 0, 0, 0, 0, []), some (.iadd, 27, 0, 0, 0, 0, []), some (.dup2, 28, 0, 0, 0, 0, []), some (.iaload, 29, 0, 0, 0, 0, []), some (.aload_n 0, 30, 0, 0, 0, 0, []), some (.getfield 315, 33, 12, 50, 0, 0, []), none, none, some (.iadd, 34, 0, 0, 0, 0, []), some (.iastore, 35, 0, 0, 0, 0, []), some (.iload_n 2, 36, 0, 0, 0, 0, []), some (.ifCond .ne 16, 39, 52, 0, 0, 0, []), none, none, some (.aload_n 0, 40, 0, 0, 0, 0, []), some (.getfield 113, 43, 12, 49, 2, 0, []), none, none, some (.bipush 66, 45, 0, 0, 0, 66, []), none, some (.iload_n 1, 46, 0, 0, 0, 0, []), some (.iadd, 47, 0, 0, 0, 0, []), some (.dup2, 48, 0, 0, 0, 0, []), some (.iaload, 49, 0, 0, 0, 0, []), some (.iconst 1, 50, 0, 0, 0, 1, []), some (.iadd, 51, 0, 0, 0, 0, []), some (.iastore, 52, 0, 0, 0, 0, []), some (.iload_n 2, 53, 0, 0, 0, 0, []), some (.iconst 2, 54, 0, 0, 0, 2, []), some (.if_icmp .ne 13, 57, 67, 0, 0, 0, []), none, none, some (.aload_n 0, 58, 0, 0, 0, 0, []), some (.getfield 113, 61, 12, 49, 2, 0, []), none, none, some (.bipush 74, 63, 0, 0, 0, 74, []), none, some (.iload_n 1, 64, 0, 0, 0, 0, []), some (.iadd, 65, 0, 0, 0, 0, []), some (.iconst 1, 66, 0, 0, 0, 1, []), some (.iastore, 67, 0, 0, 0, 0, []), some (.iload_n 2, 68, 0, 0, 0, 0, []), some (.ireturn, 69, 0, 0, 0, 0, [])]
def cdX12_step : List (Option AmE) := [some (.aload_n 0, 1, 0, 0, 0, 0, []), some (.iload_n 1, 2, 0, 0, 0, 0, []), some (.invokevirtual 350, 5, 182, 2, 1, 1, []), none, none, some (.ifCond .ne 5, 8, 10, 0, 0, 0, []), none, none, some (.iconst (-1), 9, 0, 0, 0, (-1), []), some (.ireturn, 10, 0, 0, 0, 0, []), some (.iload_n 2, 11, 0, 0, 0, 0, []), some (.tableswitch 100 0 3 #[29, 36, 51, 61], 40, 111, 0, 0, 0, [40, 47, 62, 72]), none, none, none, none, none, none, none, none, none, none, none, none, none, none, none, none, none, none, none, none, none, none, none, none, none, none, none, none, some (.aload_n 0, 41, 0, 0, 0, 0, []), some (.getfield 110, 44, 12, 48, 2, 0, []), none, none, some (.iload_n 1, 45, 0, 0, 0, 0, []), some (.iaload, 46, 0, 0, 0, 0, []), some (.ireturn, 47, 0, 0, 0, 0, []), some (.aload_n 0, 48, 0, 0, 0, 0, []), some (.getfield 46, 51, 12, 23, 2, 0, []), none, none, some (.bipush 25, 53, 0, 0, 0, 25, []), none, some (.aload_n 0, 54, 0, 0, 0, 0, []), some (.getfield 218, 57, 12, 18, 0, 0, []), none, none, some (.imul, 58, 0, 0, 0, 0, []), some (.iload_n 1, 59, 0, 0, 0, 0, []), some (.iadd, 60, 0, 0, 0, 0, []), some (.iaload, 61, 0, 0, 0, 0, []), some (.ireturn, 62, 0, 0, 0, 0, []), some (.aload_n 0, 63, 0, 0, 0, 0, []), some (.getfield 110, 66, 12, 48, 2, 0, []), none, none, some (.bipush 25, 68, 0, 0, 0, 25, []), none, some (.iload_n 1, 69, 0, 0, 0, 0, []), some (.iadd, 70, 0, 0, 0, 0, []), some (.iaload, 71, 0, 0, 0, 0, []), some (.ireturn, 72, 0, 0, 0, 0, []), some (.iconst 0, 73, 0, 0, 0, 0, []), some (.istore_n 3, 74, 0, 0, 0, 0, []), some (.iconst 0, 75, 0, 0, 0, 0, []), some (.istore 4, 77, 0, 0, 0, 0, []), none, some (.iload 4, 79, 0, 0, 0, 0, []), none, some (.aload_n 0, 80, 0, 0, 0, 0, []), some (.invokevirtual 302, 83, 181, 1, 1, 1, []), none, none, some (.if_icmp .ge 26, 86, 109, 0, 0, 0, []), none, none, some (.aload_n 0, 87, 0, 0, 0, 0, []), some (.getfield 110, 90, 12, 48, 2, 0, []), none, none, some (.bipush 50, 92, 0, 0, 0, 50, []), none, some (.iload 4, 94, 0, 0, 0, 0, []), none, some (.iadd, 95, 0, 0, 0, 0, []), some (.iaload, 96, 0, 0, 0, 0, []), some (.iload_n 1, 97, 0, 0, 0, 0, []), some (.if_icmp .ne 6, 100, 103, 0, 0, 0, []), none, none, some (.iinc 3 1, 103, 0, 0, 0, 1, []), none, none, some (.iinc 4 1, 106, 0, 0, 0, 1, []), none, none, some (.goto (-29), 109, 77, 0, 0, 0, []), none, none, some (.iload_n 3, 110, 0, 0, 0, 0, []), some (.ireturn, 111, 0, 0, 0, 0, []), some (.iconst (-1), 112, 0, 0, 0, (-1), []), some (.ireturn, 113, 0, 0, 0, 0, [])]
def cdX12_pilgrim : List (Option AmE) := [some (.aload_n 0, 1, 0, 0, 0, 0, []), some (.iload_n 1, 2, 0, 0, 0, 0, []), some (.invokevirtual 353, 5, 183, 2, 1, 1, []), none, none, some (.ifCond .ne 5, 8, 10, 0, 0, 0, []), none, none, some (.iconst (-1), 9, 0, 0, 0, (-1), []), some (.ireturn, 10, 0, 0, 0, 0, []), some (.iload_n 2, 11, 0, 0, 0, 0, []), some (.tableswitch 98 0 5 #[37, 47, 62, 68, 78, 88], 48, 109, 0, 0, 0, [48, 58, 73, 79, 89, 99]), none, none, none, none, none, none, none, none, none, none, none, none, none, none, none, none, none, none, none, none, none, none, none, none, none, none, none, none, none, none, none, none, none, none, none, none, some (.aload_n 0, 49, 0, 0, 0, 0, []), some (.getfield 110, 52, 12, 48, 2, 0, []), none, none, some (.bipush 50, 54, 0, 0, 0, 50, []), none, some (.iload_n 1, 55, 0, 0, 0, 0, []), some (.iadd, 56, 0, 0, 0, 0, []), some (.iaload, 57, 0, 0, 0, 0, []), some (.ireturn, 58, 0, 0, 0, 0, []), some (.aload_n 0, 59, 0, 0, 0, 0, []), some (.getfield 64, 62, 12, 29, 2, 0, []), none, none, some (.bipush 8, 64, 0, 0, 0, 8, []), none, some (.aload_n 0, 65, 0, 0, 0, 0, []), some (.getfield 218, 68, 12, 18, 0, 0, []), none, none, some (.imul, 69, 0, 0, 0, 0, []), some (.iload_n 1, 70, 0, 0, 0, 0, []), some (.iadd, 71, 0, 0, 0, 0, []), some (.iaload, 72, 0, 0, 0, 0, []), some (.ireturn, 73, 0, 0, 0, 0, []), some (.aload_n 0, 74, 0, 0, 0, 0, []), some (.iload_n 1, 75, 0, 0, 0, 0, []), some (.invokevirtual 327, 78, 184, 2, 1, 1, []), none, none, some (.ireturn, 79, 0, 0, 0, 0, []), some (.aload_n 0, 80, 0, 0, 0, 0, []), some (.getfield 110, 83, 12, 48, 2, 0, []), none, none, some (.bipush 58, 85, 0, 0, 0, 58, []), none, some (.iload_n 1, 86, 0, 0, 0, 0, []), some (.iadd, 87, 0, 0, 0, 0, []), some (.iaload, 88, 0, 0, 0, 0, []), some (.ireturn, 89, 0, 0, 0, 0, []), some (.aload_n 0, 90, 0, 0, 0, 0, []), some (.getfield 110, 93, 12, 48, 2, 0, []), none, none, some (.bipush 66, 95, 0, 0, 0, 66, []), none, some (.iload_n 1, 96, 0, 0, 0, 0, []), some (.iadd, 97, 0, 0, 0, 0, []), some (.iaload, 98, 0, 0, 0, 0, []), some (.ireturn, 99, 0, 0, 0, 0, []), some (.aload_n 0, 100, 0, 0, 0, 0, []), some (.getfield 110, 103, 12, 48, 2, 0, []), none, none, some (.bipush 74, 105, 0, 0, 0, 74, []), none, some (.iload_n 1, 106, 0, 0, 0, 0, []), some (.iadd, 107, 0, 0, 0, 0, []), some (.iaload, 108, 0, 0, 0, 0, []), some (.ireturn, 109, 0, 0, 0, 0, []), some (.iconst (-1), 110, 0, 0, 0, (-1), []), some (.ireturn, 111, 0, 0, 0, 0, [])]
def cdX12_wear : List (Option AmE) := [some (.aload_n 0, 1, 0, 0, 0, 0, []), some (.iload_n 1, 2, 0, 0, 0, 0, []), some (.invokevirtual 353, 5, 183, 2, 1, 1, []), none, none, some (.ifCond .eq 11, 8, 16, 0, 0, 0, []), none, none, some (.aload_n 0, 9, 0, 0, 0, 0, []), some (.iload_n 2, 10, 0, 0, 0, 0, []), some (.invokevirtual 350, 13, 182, 2, 1, 1, []), none, none, some (.ifCond .ne 5, 16, 18, 0, 0, 0, []), none, none, some (.iconst (-1), 17, 0, 0, 0, (-1), []), some (.ireturn, 18, 0, 0, 0, 0, []), some (.aload_n 0, 19, 0, 0, 0, 0, []), some (.invokevirtual 356, 22, 186, 1, 1, 0, []), none, none, some (.aload_n 0, 23, 0, 0, 0, 0, []), some (.aload_n 0, 24, 0, 0, 0, 0, []), some (.iload_n 1, 25, 0, 0, 0, 0, []), some (.invokevirtual 327, 28, 184, 2, 1, 1, []), none, none, some (.aload_n 0, 29, 0, 0, 0, 0, []), some (.getfield 64, 32, 12, 29, 2, 0, []), none, none, some (.bipush 8, 34, 0, 0, 0, 8, []), none, some (.aload_n 0, 35, 0, 0, 0, 0, []), some (.getfield 218, 38, 12, 18, 0, 0, []), none, none, some (.imul, 39, 0, 0, 0, 0, []), some (.iload_n 1, 40, 0, 0, 0, 0, []), some (.iadd, 41, 0, 0, 0, 0, []), some (.iaload, 42, 0, 0, 0, 0, []), some (.iload_n 2, 43, 0, 0, 0, 0, []), some (.aload_n 0, 44, 0, 0, 0, 0, []), some (.getfield 113, 47, 12, 49, 2, 0, []), none, none, some (.iload_n 2, 48, 0, 0, 0, 0, []), some (.iaload, 49, 0, 0, 0, 0, []), some (.iload_n 3, 50, 0, 0, 0, 0, []), some (.aload_n 0, 51, 0, 0, 0, 0, []), some (.invokevirtual 308, 54, 187, 1, 1, 1, []), none, none, some (.invokevirtual 311, 57, 188, 7, 1, 1, []), none, none, some (.ireturn, 58, 0, 0, 0, 0, [])]
def cdX12_keeps : List (Option AmE) := [some (.aload_n 0, 1, 0, 0, 0, 0, []), some (.getfield 239, 4, 12, 53, 0, 0, []), none, none, some (.bipush 40, 6, 0, 0, 0, 40, []), none, some (.if_icmp .ne 43, 9, 49, 0, 0, 0, []), none, none, some (.iconst 0, 10, 0, 0, 0, 0, []), some (.istore_n 1, 11, 0, 0, 0, 0, []), some (.iload_n 1, 12, 0, 0, 0, 0, []), some (.sipush 3900, 15, 0, 0, 0, 3900, []), none, none, some (.if_icmp .ge 24, 18, 39, 0, 0, 0, []), none, none, some (.aload_n 0, 19, 0, 0, 0, 0, []), some (.getfield 116, 22, 12, 54, 2, 0, []), none, none, some (.iload_n 1, 23, 0, 0, 0, 0, []), some (.aload_n 0, 24, 0, 0, 0, 0, []), some (.getfield 116, 27, 12, 54, 2, 0, []), none, none, some (.iload_n 1, 28, 0, 0, 0, 0, []), some (.bipush 100, 30, 0, 0, 0, 100, []), none, some (.iadd, 31, 0, 0, 0, 0, []), some (.iaload, 32, 0, 0, 0, 0, []), some (.iastore, 33, 0, 0, 0, 0, []), some (.iinc 1 1, 36, 0, 0, 0, 1, []), none, none, some (.goto (-25), 39, 11, 0, 0, 0, []), none, none, some (.aload_n 0, 40, 0, 0, 0, 0, []), some (.dup, 41, 0, 0, 0, 0, []), some (.getfield 239, 44, 12, 53, 0, 0, []), none, none, some (.iconst 1, 45, 0, 0, 0, 1, []), some (.isub, 46, 0, 0, 0, 0, []), some (.putfield 239, 49, 12, 53, 0, 0, []), none, none, some (.iconst 0, 50, 0, 0, 0, 0, []), some (.istore_n 1, 51, 0, 0, 0, 0, []), some (.iload_n 1, 52, 0, 0, 0, 0, []), some (.bipush 100, 54, 0, 0, 0, 100, []), none, some (.if_icmp .ge 29, 57, 83, 0, 0, 0, []), none, none, some (.aload_n 0, 58, 0, 0, 0, 0, []), some (.getfield 116, 61, 12, 54, 2, 0, []), none, none, some (.bipush 100, 63, 0, 0, 0, 100, []), none, some (.aload_n 0, 64, 0, 0, 0, 0, []), some (.getfield 239, 67, 12, 53, 0, 0, []), none, none, some (.imul, 68, 0, 0, 0, 0, []), some (.iload_n 1, 69, 0, 0, 0, 0, []), some (.iadd, 70, 0, 0, 0, 0, []), some (.aload_n 0, 71, 0, 0, 0, 0, []), some (.getfield 110, 74, 12, 48, 2, 0, []), none, none, some (.iload_n 1, 75, 0, 0, 0, 0, []), some (.iaload, 76, 0, 0, 0, 0, []), some (.iastore, 77, 0, 0, 0, 0, []), some (.iinc 1 1, 80, 0, 0, 0, 1, []), none, none, some (.goto (-29), 83, 51, 0, 0, 0, []), none, none, some (.aload_n 0, 84, 0, 0, 0, 0, []), some (.dup, 85, 0, 0, 0, 0, []), some (.getfield 239, 88, 12, 53, 0, 0, []), none, none, some (.iconst 1, 89, 0, 0, 0, 1, []), some (.iadd, 90, 0, 0, 0, 0, []), some (.putfield 239, 93, 12, 53, 0, 0, []), none, none, some (.iconst 0, 94, 0, 0, 0, 0, []), some (.istore_n 1, 95, 0, 0, 0, 0, []), some (.iload_n 1, 96, 0, 0, 0, 0, []), some (.bipush 100, 98, 0, 0, 0, 100, []), none, some (.if_icmp .ge 21, 101, 119, 0, 0, 0, []), none, none, some (.aload_n 0, 102, 0, 0, 0, 0, []), some (.getfield 110, 105, 12, 48, 2, 0, []), none, none, some (.iload_n 1, 106, 0, 0, 0, 0, []), some (.aload_n 0, 107, 0, 0, 0, 0, []), some (.getfield 113, 110, 12, 49, 2, 0, []), none, none, some (.iload_n 1, 111, 0, 0, 0, 0, []), some (.iaload, 112, 0, 0, 0, 0, []), some (.iastore, 113, 0, 0, 0, 0, []), some (.iinc 1 1, 116, 0, 0, 0, 1, []), none, none, some (.goto (-21), 119, 95, 0, 0, 0, []), none, none, some (.return_, 120, 0, 0, 0, 0, [])]
def cdX12_onGround : List (Option AmE) := [some (.aload_n 0, 1, 0, 0, 0, 0, []), some (.getfield 110, 4, 12, 48, 2, 0, []), none, none, some (.bipush 50, 6, 0, 0, 0, 50, []), none, some (.iload_n 1, 7, 0, 0, 0, 0, []), some (.iadd, 8, 0, 0, 0, 0, []), some (.iaload, 9, 0, 0, 0, 0, []), some (.ifCond .ne 7, 12, 16, 0, 0, 0, []), none, none, some (.iconst 1, 13, 0, 0, 0, 1, []), some (.goto 4, 16, 17, 0, 0, 0, []), none, none, some (.iconst 0, 17, 0, 0, 0, 0, []), some (.ireturn, 18, 0, 0, 3, 0, [])]
def cdX12_go : List (Option AmE) := [some (.aload_n 0, 1, 0, 0, 0, 0, []), some (.iload_n 1, 2, 0, 0, 0, 0, []), some (.invokevirtual 353, 5, 183, 2, 1, 1, []), none, none, some (.ifCond .ne 5, 8, 10, 0, 0, 0, []), none, none, some (.iconst (-1), 9, 0, 0, 0, (-1), []), some (.ireturn, 10, 0, 0, 0, 0, []), some (.aload_n 0, 11, 0, 0, 0, 0, []), some (.iload_n 1, 12, 0, 0, 0, 0, []), some (.invokevirtual 359, 15, 200, 2, 1, 1, []), none, none, some (.ifCond .ne 5, 18, 20, 0, 0, 0, []), none, none, some (.iconst 3, 19, 0, 0, 0, 3, []), some (.ireturn, 20, 0, 0, 0, 0, []), some (.aload_n 0, 21, 0, 0, 0, 0, []), some (.invokevirtual 356, 24, 186, 1, 1, 0, []), none, none, some (.aload_n 0, 25, 0, 0, 0, 0, []), some (.iload_n 1, 26, 0, 0, 0, 0, []), some (.invokevirtual 362, 29, 195, 2, 1, 1, []), none, none, some (.istore_n 2, 30, 0, 0, 0, 0, []), some (.aload_n 0, 31, 0, 0, 0, 0, []), some (.invokevirtual 365, 34, 199, 1, 1, 0, []), none, none, some (.iload_n 2, 35, 0, 0, 0, 0, []), some (.ireturn, 36, 0, 0, 0, 0, [])]
def cdX12_would : List (Option AmE) := [some (.aload_n 0, 1, 0, 0, 0, 0, []), some (.iload_n 1, 2, 0, 0, 0, 0, []), some (.invokevirtual 353, 5, 183, 2, 1, 1, []), none, none, some (.ifCond .eq 12, 8, 17, 0, 0, 0, []), none, none, some (.iload_n 2, 9, 0, 0, 0, 0, []), some (.iconst 0, 10, 0, 0, 0, 0, []), some (.iconst 2, 11, 0, 0, 0, 2, []), some (.invokestatic 298, 14, 179, 3, 0, 1, []), none, none, some (.ifCond .ne 5, 17, 19, 0, 0, 0, []), none, none, some (.iconst (-1), 18, 0, 0, 0, (-1), []), some (.ireturn, 19, 0, 0, 0, 0, []), some (.aload_n 0, 20, 0, 0, 0, 0, []), some (.iload_n 1, 21, 0, 0, 0, 0, []), some (.invokevirtual 359, 24, 200, 2, 1, 1, []), none, none, some (.ifCond .ne 30, 27, 54, 0, 0, 0, []), none, none, some (.iload_n 2, 28, 0, 0, 0, 0, []), some (.ifCond .ne 7, 31, 35, 0, 0, 0, []), none, none, some (.iconst 3, 32, 0, 0, 0, 3, []), some (.goto 21, 35, 53, 0, 0, 0, []), none, none, some (.iload_n 2, 36, 0, 0, 0, 0, []), some (.iconst 1, 37, 0, 0, 0, 1, []), some (.if_icmp .ne 15, 40, 52, 0, 0, 0, []), none, none, some (.aload_n 0, 41, 0, 0, 0, 0, []), some (.getfield 110, 44, 12, 48, 2, 0, []), none, none, some (.bipush 50, 46, 0, 0, 0, 50, []), none, some (.iload_n 1, 47, 0, 0, 0, 0, []), some (.iadd, 48, 0, 0, 0, 0, []), some (.iaload, 49, 0, 0, 0, 0, []), some (.goto 4, 52, 53, 0, 0, 0, []), none, none, some (.iconst 0, 53, 0, 0, 0, 0, []), some (.ireturn, 54, 0, 0, 0, 0, []), some (.aload_n 0, 55, 0, 0, 0, 0, []), some (.invokevirtual 356, 58, 186, 1, 1, 0, []), none, none, some (.aload_n 0, 59, 0, 0, 0, 0, []), some (.iload_n 1, 60, 0, 0, 0, 0, []), some (.invokevirtual 347, 63, 194, 2, 1, 1, []), none, none, some (.istore_n 3, 64, 0, 0, 0, 0, []), some (.iload_n 2, 65, 0, 0, 0, 0, []), some (.ifCond .ne 7, 68, 72, 0, 0, 0, []), none, none, some (.iload_n 3, 69, 0, 0, 0, 0, []), some (.goto 19, 72, 88, 0, 0, 0, []), none, none, some (.iload_n 2, 73, 0, 0, 0, 0, []), some (.iconst 1, 74, 0, 0, 0, 1, []), some (.if_icmp .ne 10, 77, 84, 0, 0, 0, []), none, none, some (.aload_n 0, 78, 0, 0, 0, 0, []), some (.getfield 338, 81, 12, 52, 0, 0, []), none, none, some (.goto 7, 84, 88, 0, 0, 0, []), none, none, some (.aload_n 0, 85, 0, 0, 0, 0, []), some (.getfield 315, 88, 12, 50, 0, 0, []), none, none, some (.ireturn, 89, 0, 0, 0, 0, [])]
def cdX12_nightGoes : List (Option AmE) := [some (.aload_n 0, 1, 0, 0, 0, 0, []), some (.getfield 49, 4, 12, 24, 2, 0, []), none, none, some (.aload_n 0, 5, 0, 0, 0, 0, []), some (.getfield 218, 8, 12, 18, 0, 0, []), none, none, some (.iaload, 9, 0, 0, 0, 0, []), some (.ifCond .ne 7, 12, 16, 0, 0, 0, []), none, none, some (.iconst 0, 13, 0, 0, 0, 0, []), some (.goto 33, 16, 46, 0, 0, 0, []), none, none, some (.aload_n 0, 17, 0, 0, 0, 0, []), some (.getfield 52, 20, 12, 25, 2, 0, []), none, none, some (.bipush 14, 22, 0, 0, 0, 14, []), none, some (.aload_n 0, 23, 0, 0, 0, 0, []), some (.getfield 218, 26, 12, 18, 0, 0, []), none, none, some (.imul, 27, 0, 0, 0, 0, []), some (.aload_n 0, 28, 0, 0, 0, 0, []), some (.getfield 113, 31, 12, 49, 2, 0, []), none, none, some (.bipush 83, 33, 0, 0, 0, 83, []), none, some (.iaload, 34, 0, 0, 0, 0, []), some (.aload_n 0, 35, 0, 0, 0, 0, []), some (.getfield 49, 38, 12, 24, 2, 0, []), none, none, some (.aload_n 0, 39, 0, 0, 0, 0, []), some (.getfield 218, 42, 12, 18, 0, 0, []), none, none, some (.iaload, 43, 0, 0, 0, 0, []), some (.irem, 44, 0, 0, 0, 0, []), some (.iadd, 45, 0, 0, 0, 0, []), some (.iaload, 46, 0, 0, 0, 0, []), some (.istore_n 1, 47, 0, 0, 0, 0, []), some (.iconst 1, 48, 0, 0, 0, 1, []), some (.istore_n 2, 49, 0, 0, 0, 0, []), some (.iload_n 2, 50, 0, 0, 0, 0, []), some (.aload_n 0, 51, 0, 0, 0, 0, []), some (.getfield 43, 54, 12, 22, 2, 0, []), none, none, some (.aload_n 0, 55, 0, 0, 0, 0, []), some (.getfield 218, 58, 12, 18, 0, 0, []), none, none, some (.iaload, 59, 0, 0, 0, 0, []), some (.if_icmp .gt 37, 62, 96, 0, 0, 0, []), none, none, some (.aload_n 0, 63, 0, 0, 0, 0, []), some (.getfield 113, 66, 12, 49, 2, 0, []), none, none, some (.iload_n 2, 67, 0, 0, 0, 0, []), some (.aload_n 0, 68, 0, 0, 0, 0, []), some (.getfield 113, 71, 12, 49, 2, 0, []), none, none, some (.iload_n 2, 72, 0, 0, 0, 0, []), some (.iaload, 73, 0, 0, 0, 0, []), some (.iload_n 1, 74, 0, 0, 0, 0, []), some (.if_icmp .le 14, 77, 88, 0, 0, 0, []), none, none, some (.aload_n 0, 78, 0, 0, 0, 0, []), some (.getfield 113, 81, 12, 49, 2, 0, []), none, none, some (.iload_n 2, 82, 0, 0, 0, 0, []), some (.iaload, 83, 0, 0, 0, 0, []), some (.iload_n 1, 84, 0, 0, 0, 0, []), some (.isub, 85, 0, 0, 0, 0, []), some (.goto 4, 88, 89, 0, 0, 0, []), none, none, some (.iconst 0, 89, 0, 0, 0, 0, []), some (.iastore, 90, 0, 0, 0, 0, []), some (.iinc 2 1, 93, 0, 0, 0, 1, []), none, none, some (.goto (-44), 96, 49, 0, 0, 0, []), none, none, some (.aload_n 0, 97, 0, 0, 0, 0, []), some (.getfield 113, 100, 12, 49, 2, 0, []), none, none, some (.bipush 82, 102, 0, 0, 0, 82, []), none, some (.aload_n 0, 103, 0, 0, 0, 0, []), some (.getfield 113, 106, 12, 49, 2, 0, []), none, none, some (.bipush 82, 108, 0, 0, 0, 82, []), none, some (.iaload, 109, 0, 0, 0, 0, []), some (.aload_n 0, 110, 0, 0, 0, 0, []), some (.getfield 58, 113, 12, 27, 2, 0, []), none, none, some (.aload_n 0, 114, 0, 0, 0, 0, []), some (.getfield 218, 117, 12, 18, 0, 0, []), none, none, some (.iaload, 118, 0, 0, 0, 0, []), some (.iadd, 119, 0, 0, 0, 0, []), some (.sipush 9999, 122, 0, 0, 0, 9999, []), none, none, some (.if_icmp .le 9, 125, 131, 0, 0, 0, []), none, none, some (.sipush 9999, 128, 0, 0, 0, 9999, []), none, none, some (.goto 20, 131, 148, 0, 0, 0, []), none, none, some (.aload_n 0, 132, 0, 0, 0, 0, []), some (.getfield 113, 135, 12, 49, 2, 0, []), none, none, some (.bipush 82, 137, 0, 0, 0, 82, []), none, some (.iaload, 138, 0, 0, 0, 0, []), some (.aload_n 0, 139, 0, 0, 0, 0, []), some (.getfield 58, 142, 12, 27, 2, 0, []), none, none, some (.aload_n 0, 143, 0, 0, 0, 0, []), some (.getfield 218, 146, 12, 18, 0, 0, []), none, none, some (.iaload, 147, 0, 0, 0, 0, []), some (.iadd, 148, 0, 0, 0, 0, []), some (.iastore, 149, 0, 0, 0, 0, []), some (.aload_n 0, 150, 0, 0, 0, 0, []), some (.getfield 113, 153, 12, 49, 2, 0, []), none, none, some (.bipush 83, 155, 0, 0, 0, 83, []), none, some (.dup2, 156, 0, 0, 0, 0, []), some (.iaload, 157, 0, 0, 0, 0, []), some (.iconst 1, 158, 0, 0, 0, 1, []), some (.iadd, 159, 0, 0, 0, 0, []), some (.iastore, 160, 0, 0, 0, 0, []), some (.return_, 161, 0, 0, 0, 0, [])]
def cdX12_night : List (Option AmE) := [some (.iload_n 1, 1, 0, 0, 0, 0, []), some (.iconst 0, 2, 0, 0, 0, 0, []), some (.bipush 100, 4, 0, 0, 0, 100, []), none, some (.invokestatic 298, 7, 179, 3, 0, 1, []), none, none, some (.ifCond .ne 5, 10, 12, 0, 0, 0, []), none, none, some (.iconst (-1), 11, 0, 0, 0, (-1), []), some (.ireturn, 12, 0, 0, 0, 0, []), some (.iload_n 1, 13, 0, 0, 0, 0, []), some (.ifCond .ne 11, 16, 24, 0, 0, 0, []), none, none, some (.aload_n 0, 17, 0, 0, 0, 0, []), some (.getfield 110, 20, 12, 48, 2, 0, []), none, none, some (.bipush 83, 22, 0, 0, 0, 83, []), none, some (.iaload, 23, 0, 0, 0, 0, []), some (.ireturn, 24, 0, 0, 0, 0, []), some (.aload_n 0, 25, 0, 0, 0, 0, []), some (.invokevirtual 356, 28, 186, 1, 1, 0, []), none, none, some (.iconst 0, 29, 0, 0, 0, 0, []), some (.istore_n 2, 30, 0, 0, 0, 0, []), some (.iload_n 2, 31, 0, 0, 0, 0, []), some (.iload_n 1, 32, 0, 0, 0, 0, []), some (.if_icmp .ge 13, 35, 45, 0, 0, 0, []), none, none, some (.aload_n 0, 36, 0, 0, 0, 0, []), some (.invokevirtual 368, 39, 203, 1, 1, 0, []), none, none, some (.iinc 2 1, 42, 0, 0, 0, 1, []), none, none, some (.goto (-12), 45, 30, 0, 0, 0, []), none, none, some (.aload_n 0, 46, 0, 0, 0, 0, []), some (.invokevirtual 365, 49, 199, 1, 1, 0, []), none, none, some (.aload_n 0, 50, 0, 0, 0, 0, []), some (.getfield 110, 53, 12, 48, 2, 0, []), none, none, some (.bipush 83, 55, 0, 0, 0, 83, []), none, some (.iaload, 56, 0, 0, 0, 0, []), some (.ireturn, 57, 0, 0, 0, 0, [])]
def cdX12_mend : List (Option AmE) := [some (.aload_n 0, 1, 0, 0, 0, 0, []), some (.iload_n 1, 2, 0, 0, 0, 0, []), some (.invokevirtual 350, 5, 182, 2, 1, 1, []), none, none, some (.ifCond .eq 8, 8, 13, 0, 0, 0, []), none, none, some (.iload_n 2, 9, 0, 0, 0, 0, []), some (.iconst 1, 10, 0, 0, 0, 1, []), some (.if_icmp .ge 5, 13, 15, 0, 0, 0, []), none, none, some (.iconst (-1), 14, 0, 0, 0, (-1), []), some (.ireturn, 15, 0, 0, 0, 0, []), some (.iload_n 2, 16, 0, 0, 0, 0, []), some (.aload_n 0, 17, 0, 0, 0, 0, []), some (.getfield 110, 20, 12, 48, 2, 0, []), none, none, some (.bipush 82, 22, 0, 0, 0, 82, []), none, some (.iaload, 23, 0, 0, 0, 0, []), some (.if_icmp .gt 28, 26, 51, 0, 0, 0, []), none, none, some (.aload_n 0, 27, 0, 0, 0, 0, []), some (.getfield 110, 30, 12, 48, 2, 0, []), none, none, some (.iload_n 1, 31, 0, 0, 0, 0, []), some (.iaload, 32, 0, 0, 0, 0, []), some (.iload_n 2, 33, 0, 0, 0, 0, []), some (.iadd, 34, 0, 0, 0, 0, []), some (.aload_n 0, 35, 0, 0, 0, 0, []), some (.getfield 46, 38, 12, 23, 2, 0, []), none, none, some (.bipush 25, 40, 0, 0, 0, 25, []), none, some (.aload_n 0, 41, 0, 0, 0, 0, []), some (.getfield 218, 44, 12, 18, 0, 0, []), none, none, some (.imul, 45, 0, 0, 0, 0, []), some (.iload_n 1, 46, 0, 0, 0, 0, []), some (.iadd, 47, 0, 0, 0, 0, []), some (.iaload, 48, 0, 0, 0, 0, []), some (.if_icmp .le 6, 51, 54, 0, 0, 0, []), none, none, some (.bipush (-2), 53, 0, 0, 0, (-2), []), none, some (.ireturn, 54, 0, 0, 0, 0, []), some (.aload_n 0, 55, 0, 0, 0, 0, []), some (.invokevirtual 356, 58, 186, 1, 1, 0, []), none, none, some (.aload_n 0, 59, 0, 0, 0, 0, []), some (.getfield 113, 62, 12, 49, 2, 0, []), none, none, some (.iload_n 1, 63, 0, 0, 0, 0, []), some (.dup2, 64, 0, 0, 0, 0, []), some (.iaload, 65, 0, 0, 0, 0, []), some (.iload_n 2, 66, 0, 0, 0, 0, []), some (.iadd, 67, 0, 0, 0, 0, []), some (.iastore, 68, 0, 0, 0, 0, []), some (.aload_n 0, 69, 0, 0, 0, 0, []), some (.getfield 113, 72, 12, 49, 2, 0, []), none, none, some (.bipush 82, 74, 0, 0, 0, 82, []), none, some (.dup2, 75, 0, 0, 0, 0, []), some (.iaload, 76, 0, 0, 0, 0, []), some (.iload_n 2, 77, 0, 0, 0, 0, []), some (.isub, 78, 0, 0, 0, 0, []), some (.iastore, 79, 0, 0, 0, 0, []), some (.aload_n 0, 80, 0, 0, 0, 0, []), some (.invokevirtual 365, 83, 199, 1, 1, 0, []), none, none, some (.aload_n 0, 84, 0, 0, 0, 0, []), some (.getfield 110, 87, 12, 48, 2, 0, []), none, none, some (.bipush 82, 89, 0, 0, 0, 82, []), none, some (.iaload, 90, 0, 0, 0, 0, []), some (.ireturn, 91, 0, 0, 0, 0, [])]
def cdX12_undo : List (Option AmE) := [some (.aload_n 0, 1, 0, 0, 0, 0, []), some (.getfield 239, 4, 12, 53, 0, 0, []), none, none, some (.ifCond .ne 5, 7, 9, 0, 0, 0, []), none, none, some (.iconst 0, 8, 0, 0, 0, 0, []), some (.ireturn, 9, 0, 0, 3, 0, []), some (.aload_n 0, 10, 0, 0, 0, 0, []), some (.dup, 11, 0, 0, 0, 0, []), some (.getfield 239, 14, 12, 53, 0, 0, []), none, none, some (.iconst 1, 15, 0, 0, 0, 1, []), some (.isub, 16, 0, 0, 0, 0, []), some (.putfield 239, 19, 12, 53, 0, 0, []), none, none, some (.iconst 0, 20, 0, 0, 0, 0, []), some (.istore_n 1, 21, 0, 0, 0, 0, []), some (.iload_n 1, 22, 0, 0, 0, 0, []), some (.bipush 100, 24, 0, 0, 0, 100, []), none, some (.if_icmp .ge 29, 27, 53, 0, 0, 0, []), none, none, some (.aload_n 0, 28, 0, 0, 0, 0, []), some (.getfield 110, 31, 12, 48, 2, 0, []), none, none, some (.iload_n 1, 32, 0, 0, 0, 0, []), some (.aload_n 0, 33, 0, 0, 0, 0, []), some (.getfield 116, 36, 12, 54, 2, 0, []), none, none, some (.bipush 100, 38, 0, 0, 0, 100, []), none, some (.aload_n 0, 39, 0, 0, 0, 0, []), some (.getfield 239, 42, 12, 53, 0, 0, []), none, none, some (.imul, 43, 0, 0, 0, 0, []), some (.iload_n 1, 44, 0, 0, 0, 0, []), some (.iadd, 45, 0, 0, 0, 0, []), some (.iaload, 46, 0, 0, 0, 0, []), some (.iastore, 47, 0, 0, 0, 0, []), some (.iinc 1 1, 50, 0, 0, 0, 1, []), none, none, some (.goto (-29), 53, 21, 0, 0, 0, []), none, none, some (.iconst 1, 54, 0, 0, 0, 1, []), some (.ireturn, 55, 0, 0, 3, 0, [])]
def cdX12_bits : List (Option AmE) := [some (.iconst 0, 1, 0, 0, 0, 0, []), some (.istore_n 1, 2, 0, 0, 0, 0, []), some (.iconst 0, 3, 0, 0, 0, 0, []), some (.istore_n 2, 4, 0, 0, 0, 0, []), some (.iload_n 2, 5, 0, 0, 0, 0, []), some (.bipush 8, 7, 0, 0, 0, 8, []), none, some (.if_icmp .ge 17, 10, 24, 0, 0, 0, []), none, none, some (.iload_n 1, 11, 0, 0, 0, 0, []), some (.iload_n 0, 12, 0, 0, 0, 0, []), some (.iload_n 2, 13, 0, 0, 0, 0, []), some (.ishr, 14, 0, 0, 0, 0, []), some (.iconst 1, 15, 0, 0, 0, 1, []), some (.iand, 16, 0, 0, 0, 0, []), some (.iadd, 17, 0, 0, 0, 0, []), some (.istore_n 1, 18, 0, 0, 0, 0, []), some (.iinc 2 1, 21, 0, 0, 0, 1, []), none, none, some (.goto (-17), 24, 4, 0, 0, 0, []), none, none, some (.iload_n 1, 25, 0, 0, 0, 0, []), some (.ireturn, 26, 0, 0, 0, 0, [])]
def cdX12_isSet : List (Option AmE) := [some (.iload_n 1, 1, 0, 0, 0, 0, []), some (.iconst 0, 2, 0, 0, 0, 0, []), some (.iconst 1, 3, 0, 0, 0, 1, []), some (.aload_n 0, 4, 0, 0, 0, 0, []), some (.invokevirtual 302, 7, 181, 1, 1, 1, []), none, none, some (.ishl, 8, 0, 0, 0, 0, []), some (.iconst 1, 9, 0, 0, 0, 1, []), some (.isub, 10, 0, 0, 0, 0, []), some (.invokestatic 298, 13, 179, 3, 0, 1, []), none, none, some (.ifCond .ne 5, 16, 18, 0, 0, 0, []), none, none, some (.iconst 0, 17, 0, 0, 0, 0, []), some (.ireturn, 18, 0, 0, 3, 0, []), some (.iconst 0, 19, 0, 0, 0, 0, []), some (.istore_n 2, 20, 0, 0, 0, 0, []), some (.iload_n 2, 21, 0, 0, 0, 0, []), some (.aload_n 0, 22, 0, 0, 0, 0, []), some (.invokevirtual 302, 25, 181, 1, 1, 1, []), none, none, some (.if_icmp .ge 28, 28, 53, 0, 0, 0, []), none, none, some (.iload_n 1, 29, 0, 0, 0, 0, []), some (.iload_n 2, 30, 0, 0, 0, 0, []), some (.ishr, 31, 0, 0, 0, 0, []), some (.iconst 1, 32, 0, 0, 0, 1, []), some (.iand, 33, 0, 0, 0, 0, []), some (.iconst 1, 34, 0, 0, 0, 1, []), some (.if_icmp .ne 13, 37, 47, 0, 0, 0, []), none, none, some (.aload_n 0, 38, 0, 0, 0, 0, []), some (.iload_n 2, 39, 0, 0, 0, 0, []), some (.invokevirtual 359, 42, 200, 2, 1, 1, []), none, none, some (.ifCond .ne 5, 45, 47, 0, 0, 0, []), none, none, some (.iconst 0, 46, 0, 0, 0, 0, []), some (.ireturn, 47, 0, 0, 3, 0, []), some (.iinc 2 1, 50, 0, 0, 0, 1, []), none, none, some (.goto (-30), 53, 20, 0, 0, 0, []), none, none, some (.iconst 1, 54, 0, 0, 0, 1, []), some (.ireturn, 55, 0, 0, 3, 0, [])]
def cdX12_fillsOrder : List (Option AmE) := [some (.aload_n 0, 1, 0, 0, 0, 0, []), some (.iconst 0, 2, 0, 0, 0, 0, []), some (.putfield 371, 5, 12, 55, 0, 0, []), none, none, some (.iconst 0, 6, 0, 0, 0, 0, []), some (.istore_n 2, 7, 0, 0, 0, 0, []), some (.iload_n 2, 8, 0, 0, 0, 0, []), some (.aload_n 0, 9, 0, 0, 0, 0, []), some (.invokevirtual 302, 12, 181, 1, 1, 1, []), none, none, some (.if_icmp .ge 40, 15, 52, 0, 0, 0, []), none, none, some (.iload_n 1, 16, 0, 0, 0, 0, []), some (.iload_n 2, 17, 0, 0, 0, 0, []), some (.ishr, 18, 0, 0, 0, 0, []), some (.iconst 1, 19, 0, 0, 0, 1, []), some (.iand, 20, 0, 0, 0, 0, []), some (.ifCond .ne 6, 23, 26, 0, 0, 0, []), none, none, some (.goto 23, 26, 46, 0, 0, 0, []), none, none, some (.aload_n 0, 27, 0, 0, 0, 0, []), some (.getfield 119, 30, 12, 56, 2, 0, []), none, none, some (.aload_n 0, 31, 0, 0, 0, 0, []), some (.getfield 371, 34, 12, 55, 0, 0, []), none, none, some (.iload_n 2, 35, 0, 0, 0, 0, []), some (.iastore, 36, 0, 0, 0, 0, []), some (.aload_n 0, 37, 0, 0, 0, 0, []), some (.dup, 38, 0, 0, 0, 0, []), some (.getfield 371, 41, 12, 55, 0, 0, []), none, none, some (.iconst 1, 42, 0, 0, 0, 1, []), some (.iadd, 43, 0, 0, 0, 0, []), some (.putfield 371, 46, 12, 55, 0, 0, []), none, none, some (.iinc 2 1, 49, 0, 0, 0, 1, []), none, none, some (.goto (-42), 52, 7, 0, 0, 0, []), none, none, some (.return_, 53, 0, 0, 0, 0, [])]
def cdX12_nextOrder : List (Option AmE) := [some (.aload_n 0, 1, 0, 0, 0, 0, []), some (.getfield 371, 4, 12, 55, 0, 0, []), none, none, some (.iconst 2, 5, 0, 0, 0, 2, []), some (.isub, 6, 0, 0, 0, 0, []), some (.istore_n 1, 7, 0, 0, 0, 0, []), some (.iload_n 1, 8, 0, 0, 0, 0, []), some (.ifCond .lt 26, 11, 34, 0, 0, 0, []), none, none, some (.aload_n 0, 12, 0, 0, 0, 0, []), some (.getfield 119, 15, 12, 56, 2, 0, []), none, none, some (.iload_n 1, 16, 0, 0, 0, 0, []), some (.iaload, 17, 0, 0, 0, 0, []), some (.aload_n 0, 18, 0, 0, 0, 0, []), some (.getfield 119, 21, 12, 56, 2, 0, []), none, none, some (.iload_n 1, 22, 0, 0, 0, 0, []), some (.iconst 1, 23, 0, 0, 0, 1, []), some (.iadd, 24, 0, 0, 0, 0, []), some (.iaload, 25, 0, 0, 0, 0, []), some (.if_icmp .le 9, 28, 34, 0, 0, 0, []), none, none, some (.iinc 1 (-1), 31, 0, 0, 0, (-1), []), none, none, some (.goto (-24), 34, 7, 0, 0, 0, []), none, none, some (.iload_n 1, 35, 0, 0, 0, 0, []), some (.ifCond .ge 5, 38, 40, 0, 0, 0, []), none, none, some (.iconst 0, 39, 0, 0, 0, 0, []), some (.ireturn, 40, 0, 0, 3, 0, []), some (.aload_n 0, 41, 0, 0, 0, 0, []), some (.getfield 371, 44, 12, 55, 0, 0, []), none, none, some (.iconst 1, 45, 0, 0, 0, 1, []), some (.isub, 46, 0, 0, 0, 0, []), some (.istore_n 2, 47, 0, 0, 0, 0, []), some (.aload_n 0, 48, 0, 0, 0, 0, []), some (.getfield 119, 51, 12, 56, 2, 0, []), none, none, some (.iload_n 2, 52, 0, 0, 0, 0, []), some (.iaload, 53, 0, 0, 0, 0, []), some (.aload_n 0, 54, 0, 0, 0, 0, []), some (.getfield 119, 57, 12, 56, 2, 0, []), none, none, some (.iload_n 1, 58, 0, 0, 0, 0, []), some (.iaload, 59, 0, 0, 0, 0, []), some (.if_icmp .ge 9, 62, 68, 0, 0, 0, []), none, none, some (.iinc 2 (-1), 65, 0, 0, 0, (-1), []), none, none, some (.goto (-18), 68, 47, 0, 0, 0, []), none, none, some (.aload_n 0, 69, 0, 0, 0, 0, []), some (.getfield 119, 72, 12, 56, 2, 0, []), none, none, some (.iload_n 1, 73, 0, 0, 0, 0, []), some (.iaload, 74, 0, 0, 0, 0, []), some (.istore_n 3, 75, 0, 0, 0, 0, []), some (.aload_n 0, 76, 0, 0, 0, 0, []), some (.getfield 119, 79, 12, 56, 2, 0, []), none, none, some (.iload_n 1, 80, 0, 0, 0, 0, []), some (.aload_n 0, 81, 0, 0, 0, 0, []), some (.getfield 119, 84, 12, 56, 2, 0, []), none, none, some (.iload_n 2, 85, 0, 0, 0, 0, []), some (.iaload, 86, 0, 0, 0, 0, []), some (.iastore, 87, 0, 0, 0, 0, []), some (.aload_n 0, 88, 0, 0, 0, 0, []), some (.getfield 119, 91, 12, 56, 2, 0, []), none, none, some (.iload_n 2, 92, 0, 0, 0, 0, []), some (.iload_n 3, 93, 0, 0, 0, 0, []), some (.iastore, 94, 0, 0, 0, 0, []), some (.iload_n 1, 95, 0, 0, 0, 0, []), some (.iconst 1, 96, 0, 0, 0, 1, []), some (.iadd, 97, 0, 0, 0, 0, []), some (.istore 4, 99, 0, 0, 0, 0, []), none, some (.aload_n 0, 100, 0, 0, 0, 0, []), some (.getfield 371, 103, 12, 55, 0, 0, []), none, none, some (.iconst 1, 104, 0, 0, 0, 1, []), some (.isub, 105, 0, 0, 0, 0, []), some (.istore 5, 107, 0, 0, 0, 0, []), none, some (.iload 4, 109, 0, 0, 0, 0, []), none, some (.iload 5, 111, 0, 0, 0, 0, []), none, some (.if_icmp .ge 42, 114, 153, 0, 0, 0, []), none, none, some (.aload_n 0, 115, 0, 0, 0, 0, []), some (.getfield 119, 118, 12, 56, 2, 0, []), none, none, some (.iload 4, 120, 0, 0, 0, 0, []), none, some (.iaload, 121, 0, 0, 0, 0, []), some (.istore_n 3, 122, 0, 0, 0, 0, []), some (.aload_n 0, 123, 0, 0, 0, 0, []), some (.getfield 119, 126, 12, 56, 2, 0, []), none, none, some (.iload 4, 128, 0, 0, 0, 0, []), none, some (.aload_n 0, 129, 0, 0, 0, 0, []), some (.getfield 119, 132, 12, 56, 2, 0, []), none, none, some (.iload 5, 134, 0, 0, 0, 0, []), none, some (.iaload, 135, 0, 0, 0, 0, []), some (.iastore, 136, 0, 0, 0, 0, []), some (.aload_n 0, 137, 0, 0, 0, 0, []), some (.getfield 119, 140, 12, 56, 2, 0, []), none, none, some (.iload 5, 142, 0, 0, 0, 0, []), none, some (.iload_n 3, 143, 0, 0, 0, 0, []), some (.iastore, 144, 0, 0, 0, 0, []), some (.iinc 4 1, 147, 0, 0, 0, 1, []), none, none, some (.iinc 5 (-1), 150, 0, 0, 0, (-1), []), none, none, some (.goto (-43), 153, 107, 0, 0, 0, []), none, none, some (.iconst 1, 154, 0, 0, 0, 1, []), some (.ireturn, 155, 0, 0, 3, 0, [])]
def cdX12_orders : List (Option AmE) := [some (.aload_n 0, 1, 0, 0, 0, 0, []), some (.iload_n 1, 2, 0, 0, 0, 0, []), some (.invokevirtual 374, 5, 209, 2, 1, 0, []), none, none, some (.aload_n 0, 6, 0, 0, 0, 0, []), some (.iconst (-1), 7, 0, 0, 0, (-1), []), some (.putfield 377, 10, 12, 58, 0, 0, []), none, none, some (.iconst 1, 11, 0, 0, 0, 1, []), some (.istore_n 2, 12, 0, 0, 0, 0, []), some (.iload_n 2, 13, 0, 0, 0, 0, []), some (.ifCond .eq 136, 16, 149, 0, 0, 0, []), none, none, some (.aload_n 0, 17, 0, 0, 0, 0, []), some (.invokevirtual 356, 20, 186, 1, 1, 0, []), none, none, some (.iconst 0, 21, 0, 0, 0, 0, []), some (.istore_n 3, 22, 0, 0, 0, 0, []), some (.iconst 0, 23, 0, 0, 0, 0, []), some (.istore 4, 25, 0, 0, 0, 0, []), none, some (.iconst 0, 26, 0, 0, 0, 0, []), some (.istore 5, 28, 0, 0, 0, 0, []), none, some (.iload 5, 30, 0, 0, 0, 0, []), none, some (.aload_n 0, 31, 0, 0, 0, 0, []), some (.getfield 371, 34, 12, 55, 0, 0, []), none, none, some (.if_icmp .ge 39, 37, 73, 0, 0, 0, []), none, none, some (.aload_n 0, 38, 0, 0, 0, 0, []), some (.aload_n 0, 39, 0, 0, 0, 0, []), some (.getfield 119, 42, 12, 56, 2, 0, []), none, none, some (.iload 5, 44, 0, 0, 0, 0, []), none, some (.iaload, 45, 0, 0, 0, 0, []), some (.invokevirtual 362, 48, 195, 2, 1, 1, []), none, none, some (.istore 6, 50, 0, 0, 0, 0, []), none, some (.iload 6, 52, 0, 0, 0, 0, []), none, some (.ifCond .ne 6, 55, 58, 0, 0, 0, []), none, none, some (.iinc 3 1, 58, 0, 0, 0, 1, []), none, none, some (.iload 6, 60, 0, 0, 0, 0, []), none, some (.iconst 2, 61, 0, 0, 0, 2, []), some (.if_icmp .ne 6, 64, 67, 0, 0, 0, []), none, none, some (.iinc 4 1, 67, 0, 0, 0, 1, []), none, none, some (.iinc 5 1, 70, 0, 0, 0, 1, []), none, none, some (.goto (-42), 73, 28, 0, 0, 0, []), none, none, some (.iload_n 3, 74, 0, 0, 0, 0, []), some (.aload_n 0, 75, 0, 0, 0, 0, []), some (.getfield 377, 78, 12, 58, 0, 0, []), none, none, some (.if_icmp .gt 20, 81, 98, 0, 0, 0, []), none, none, some (.iload_n 3, 82, 0, 0, 0, 0, []), some (.aload_n 0, 83, 0, 0, 0, 0, []), some (.getfield 377, 86, 12, 58, 0, 0, []), none, none, some (.if_icmp .ne 55, 89, 141, 0, 0, 0, []), none, none, some (.iload 4, 91, 0, 0, 0, 0, []), none, some (.aload_n 0, 92, 0, 0, 0, 0, []), some (.getfield 380, 95, 12, 59, 0, 0, []), none, none, some (.if_icmp .ge 46, 98, 141, 0, 0, 0, []), none, none, some (.aload_n 0, 99, 0, 0, 0, 0, []), some (.iload_n 3, 100, 0, 0, 0, 0, []), some (.putfield 377, 103, 12, 58, 0, 0, []), none, none, some (.aload_n 0, 104, 0, 0, 0, 0, []), some (.iload 4, 106, 0, 0, 0, 0, []), none, some (.putfield 380, 109, 12, 59, 0, 0, []), none, none, some (.iconst 0, 110, 0, 0, 0, 0, []), some (.istore 5, 112, 0, 0, 0, 0, []), none, some (.iload 5, 114, 0, 0, 0, 0, []), none, some (.aload_n 0, 115, 0, 0, 0, 0, []), some (.getfield 371, 118, 12, 55, 0, 0, []), none, none, some (.if_icmp .ge 23, 121, 141, 0, 0, 0, []), none, none, some (.aload_n 0, 122, 0, 0, 0, 0, []), some (.getfield 122, 125, 12, 57, 2, 0, []), none, none, some (.iload 5, 127, 0, 0, 0, 0, []), none, some (.aload_n 0, 128, 0, 0, 0, 0, []), some (.getfield 119, 131, 12, 56, 2, 0, []), none, none, some (.iload 5, 133, 0, 0, 0, 0, []), none, some (.iaload, 134, 0, 0, 0, 0, []), some (.iastore, 135, 0, 0, 0, 0, []), some (.iinc 5 1, 138, 0, 0, 0, 1, []), none, none, some (.goto (-26), 141, 112, 0, 0, 0, []), none, none, some (.aload_n 0, 142, 0, 0, 0, 0, []), some (.invokevirtual 383, 145, 210, 1, 1, 1, []), none, none, some (.istore_n 2, 146, 0, 0, 0, 0, []), some (.goto (-134), 149, 12, 0, 0, 0, []), none, none, some (.return_, 150, 0, 0, 0, 0, [])]
def cdX12_order : List (Option AmE) := [some (.aload_n 0, 1, 0, 0, 0, 0, []), some (.iload_n 1, 2, 0, 0, 0, 0, []), some (.invokevirtual 387, 5, 208, 2, 1, 1, []), none, none, some (.ifCond .eq 12, 8, 17, 0, 0, 0, []), none, none, some (.iload_n 2, 9, 0, 0, 0, 0, []), some (.iconst 0, 10, 0, 0, 0, 0, []), some (.iconst 1, 11, 0, 0, 0, 1, []), some (.invokestatic 298, 14, 179, 3, 0, 1, []), none, none, some (.ifCond .ne 5, 17, 19, 0, 0, 0, []), none, none, some (.iconst (-1), 18, 0, 0, 0, (-1), []), some (.ireturn, 19, 0, 0, 0, 0, []), some (.iload_n 1, 20, 0, 0, 0, 0, []), some (.invokestatic 390, 23, 207, 1, 0, 1, []), none, none, some (.bipush 7, 25, 0, 0, 0, 7, []), none, some (.if_icmp .le 6, 28, 31, 0, 0, 0, []), none, none, some (.bipush (-2), 30, 0, 0, 0, (-2), []), none, some (.ireturn, 31, 0, 0, 0, 0, []), some (.aload_n 0, 32, 0, 0, 0, 0, []), some (.iload_n 1, 33, 0, 0, 0, 0, []), some (.invokevirtual 393, 36, 211, 2, 1, 0, []), none, none, some (.iload_n 2, 37, 0, 0, 0, 0, []), some (.ifCond .ne 10, 40, 47, 0, 0, 0, []), none, none, some (.aload_n 0, 41, 0, 0, 0, 0, []), some (.getfield 377, 44, 12, 58, 0, 0, []), none, none, some (.goto 7, 47, 51, 0, 0, 0, []), none, none, some (.aload_n 0, 48, 0, 0, 0, 0, []), some (.getfield 380, 51, 12, 59, 0, 0, []), none, none, some (.ireturn, 52, 0, 0, 0, 0, [])]
def cdX12_orderAt : List (Option AmE) := [some (.aload_n 0, 1, 0, 0, 0, 0, []), some (.iload_n 1, 2, 0, 0, 0, 0, []), some (.invokevirtual 387, 5, 208, 2, 1, 1, []), none, none, some (.ifCond .eq 15, 8, 20, 0, 0, 0, []), none, none, some (.iload_n 2, 9, 0, 0, 0, 0, []), some (.ifCond .lt 11, 12, 20, 0, 0, 0, []), none, none, some (.iload_n 2, 13, 0, 0, 0, 0, []), some (.iload_n 1, 14, 0, 0, 0, 0, []), some (.invokestatic 390, 17, 207, 1, 0, 1, []), none, none, some (.if_icmp .lt 5, 20, 22, 0, 0, 0, []), none, none, some (.iconst (-1), 21, 0, 0, 0, (-1), []), some (.ireturn, 22, 0, 0, 0, 0, []), some (.iload_n 1, 23, 0, 0, 0, 0, []), some (.invokestatic 390, 26, 207, 1, 0, 1, []), none, none, some (.bipush 7, 28, 0, 0, 0, 7, []), none, some (.if_icmp .le 6, 31, 34, 0, 0, 0, []), none, none, some (.bipush (-2), 33, 0, 0, 0, (-2), []), none, some (.ireturn, 34, 0, 0, 0, 0, []), some (.aload_n 0, 35, 0, 0, 0, 0, []), some (.iload_n 1, 36, 0, 0, 0, 0, []), some (.invokevirtual 393, 39, 211, 2, 1, 0, []), none, none, some (.aload_n 0, 40, 0, 0, 0, 0, []), some (.getfield 122, 43, 12, 57, 2, 0, []), none, none, some (.iload_n 2, 44, 0, 0, 0, 0, []), some (.iaload, 45, 0, 0, 0, 0, []), some (.ireturn, 46, 0, 0, 0, 0, [])]
def cdX12_behind : List (Option AmE) := [some (.iload_n 3, 1, 0, 0, 0, 0, []), some (.iconst 1, 2, 0, 0, 0, 1, []), some (.if_icmp .ge 5, 5, 7, 0, 0, 0, []), none, none, some (.iconst (-1), 6, 0, 0, 0, (-1), []), some (.ireturn, 7, 0, 0, 0, 0, []), some (.iload_n 3, 8, 0, 0, 0, 0, []), some (.istore 6, 10, 0, 0, 0, 0, []), none, some (.iconst 0, 11, 0, 0, 0, 0, []), some (.istore 7, 13, 0, 0, 0, 0, []), none, some (.iload 7, 15, 0, 0, 0, 0, []), none, some (.aload_n 0, 16, 0, 0, 0, 0, []), some (.iload_n 1, 17, 0, 0, 0, 0, []), some (.invokevirtual 327, 20, 184, 2, 1, 1, []), none, none, some (.iconst 1, 21, 0, 0, 0, 1, []), some (.if_icmp .ne 7, 24, 28, 0, 0, 0, []), none, none, some (.iconst 2, 25, 0, 0, 0, 2, []), some (.goto 4, 28, 29, 0, 0, 0, []), none, none, some (.iconst 1, 29, 0, 0, 0, 1, []), some (.if_icmp .ge 57, 32, 86, 0, 0, 0, []), none, none, some (.aload_n 0, 33, 0, 0, 0, 0, []), some (.aload_n 0, 34, 0, 0, 0, 0, []), some (.iload_n 1, 35, 0, 0, 0, 0, []), some (.invokevirtual 327, 38, 184, 2, 1, 1, []), none, none, some (.aload_n 0, 39, 0, 0, 0, 0, []), some (.getfield 64, 42, 12, 29, 2, 0, []), none, none, some (.bipush 8, 44, 0, 0, 0, 8, []), none, some (.aload_n 0, 45, 0, 0, 0, 0, []), some (.getfield 218, 48, 12, 18, 0, 0, []), none, none, some (.imul, 49, 0, 0, 0, 0, []), some (.iload_n 1, 50, 0, 0, 0, 0, []), some (.iadd, 51, 0, 0, 0, 0, []), some (.iaload, 52, 0, 0, 0, 0, []), some (.iload_n 2, 53, 0, 0, 0, 0, []), some (.iload 6, 55, 0, 0, 0, 0, []), none, some (.iload 4, 57, 0, 0, 0, 0, []), none, some (.iload 5, 59, 0, 0, 0, 0, []), none, some (.invokevirtual 311, 62, 188, 7, 1, 1, []), none, none, some (.istore 8, 64, 0, 0, 0, 0, []), none, some (.iload 6, 66, 0, 0, 0, 0, []), none, some (.iload 8, 68, 0, 0, 0, 0, []), none, some (.if_icmp .ge 5, 71, 73, 0, 0, 0, []), none, none, some (.iconst (-1), 72, 0, 0, 0, (-1), []), some (.ireturn, 73, 0, 0, 0, 0, []), some (.iload 6, 75, 0, 0, 0, 0, []), none, some (.iload 8, 77, 0, 0, 0, 0, []), none, some (.isub, 78, 0, 0, 0, 0, []), some (.istore 6, 80, 0, 0, 0, 0, []), none, some (.iinc 7 1, 83, 0, 0, 0, 1, []), none, none, some (.goto (-70), 86, 13, 0, 0, 0, []), none, none, some (.iload 6, 88, 0, 0, 0, 0, []), none, some (.ireturn, 89, 0, 0, 0, 0, [])]
def cdX12_treads : List (Option AmE) := [some (.iload_n 3, 1, 0, 0, 0, 0, []), some (.ifCond .ne 14, 4, 15, 0, 0, 0, []), none, none, some (.aload_n 0, 5, 0, 0, 0, 0, []), some (.iload_n 1, 6, 0, 0, 0, 0, []), some (.invokevirtual 327, 9, 184, 2, 1, 1, []), none, none, some (.iconst 3, 10, 0, 0, 0, 3, []), some (.if_icmp .ne 5, 13, 15, 0, 0, 0, []), none, none, some (.iconst 0, 14, 0, 0, 0, 0, []), some (.ireturn, 15, 0, 0, 3, 0, []), some (.aload_n 0, 16, 0, 0, 0, 0, []), some (.iload_n 1, 17, 0, 0, 0, 0, []), some (.invokevirtual 327, 20, 184, 2, 1, 1, []), none, none, some (.iconst 2, 21, 0, 0, 0, 2, []), some (.if_icmp .eq 5, 24, 26, 0, 0, 0, []), none, none, some (.iconst 1, 25, 0, 0, 0, 1, []), some (.ireturn, 26, 0, 0, 3, 0, []), some (.iload_n 3, 27, 0, 0, 0, 0, []), some (.ifCond .eq 17, 30, 44, 0, 0, 0, []), none, none, some (.iload_n 2, 31, 0, 0, 0, 0, []), some (.iconst 2, 32, 0, 0, 0, 2, []), some (.irem, 33, 0, 0, 0, 0, []), some (.ifCond .ne 7, 36, 40, 0, 0, 0, []), none, none, some (.iconst 1, 37, 0, 0, 0, 1, []), some (.goto 23, 40, 60, 0, 0, 0, []), none, none, some (.iconst 0, 41, 0, 0, 0, 0, []), some (.goto 19, 44, 60, 0, 0, 0, []), none, none, some (.aload_n 0, 45, 0, 0, 0, 0, []), some (.invokevirtual 321, 48, 180, 1, 1, 1, []), none, none, some (.iload_n 2, 49, 0, 0, 0, 0, []), some (.isub, 50, 0, 0, 0, 0, []), some (.iconst 2, 51, 0, 0, 0, 2, []), some (.irem, 52, 0, 0, 0, 0, []), some (.ifCond .ne 7, 55, 59, 0, 0, 0, []), none, none, some (.iconst 1, 56, 0, 0, 0, 1, []), some (.goto 4, 59, 60, 0, 0, 0, []), none, none, some (.iconst 0, 60, 0, 0, 0, 0, []), some (.ireturn, 61, 0, 0, 3, 0, [])]
def cdX12_isTrodden : List (Option AmE) := [some (.iconst 0, 1, 0, 0, 0, 0, []), some (.istore_n 3, 2, 0, 0, 0, 0, []), some (.iload_n 3, 3, 0, 0, 0, 0, []), some (.aload_n 0, 4, 0, 0, 0, 0, []), some (.invokevirtual 302, 7, 181, 1, 1, 1, []), none, none, some (.if_icmp .ge 40, 10, 47, 0, 0, 0, []), none, none, some (.iload_n 1, 11, 0, 0, 0, 0, []), some (.iload_n 3, 12, 0, 0, 0, 0, []), some (.ishr, 13, 0, 0, 0, 0, []), some (.iconst 1, 14, 0, 0, 0, 1, []), some (.iand, 15, 0, 0, 0, 0, []), some (.iconst 1, 16, 0, 0, 0, 1, []), some (.if_icmp .ne 25, 19, 41, 0, 0, 0, []), none, none, some (.aload_n 0, 20, 0, 0, 0, 0, []), some (.iload_n 3, 21, 0, 0, 0, 0, []), some (.iload_n 2, 22, 0, 0, 0, 0, []), some (.iconst 1, 23, 0, 0, 0, 1, []), some (.invokevirtual 396, 26, 215, 4, 1, 1, []), none, none, some (.ifCond .ne 13, 29, 39, 0, 0, 0, []), none, none, some (.aload_n 0, 30, 0, 0, 0, 0, []), some (.iload_n 3, 31, 0, 0, 0, 0, []), some (.iload_n 2, 32, 0, 0, 0, 0, []), some (.iconst 0, 33, 0, 0, 0, 0, []), some (.invokevirtual 396, 36, 215, 4, 1, 1, []), none, none, some (.ifCond .eq 5, 39, 41, 0, 0, 0, []), none, none, some (.iconst 1, 40, 0, 0, 0, 1, []), some (.ireturn, 41, 0, 0, 3, 0, []), some (.iinc 3 1, 44, 0, 0, 0, 1, []), none, none, some (.goto (-42), 47, 2, 0, 0, 0, []), none, none, some (.iconst 0, 48, 0, 0, 0, 0, []), some (.ireturn, 49, 0, 0, 3, 0, [])]
def cdX12_bearsAll : List (Option AmE) := [some (.iload_n 3, 1, 0, 0, 0, 0, []), some (.istore 5, 3, 0, 0, 0, 0, []), none, some (.iconst 0, 4, 0, 0, 0, 0, []), some (.istore 6, 6, 0, 0, 0, 0, []), none, some (.iload 6, 8, 0, 0, 0, 0, []), none, some (.aload_n 0, 9, 0, 0, 0, 0, []), some (.invokevirtual 302, 12, 181, 1, 1, 1, []), none, none, some (.if_icmp .ge 81, 15, 93, 0, 0, 0, []), none, none, some (.iload 5, 17, 0, 0, 0, 0, []), none, some (.ifCond .lt 76, 20, 93, 0, 0, 0, []), none, none, some (.iload_n 1, 21, 0, 0, 0, 0, []), some (.iload 6, 23, 0, 0, 0, 0, []), none, some (.ishr, 24, 0, 0, 0, 0, []), some (.iconst 1, 25, 0, 0, 0, 1, []), some (.iand, 26, 0, 0, 0, 0, []), some (.ifCond .ne 6, 29, 32, 0, 0, 0, []), none, none, some (.goto 58, 32, 87, 0, 0, 0, []), none, none, some (.aload_n 0, 33, 0, 0, 0, 0, []), some (.iload 6, 35, 0, 0, 0, 0, []), none, some (.iload_n 2, 36, 0, 0, 0, 0, []), some (.iconst 1, 37, 0, 0, 0, 1, []), some (.invokevirtual 396, 40, 215, 4, 1, 1, []), none, none, some (.ifCond .eq 17, 43, 57, 0, 0, 0, []), none, none, some (.aload_n 0, 44, 0, 0, 0, 0, []), some (.iload 6, 46, 0, 0, 0, 0, []), none, some (.iload_n 2, 47, 0, 0, 0, 0, []), some (.iload 5, 49, 0, 0, 0, 0, []), none, some (.iconst 1, 50, 0, 0, 0, 1, []), some (.iload 4, 52, 0, 0, 0, 0, []), none, some (.invokevirtual 400, 55, 214, 6, 1, 1, []), none, none, some (.istore 5, 57, 0, 0, 0, 0, []), none, some (.iload 5, 59, 0, 0, 0, 0, []), none, some (.ifCond .lt 28, 62, 87, 0, 0, 0, []), none, none, some (.aload_n 0, 63, 0, 0, 0, 0, []), some (.iload 6, 65, 0, 0, 0, 0, []), none, some (.iload_n 2, 66, 0, 0, 0, 0, []), some (.iconst 0, 67, 0, 0, 0, 0, []), some (.invokevirtual 396, 70, 215, 4, 1, 1, []), none, none, some (.ifCond .eq 17, 73, 87, 0, 0, 0, []), none, none, some (.aload_n 0, 74, 0, 0, 0, 0, []), some (.iload 6, 76, 0, 0, 0, 0, []), none, some (.iload_n 2, 77, 0, 0, 0, 0, []), some (.iload 5, 79, 0, 0, 0, 0, []), none, some (.iconst 0, 80, 0, 0, 0, 0, []), some (.iload 4, 82, 0, 0, 0, 0, []), none, some (.invokevirtual 400, 85, 214, 6, 1, 1, []), none, none, some (.istore 5, 87, 0, 0, 0, 0, []), none, some (.iinc 6 1, 90, 0, 0, 0, 1, []), none, none, some (.goto (-84), 93, 6, 0, 0, 0, []), none, none, some (.iload 5, 95, 0, 0, 0, 0, []), none, some (.ifCond .lt 7, 98, 102, 0, 0, 0, []), none, none, some (.iconst 1, 99, 0, 0, 0, 1, []), some (.goto 4, 102, 103, 0, 0, 0, []), none, none, some (.iconst 0, 103, 0, 0, 0, 0, []), some (.ireturn, 104, 0, 0, 3, 0, [])]
def cdX12_needOf : List (Option AmE) := [some (.aload_n 0, 1, 0, 0, 0, 0, []), some (.iload_n 1, 2, 0, 0, 0, 0, []), some (.iload_n 2, 3, 0, 0, 0, 0, []), some (.invokevirtual 404, 6, 216, 3, 1, 1, []), none, none, some (.ifCond .ne 5, 9, 11, 0, 0, 0, []), none, none, some (.iconst 0, 10, 0, 0, 0, 0, []), some (.ireturn, 11, 0, 0, 0, 0, []), some (.aload_n 0, 12, 0, 0, 0, 0, []), some (.invokevirtual 308, 15, 187, 1, 1, 1, []), none, none, some (.istore_n 3, 16, 0, 0, 0, 0, []), some (.iconst 0, 17, 0, 0, 0, 0, []), some (.istore 4, 19, 0, 0, 0, 0, []), none, some (.aload_n 0, 20, 0, 0, 0, 0, []), some (.getfield 113, 23, 12, 49, 2, 0, []), none, none, some (.iload_n 2, 24, 0, 0, 0, 0, []), some (.iaload, 25, 0, 0, 0, 0, []), some (.iload 4, 27, 0, 0, 0, 0, []), none, some (.iadd, 28, 0, 0, 0, 0, []), some (.aload_n 0, 29, 0, 0, 0, 0, []), some (.getfield 46, 32, 12, 23, 2, 0, []), none, none, some (.bipush 25, 34, 0, 0, 0, 25, []), none, some (.aload_n 0, 35, 0, 0, 0, 0, []), some (.getfield 218, 38, 12, 18, 0, 0, []), none, none, some (.imul, 39, 0, 0, 0, 0, []), some (.iload_n 2, 40, 0, 0, 0, 0, []), some (.iadd, 41, 0, 0, 0, 0, []), some (.iaload, 42, 0, 0, 0, 0, []), some (.if_icmp .gt 31, 45, 73, 0, 0, 0, []), none, none, some (.aload_n 0, 46, 0, 0, 0, 0, []), some (.iload_n 1, 47, 0, 0, 0, 0, []), some (.iload_n 2, 48, 0, 0, 0, 0, []), some (.aload_n 0, 49, 0, 0, 0, 0, []), some (.getfield 113, 52, 12, 49, 2, 0, []), none, none, some (.iload_n 2, 53, 0, 0, 0, 0, []), some (.iaload, 54, 0, 0, 0, 0, []), some (.iload 4, 56, 0, 0, 0, 0, []), none, some (.iadd, 57, 0, 0, 0, 0, []), some (.iload_n 3, 58, 0, 0, 0, 0, []), some (.invokevirtual 408, 61, 217, 5, 1, 1, []), none, none, some (.ifCond .eq 6, 64, 67, 0, 0, 0, []), none, none, some (.iload 4, 66, 0, 0, 0, 0, []), none, some (.ireturn, 67, 0, 0, 0, 0, []), some (.iinc 4 1, 70, 0, 0, 0, 1, []), none, none, some (.goto (-51), 73, 19, 0, 0, 0, []), none, none, some (.bipush (-2), 75, 0, 0, 0, (-2), []), none, some (.ireturn, 76, 0, 0, 0, 0, [])]
def cdX12_need : List (Option AmE) := [some (.aload_n 0, 1, 0, 0, 0, 0, []), some (.iload_n 1, 2, 0, 0, 0, 0, []), some (.invokevirtual 387, 5, 208, 2, 1, 1, []), none, none, some (.ifCond .eq 16, 8, 21, 0, 0, 0, []), none, none, some (.iload_n 2, 9, 0, 0, 0, 0, []), some (.iconst (-1), 10, 0, 0, 0, (-1), []), some (.if_icmp .eq 13, 13, 23, 0, 0, 0, []), none, none, some (.aload_n 0, 14, 0, 0, 0, 0, []), some (.iload_n 2, 15, 0, 0, 0, 0, []), some (.invokevirtual 350, 18, 182, 2, 1, 1, []), none, none, some (.ifCond .ne 5, 21, 23, 0, 0, 0, []), none, none, some (.iconst (-1), 22, 0, 0, 0, (-1), []), some (.ireturn, 23, 0, 0, 0, 0, []), some (.aload_n 0, 24, 0, 0, 0, 0, []), some (.invokevirtual 356, 27, 186, 1, 1, 0, []), none, none, some (.iload_n 2, 28, 0, 0, 0, 0, []), some (.iconst (-1), 29, 0, 0, 0, (-1), []), some (.if_icmp .eq 10, 32, 39, 0, 0, 0, []), none, none, some (.aload_n 0, 33, 0, 0, 0, 0, []), some (.iload_n 1, 34, 0, 0, 0, 0, []), some (.iload_n 2, 35, 0, 0, 0, 0, []), some (.invokevirtual 412, 38, 218, 3, 1, 1, []), none, none, some (.ireturn, 39, 0, 0, 0, 0, []), some (.iconst 0, 40, 0, 0, 0, 0, []), some (.istore_n 3, 41, 0, 0, 0, 0, []), some (.iconst 1, 42, 0, 0, 0, 1, []), some (.istore 4, 44, 0, 0, 0, 0, []), none, some (.iload 4, 46, 0, 0, 0, 0, []), none, some (.aload_n 0, 47, 0, 0, 0, 0, []), some (.getfield 43, 50, 12, 22, 2, 0, []), none, none, some (.aload_n 0, 51, 0, 0, 0, 0, []), some (.getfield 218, 54, 12, 18, 0, 0, []), none, none, some (.iaload, 55, 0, 0, 0, 0, []), some (.if_icmp .gt 31, 58, 86, 0, 0, 0, []), none, none, some (.aload_n 0, 59, 0, 0, 0, 0, []), some (.iload_n 1, 60, 0, 0, 0, 0, []), some (.iload 4, 62, 0, 0, 0, 0, []), none, some (.invokevirtual 412, 65, 218, 3, 1, 1, []), none, none, some (.istore 5, 67, 0, 0, 0, 0, []), none, some (.iload 5, 69, 0, 0, 0, 0, []), none, some (.ifCond .ge 6, 72, 75, 0, 0, 0, []), none, none, some (.bipush (-2), 74, 0, 0, 0, (-2), []), none, some (.ireturn, 75, 0, 0, 0, 0, []), some (.iload_n 3, 76, 0, 0, 0, 0, []), some (.iload 5, 78, 0, 0, 0, 0, []), none, some (.iadd, 79, 0, 0, 0, 0, []), some (.istore_n 3, 80, 0, 0, 0, 0, []), some (.iinc 4 1, 83, 0, 0, 0, 1, []), none, none, some (.goto (-39), 86, 44, 0, 0, 0, []), none, none, some (.iload_n 3, 87, 0, 0, 0, 0, []), some (.ireturn, 88, 0, 0, 0, 0, [])]
def cdX12_allThrough : List (Option AmE) := [some (.iconst 0, 1, 0, 0, 0, 0, []), some (.istore_n 2, 2, 0, 0, 0, 0, []), some (.iload_n 2, 3, 0, 0, 0, 0, []), some (.aload_n 0, 4, 0, 0, 0, 0, []), some (.invokevirtual 302, 7, 181, 1, 1, 1, []), none, none, some (.if_icmp .ge 28, 10, 35, 0, 0, 0, []), none, none, some (.iload_n 1, 11, 0, 0, 0, 0, []), some (.iload_n 2, 12, 0, 0, 0, 0, []), some (.ishr, 13, 0, 0, 0, 0, []), some (.iconst 1, 14, 0, 0, 0, 1, []), some (.iand, 15, 0, 0, 0, 0, []), some (.iconst 1, 16, 0, 0, 0, 1, []), some (.if_icmp .ne 13, 19, 29, 0, 0, 0, []), none, none, some (.aload_n 0, 20, 0, 0, 0, 0, []), some (.iload_n 2, 21, 0, 0, 0, 0, []), some (.invokevirtual 362, 24, 195, 2, 1, 1, []), none, none, some (.ifCond .eq 5, 27, 29, 0, 0, 0, []), none, none, some (.iconst 0, 28, 0, 0, 0, 0, []), some (.ireturn, 29, 0, 0, 3, 0, []), some (.iinc 2 1, 32, 0, 0, 0, 1, []), none, none, some (.goto (-30), 35, 2, 0, 0, 0, []), none, none, some (.iconst 1, 36, 0, 0, 0, 1, []), some (.ireturn, 37, 0, 0, 3, 0, [])]
def cdX12_bears : List (Option AmE) := [some (.aload_n 0, 1, 0, 0, 0, 0, []), some (.iload_n 1, 2, 0, 0, 0, 0, []), some (.invokevirtual 387, 5, 208, 2, 1, 1, []), none, none, some (.ifCond .ne 5, 8, 10, 0, 0, 0, []), none, none, some (.iconst (-1), 9, 0, 0, 0, (-1), []), some (.ireturn, 10, 0, 0, 0, 0, []), some (.aload_n 0, 11, 0, 0, 0, 0, []), some (.invokevirtual 356, 14, 186, 1, 1, 0, []), none, none, some (.aload_n 0, 15, 0, 0, 0, 0, []), some (.iload_n 1, 16, 0, 0, 0, 0, []), some (.invokevirtual 415, 19, 220, 2, 1, 1, []), none, none, some (.ifCond .eq 7, 22, 26, 0, 0, 0, []), none, none, some (.iconst 1, 23, 0, 0, 0, 1, []), some (.goto 4, 26, 27, 0, 0, 0, []), none, none, some (.iconst 0, 27, 0, 0, 0, 0, []), some (.ireturn, 28, 0, 0, 0, 0, [])]
def cdX12_choose : List (Option AmE) := [some (.lconst 1, 1, 0, 0, 0, 1, []), some (.lstore_n 2, 2, 0, 0, 0, 0, []), some (.iconst 1, 3, 0, 0, 0, 1, []), some (.istore 4, 5, 0, 0, 0, 0, []), none, some (.iload 4, 7, 0, 0, 0, 0, []), none, some (.iload_n 1, 8, 0, 0, 0, 0, []), some (.if_icmp .gt 23, 11, 31, 0, 0, 0, []), none, none, some (.lload_n 2, 12, 0, 0, 0, 0, []), some (.iload_n 0, 13, 0, 0, 0, 0, []), some (.iload_n 1, 14, 0, 0, 0, 0, []), some (.isub, 15, 0, 0, 0, 0, []), some (.iload 4, 17, 0, 0, 0, 0, []), none, some (.iadd, 18, 0, 0, 0, 0, []), some (.i2l, 19, 0, 0, 0, 0, []), some (.lmul, 20, 0, 0, 0, 0, []), some (.iload 4, 22, 0, 0, 0, 0, []), none, some (.i2l, 23, 0, 0, 0, 0, []), some (.ldiv, 24, 0, 0, 0, 0, []), some (.lstore_n 2, 25, 0, 0, 0, 0, []), some (.iinc 4 1, 28, 0, 0, 0, 1, []), none, none, some (.goto (-23), 31, 5, 0, 0, 0, []), none, none, some (.lload_n 2, 32, 0, 0, 0, 0, []), some (.lreturn, 33, 0, 0, 0, 0, [])]
def cdX12_odds : List (Option AmE) := [some (.aload_n 0, 1, 0, 0, 0, 0, []), some (.iload_n 1, 2, 0, 0, 0, 0, []), some (.invokevirtual 387, 5, 208, 2, 1, 1, []), none, none, some (.ifCond .eq 45, 8, 50, 0, 0, 0, []), none, none, some (.iload_n 2, 9, 0, 0, 0, 0, []), some (.iconst 0, 10, 0, 0, 0, 0, []), some (.bipush 9, 12, 0, 0, 0, 9, []), none, some (.invokestatic 298, 15, 179, 3, 0, 1, []), none, none, some (.ifCond .eq 35, 18, 50, 0, 0, 0, []), none, none, some (.iload_n 3, 19, 0, 0, 0, 0, []), some (.iconst 0, 20, 0, 0, 0, 0, []), some (.bipush 12, 22, 0, 0, 0, 12, []), none, some (.invokestatic 298, 25, 179, 3, 0, 1, []), none, none, some (.ifCond .eq 25, 28, 50, 0, 0, 0, []), none, none, some (.iload 5, 30, 0, 0, 0, 0, []), none, some (.iconst 1, 31, 0, 0, 0, 1, []), some (.bipush 9, 33, 0, 0, 0, 9, []), none, some (.invokestatic 298, 36, 179, 3, 0, 1, []), none, none, some (.ifCond .eq 14, 39, 50, 0, 0, 0, []), none, none, some (.iload 4, 41, 0, 0, 0, 0, []), none, some (.iconst 0, 42, 0, 0, 0, 0, []), some (.iload 5, 44, 0, 0, 0, 0, []), none, some (.invokestatic 298, 47, 179, 3, 0, 1, []), none, none, some (.ifCond .ne 7, 50, 54, 0, 0, 0, []), none, none, some (.ldc2_w 418, 53, 0, 0, 0, (-1), []), none, none, some (.lreturn, 54, 0, 0, 0, 0, []), some (.lconst 0, 55, 0, 0, 0, 0, []), some (.lstore 6, 57, 0, 0, 0, 0, []), none, some (.iconst 0, 58, 0, 0, 0, 0, []), some (.istore 8, 60, 0, 0, 0, 0, []), none, some (.iload 8, 62, 0, 0, 0, 0, []), none, some (.iload_n 3, 63, 0, 0, 0, 0, []), some (.if_icmp .gt 149, 66, 212, 0, 0, 0, []), none, none, some (.aload_n 0, 67, 0, 0, 0, 0, []), some (.invokevirtual 356, 70, 186, 1, 1, 0, []), none, none, some (.iconst 1, 71, 0, 0, 0, 1, []), some (.istore 9, 73, 0, 0, 0, 0, []), none, some (.iload 9, 75, 0, 0, 0, 0, []), none, some (.aload_n 0, 76, 0, 0, 0, 0, []), some (.getfield 43, 79, 12, 22, 2, 0, []), none, none, some (.aload_n 0, 80, 0, 0, 0, 0, []), some (.getfield 218, 83, 12, 18, 0, 0, []), none, none, some (.iaload, 84, 0, 0, 0, 0, []), some (.if_icmp .gt 46, 87, 130, 0, 0, 0, []), none, none, some (.aload_n 0, 88, 0, 0, 0, 0, []), some (.getfield 113, 91, 12, 49, 2, 0, []), none, none, some (.iload 9, 93, 0, 0, 0, 0, []), none, some (.aload_n 0, 94, 0, 0, 0, 0, []), some (.getfield 113, 97, 12, 49, 2, 0, []), none, none, some (.iload 9, 99, 0, 0, 0, 0, []), none, some (.iaload, 100, 0, 0, 0, 0, []), some (.iload 8, 102, 0, 0, 0, 0, []), none, some (.iload_n 2, 103, 0, 0, 0, 0, []), some (.imul, 104, 0, 0, 0, 0, []), some (.if_icmp .le 18, 107, 122, 0, 0, 0, []), none, none, some (.aload_n 0, 108, 0, 0, 0, 0, []), some (.getfield 113, 111, 12, 49, 2, 0, []), none, none, some (.iload 9, 113, 0, 0, 0, 0, []), none, some (.iaload, 114, 0, 0, 0, 0, []), some (.iload 8, 116, 0, 0, 0, 0, []), none, some (.iload_n 2, 117, 0, 0, 0, 0, []), some (.imul, 118, 0, 0, 0, 0, []), some (.isub, 119, 0, 0, 0, 0, []), some (.goto 4, 122, 123, 0, 0, 0, []), none, none, some (.iconst 0, 123, 0, 0, 0, 0, []), some (.iastore, 124, 0, 0, 0, 0, []), some (.iinc 9 1, 127, 0, 0, 0, 1, []), none, none, some (.goto (-54), 130, 73, 0, 0, 0, []), none, none, some (.aload_n 0, 131, 0, 0, 0, 0, []), some (.getfield 113, 134, 12, 49, 2, 0, []), none, none, some (.bipush 83, 136, 0, 0, 0, 83, []), none, some (.dup2, 137, 0, 0, 0, 0, []), some (.iaload, 138, 0, 0, 0, 0, []), some (.iload_n 3, 139, 0, 0, 0, 0, []), some (.iadd, 140, 0, 0, 0, 0, []), some (.iastore, 141, 0, 0, 0, 0, []), some (.aload_n 0, 142, 0, 0, 0, 0, []), some (.iload_n 1, 143, 0, 0, 0, 0, []), some (.invokevirtual 415, 146, 220, 2, 1, 1, []), none, none, some (.ifCond .ne 6, 149, 152, 0, 0, 0, []), none, none, some (.goto 57, 152, 206, 0, 0, 0, []), none, none, some (.iload_n 3, 153, 0, 0, 0, 0, []), some (.iload 8, 155, 0, 0, 0, 0, []), none, some (.invokestatic 420, 158, 222, 2, 0, 2, []), none, none, some (.lstore 9, 160, 0, 0, 0, 0, []), none, some (.iconst 0, 161, 0, 0, 0, 0, []), some (.istore 11, 163, 0, 0, 0, 0, []), none, some (.iload 11, 165, 0, 0, 0, 0, []), none, some (.iload_n 3, 166, 0, 0, 0, 0, []), some (.if_icmp .ge 33, 169, 199, 0, 0, 0, []), none, none, some (.lload 9, 171, 0, 0, 0, 0, []), none, some (.iload 11, 173, 0, 0, 0, 0, []), none, some (.iload 8, 175, 0, 0, 0, 0, []), none, some (.if_icmp .ge 9, 178, 184, 0, 0, 0, []), none, none, some (.iload 4, 180, 0, 0, 0, 0, []), none, some (.i2l, 181, 0, 0, 0, 0, []), some (.goto 9, 184, 190, 0, 0, 0, []), none, none, some (.iload 5, 186, 0, 0, 0, 0, []), none, some (.iload 4, 188, 0, 0, 0, 0, []), none, some (.isub, 189, 0, 0, 0, 0, []), some (.i2l, 190, 0, 0, 0, 0, []), some (.lmul, 191, 0, 0, 0, 0, []), some (.lstore 9, 193, 0, 0, 0, 0, []), none, some (.iinc 11 1, 196, 0, 0, 0, 1, []), none, none, some (.goto (-33), 199, 163, 0, 0, 0, []), none, none, some (.lload 6, 201, 0, 0, 0, 0, []), none, some (.lload 9, 203, 0, 0, 0, 0, []), none, some (.ladd, 204, 0, 0, 0, 0, []), some (.lstore 6, 206, 0, 0, 0, 0, []), none, some (.iinc 8 1, 209, 0, 0, 0, 1, []), none, none, some (.goto (-149), 212, 60, 0, 0, 0, []), none, none, some (.lload 6, 214, 0, 0, 0, 0, []), none, some (.lreturn, 215, 0, 0, 0, 0, [])]
def cdX12_marks : List (Option AmE) := [some (.iconst 1, 1, 0, 0, 0, 1, []), some (.istore_n 1, 2, 0, 0, 0, 0, []), some (.iload_n 1, 3, 0, 0, 0, 0, []), some (.aload_n 0, 4, 0, 0, 0, 0, []), some (.getfield 43, 7, 12, 22, 2, 0, []), none, none, some (.aload_n 0, 8, 0, 0, 0, 0, []), some (.getfield 218, 11, 12, 18, 0, 0, []), none, none, some (.iaload, 12, 0, 0, 0, 0, []), some (.if_icmp .gt 29, 15, 41, 0, 0, 0, []), none, none, some (.aload_n 0, 16, 0, 0, 0, 0, []), some (.getfield 125, 19, 12, 63, 2, 0, []), none, none, some (.iload_n 1, 20, 0, 0, 0, 0, []), some (.aload_n 0, 21, 0, 0, 0, 0, []), some (.getfield 113, 24, 12, 49, 2, 0, []), none, none, some (.iload_n 1, 25, 0, 0, 0, 0, []), some (.iaload, 26, 0, 0, 0, 0, []), some (.ifCond .le 7, 29, 33, 0, 0, 0, []), none, none, some (.iconst 1, 30, 0, 0, 0, 1, []), some (.goto 4, 33, 34, 0, 0, 0, []), none, none, some (.iconst 0, 34, 0, 0, 0, 0, []), some (.bastore, 35, 0, 0, 0, 0, []), some (.iinc 1 1, 38, 0, 0, 0, 1, []), none, none, some (.goto (-36), 41, 2, 0, 0, 0, []), none, none, some (.return_, 42, 0, 0, 0, 0, [])]
def cdX12_notes : List (Option AmE) := [some (.aload_n 0, 1, 0, 0, 0, 0, []), some (.getfield 424, 4, 12, 60, 0, 0, []), none, none, some (.ifCond .lt 4, 7, 8, 0, 0, 0, []), none, none, some (.return_, 8, 0, 0, 0, 0, []), some (.iload_n 1, 9, 0, 0, 0, 0, []), some (.ifCond .ge 7, 12, 16, 0, 0, 0, []), none, none, some (.iconst (-1), 13, 0, 0, 0, (-1), []), some (.goto 7, 16, 20, 0, 0, 0, []), none, none, some (.aload_n 0, 17, 0, 0, 0, 0, []), some (.getfield 318, 20, 12, 51, 0, 0, []), none, none, some (.istore_n 2, 21, 0, 0, 0, 0, []), some (.aload_n 0, 22, 0, 0, 0, 0, []), some (.getfield 43, 25, 12, 22, 2, 0, []), none, none, some (.aload_n 0, 26, 0, 0, 0, 0, []), some (.getfield 218, 29, 12, 18, 0, 0, []), none, none, some (.iaload, 30, 0, 0, 0, 0, []), some (.istore_n 3, 31, 0, 0, 0, 0, []), some (.iload_n 3, 32, 0, 0, 0, 0, []), some (.ifCond .le 33, 35, 65, 0, 0, 0, []), none, none, some (.iload_n 1, 36, 0, 0, 0, 0, []), some (.ifCond .ge 29, 39, 65, 0, 0, 0, []), none, none, some (.aload_n 0, 40, 0, 0, 0, 0, []), some (.getfield 125, 43, 12, 63, 2, 0, []), none, none, some (.iload_n 3, 44, 0, 0, 0, 0, []), some (.baload, 45, 0, 0, 0, 0, []), some (.ifCond .eq 14, 48, 59, 0, 0, 0, []), none, none, some (.aload_n 0, 49, 0, 0, 0, 0, []), some (.getfield 113, 52, 12, 49, 2, 0, []), none, none, some (.iload_n 3, 53, 0, 0, 0, 0, []), some (.iaload, 54, 0, 0, 0, 0, []), some (.ifCond .ne 5, 57, 59, 0, 0, 0, []), none, none, some (.iload_n 3, 58, 0, 0, 0, 0, []), some (.istore_n 2, 59, 0, 0, 0, 0, []), some (.iinc 3 (-1), 62, 0, 0, 0, (-1), []), none, none, some (.goto (-31), 65, 31, 0, 0, 0, []), none, none, some (.iload_n 2, 66, 0, 0, 0, 0, []), some (.ifCond .ge 4, 69, 70, 0, 0, 0, []), none, none, some (.return_, 70, 0, 0, 0, 0, []), some (.aload_n 0, 71, 0, 0, 0, 0, []), some (.aload_n 0, 72, 0, 0, 0, 0, []), some (.getfield 113, 75, 12, 49, 2, 0, []), none, none, some (.bipush 83, 77, 0, 0, 0, 83, []), none, some (.iaload, 78, 0, 0, 0, 0, []), some (.putfield 424, 81, 12, 60, 0, 0, []), none, none, some (.aload_n 0, 82, 0, 0, 0, 0, []), some (.iload_n 2, 83, 0, 0, 0, 0, []), some (.putfield 427, 86, 12, 61, 0, 0, []), none, none, some (.aload_n 0, 87, 0, 0, 0, 0, []), some (.iload_n 1, 88, 0, 0, 0, 0, []), some (.putfield 430, 91, 12, 62, 0, 0, []), none, none, some (.return_, 92, 0, 0, 0, 0, [])]
def cdX12_season : List (Option AmE) := [some (.iload_n 1, 1, 0, 0, 0, 0, []), some (.iconst 1, 2, 0, 0, 0, 1, []), some (.bipush 100, 4, 0, 0, 0, 100, []), none, some (.invokestatic 298, 7, 179, 3, 0, 1, []), none, none, some (.ifCond .eq 12, 10, 19, 0, 0, 0, []), none, none, some (.iload_n 2, 11, 0, 0, 0, 0, []), some (.iconst 0, 12, 0, 0, 0, 0, []), some (.iconst 3, 13, 0, 0, 0, 3, []), some (.invokestatic 298, 16, 179, 3, 0, 1, []), none, none, some (.ifCond .ne 5, 19, 21, 0, 0, 0, []), none, none, some (.iconst (-1), 20, 0, 0, 0, (-1), []), some (.ireturn, 21, 0, 0, 0, 0, []), some (.aload_n 0, 22, 0, 0, 0, 0, []), some (.invokevirtual 356, 25, 186, 1, 1, 0, []), none, none, some (.aload_n 0, 26, 0, 0, 0, 0, []), some (.iconst (-1), 27, 0, 0, 0, (-1), []), some (.putfield 424, 30, 12, 60, 0, 0, []), none, none, some (.iconst 0, 31, 0, 0, 0, 0, []), some (.istore_n 3, 32, 0, 0, 0, 0, []), some (.iload_n 3, 33, 0, 0, 0, 0, []), some (.iload_n 1, 34, 0, 0, 0, 0, []), some (.if_icmp .ge 97, 37, 131, 0, 0, 0, []), none, none, some (.iconst 0, 38, 0, 0, 0, 0, []), some (.istore 4, 40, 0, 0, 0, 0, []), none, some (.iload 4, 42, 0, 0, 0, 0, []), none, some (.aload_n 0, 43, 0, 0, 0, 0, []), some (.invokevirtual 302, 46, 181, 1, 1, 1, []), none, none, some (.if_icmp .ge 43, 49, 89, 0, 0, 0, []), none, none, some (.aload_n 0, 50, 0, 0, 0, 0, []), some (.getfield 113, 53, 12, 49, 2, 0, []), none, none, some (.bipush 50, 55, 0, 0, 0, 50, []), none, some (.iload 4, 57, 0, 0, 0, 0, []), none, some (.iadd, 58, 0, 0, 0, 0, []), some (.iaload, 59, 0, 0, 0, 0, []), some (.ifCond .eq 6, 62, 65, 0, 0, 0, []), none, none, some (.goto 21, 65, 83, 0, 0, 0, []), none, none, some (.aload_n 0, 66, 0, 0, 0, 0, []), some (.iconst (-1), 67, 0, 0, 0, (-1), []), some (.putfield 318, 70, 12, 51, 0, 0, []), none, none, some (.aload_n 0, 71, 0, 0, 0, 0, []), some (.iload 4, 73, 0, 0, 0, 0, []), none, some (.invokevirtual 362, 76, 195, 2, 1, 1, []), none, none, some (.pop, 77, 0, 0, 0, 0, []), some (.aload_n 0, 78, 0, 0, 0, 0, []), some (.iload 4, 80, 0, 0, 0, 0, []), none, some (.invokevirtual 433, 83, 225, 2, 1, 0, []), none, none, some (.iinc 4 1, 86, 0, 0, 0, 1, []), none, none, some (.goto (-46), 89, 40, 0, 0, 0, []), none, none, some (.aload_n 0, 90, 0, 0, 0, 0, []), some (.invokevirtual 436, 93, 224, 1, 1, 0, []), none, none, some (.aload_n 0, 94, 0, 0, 0, 0, []), some (.invokevirtual 368, 97, 203, 1, 1, 0, []), none, none, some (.aload_n 0, 98, 0, 0, 0, 0, []), some (.getfield 113, 101, 12, 49, 2, 0, []), none, none, some (.bipush 83, 103, 0, 0, 0, 83, []), none, some (.dup2, 104, 0, 0, 0, 0, []), some (.iaload, 105, 0, 0, 0, 0, []), some (.iconst 1, 106, 0, 0, 0, 1, []), some (.isub, 107, 0, 0, 0, 0, []), some (.iastore, 108, 0, 0, 0, 0, []), some (.aload_n 0, 109, 0, 0, 0, 0, []), some (.bipush (-2), 111, 0, 0, 0, (-2), []), none, some (.invokevirtual 433, 114, 225, 2, 1, 0, []), none, none, some (.aload_n 0, 115, 0, 0, 0, 0, []), some (.getfield 113, 118, 12, 49, 2, 0, []), none, none, some (.bipush 83, 120, 0, 0, 0, 83, []), none, some (.dup2, 121, 0, 0, 0, 0, []), some (.iaload, 122, 0, 0, 0, 0, []), some (.iconst 1, 123, 0, 0, 0, 1, []), some (.iadd, 124, 0, 0, 0, 0, []), some (.iastore, 125, 0, 0, 0, 0, []), some (.iinc 3 1, 128, 0, 0, 0, 1, []), none, none, some (.goto (-96), 131, 32, 0, 0, 0, []), none, none, some (.iload_n 2, 132, 0, 0, 0, 0, []), some (.iconst 3, 133, 0, 0, 0, 3, []), some (.if_icmp .ne 8, 136, 141, 0, 0, 0, []), none, none, some (.aload_n 0, 137, 0, 0, 0, 0, []), some (.invokevirtual 439, 140, 227, 1, 1, 1, []), none, none, some (.ireturn, 141, 0, 0, 0, 0, []), some (.aload_n 0, 142, 0, 0, 0, 0, []), some (.getfield 424, 145, 12, 60, 0, 0, []), none, none, some (.ifCond .ge 6, 148, 151, 0, 0, 0, []), none, none, some (.bipush (-3), 150, 0, 0, 0, (-3), []), none, some (.ireturn, 151, 0, 0, 0, 0, []), some (.iload_n 2, 152, 0, 0, 0, 0, []), some (.ifCond .ne 18, 155, 170, 0, 0, 0, []), none, none, some (.aload_n 0, 156, 0, 0, 0, 0, []), some (.getfield 424, 159, 12, 60, 0, 0, []), none, none, some (.aload_n 0, 160, 0, 0, 0, 0, []), some (.getfield 110, 163, 12, 48, 2, 0, []), none, none, some (.bipush 83, 165, 0, 0, 0, 83, []), none, some (.iaload, 166, 0, 0, 0, 0, []), some (.isub, 167, 0, 0, 0, 0, []), some (.goto 19, 170, 186, 0, 0, 0, []), none, none, some (.iload_n 2, 171, 0, 0, 0, 0, []), some (.iconst 1, 172, 0, 0, 0, 1, []), some (.if_icmp .ne 10, 175, 182, 0, 0, 0, []), none, none, some (.aload_n 0, 176, 0, 0, 0, 0, []), some (.getfield 427, 179, 12, 61, 0, 0, []), none, none, some (.goto 7, 182, 186, 0, 0, 0, []), none, none, some (.aload_n 0, 183, 0, 0, 0, 0, []), some (.getfield 430, 186, 12, 62, 0, 0, []), none, none, some (.ireturn, 187, 0, 0, 0, 0, [])]
def cdX12_stuckNow : List (Option AmE) := [some (.iconst 0, 1, 0, 0, 0, 0, []), some (.istore_n 1, 2, 0, 0, 0, 0, []), some (.iconst 0, 3, 0, 0, 0, 0, []), some (.istore_n 2, 4, 0, 0, 0, 0, []), some (.iload_n 2, 5, 0, 0, 0, 0, []), some (.aload_n 0, 6, 0, 0, 0, 0, []), some (.invokevirtual 302, 9, 181, 1, 1, 1, []), none, none, some (.if_icmp .ge 21, 12, 30, 0, 0, 0, []), none, none, some (.iload_n 1, 13, 0, 0, 0, 0, []), some (.aload_n 0, 14, 0, 0, 0, 0, []), some (.getfield 113, 17, 12, 49, 2, 0, []), none, none, some (.bipush 74, 19, 0, 0, 0, 74, []), none, some (.iload_n 2, 20, 0, 0, 0, 0, []), some (.iadd, 21, 0, 0, 0, 0, []), some (.iaload, 22, 0, 0, 0, 0, []), some (.iadd, 23, 0, 0, 0, 0, []), some (.istore_n 1, 24, 0, 0, 0, 0, []), some (.iinc 2 1, 27, 0, 0, 0, 1, []), none, none, some (.goto (-23), 30, 4, 0, 0, 0, []), none, none, some (.iload_n 1, 31, 0, 0, 0, 0, []), some (.ireturn, 32, 0, 0, 0, 0, [])]
def cdX12_leastFor : List (Option AmE) := [some (.iconst 0, 1, 0, 0, 0, 0, []), some (.istore 4, 3, 0, 0, 0, 0, []), none, some (.aload_n 0, 4, 0, 0, 0, 0, []), some (.getfield 113, 7, 12, 49, 2, 0, []), none, none, some (.iload_n 2, 8, 0, 0, 0, 0, []), some (.iaload, 9, 0, 0, 0, 0, []), some (.iload 4, 11, 0, 0, 0, 0, []), none, some (.iadd, 12, 0, 0, 0, 0, []), some (.aload_n 0, 13, 0, 0, 0, 0, []), some (.getfield 46, 16, 12, 23, 2, 0, []), none, none, some (.bipush 25, 18, 0, 0, 0, 25, []), none, some (.aload_n 0, 19, 0, 0, 0, 0, []), some (.getfield 218, 22, 12, 18, 0, 0, []), none, none, some (.imul, 23, 0, 0, 0, 0, []), some (.iload_n 2, 24, 0, 0, 0, 0, []), some (.iadd, 25, 0, 0, 0, 0, []), some (.iaload, 26, 0, 0, 0, 0, []), some (.if_icmp .gt 32, 29, 58, 0, 0, 0, []), none, none, some (.aload_n 0, 30, 0, 0, 0, 0, []), some (.iload_n 1, 31, 0, 0, 0, 0, []), some (.iload_n 2, 32, 0, 0, 0, 0, []), some (.aload_n 0, 33, 0, 0, 0, 0, []), some (.getfield 113, 36, 12, 49, 2, 0, []), none, none, some (.iload_n 2, 37, 0, 0, 0, 0, []), some (.iaload, 38, 0, 0, 0, 0, []), some (.iload 4, 40, 0, 0, 0, 0, []), none, some (.iadd, 41, 0, 0, 0, 0, []), some (.iconst 0, 42, 0, 0, 0, 0, []), some (.iload_n 3, 43, 0, 0, 0, 0, []), some (.invokevirtual 400, 46, 214, 6, 1, 1, []), none, none, some (.ifCond .lt 6, 49, 52, 0, 0, 0, []), none, none, some (.iload 4, 51, 0, 0, 0, 0, []), none, some (.ireturn, 52, 0, 0, 0, 0, []), some (.iinc 4 1, 55, 0, 0, 0, 1, []), none, none, some (.goto (-52), 58, 3, 0, 0, 0, []), none, none, some (.ldc_w 442, 61, 0, 0, 0, 1000000, []), none, none, some (.ireturn, 62, 0, 0, 0, 0, [])]
def cdX12_rescue : List (Option AmE) := [some (.aload_n 0, 1, 0, 0, 0, 0, []), some (.iload_n 1, 2, 0, 0, 0, 0, []), some (.invokevirtual 353, 5, 183, 2, 1, 1, []), none, none, some (.ifCond .eq 15, 8, 20, 0, 0, 0, []), none, none, some (.aload_n 0, 9, 0, 0, 0, 0, []), some (.getfield 110, 12, 12, 48, 2, 0, []), none, none, some (.bipush 74, 14, 0, 0, 0, 74, []), none, some (.iload_n 1, 15, 0, 0, 0, 0, []), some (.iadd, 16, 0, 0, 0, 0, []), some (.iaload, 17, 0, 0, 0, 0, []), some (.ifCond .ne 5, 20, 22, 0, 0, 0, []), none, none, some (.iconst (-1), 21, 0, 0, 0, (-1), []), some (.ireturn, 22, 0, 0, 0, 0, []), some (.aload_n 0, 23, 0, 0, 0, 0, []), some (.invokevirtual 356, 26, 186, 1, 1, 0, []), none, none, some (.aload_n 0, 27, 0, 0, 0, 0, []), some (.invokevirtual 308, 30, 187, 1, 1, 1, []), none, none, some (.istore_n 2, 31, 0, 0, 0, 0, []), some (.aload_n 0, 32, 0, 0, 0, 0, []), some (.iload_n 1, 33, 0, 0, 0, 0, []), some (.invokevirtual 327, 36, 184, 2, 1, 1, []), none, none, some (.iconst 2, 37, 0, 0, 0, 2, []), some (.if_icmp .ne 7, 40, 44, 0, 0, 0, []), none, none, some (.iconst 1, 41, 0, 0, 0, 1, []), some (.goto 4, 44, 45, 0, 0, 0, []), none, none, some (.iconst 0, 45, 0, 0, 0, 0, []), some (.istore_n 3, 46, 0, 0, 0, 0, []), some (.aload_n 0, 47, 0, 0, 0, 0, []), some (.getfield 128, 50, 12, 64, 2, 0, []), none, none, some (.iconst 0, 51, 0, 0, 0, 0, []), some (.iconst 0, 52, 0, 0, 0, 0, []), some (.iastore, 53, 0, 0, 0, 0, []), some (.iconst 1, 54, 0, 0, 0, 1, []), some (.istore 4, 56, 0, 0, 0, 0, []), none, some (.iload 4, 58, 0, 0, 0, 0, []), none, some (.aload_n 0, 59, 0, 0, 0, 0, []), some (.getfield 113, 62, 12, 49, 2, 0, []), none, none, some (.bipush 50, 64, 0, 0, 0, 50, []), none, some (.iload_n 1, 65, 0, 0, 0, 0, []), some (.iadd, 66, 0, 0, 0, 0, []), some (.iaload, 67, 0, 0, 0, 0, []), some (.if_icmp .gt 160, 70, 227, 0, 0, 0, []), none, none, some (.iload 4, 72, 0, 0, 0, 0, []), none, some (.iconst 1, 73, 0, 0, 0, 1, []), some (.if_icmp .eq 13, 76, 86, 0, 0, 0, []), none, none, some (.iload_n 3, 77, 0, 0, 0, 0, []), some (.ifCond .eq 13, 80, 90, 0, 0, 0, []), none, none, some (.iload 4, 82, 0, 0, 0, 0, []), none, some (.iconst 2, 83, 0, 0, 0, 2, []), some (.if_icmp .ne 7, 86, 90, 0, 0, 0, []), none, none, some (.iconst 0, 87, 0, 0, 0, 0, []), some (.goto 23, 90, 110, 0, 0, 0, []), none, none, some (.aload_n 0, 91, 0, 0, 0, 0, []), some (.iload_n 1, 92, 0, 0, 0, 0, []), some (.iload 4, 94, 0, 0, 0, 0, []), none, some (.iconst 1, 95, 0, 0, 0, 1, []), some (.isub, 96, 0, 0, 0, 0, []), some (.iload_n 2, 97, 0, 0, 0, 0, []), some (.invokevirtual 443, 100, 228, 4, 1, 1, []), none, none, some (.aload_n 0, 101, 0, 0, 0, 0, []), some (.getfield 128, 104, 12, 64, 2, 0, []), none, none, some (.iload 4, 106, 0, 0, 0, 0, []), none, some (.iconst 1, 107, 0, 0, 0, 1, []), some (.isub, 108, 0, 0, 0, 0, []), some (.iaload, 109, 0, 0, 0, 0, []), some (.iadd, 110, 0, 0, 0, 0, []), some (.istore 5, 112, 0, 0, 0, 0, []), none, some (.iload_n 3, 113, 0, 0, 0, 0, []), some (.ifCond .eq 9, 116, 122, 0, 0, 0, []), none, none, some (.iload 4, 118, 0, 0, 0, 0, []), none, some (.iconst 3, 119, 0, 0, 0, 3, []), some (.if_icmp .ge 29, 122, 148, 0, 0, 0, []), none, none, some (.aload_n 0, 123, 0, 0, 0, 0, []), some (.getfield 128, 126, 12, 64, 2, 0, []), none, none, some (.iload 4, 128, 0, 0, 0, 0, []), none, some (.iload 5, 130, 0, 0, 0, 0, []), none, some (.ldc_w 442, 133, 0, 0, 0, 1000000, []), none, none, some (.if_icmp .ge 8, 136, 141, 0, 0, 0, []), none, none, some (.iload 5, 138, 0, 0, 0, 0, []), none, some (.goto 6, 141, 144, 0, 0, 0, []), none, none, some (.ldc_w 442, 144, 0, 0, 0, 1000000, []), none, none, some (.iastore, 145, 0, 0, 0, 0, []), some (.goto 76, 148, 221, 0, 0, 0, []), none, none, some (.aload_n 0, 149, 0, 0, 0, 0, []), some (.iload_n 1, 150, 0, 0, 0, 0, []), some (.iload 4, 152, 0, 0, 0, 0, []), none, some (.iconst 2, 153, 0, 0, 0, 2, []), some (.isub, 154, 0, 0, 0, 0, []), some (.iload_n 2, 155, 0, 0, 0, 0, []), some (.invokevirtual 443, 158, 228, 4, 1, 1, []), none, none, some (.aload_n 0, 159, 0, 0, 0, 0, []), some (.getfield 128, 162, 12, 64, 2, 0, []), none, none, some (.iload 4, 164, 0, 0, 0, 0, []), none, some (.iconst 2, 165, 0, 0, 0, 2, []), some (.isub, 166, 0, 0, 0, 0, []), some (.iaload, 167, 0, 0, 0, 0, []), some (.iadd, 168, 0, 0, 0, 0, []), some (.istore 6, 170, 0, 0, 0, 0, []), none, some (.aload_n 0, 171, 0, 0, 0, 0, []), some (.getfield 113, 174, 12, 49, 2, 0, []), none, none, some (.iload 4, 176, 0, 0, 0, 0, []), none, some (.iconst 2, 177, 0, 0, 0, 2, []), some (.isub, 178, 0, 0, 0, 0, []), some (.iaload, 179, 0, 0, 0, 0, []), some (.ifCond .gt 10, 182, 189, 0, 0, 0, []), none, none, some (.iload 6, 184, 0, 0, 0, 0, []), none, some (.iload 5, 186, 0, 0, 0, 0, []), none, some (.if_icmp .ge 8, 189, 194, 0, 0, 0, []), none, none, some (.iload 6, 191, 0, 0, 0, 0, []), none, some (.goto 5, 194, 196, 0, 0, 0, []), none, none, some (.iload 5, 196, 0, 0, 0, 0, []), none, some (.istore 7, 198, 0, 0, 0, 0, []), none, some (.aload_n 0, 199, 0, 0, 0, 0, []), some (.getfield 128, 202, 12, 64, 2, 0, []), none, none, some (.iload 4, 204, 0, 0, 0, 0, []), none, some (.iload 7, 206, 0, 0, 0, 0, []), none, some (.ldc_w 442, 209, 0, 0, 0, 1000000, []), none, none, some (.if_icmp .ge 8, 212, 217, 0, 0, 0, []), none, none, some (.iload 7, 214, 0, 0, 0, 0, []), none, some (.goto 6, 217, 220, 0, 0, 0, []), none, none, some (.ldc_w 442, 220, 0, 0, 0, 1000000, []), none, none, some (.iastore, 221, 0, 0, 0, 0, []), some (.iinc 4 1, 224, 0, 0, 0, 1, []), none, none, some (.goto (-168), 227, 56, 0, 0, 0, []), none, none, some (.aload_n 0, 228, 0, 0, 0, 0, []), some (.getfield 128, 231, 12, 64, 2, 0, []), none, none, some (.aload_n 0, 232, 0, 0, 0, 0, []), some (.getfield 113, 235, 12, 49, 2, 0, []), none, none, some (.bipush 50, 237, 0, 0, 0, 50, []), none, some (.iload_n 1, 238, 0, 0, 0, 0, []), some (.iadd, 239, 0, 0, 0, 0, []), some (.iaload, 240, 0, 0, 0, 0, []), some (.iaload, 241, 0, 0, 0, 0, []), some (.ldc_w 442, 244, 0, 0, 0, 1000000, []), none, none, some (.if_icmp .ne 8, 247, 252, 0, 0, 0, []), none, none, some (.bipush (-2), 249, 0, 0, 0, (-2), []), none, some (.goto 17, 252, 266, 0, 0, 0, []), none, none, some (.aload_n 0, 253, 0, 0, 0, 0, []), some (.getfield 128, 256, 12, 64, 2, 0, []), none, none, some (.aload_n 0, 257, 0, 0, 0, 0, []), some (.getfield 113, 260, 12, 49, 2, 0, []), none, none, some (.bipush 50, 262, 0, 0, 0, 50, []), none, some (.iload_n 1, 263, 0, 0, 0, 0, []), some (.iadd, 264, 0, 0, 0, 0, []), some (.iaload, 265, 0, 0, 0, 0, []), some (.iaload, 266, 0, 0, 0, 0, []), some (.ireturn, 267, 0, 0, 0, 0, [])]
def cdX12_carries : List (Option AmE) := [some (.iconst 1, 1, 0, 0, 0, 1, []), some (.istore_n 2, 2, 0, 0, 0, 0, []), some (.iload_n 2, 3, 0, 0, 0, 0, []), some (.aload_n 0, 4, 0, 0, 0, 0, []), some (.getfield 43, 7, 12, 22, 2, 0, []), none, none, some (.aload_n 0, 8, 0, 0, 0, 0, []), some (.getfield 218, 11, 12, 18, 0, 0, []), none, none, some (.iaload, 12, 0, 0, 0, 0, []), some (.if_icmp .gt 32, 15, 44, 0, 0, 0, []), none, none, some (.aload_n 0, 16, 0, 0, 0, 0, []), some (.getfield 113, 19, 12, 49, 2, 0, []), none, none, some (.iload_n 2, 20, 0, 0, 0, 0, []), some (.iaload, 21, 0, 0, 0, 0, []), some (.iconst 1, 22, 0, 0, 0, 1, []), some (.if_icmp .lt 14, 25, 36, 0, 0, 0, []), none, none, some (.aload_n 0, 26, 0, 0, 0, 0, []), some (.iconst 0, 27, 0, 0, 0, 0, []), some (.iload_n 1, 28, 0, 0, 0, 0, []), some (.iload_n 2, 29, 0, 0, 0, 0, []), some (.iconst 1, 30, 0, 0, 0, 1, []), some (.invokevirtual 334, 33, 189, 5, 1, 1, []), none, none, some (.ifCond .ne 5, 36, 38, 0, 0, 0, []), none, none, some (.iconst 0, 37, 0, 0, 0, 0, []), some (.ireturn, 38, 0, 0, 3, 0, []), some (.iinc 2 1, 41, 0, 0, 0, 1, []), none, none, some (.goto (-39), 44, 2, 0, 0, 0, []), none, none, some (.iconst 1, 45, 0, 0, 0, 1, []), some (.ireturn, 46, 0, 0, 3, 0, [])]
def cdX12_bell : List (Option AmE) := [some (.iload_n 1, 1, 0, 0, 0, 0, []), some (.iconst 1, 2, 0, 0, 0, 1, []), some (.sipush 999, 5, 0, 0, 0, 999, []), none, none, some (.invokestatic 298, 8, 179, 3, 0, 1, []), none, none, some (.ifCond .ne 5, 11, 13, 0, 0, 0, []), none, none, some (.iconst (-1), 12, 0, 0, 0, (-1), []), some (.ireturn, 13, 0, 0, 0, 0, []), some (.iconst 1, 14, 0, 0, 0, 1, []), some (.istore_n 2, 15, 0, 0, 0, 0, []), some (.iload_n 2, 16, 0, 0, 0, 0, []), some (.bipush 9, 18, 0, 0, 0, 9, []), none, some (.if_icmp .ge 102, 21, 120, 0, 0, 0, []), none, none, some (.aload_n 0, 22, 0, 0, 0, 0, []), some (.invokevirtual 356, 25, 186, 1, 1, 0, []), none, none, some (.iconst 0, 26, 0, 0, 0, 0, []), some (.istore_n 3, 27, 0, 0, 0, 0, []), some (.iconst 1, 28, 0, 0, 0, 1, []), some (.istore 4, 30, 0, 0, 0, 0, []), none, some (.iconst 0, 31, 0, 0, 0, 0, []), some (.istore 5, 33, 0, 0, 0, 0, []), none, some (.iload 5, 35, 0, 0, 0, 0, []), none, some (.aload_n 0, 36, 0, 0, 0, 0, []), some (.invokevirtual 302, 39, 181, 1, 1, 1, []), none, none, some (.if_icmp .ge 63, 42, 102, 0, 0, 0, []), none, none, some (.iload 4, 44, 0, 0, 0, 0, []), none, some (.ifCond .eq 58, 47, 102, 0, 0, 0, []), none, none, some (.iload_n 3, 48, 0, 0, 0, 0, []), some (.iload_n 2, 49, 0, 0, 0, 0, []), some (.if_icmp .ge 53, 52, 102, 0, 0, 0, []), none, none, some (.aload_n 0, 53, 0, 0, 0, 0, []), some (.iload 5, 55, 0, 0, 0, 0, []), none, some (.invokevirtual 359, 58, 200, 2, 1, 1, []), none, none, some (.ifCond .ne 6, 61, 64, 0, 0, 0, []), none, none, some (.goto 35, 64, 96, 0, 0, 0, []), none, none, some (.iinc 3 1, 67, 0, 0, 0, 1, []), none, none, some (.aload_n 0, 68, 0, 0, 0, 0, []), some (.aload_n 0, 69, 0, 0, 0, 0, []), some (.getfield 64, 72, 12, 29, 2, 0, []), none, none, some (.bipush 8, 74, 0, 0, 0, 8, []), none, some (.aload_n 0, 75, 0, 0, 0, 0, []), some (.getfield 218, 78, 12, 18, 0, 0, []), none, none, some (.imul, 79, 0, 0, 0, 0, []), some (.iload 5, 81, 0, 0, 0, 0, []), none, some (.iadd, 82, 0, 0, 0, 0, []), some (.iaload, 83, 0, 0, 0, 0, []), some (.iload_n 1, 84, 0, 0, 0, 0, []), some (.iload_n 2, 85, 0, 0, 0, 0, []), some (.iadd, 86, 0, 0, 0, 0, []), some (.iconst 1, 87, 0, 0, 0, 1, []), some (.isub, 88, 0, 0, 0, 0, []), some (.iload_n 2, 89, 0, 0, 0, 0, []), some (.idiv, 90, 0, 0, 0, 0, []), some (.iadd, 91, 0, 0, 0, 0, []), some (.invokevirtual 446, 94, 230, 2, 1, 1, []), none, none, some (.istore 4, 96, 0, 0, 0, 0, []), none, some (.iinc 5 1, 99, 0, 0, 0, 1, []), none, none, some (.goto (-66), 102, 33, 0, 0, 0, []), none, none, some (.iload 4, 104, 0, 0, 0, 0, []), none, some (.ifCond .eq 10, 107, 114, 0, 0, 0, []), none, none, some (.iload_n 3, 108, 0, 0, 0, 0, []), some (.iload_n 2, 109, 0, 0, 0, 0, []), some (.if_icmp .ne 5, 112, 114, 0, 0, 0, []), none, none, some (.iload_n 2, 113, 0, 0, 0, 0, []), some (.ireturn, 114, 0, 0, 0, 0, []), some (.iinc 2 1, 117, 0, 0, 0, 1, []), none, none, some (.goto (-102), 120, 15, 0, 0, 0, []), none, none, some (.bipush (-2), 122, 0, 0, 0, (-2), []), none, some (.ireturn, 123, 0, 0, 0, 0, [])]
def cdX12_fair : List (Option AmE) := [some (.aload_n 0, 1, 0, 0, 0, 0, []), some (.invokevirtual 302, 4, 181, 1, 1, 1, []), none, none, some (.ifCond .ne 6, 7, 10, 0, 0, 0, []), none, none, some (.bipush (-2), 9, 0, 0, 0, (-2), []), none, some (.ireturn, 10, 0, 0, 0, 0, []), some (.aload_n 0, 11, 0, 0, 0, 0, []), some (.getfield 110, 14, 12, 48, 2, 0, []), none, none, some (.bipush 58, 16, 0, 0, 0, 58, []), none, some (.iaload, 17, 0, 0, 0, 0, []), some (.istore_n 1, 18, 0, 0, 0, 0, []), some (.aload_n 0, 19, 0, 0, 0, 0, []), some (.getfield 110, 22, 12, 48, 2, 0, []), none, none, some (.bipush 58, 24, 0, 0, 0, 58, []), none, some (.iaload, 25, 0, 0, 0, 0, []), some (.istore_n 2, 26, 0, 0, 0, 0, []), some (.iconst 1, 27, 0, 0, 0, 1, []), some (.istore_n 3, 28, 0, 0, 0, 0, []), some (.iload_n 3, 29, 0, 0, 0, 0, []), some (.aload_n 0, 30, 0, 0, 0, 0, []), some (.invokevirtual 302, 33, 181, 1, 1, 1, []), none, none, some (.if_icmp .ge 55, 36, 88, 0, 0, 0, []), none, none, some (.aload_n 0, 37, 0, 0, 0, 0, []), some (.getfield 110, 40, 12, 48, 2, 0, []), none, none, some (.bipush 58, 42, 0, 0, 0, 58, []), none, some (.iload_n 3, 43, 0, 0, 0, 0, []), some (.iadd, 44, 0, 0, 0, 0, []), some (.iaload, 45, 0, 0, 0, 0, []), some (.iload_n 1, 46, 0, 0, 0, 0, []), some (.if_icmp .ge 13, 49, 59, 0, 0, 0, []), none, none, some (.aload_n 0, 50, 0, 0, 0, 0, []), some (.getfield 110, 53, 12, 48, 2, 0, []), none, none, some (.bipush 58, 55, 0, 0, 0, 58, []), none, some (.iload_n 3, 56, 0, 0, 0, 0, []), some (.iadd, 57, 0, 0, 0, 0, []), some (.iaload, 58, 0, 0, 0, 0, []), some (.istore_n 1, 59, 0, 0, 0, 0, []), some (.aload_n 0, 60, 0, 0, 0, 0, []), some (.getfield 110, 63, 12, 48, 2, 0, []), none, none, some (.bipush 58, 65, 0, 0, 0, 58, []), none, some (.iload_n 3, 66, 0, 0, 0, 0, []), some (.iadd, 67, 0, 0, 0, 0, []), some (.iaload, 68, 0, 0, 0, 0, []), some (.iload_n 2, 69, 0, 0, 0, 0, []), some (.if_icmp .le 13, 72, 82, 0, 0, 0, []), none, none, some (.aload_n 0, 73, 0, 0, 0, 0, []), some (.getfield 110, 76, 12, 48, 2, 0, []), none, none, some (.bipush 58, 78, 0, 0, 0, 58, []), none, some (.iload_n 3, 79, 0, 0, 0, 0, []), some (.iadd, 80, 0, 0, 0, 0, []), some (.iaload, 81, 0, 0, 0, 0, []), some (.istore_n 2, 82, 0, 0, 0, 0, []), some (.iinc 3 1, 85, 0, 0, 0, 1, []), none, none, some (.goto (-57), 88, 28, 0, 0, 0, []), none, none, some (.iload_n 2, 89, 0, 0, 0, 0, []), some (.iload_n 1, 90, 0, 0, 0, 0, []), some (.isub, 91, 0, 0, 0, 0, []), some (.ireturn, 92, 0, 0, 0, 0, [])]
def cdX12_tell_ : List (Option AmE) := [some (.aload_n 0, 1, 0, 0, 0, 0, []), some (.getfield 242, 4, 12, 65, 0, 0, []), none, none, some (.bipush 30, 6, 0, 0, 0, 30, []), none, some (.if_icmp .eq 21, 9, 27, 0, 0, 0, []), none, none, some (.aload_n 0, 10, 0, 0, 0, 0, []), some (.iload_n 1, 11, 0, 0, 0, 0, []), some (.invokevirtual 350, 14, 182, 2, 1, 1, []), none, none, some (.ifCond .eq 13, 17, 27, 0, 0, 0, []), none, none, some (.iload_n 2, 18, 0, 0, 0, 0, []), some (.iconst 0, 19, 0, 0, 0, 0, []), some (.bipush 99, 21, 0, 0, 0, 99, []), none, some (.invokestatic 298, 24, 179, 3, 0, 1, []), none, none, some (.ifCond .ne 5, 27, 29, 0, 0, 0, []), none, none, some (.iconst (-1), 28, 0, 0, 0, (-1), []), some (.ireturn, 29, 0, 0, 0, 0, []), some (.aload_n 0, 30, 0, 0, 0, 0, []), some (.getfield 131, 33, 12, 66, 2, 0, []), none, none, some (.aload_n 0, 34, 0, 0, 0, 0, []), some (.getfield 242, 37, 12, 65, 0, 0, []), none, none, some (.iload_n 1, 38, 0, 0, 0, 0, []), some (.iastore, 39, 0, 0, 0, 0, []), some (.aload_n 0, 40, 0, 0, 0, 0, []), some (.getfield 134, 43, 12, 67, 2, 0, []), none, none, some (.aload_n 0, 44, 0, 0, 0, 0, []), some (.getfield 242, 47, 12, 65, 0, 0, []), none, none, some (.iload_n 2, 48, 0, 0, 0, 0, []), some (.iastore, 49, 0, 0, 0, 0, []), some (.aload_n 0, 50, 0, 0, 0, 0, []), some (.dup, 51, 0, 0, 0, 0, []), some (.getfield 242, 54, 12, 65, 0, 0, []), none, none, some (.iconst 1, 55, 0, 0, 0, 1, []), some (.iadd, 56, 0, 0, 0, 0, []), some (.putfield 242, 59, 12, 65, 0, 0, []), none, none, some (.aload_n 0, 60, 0, 0, 0, 0, []), some (.getfield 242, 63, 12, 65, 0, 0, []), none, none, some (.iconst 1, 64, 0, 0, 0, 1, []), some (.isub, 65, 0, 0, 0, 0, []), some (.ireturn, 66, 0, 0, 0, 0, [])]
def cdX12_forget : List (Option AmE) := [some (.aload_n 0, 1, 0, 0, 0, 0, []), some (.getfield 242, 4, 12, 65, 0, 0, []), none, none, some (.istore_n 1, 5, 0, 0, 0, 0, []), some (.aload_n 0, 6, 0, 0, 0, 0, []), some (.iconst 0, 7, 0, 0, 0, 0, []), some (.putfield 242, 10, 12, 65, 0, 0, []), none, none, some (.iload_n 1, 11, 0, 0, 0, 0, []), some (.ireturn, 12, 0, 0, 0, 0, [])]
def cdX12_isFit : List (Option AmE) := [some (.aload_n 0, 1, 0, 0, 0, 0, []), some (.invokevirtual 236, 4, 185, 1, 1, 0, []), none, none, some (.iconst 0, 5, 0, 0, 0, 0, []), some (.istore_n 3, 6, 0, 0, 0, 0, []), some (.iload_n 3, 7, 0, 0, 0, 0, []), some (.aload_n 0, 8, 0, 0, 0, 0, []), some (.invokevirtual 302, 11, 181, 1, 1, 1, []), none, none, some (.if_icmp .ge 24, 14, 35, 0, 0, 0, []), none, none, some (.iload_n 1, 15, 0, 0, 0, 0, []), some (.iload_n 3, 16, 0, 0, 0, 0, []), some (.ishr, 17, 0, 0, 0, 0, []), some (.iconst 1, 18, 0, 0, 0, 1, []), some (.iand, 19, 0, 0, 0, 0, []), some (.iconst 1, 20, 0, 0, 0, 1, []), some (.if_icmp .ne 9, 23, 29, 0, 0, 0, []), none, none, some (.aload_n 0, 24, 0, 0, 0, 0, []), some (.iload_n 3, 25, 0, 0, 0, 0, []), some (.invokevirtual 362, 28, 195, 2, 1, 1, []), none, none, some (.pop, 29, 0, 0, 0, 0, []), some (.iinc 3 1, 32, 0, 0, 0, 1, []), none, none, some (.goto (-26), 35, 6, 0, 0, 0, []), none, none, some (.iconst 0, 36, 0, 0, 0, 0, []), some (.istore_n 3, 37, 0, 0, 0, 0, []), some (.iload_n 3, 38, 0, 0, 0, 0, []), some (.iload_n 2, 39, 0, 0, 0, 0, []), some (.if_icmp .ge 31, 42, 70, 0, 0, 0, []), none, none, some (.aload_n 0, 43, 0, 0, 0, 0, []), some (.getfield 113, 46, 12, 49, 2, 0, []), none, none, some (.aload_n 0, 47, 0, 0, 0, 0, []), some (.getfield 131, 50, 12, 66, 2, 0, []), none, none, some (.iload_n 3, 51, 0, 0, 0, 0, []), some (.iaload, 52, 0, 0, 0, 0, []), some (.iaload, 53, 0, 0, 0, 0, []), some (.aload_n 0, 54, 0, 0, 0, 0, []), some (.getfield 134, 57, 12, 67, 2, 0, []), none, none, some (.iload_n 3, 58, 0, 0, 0, 0, []), some (.iaload, 59, 0, 0, 0, 0, []), some (.if_icmp .eq 5, 62, 64, 0, 0, 0, []), none, none, some (.iconst 0, 63, 0, 0, 0, 0, []), some (.ireturn, 64, 0, 0, 3, 0, []), some (.iinc 3 1, 67, 0, 0, 0, 1, []), none, none, some (.goto (-30), 70, 37, 0, 0, 0, []), none, none, some (.iconst 1, 71, 0, 0, 0, 1, []), some (.ireturn, 72, 0, 0, 3, 0, [])]
def cdX12_fillsWalkers : List (Option AmE) := [some (.aload_n 0, 1, 0, 0, 0, 0, []), some (.iconst 0, 2, 0, 0, 0, 0, []), some (.putfield 449, 5, 12, 69, 0, 0, []), none, none, some (.iconst 0, 6, 0, 0, 0, 0, []), some (.istore_n 2, 7, 0, 0, 0, 0, []), some (.iload_n 2, 8, 0, 0, 0, 0, []), some (.iconst 1, 9, 0, 0, 0, 1, []), some (.aload_n 0, 10, 0, 0, 0, 0, []), some (.invokevirtual 302, 13, 181, 1, 1, 1, []), none, none, some (.ishl, 14, 0, 0, 0, 0, []), some (.if_icmp .ge 41, 17, 55, 0, 0, 0, []), none, none, some (.aload_n 0, 18, 0, 0, 0, 0, []), some (.iload_n 2, 19, 0, 0, 0, 0, []), some (.iload_n 1, 20, 0, 0, 0, 0, []), some (.invokevirtual 452, 23, 235, 3, 1, 1, []), none, none, some (.ifCond .ne 6, 26, 29, 0, 0, 0, []), none, none, some (.goto 23, 29, 49, 0, 0, 0, []), none, none, some (.aload_n 0, 30, 0, 0, 0, 0, []), some (.getfield 137, 33, 12, 68, 2, 0, []), none, none, some (.aload_n 0, 34, 0, 0, 0, 0, []), some (.getfield 449, 37, 12, 69, 0, 0, []), none, none, some (.iload_n 2, 38, 0, 0, 0, 0, []), some (.iastore, 39, 0, 0, 0, 0, []), some (.aload_n 0, 40, 0, 0, 0, 0, []), some (.dup, 41, 0, 0, 0, 0, []), some (.getfield 449, 44, 12, 69, 0, 0, []), none, none, some (.iconst 1, 45, 0, 0, 0, 1, []), some (.iadd, 46, 0, 0, 0, 0, []), some (.putfield 449, 49, 12, 69, 0, 0, []), none, none, some (.iinc 2 1, 52, 0, 0, 0, 1, []), none, none, some (.goto (-45), 55, 7, 0, 0, 0, []), none, none, some (.return_, 56, 0, 0, 0, 0, [])]
def cdX12_fits : List (Option AmE) := [some (.iload_n 1, 1, 0, 0, 0, 0, []), some (.iconst 0, 2, 0, 0, 0, 0, []), some (.aload_n 0, 3, 0, 0, 0, 0, []), some (.getfield 242, 6, 12, 65, 0, 0, []), none, none, some (.invokestatic 298, 9, 179, 3, 0, 1, []), none, none, some (.ifCond .ne 5, 12, 14, 0, 0, 0, []), none, none, some (.iconst (-1), 13, 0, 0, 0, (-1), []), some (.ireturn, 14, 0, 0, 0, 0, []), some (.aload_n 0, 15, 0, 0, 0, 0, []), some (.iload_n 1, 16, 0, 0, 0, 0, []), some (.invokevirtual 455, 19, 236, 2, 1, 0, []), none, none, some (.aload_n 0, 20, 0, 0, 0, 0, []), some (.getfield 449, 23, 12, 69, 0, 0, []), none, none, some (.ireturn, 24, 0, 0, 0, 0, [])]
def cdX12_walkers : List (Option AmE) := [some (.iload_n 1, 1, 0, 0, 0, 0, []), some (.iconst 0, 2, 0, 0, 0, 0, []), some (.aload_n 0, 3, 0, 0, 0, 0, []), some (.getfield 242, 6, 12, 65, 0, 0, []), none, none, some (.invokestatic 298, 9, 179, 3, 0, 1, []), none, none, some (.ifCond .ne 5, 12, 14, 0, 0, 0, []), none, none, some (.iconst (-1), 13, 0, 0, 0, (-1), []), some (.ireturn, 14, 0, 0, 0, 0, []), some (.aload_n 0, 15, 0, 0, 0, 0, []), some (.iload_n 1, 16, 0, 0, 0, 0, []), some (.invokevirtual 455, 19, 236, 2, 1, 0, []), none, none, some (.iload_n 2, 20, 0, 0, 0, 0, []), some (.iconst 0, 21, 0, 0, 0, 0, []), some (.aload_n 0, 22, 0, 0, 0, 0, []), some (.getfield 449, 25, 12, 69, 0, 0, []), none, none, some (.iconst 1, 26, 0, 0, 0, 1, []), some (.isub, 27, 0, 0, 0, 0, []), some (.invokestatic 298, 30, 179, 3, 0, 1, []), none, none, some (.ifCond .eq 12, 33, 42, 0, 0, 0, []), none, none, some (.aload_n 0, 34, 0, 0, 0, 0, []), some (.getfield 137, 37, 12, 68, 2, 0, []), none, none, some (.iload_n 2, 38, 0, 0, 0, 0, []), some (.iaload, 39, 0, 0, 0, 0, []), some (.goto 4, 42, 43, 0, 0, 0, []), none, none, some (.iconst (-1), 43, 0, 0, 0, (-1), []), some (.ireturn, 44, 0, 0, 0, 0, [])]
def cdX12_who : List (Option AmE) := [some (.iload_n 1, 1, 0, 0, 0, 0, []), some (.iconst 0, 2, 0, 0, 0, 0, []), some (.aload_n 0, 3, 0, 0, 0, 0, []), some (.getfield 242, 6, 12, 65, 0, 0, []), none, none, some (.invokestatic 298, 9, 179, 3, 0, 1, []), none, none, some (.ifCond .ne 5, 12, 14, 0, 0, 0, []), none, none, some (.iconst (-1), 13, 0, 0, 0, (-1), []), some (.ireturn, 14, 0, 0, 0, 0, []), some (.aload_n 0, 15, 0, 0, 0, 0, []), some (.iload_n 1, 16, 0, 0, 0, 0, []), some (.invokevirtual 455, 19, 236, 2, 1, 0, []), none, none, some (.iconst 0, 20, 0, 0, 0, 0, []), some (.istore_n 3, 21, 0, 0, 0, 0, []), some (.aload_n 0, 22, 0, 0, 0, 0, []), some (.getfield 449, 25, 12, 69, 0, 0, []), none, none, some (.ifCond .ne 7, 28, 32, 0, 0, 0, []), none, none, some (.iconst 0, 29, 0, 0, 0, 0, []), some (.goto 6, 32, 35, 0, 0, 0, []), none, none, some (.sipush 255, 35, 0, 0, 0, 255, []), none, none, some (.istore 4, 37, 0, 0, 0, 0, []), none, some (.iconst 0, 38, 0, 0, 0, 0, []), some (.istore 5, 40, 0, 0, 0, 0, []), none, some (.iload 5, 42, 0, 0, 0, 0, []), none, some (.aload_n 0, 43, 0, 0, 0, 0, []), some (.getfield 449, 46, 12, 69, 0, 0, []), none, none, some (.if_icmp .ge 31, 49, 77, 0, 0, 0, []), none, none, some (.iload_n 3, 50, 0, 0, 0, 0, []), some (.aload_n 0, 51, 0, 0, 0, 0, []), some (.getfield 137, 54, 12, 68, 2, 0, []), none, none, some (.iload 5, 56, 0, 0, 0, 0, []), none, some (.iaload, 57, 0, 0, 0, 0, []), some (.ior, 58, 0, 0, 0, 0, []), some (.istore_n 3, 59, 0, 0, 0, 0, []), some (.iload 4, 61, 0, 0, 0, 0, []), none, some (.aload_n 0, 62, 0, 0, 0, 0, []), some (.getfield 137, 65, 12, 68, 2, 0, []), none, none, some (.iload 5, 67, 0, 0, 0, 0, []), none, some (.iaload, 68, 0, 0, 0, 0, []), some (.iand, 69, 0, 0, 0, 0, []), some (.istore 4, 71, 0, 0, 0, 0, []), none, some (.iinc 5 1, 74, 0, 0, 0, 1, []), none, none, some (.goto (-34), 77, 40, 0, 0, 0, []), none, none, some (.iload_n 2, 78, 0, 0, 0, 0, []), some (.ifCond .eq 8, 81, 86, 0, 0, 0, []), none, none, some (.iload 4, 83, 0, 0, 0, 0, []), none, some (.goto 4, 86, 87, 0, 0, 0, []), none, none, some (.iload_n 3, 87, 0, 0, 0, 0, []), some (.ireturn, 88, 0, 0, 0, 0, [])]
def cdX12_hold : List (Option AmE) := [some (.iload_n 1, 1, 0, 0, 0, 0, []), some (.iconst 0, 2, 0, 0, 0, 0, []), some (.iconst 2, 3, 0, 0, 0, 2, []), some (.invokestatic 298, 6, 179, 3, 0, 1, []), none, none, some (.ifCond .ne 5, 9, 11, 0, 0, 0, []), none, none, some (.iconst 0, 10, 0, 0, 0, 0, []), some (.ireturn, 11, 0, 0, 3, 0, []), some (.aload_n 0, 12, 0, 0, 0, 0, []), some (.getfield 140, 15, 12, 70, 2, 0, []), none, none, some (.iload_n 1, 16, 0, 0, 0, 0, []), some (.iconst 1, 17, 0, 0, 0, 1, []), some (.bastore, 18, 0, 0, 0, 0, []), some (.iconst 0, 19, 0, 0, 0, 0, []), some (.istore_n 2, 20, 0, 0, 0, 0, []), some (.iload_n 2, 21, 0, 0, 0, 0, []), some (.bipush 100, 23, 0, 0, 0, 100, []), none, some (.if_icmp .ge 26, 26, 49, 0, 0, 0, []), none, none, some (.aload_n 0, 27, 0, 0, 0, 0, []), some (.getfield 143, 30, 12, 71, 2, 0, []), none, none, some (.bipush 100, 32, 0, 0, 0, 100, []), none, some (.iload_n 1, 33, 0, 0, 0, 0, []), some (.imul, 34, 0, 0, 0, 0, []), some (.iload_n 2, 35, 0, 0, 0, 0, []), some (.iadd, 36, 0, 0, 0, 0, []), some (.aload_n 0, 37, 0, 0, 0, 0, []), some (.getfield 110, 40, 12, 48, 2, 0, []), none, none, some (.iload_n 2, 41, 0, 0, 0, 0, []), some (.iaload, 42, 0, 0, 0, 0, []), some (.iastore, 43, 0, 0, 0, 0, []), some (.iinc 2 1, 46, 0, 0, 0, 1, []), none, none, some (.goto (-26), 49, 20, 0, 0, 0, []), none, none, some (.iconst 1, 50, 0, 0, 0, 1, []), some (.ireturn, 51, 0, 0, 3, 0, [])]
def cdX12_restore : List (Option AmE) := [some (.iload_n 1, 1, 0, 0, 0, 0, []), some (.iconst 0, 2, 0, 0, 0, 0, []), some (.iconst 2, 3, 0, 0, 0, 2, []), some (.invokestatic 298, 6, 179, 3, 0, 1, []), none, none, some (.ifCond .eq 12, 9, 18, 0, 0, 0, []), none, none, some (.aload_n 0, 10, 0, 0, 0, 0, []), some (.getfield 140, 13, 12, 70, 2, 0, []), none, none, some (.iload_n 1, 14, 0, 0, 0, 0, []), some (.baload, 15, 0, 0, 0, 0, []), some (.ifCond .ne 5, 18, 20, 0, 0, 0, []), none, none, some (.iconst 0, 19, 0, 0, 0, 0, []), some (.ireturn, 20, 0, 0, 3, 0, []), some (.iconst 0, 21, 0, 0, 0, 0, []), some (.istore_n 2, 22, 0, 0, 0, 0, []), some (.iload_n 2, 23, 0, 0, 0, 0, []), some (.bipush 100, 25, 0, 0, 0, 100, []), none, some (.if_icmp .ge 26, 28, 51, 0, 0, 0, []), none, none, some (.aload_n 0, 29, 0, 0, 0, 0, []), some (.getfield 110, 32, 12, 48, 2, 0, []), none, none, some (.iload_n 2, 33, 0, 0, 0, 0, []), some (.aload_n 0, 34, 0, 0, 0, 0, []), some (.getfield 143, 37, 12, 71, 2, 0, []), none, none, some (.bipush 100, 39, 0, 0, 0, 100, []), none, some (.iload_n 1, 40, 0, 0, 0, 0, []), some (.imul, 41, 0, 0, 0, 0, []), some (.iload_n 2, 42, 0, 0, 0, 0, []), some (.iadd, 43, 0, 0, 0, 0, []), some (.iaload, 44, 0, 0, 0, 0, []), some (.iastore, 45, 0, 0, 0, 0, []), some (.iinc 2 1, 48, 0, 0, 0, 1, []), none, none, some (.goto (-26), 51, 22, 0, 0, 0, []), none, none, some (.aload_n 0, 52, 0, 0, 0, 0, []), some (.iconst 0, 53, 0, 0, 0, 0, []), some (.putfield 239, 56, 12, 53, 0, 0, []), none, none, some (.iconst 1, 57, 0, 0, 0, 1, []), some (.ireturn, 58, 0, 0, 3, 0, [])]
def cdX12_count : List (Option AmE) := [some (.aload_n 0, 1, 0, 0, 0, 0, []), some (.invokevirtual 356, 4, 186, 1, 1, 0, []), none, none, some (.iload_n 1, 5, 0, 0, 0, 0, []), some (.tableswitch 208 0 11 #[63, 73, 78, 86, 94, 104, 109, 114, 119, 124, 129, 174], 68, 213, 0, 0, 0, [68, 78, 83, 91, 99, 109, 114, 119, 124, 129, 134, 179]), none, none, none, none, none, none, none, none, none, none, none, none, none, none, none, none, none, none, none, none, none, none, none, none, none, none, none, none, none, none, none, none, none, none, none, none, none, none, none, none, none, none, none, none, none, none, none, none, none, none, none, none, none, none, none, none, none, none, none, none, none, none, some (.aload_n 0, 69, 0, 0, 0, 0, []), some (.getfield 43, 72, 12, 22, 2, 0, []), none, none, some (.aload_n 0, 73, 0, 0, 0, 0, []), some (.getfield 218, 76, 12, 18, 0, 0, []), none, none, some (.iaload, 77, 0, 0, 0, 0, []), some (.ireturn, 78, 0, 0, 0, 0, []), some (.aload_n 0, 79, 0, 0, 0, 0, []), some (.invokevirtual 302, 82, 181, 1, 1, 1, []), none, none, some (.ireturn, 83, 0, 0, 0, 0, []), some (.aload_n 0, 84, 0, 0, 0, 0, []), some (.getfield 113, 87, 12, 49, 2, 0, []), none, none, some (.bipush 82, 89, 0, 0, 0, 82, []), none, some (.iaload, 90, 0, 0, 0, 0, []), some (.ireturn, 91, 0, 0, 0, 0, []), some (.aload_n 0, 92, 0, 0, 0, 0, []), some (.getfield 113, 95, 12, 49, 2, 0, []), none, none, some (.bipush 83, 97, 0, 0, 0, 83, []), none, some (.iaload, 98, 0, 0, 0, 0, []), some (.ireturn, 99, 0, 0, 0, 0, []), some (.aload_n 0, 100, 0, 0, 0, 0, []), some (.getfield 49, 103, 12, 24, 2, 0, []), none, none, some (.aload_n 0, 104, 0, 0, 0, 0, []), some (.getfield 218, 107, 12, 18, 0, 0, []), none, none, some (.iaload, 108, 0, 0, 0, 0, []), some (.ireturn, 109, 0, 0, 0, 0, []), some (.aload_n 0, 110, 0, 0, 0, 0, []), some (.invokevirtual 308, 113, 187, 1, 1, 1, []), none, none, some (.ireturn, 114, 0, 0, 0, 0, []), some (.aload_n 0, 115, 0, 0, 0, 0, []), some (.invokevirtual 439, 118, 227, 1, 1, 1, []), none, none, some (.ireturn, 119, 0, 0, 0, 0, []), some (.aload_n 0, 120, 0, 0, 0, 0, []), some (.getfield 242, 123, 12, 65, 0, 0, []), none, none, some (.ireturn, 124, 0, 0, 0, 0, []), some (.aload_n 0, 125, 0, 0, 0, 0, []), some (.getfield 150, 128, 12, 2, 0, 0, []), none, none, some (.ireturn, 129, 0, 0, 0, 0, []), some (.aload_n 0, 130, 0, 0, 0, 0, []), some (.getfield 239, 133, 12, 53, 0, 0, []), none, none, some (.ireturn, 134, 0, 0, 0, 0, []), some (.aload_n 0, 135, 0, 0, 0, 0, []), some (.getfield 140, 138, 12, 70, 2, 0, []), none, none, some (.iconst 0, 139, 0, 0, 0, 0, []), some (.baload, 140, 0, 0, 0, 0, []), some (.ifCond .eq 7, 143, 147, 0, 0, 0, []), none, none, some (.iconst 1, 144, 0, 0, 0, 1, []), some (.goto 4, 147, 148, 0, 0, 0, []), none, none, some (.iconst 0, 148, 0, 0, 0, 0, []), some (.aload_n 0, 149, 0, 0, 0, 0, []), some (.getfield 140, 152, 12, 70, 2, 0, []), none, none, some (.iconst 1, 153, 0, 0, 0, 1, []), some (.baload, 154, 0, 0, 0, 0, []), some (.ifCond .eq 7, 157, 161, 0, 0, 0, []), none, none, some (.iconst 1, 158, 0, 0, 0, 1, []), some (.goto 4, 161, 162, 0, 0, 0, []), none, none, some (.iconst 0, 162, 0, 0, 0, 0, []), some (.iadd, 163, 0, 0, 0, 0, []), some (.aload_n 0, 164, 0, 0, 0, 0, []), some (.getfield 140, 167, 12, 70, 2, 0, []), none, none, some (.iconst 2, 168, 0, 0, 0, 2, []), some (.baload, 169, 0, 0, 0, 0, []), some (.ifCond .eq 7, 172, 176, 0, 0, 0, []), none, none, some (.iconst 1, 173, 0, 0, 0, 1, []), some (.goto 4, 176, 177, 0, 0, 0, []), none, none, some (.iconst 0, 177, 0, 0, 0, 0, []), some (.iadd, 178, 0, 0, 0, 0, []), some (.ireturn, 179, 0, 0, 0, 0, []), some (.iconst 0, 180, 0, 0, 0, 0, []), some (.istore_n 2, 181, 0, 0, 0, 0, []), some (.iconst 1, 182, 0, 0, 0, 1, []), some (.istore_n 3, 183, 0, 0, 0, 0, []), some (.iload_n 3, 184, 0, 0, 0, 0, []), some (.aload_n 0, 185, 0, 0, 0, 0, []), some (.getfield 43, 188, 12, 22, 2, 0, []), none, none, some (.aload_n 0, 189, 0, 0, 0, 0, []), some (.getfield 218, 192, 12, 18, 0, 0, []), none, none, some (.iaload, 193, 0, 0, 0, 0, []), some (.if_icmp .gt 18, 196, 211, 0, 0, 0, []), none, none, some (.iload_n 2, 197, 0, 0, 0, 0, []), some (.aload_n 0, 198, 0, 0, 0, 0, []), some (.getfield 113, 201, 12, 49, 2, 0, []), none, none, some (.iload_n 3, 202, 0, 0, 0, 0, []), some (.iaload, 203, 0, 0, 0, 0, []), some (.iadd, 204, 0, 0, 0, 0, []), some (.istore_n 2, 205, 0, 0, 0, 0, []), some (.iinc 3 1, 208, 0, 0, 0, 1, []), none, none, some (.goto (-25), 211, 183, 0, 0, 0, []), none, none, some (.iload_n 2, 212, 0, 0, 0, 0, []), some (.ireturn, 213, 0, 0, 0, 0, []), some (.iconst (-1), 214, 0, 0, 0, (-1), []), some (.ireturn, 215, 0, 0, 0, 0, [])]
def cdJ6_numberOfLeadingZeros_0f7a4 : List (Option AmE) := [some (.iload_n 0, 1, 0, 0, 0, 0, []), some (.ifCond .gt 14, 4, 15, 0, 0, 0, []), none, none, some (.iload_n 0, 5, 0, 0, 0, 0, []), some (.ifCond .ne 8, 8, 13, 0, 0, 0, []), none, none, some (.bipush 32, 10, 0, 0, 0, 32, []), none, some (.goto 4, 13, 14, 0, 0, 0, []), none, none, some (.iconst 0, 14, 0, 0, 0, 0, []), some (.ireturn, 15, 0, 0, 0, 0, []), some (.bipush 31, 17, 0, 0, 0, 31, []), none, some (.istore_n 1, 18, 0, 0, 0, 0, []), some (.iload_n 0, 19, 0, 0, 0, 0, []), some (.ldc_w 264, 22, 0, 0, 0, 65536, []), none, none, some (.if_icmp .lt 11, 25, 33, 0, 0, 0, []), none, none, some (.iinc 1 (-16), 28, 0, 0, 0, (-16), []), none, none, some (.iload_n 0, 29, 0, 0, 0, 0, []), some (.bipush 16, 31, 0, 0, 0, 16, []), none, some (.iushr, 32, 0, 0, 0, 0, []), some (.istore_n 0, 33, 0, 0, 0, 0, []), some (.iload_n 0, 34, 0, 0, 0, 0, []), some (.sipush 256, 37, 0, 0, 0, 256, []), none, none, some (.if_icmp .lt 11, 40, 48, 0, 0, 0, []), none, none, some (.iinc 1 (-8), 43, 0, 0, 0, (-8), []), none, none, some (.iload_n 0, 44, 0, 0, 0, 0, []), some (.bipush 8, 46, 0, 0, 0, 8, []), none, some (.iushr, 47, 0, 0, 0, 0, []), some (.istore_n 0, 48, 0, 0, 0, 0, []), some (.iload_n 0, 49, 0, 0, 0, 0, []), some (.bipush 16, 51, 0, 0, 0, 16, []), none, some (.if_icmp .lt 10, 54, 61, 0, 0, 0, []), none, none, some (.iinc 1 (-4), 57, 0, 0, 0, (-4), []), none, none, some (.iload_n 0, 58, 0, 0, 0, 0, []), some (.iconst 4, 59, 0, 0, 0, 4, []), some (.iushr, 60, 0, 0, 0, 0, []), some (.istore_n 0, 61, 0, 0, 0, 0, []), some (.iload_n 0, 62, 0, 0, 0, 0, []), some (.iconst 4, 63, 0, 0, 0, 4, []), some (.if_icmp .lt 10, 66, 73, 0, 0, 0, []), none, none, some (.iinc 1 (-2), 69, 0, 0, 0, (-2), []), none, none, some (.iload_n 0, 70, 0, 0, 0, 0, []), some (.iconst 2, 71, 0, 0, 0, 2, []), some (.iushr, 72, 0, 0, 0, 0, []), some (.istore_n 0, 73, 0, 0, 0, 0, []), some (.iload_n 1, 74, 0, 0, 0, 0, []), some (.iload_n 0, 75, 0, 0, 0, 0, []), some (.iconst 1, 76, 0, 0, 0, 1, []), some (.iushr, 77, 0, 0, 0, 0, []), some (.isub, 78, 0, 0, 0, 0, []), some (.ireturn, 79, 0, 0, 0, 0, [])]
def cdJ6_bitCount_0f7a4 : List (Option AmE) := [some (.iload_n 0, 1, 0, 0, 0, 0, []), some (.iload_n 0, 2, 0, 0, 0, 0, []), some (.iconst 1, 3, 0, 0, 0, 1, []), some (.iushr, 4, 0, 0, 0, 0, []), some (.ldc_w 265, 7, 0, 0, 0, 1431655765, []), none, none, some (.iand, 8, 0, 0, 0, 0, []), some (.isub, 9, 0, 0, 0, 0, []), some (.istore_n 0, 10, 0, 0, 0, 0, []), some (.iload_n 0, 11, 0, 0, 0, 0, []), some (.ldc_w 266, 14, 0, 0, 0, 858993459, []), none, none, some (.iand, 15, 0, 0, 0, 0, []), some (.iload_n 0, 16, 0, 0, 0, 0, []), some (.iconst 2, 17, 0, 0, 0, 2, []), some (.iushr, 18, 0, 0, 0, 0, []), some (.ldc_w 266, 21, 0, 0, 0, 858993459, []), none, none, some (.iand, 22, 0, 0, 0, 0, []), some (.iadd, 23, 0, 0, 0, 0, []), some (.istore_n 0, 24, 0, 0, 0, 0, []), some (.iload_n 0, 25, 0, 0, 0, 0, []), some (.iload_n 0, 26, 0, 0, 0, 0, []), some (.iconst 4, 27, 0, 0, 0, 4, []), some (.iushr, 28, 0, 0, 0, 0, []), some (.iadd, 29, 0, 0, 0, 0, []), some (.ldc_w 267, 32, 0, 0, 0, 252645135, []), none, none, some (.iand, 33, 0, 0, 0, 0, []), some (.istore_n 0, 34, 0, 0, 0, 0, []), some (.iload_n 0, 35, 0, 0, 0, 0, []), some (.iload_n 0, 36, 0, 0, 0, 0, []), some (.bipush 8, 38, 0, 0, 0, 8, []), none, some (.iushr, 39, 0, 0, 0, 0, []), some (.iadd, 40, 0, 0, 0, 0, []), some (.istore_n 0, 41, 0, 0, 0, 0, []), some (.iload_n 0, 42, 0, 0, 0, 0, []), some (.iload_n 0, 43, 0, 0, 0, 0, []), some (.bipush 16, 45, 0, 0, 0, 16, []), none, some (.iushr, 46, 0, 0, 0, 0, []), some (.iadd, 47, 0, 0, 0, 0, []), some (.istore_n 0, 48, 0, 0, 0, 0, []), some (.iload_n 0, 49, 0, 0, 0, 0, []), some (.bipush 63, 51, 0, 0, 0, 63, []), none, some (.iand, 52, 0, 0, 0, 0, []), some (.ireturn, 53, 0, 0, 0, 0, [])]
def cdL_law : List (Option AmE) := [some (.new 7, 3, 0, 0, 0, 0, []), none, none, some (.dup, 4, 0, 0, 0, 0, []), some (.invokespecial 9, 7, 0, 0, 0, 0, []), none, none, some (.astore_n 1, 8, 0, 0, 0, 0, []), some (.new 10, 11, 0, 0, 0, 0, []), none, none, some (.dup, 12, 0, 0, 0, 0, []), some (.invokespecial 12, 15, 0, 0, 0, 0, []), none, none, some (.astore_n 2, 16, 0, 0, 0, 0, []), some (.iconst 0, 17, 0, 0, 0, 0, []), some (.istore_n 3, 18, 0, 0, 0, 0, []), some (.iload_n 3, 19, 0, 0, 0, 0, []), some (.aload_n 0, 20, 0, 0, 0, 0, []), some (.arraylength, 21, 0, 0, 0, 0, []), some (.bipush 6, 23, 0, 0, 0, 6, []), none, some (.isub, 24, 0, 0, 0, 0, []), some (.if_icmp .gt 1006, 27, 1030, 0, 0, 0, []), none, none, some (.aload_n 0, 28, 0, 0, 0, 0, []), some (.iload_n 3, 29, 0, 0, 0, 0, []), some (.iaload, 30, 0, 0, 0, 0, []), some (.bipush 31, 32, 0, 0, 0, 31, []), none, some (.iand, 33, 0, 0, 0, 0, []), some (.tableswitch 991 0 28 #[131, 194, 217, 230, 243, 276, 309, 368, 391, 424, 447, 480, 493, 526, 559, 592, 615, 679, 712, 735, 758, 771, 804, 817, 840, 873, 922, 945, 968], 164, 1024, 0, 0, 0, [164, 227, 250, 263, 276, 309, 342, 401, 424, 457, 480, 513, 526, 559, 592, 625, 648, 712, 745, 768, 791, 804, 837, 850, 873, 906, 955, 978, 1001]), none, none, none, none, none, none, none, none, none, none, none, none, none, none, none, none, none, none, none, none, none, none, none, none, none, none, none, none, none, none, none, none, none, none, none, none, none, none, none, none, none, none, none, none, none, none, none, none, none, none, none, none, none, none, none, none, none, none, none, none, none, none, none, none, none, none, none, none, none, none, none, none, none, none, none, none, none, none, none, none, none, none, none, none, none, none, none, none, none, none, none, none, none, none, none, none, none, none, none, none, none, none, none, none, none, none, none, none, none, none, none, none, none, none, none, none, none, none, none, none, none, none, none, none, none, none, none, none, none, none, some (.aload_n 1, 165, 0, 0, 0, 0, []), some (.aload_n 0, 166, 0, 0, 0, 0, []), some (.iload_n 3, 167, 0, 0, 0, 0, []), some (.iconst 1, 168, 0, 0, 0, 1, []), some (.iadd, 169, 0, 0, 0, 0, []), some (.iaload, 170, 0, 0, 0, 0, []), some (.aload_n 0, 171, 0, 0, 0, 0, []), some (.iload_n 3, 172, 0, 0, 0, 0, []), some (.iconst 2, 173, 0, 0, 0, 2, []), some (.iadd, 174, 0, 0, 0, 0, []), some (.iaload, 175, 0, 0, 0, 0, []), some (.aload_n 0, 176, 0, 0, 0, 0, []), some (.iload_n 3, 177, 0, 0, 0, 0, []), some (.iconst 3, 178, 0, 0, 0, 3, []), some (.iadd, 179, 0, 0, 0, 0, []), some (.iaload, 180, 0, 0, 0, 0, []), some (.aload_n 0, 181, 0, 0, 0, 0, []), some (.iload_n 3, 182, 0, 0, 0, 0, []), some (.iconst 4, 183, 0, 0, 0, 4, []), some (.iadd, 184, 0, 0, 0, 0, []), some (.iaload, 185, 0, 0, 0, 0, []), some (.aload_n 0, 186, 0, 0, 0, 0, []), some (.iload_n 3, 187, 0, 0, 0, 0, []), some (.iconst 5, 188, 0, 0, 0, 5, []), some (.iadd, 189, 0, 0, 0, 0, []), some (.iaload, 190, 0, 0, 0, 0, []), some (.invokevirtual 13, 193, 107, 6, 1, 1, []), none, none, some (.aload_n 2, 194, 0, 0, 0, 0, []), some (.aload_n 0, 195, 0, 0, 0, 0, []), some (.iload_n 3, 196, 0, 0, 0, 0, []), some (.iconst 1, 197, 0, 0, 0, 1, []), some (.iadd, 198, 0, 0, 0, 0, []), some (.iaload, 199, 0, 0, 0, 0, []), some (.aload_n 0, 200, 0, 0, 0, 0, []), some (.iload_n 3, 201, 0, 0, 0, 0, []), some (.iconst 2, 202, 0, 0, 0, 2, []), some (.iadd, 203, 0, 0, 0, 0, []), some (.iaload, 204, 0, 0, 0, 0, []), some (.aload_n 0, 205, 0, 0, 0, 0, []), some (.iload_n 3, 206, 0, 0, 0, 0, []), some (.iconst 3, 207, 0, 0, 0, 3, []), some (.iadd, 208, 0, 0, 0, 0, []), some (.iaload, 209, 0, 0, 0, 0, []), some (.aload_n 0, 210, 0, 0, 0, 0, []), some (.iload_n 3, 211, 0, 0, 0, 0, []), some (.iconst 4, 212, 0, 0, 0, 4, []), some (.iadd, 213, 0, 0, 0, 0, []), some (.iaload, 214, 0, 0, 0, 0, []), some (.aload_n 0, 215, 0, 0, 0, 0, []), some (.iload_n 3, 216, 0, 0, 0, 0, []), some (.iconst 5, 217, 0, 0, 0, 5, []), some (.iadd, 218, 0, 0, 0, 0, []), some (.iaload, 219, 0, 0, 0, 0, []), some (.invokevirtual 17, 222, 147, 6, 1, 1, []), none, none, some (.if_icmp .eq 802, 225, 1024, 0, 0, 0, []), none, none, some (.iconst 0, 226, 0, 0, 0, 0, []), some (.ireturn, 227, 0, 0, 3, 0, []), some (.aload_n 1, 228, 0, 0, 0, 0, []), some (.aload_n 0, 229, 0, 0, 0, 0, []), some (.iload_n 3, 230, 0, 0, 0, 0, []), some (.iconst 1, 231, 0, 0, 0, 1, []), some (.iadd, 232, 0, 0, 0, 0, []), some (.iaload, 233, 0, 0, 0, 0, []), some (.invokevirtual 18, 236, 108, 2, 1, 1, []), none, none, some (.aload_n 2, 237, 0, 0, 0, 0, []), some (.aload_n 0, 238, 0, 0, 0, 0, []), some (.iload_n 3, 239, 0, 0, 0, 0, []), some (.iconst 1, 240, 0, 0, 0, 1, []), some (.iadd, 241, 0, 0, 0, 0, []), some (.iaload, 242, 0, 0, 0, 0, []), some (.invokevirtual 22, 245, 149, 2, 1, 1, []), none, none, some (.if_icmp .eq 779, 248, 1024, 0, 0, 0, []), none, none, some (.iconst 0, 249, 0, 0, 0, 0, []), some (.ireturn, 250, 0, 0, 3, 0, []), some (.aload_n 1, 251, 0, 0, 0, 0, []), some (.invokevirtual 23, 254, 109, 1, 1, 1, []), none, none, some (.aload_n 2, 255, 0, 0, 0, 0, []), some (.invokevirtual 27, 258, 163, 1, 1, 1, []), none, none, some (.if_icmp .eq 766, 261, 1024, 0, 0, 0, []), none, none, some (.iconst 0, 262, 0, 0, 0, 0, []), some (.ireturn, 263, 0, 0, 3, 0, []), some (.aload_n 1, 264, 0, 0, 0, 0, []), some (.invokevirtual 28, 267, 110, 1, 1, 1, []), none, none, some (.aload_n 2, 268, 0, 0, 0, 0, []), some (.invokevirtual 31, 271, 164, 1, 1, 1, []), none, none, some (.if_icmp .eq 753, 274, 1024, 0, 0, 0, []), none, none, some (.iconst 0, 275, 0, 0, 0, 0, []), some (.ireturn, 276, 0, 0, 3, 0, []), some (.aload_n 1, 277, 0, 0, 0, 0, []), some (.aload_n 0, 278, 0, 0, 0, 0, []), some (.iload_n 3, 279, 0, 0, 0, 0, []), some (.iconst 1, 280, 0, 0, 0, 1, []), some (.iadd, 281, 0, 0, 0, 0, []), some (.iaload, 282, 0, 0, 0, 0, []), some (.aload_n 0, 283, 0, 0, 0, 0, []), some (.iload_n 3, 284, 0, 0, 0, 0, []), some (.iconst 2, 285, 0, 0, 0, 2, []), some (.iadd, 286, 0, 0, 0, 0, []), some (.iaload, 287, 0, 0, 0, 0, []), some (.invokevirtual 32, 290, 111, 3, 1, 1, []), none, none, some (.aload_n 2, 291, 0, 0, 0, 0, []), some (.aload_n 0, 292, 0, 0, 0, 0, []), some (.iload_n 3, 293, 0, 0, 0, 0, []), some (.iconst 1, 294, 0, 0, 0, 1, []), some (.iadd, 295, 0, 0, 0, 0, []), some (.iaload, 296, 0, 0, 0, 0, []), some (.aload_n 0, 297, 0, 0, 0, 0, []), some (.iload_n 3, 298, 0, 0, 0, 0, []), some (.iconst 2, 299, 0, 0, 0, 2, []), some (.iadd, 300, 0, 0, 0, 0, []), some (.iaload, 301, 0, 0, 0, 0, []), some (.invokevirtual 36, 304, 196, 3, 1, 1, []), none, none, some (.if_icmp .eq 720, 307, 1024, 0, 0, 0, []), none, none, some (.iconst 0, 308, 0, 0, 0, 0, []), some (.ireturn, 309, 0, 0, 3, 0, []), some (.aload_n 1, 310, 0, 0, 0, 0, []), some (.aload_n 0, 311, 0, 0, 0, 0, []), some (.iload_n 3, 312, 0, 0, 0, 0, []), some (.iconst 1, 313, 0, 0, 0, 1, []), some (.iadd, 314, 0, 0, 0, 0, []), some (.iaload, 315, 0, 0, 0, 0, []), some (.aload_n 0, 316, 0, 0, 0, 0, []), some (.iload_n 3, 317, 0, 0, 0, 0, []), some (.iconst 2, 318, 0, 0, 0, 2, []), some (.iadd, 319, 0, 0, 0, 0, []), some (.iaload, 320, 0, 0, 0, 0, []), some (.invokevirtual 37, 323, 112, 3, 1, 1, []), none, none, some (.aload_n 2, 324, 0, 0, 0, 0, []), some (.aload_n 0, 325, 0, 0, 0, 0, []), some (.iload_n 3, 326, 0, 0, 0, 0, []), some (.iconst 1, 327, 0, 0, 0, 1, []), some (.iadd, 328, 0, 0, 0, 0, []), some (.iaload, 329, 0, 0, 0, 0, []), some (.aload_n 0, 330, 0, 0, 0, 0, []), some (.iload_n 3, 331, 0, 0, 0, 0, []), some (.iconst 2, 332, 0, 0, 0, 2, []), some (.iadd, 333, 0, 0, 0, 0, []), some (.iaload, 334, 0, 0, 0, 0, []), some (.invokevirtual 40, 337, 197, 3, 1, 1, []), none, none, some (.if_icmp .eq 687, 340, 1024, 0, 0, 0, []), none, none, some (.iconst 0, 341, 0, 0, 0, 0, []), some (.ireturn, 342, 0, 0, 3, 0, []), some (.aload_n 1, 343, 0, 0, 0, 0, []), some (.aload_n 0, 344, 0, 0, 0, 0, []), some (.iload_n 3, 345, 0, 0, 0, 0, []), some (.iconst 1, 346, 0, 0, 0, 1, []), some (.iadd, 347, 0, 0, 0, 0, []), some (.iaload, 348, 0, 0, 0, 0, []), some (.aload_n 0, 349, 0, 0, 0, 0, []), some (.iload_n 3, 350, 0, 0, 0, 0, []), some (.iconst 2, 351, 0, 0, 0, 2, []), some (.iadd, 352, 0, 0, 0, 0, []), some (.iaload, 353, 0, 0, 0, 0, []), some (.aload_n 0, 354, 0, 0, 0, 0, []), some (.iload_n 3, 355, 0, 0, 0, 0, []), some (.iconst 3, 356, 0, 0, 0, 3, []), some (.iadd, 357, 0, 0, 0, 0, []), some (.iaload, 358, 0, 0, 0, 0, []), some (.ifCond .eq 7, 361, 365, 0, 0, 0, []), none, none, some (.iconst 1, 362, 0, 0, 0, 1, []), some (.goto 4, 365, 366, 0, 0, 0, []), none, none, some (.iconst 0, 366, 0, 0, 0, 0, []), some (.invokevirtual 41, 369, 113, 4, 1, 1, []), none, none, some (.aload_n 2, 370, 0, 0, 0, 0, []), some (.aload_n 0, 371, 0, 0, 0, 0, []), some (.iload_n 3, 372, 0, 0, 0, 0, []), some (.iconst 1, 373, 0, 0, 0, 1, []), some (.iadd, 374, 0, 0, 0, 0, []), some (.iaload, 375, 0, 0, 0, 0, []), some (.aload_n 0, 376, 0, 0, 0, 0, []), some (.iload_n 3, 377, 0, 0, 0, 0, []), some (.iconst 2, 378, 0, 0, 0, 2, []), some (.iadd, 379, 0, 0, 0, 0, []), some (.iaload, 380, 0, 0, 0, 0, []), some (.aload_n 0, 381, 0, 0, 0, 0, []), some (.iload_n 3, 382, 0, 0, 0, 0, []), some (.iconst 3, 383, 0, 0, 0, 3, []), some (.iadd, 384, 0, 0, 0, 0, []), some (.iaload, 385, 0, 0, 0, 0, []), some (.ifCond .eq 7, 388, 392, 0, 0, 0, []), none, none, some (.iconst 1, 389, 0, 0, 0, 1, []), some (.goto 4, 392, 393, 0, 0, 0, []), none, none, some (.iconst 0, 393, 0, 0, 0, 0, []), some (.invokevirtual 45, 396, 198, 4, 1, 1, []), none, none, some (.if_icmp .eq 628, 399, 1024, 0, 0, 0, []), none, none, some (.iconst 0, 400, 0, 0, 0, 0, []), some (.ireturn, 401, 0, 0, 3, 0, []), some (.aload_n 1, 402, 0, 0, 0, 0, []), some (.aload_n 0, 403, 0, 0, 0, 0, []), some (.iload_n 3, 404, 0, 0, 0, 0, []), some (.iconst 1, 405, 0, 0, 0, 1, []), some (.iadd, 406, 0, 0, 0, 0, []), some (.iaload, 407, 0, 0, 0, 0, []), some (.invokevirtual 46, 410, 114, 2, 1, 1, []), none, none, some (.aload_n 2, 411, 0, 0, 0, 0, []), some (.aload_n 0, 412, 0, 0, 0, 0, []), some (.iload_n 3, 413, 0, 0, 0, 0, []), some (.iconst 1, 414, 0, 0, 0, 1, []), some (.iadd, 415, 0, 0, 0, 0, []), some (.iaload, 416, 0, 0, 0, 0, []), some (.invokevirtual 49, 419, 201, 2, 1, 1, []), none, none, some (.if_icmp .eq 605, 422, 1024, 0, 0, 0, []), none, none, some (.iconst 0, 423, 0, 0, 0, 0, []), some (.ireturn, 424, 0, 0, 3, 0, []), some (.aload_n 1, 425, 0, 0, 0, 0, []), some (.aload_n 0, 426, 0, 0, 0, 0, []), some (.iload_n 3, 427, 0, 0, 0, 0, []), some (.iconst 1, 428, 0, 0, 0, 1, []), some (.iadd, 429, 0, 0, 0, 0, []), some (.iaload, 430, 0, 0, 0, 0, []), some (.aload_n 0, 431, 0, 0, 0, 0, []), some (.iload_n 3, 432, 0, 0, 0, 0, []), some (.iconst 2, 433, 0, 0, 0, 2, []), some (.iadd, 434, 0, 0, 0, 0, []), some (.iaload, 435, 0, 0, 0, 0, []), some (.invokevirtual 50, 438, 115, 3, 1, 1, []), none, none, some (.aload_n 2, 439, 0, 0, 0, 0, []), some (.aload_n 0, 440, 0, 0, 0, 0, []), some (.iload_n 3, 441, 0, 0, 0, 0, []), some (.iconst 1, 442, 0, 0, 0, 1, []), some (.iadd, 443, 0, 0, 0, 0, []), some (.iaload, 444, 0, 0, 0, 0, []), some (.aload_n 0, 445, 0, 0, 0, 0, []), some (.iload_n 3, 446, 0, 0, 0, 0, []), some (.iconst 2, 447, 0, 0, 0, 2, []), some (.iadd, 448, 0, 0, 0, 0, []), some (.iaload, 449, 0, 0, 0, 0, []), some (.invokevirtual 53, 452, 202, 3, 1, 1, []), none, none, some (.if_icmp .eq 572, 455, 1024, 0, 0, 0, []), none, none, some (.iconst 0, 456, 0, 0, 0, 0, []), some (.ireturn, 457, 0, 0, 3, 0, []), some (.aload_n 1, 458, 0, 0, 0, 0, []), some (.aload_n 0, 459, 0, 0, 0, 0, []), some (.iload_n 3, 460, 0, 0, 0, 0, []), some (.iconst 1, 461, 0, 0, 0, 1, []), some (.iadd, 462, 0, 0, 0, 0, []), some (.iaload, 463, 0, 0, 0, 0, []), some (.invokevirtual 54, 466, 116, 2, 1, 1, []), none, none, some (.aload_n 2, 467, 0, 0, 0, 0, []), some (.aload_n 0, 468, 0, 0, 0, 0, []), some (.iload_n 3, 469, 0, 0, 0, 0, []), some (.iconst 1, 470, 0, 0, 0, 1, []), some (.iadd, 471, 0, 0, 0, 0, []), some (.iaload, 472, 0, 0, 0, 0, []), some (.invokevirtual 57, 475, 204, 2, 1, 1, []), none, none, some (.if_icmp .eq 549, 478, 1024, 0, 0, 0, []), none, none, some (.iconst 0, 479, 0, 0, 0, 0, []), some (.ireturn, 480, 0, 0, 3, 0, []), some (.aload_n 1, 481, 0, 0, 0, 0, []), some (.aload_n 0, 482, 0, 0, 0, 0, []), some (.iload_n 3, 483, 0, 0, 0, 0, []), some (.iconst 1, 484, 0, 0, 0, 1, []), some (.iadd, 485, 0, 0, 0, 0, []), some (.iaload, 486, 0, 0, 0, 0, []), some (.aload_n 0, 487, 0, 0, 0, 0, []), some (.iload_n 3, 488, 0, 0, 0, 0, []), some (.iconst 2, 489, 0, 0, 0, 2, []), some (.iadd, 490, 0, 0, 0, 0, []), some (.iaload, 491, 0, 0, 0, 0, []), some (.invokevirtual 58, 494, 117, 3, 1, 1, []), none, none, some (.aload_n 2, 495, 0, 0, 0, 0, []), some (.aload_n 0, 496, 0, 0, 0, 0, []), some (.iload_n 3, 497, 0, 0, 0, 0, []), some (.iconst 1, 498, 0, 0, 0, 1, []), some (.iadd, 499, 0, 0, 0, 0, []), some (.iaload, 500, 0, 0, 0, 0, []), some (.aload_n 0, 501, 0, 0, 0, 0, []), some (.iload_n 3, 502, 0, 0, 0, 0, []), some (.iconst 2, 503, 0, 0, 0, 2, []), some (.iadd, 504, 0, 0, 0, 0, []), some (.iaload, 505, 0, 0, 0, 0, []), some (.invokevirtual 61, 508, 205, 3, 1, 1, []), none, none, some (.if_icmp .eq 516, 511, 1024, 0, 0, 0, []), none, none, some (.iconst 0, 512, 0, 0, 0, 0, []), some (.ireturn, 513, 0, 0, 3, 0, []), some (.aload_n 1, 514, 0, 0, 0, 0, []), some (.invokevirtual 62, 517, 118, 1, 1, 1, []), none, none, some (.aload_n 2, 518, 0, 0, 0, 0, []), some (.invokevirtual 66, 521, 206, 1, 1, 1, []), none, none, some (.if_icmp .eq 503, 524, 1024, 0, 0, 0, []), none, none, some (.iconst 0, 525, 0, 0, 0, 0, []), some (.ireturn, 526, 0, 0, 3, 0, []), some (.aload_n 1, 527, 0, 0, 0, 0, []), some (.aload_n 0, 528, 0, 0, 0, 0, []), some (.iload_n 3, 529, 0, 0, 0, 0, []), some (.iconst 1, 530, 0, 0, 0, 1, []), some (.iadd, 531, 0, 0, 0, 0, []), some (.iaload, 532, 0, 0, 0, 0, []), some (.aload_n 0, 533, 0, 0, 0, 0, []), some (.iload_n 3, 534, 0, 0, 0, 0, []), some (.iconst 2, 535, 0, 0, 0, 2, []), some (.iadd, 536, 0, 0, 0, 0, []), some (.iaload, 537, 0, 0, 0, 0, []), some (.invokevirtual 67, 540, 119, 3, 1, 1, []), none, none, some (.aload_n 2, 541, 0, 0, 0, 0, []), some (.aload_n 0, 542, 0, 0, 0, 0, []), some (.iload_n 3, 543, 0, 0, 0, 0, []), some (.iconst 1, 544, 0, 0, 0, 1, []), some (.iadd, 545, 0, 0, 0, 0, []), some (.iaload, 546, 0, 0, 0, 0, []), some (.aload_n 0, 547, 0, 0, 0, 0, []), some (.iload_n 3, 548, 0, 0, 0, 0, []), some (.iconst 2, 549, 0, 0, 0, 2, []), some (.iadd, 550, 0, 0, 0, 0, []), some (.iaload, 551, 0, 0, 0, 0, []), some (.invokevirtual 70, 554, 212, 3, 1, 1, []), none, none, some (.if_icmp .eq 470, 557, 1024, 0, 0, 0, []), none, none, some (.iconst 0, 558, 0, 0, 0, 0, []), some (.ireturn, 559, 0, 0, 3, 0, []), some (.aload_n 1, 560, 0, 0, 0, 0, []), some (.aload_n 0, 561, 0, 0, 0, 0, []), some (.iload_n 3, 562, 0, 0, 0, 0, []), some (.iconst 1, 563, 0, 0, 0, 1, []), some (.iadd, 564, 0, 0, 0, 0, []), some (.iaload, 565, 0, 0, 0, 0, []), some (.aload_n 0, 566, 0, 0, 0, 0, []), some (.iload_n 3, 567, 0, 0, 0, 0, []), some (.iconst 2, 568, 0, 0, 0, 2, []), some (.iadd, 569, 0, 0, 0, 0, []), some (.iaload, 570, 0, 0, 0, 0, []), some (.invokevirtual 71, 573, 120, 3, 1, 1, []), none, none, some (.aload_n 2, 574, 0, 0, 0, 0, []), some (.aload_n 0, 575, 0, 0, 0, 0, []), some (.iload_n 3, 576, 0, 0, 0, 0, []), some (.iconst 1, 577, 0, 0, 0, 1, []), some (.iadd, 578, 0, 0, 0, 0, []), some (.iaload, 579, 0, 0, 0, 0, []), some (.aload_n 0, 580, 0, 0, 0, 0, []), some (.iload_n 3, 581, 0, 0, 0, 0, []), some (.iconst 2, 582, 0, 0, 0, 2, []), some (.iadd, 583, 0, 0, 0, 0, []), some (.iaload, 584, 0, 0, 0, 0, []), some (.invokevirtual 74, 587, 213, 3, 1, 1, []), none, none, some (.if_icmp .eq 437, 590, 1024, 0, 0, 0, []), none, none, some (.iconst 0, 591, 0, 0, 0, 0, []), some (.ireturn, 592, 0, 0, 3, 0, []), some (.aload_n 1, 593, 0, 0, 0, 0, []), some (.aload_n 0, 594, 0, 0, 0, 0, []), some (.iload_n 3, 595, 0, 0, 0, 0, []), some (.iconst 1, 596, 0, 0, 0, 1, []), some (.iadd, 597, 0, 0, 0, 0, []), some (.iaload, 598, 0, 0, 0, 0, []), some (.aload_n 0, 599, 0, 0, 0, 0, []), some (.iload_n 3, 600, 0, 0, 0, 0, []), some (.iconst 2, 601, 0, 0, 0, 2, []), some (.iadd, 602, 0, 0, 0, 0, []), some (.iaload, 603, 0, 0, 0, 0, []), some (.invokevirtual 75, 606, 121, 3, 1, 1, []), none, none, some (.aload_n 2, 607, 0, 0, 0, 0, []), some (.aload_n 0, 608, 0, 0, 0, 0, []), some (.iload_n 3, 609, 0, 0, 0, 0, []), some (.iconst 1, 610, 0, 0, 0, 1, []), some (.iadd, 611, 0, 0, 0, 0, []), some (.iaload, 612, 0, 0, 0, 0, []), some (.aload_n 0, 613, 0, 0, 0, 0, []), some (.iload_n 3, 614, 0, 0, 0, 0, []), some (.iconst 2, 615, 0, 0, 0, 2, []), some (.iadd, 616, 0, 0, 0, 0, []), some (.iaload, 617, 0, 0, 0, 0, []), some (.invokevirtual 78, 620, 219, 3, 1, 1, []), none, none, some (.if_icmp .eq 404, 623, 1024, 0, 0, 0, []), none, none, some (.iconst 0, 624, 0, 0, 0, 0, []), some (.ireturn, 625, 0, 0, 3, 0, []), some (.aload_n 1, 626, 0, 0, 0, 0, []), some (.aload_n 0, 627, 0, 0, 0, 0, []), some (.iload_n 3, 628, 0, 0, 0, 0, []), some (.iconst 1, 629, 0, 0, 0, 1, []), some (.iadd, 630, 0, 0, 0, 0, []), some (.iaload, 631, 0, 0, 0, 0, []), some (.invokevirtual 79, 634, 122, 2, 1, 1, []), none, none, some (.aload_n 2, 635, 0, 0, 0, 0, []), some (.aload_n 0, 636, 0, 0, 0, 0, []), some (.iload_n 3, 637, 0, 0, 0, 0, []), some (.iconst 1, 638, 0, 0, 0, 1, []), some (.iadd, 639, 0, 0, 0, 0, []), some (.iaload, 640, 0, 0, 0, 0, []), some (.invokevirtual 82, 643, 221, 2, 1, 1, []), none, none, some (.if_icmp .eq 381, 646, 1024, 0, 0, 0, []), none, none, some (.iconst 0, 647, 0, 0, 0, 0, []), some (.ireturn, 648, 0, 0, 3, 0, []), some (.aload_n 1, 649, 0, 0, 0, 0, []), some (.aload_n 0, 650, 0, 0, 0, 0, []), some (.iload_n 3, 651, 0, 0, 0, 0, []), some (.iconst 1, 652, 0, 0, 0, 1, []), some (.iadd, 653, 0, 0, 0, 0, []), some (.iaload, 654, 0, 0, 0, 0, []), some (.aload_n 0, 655, 0, 0, 0, 0, []), some (.iload_n 3, 656, 0, 0, 0, 0, []), some (.iconst 2, 657, 0, 0, 0, 2, []), some (.iadd, 658, 0, 0, 0, 0, []), some (.iaload, 659, 0, 0, 0, 0, []), some (.aload_n 0, 660, 0, 0, 0, 0, []), some (.iload_n 3, 661, 0, 0, 0, 0, []), some (.iconst 3, 662, 0, 0, 0, 3, []), some (.iadd, 663, 0, 0, 0, 0, []), some (.iaload, 664, 0, 0, 0, 0, []), some (.aload_n 0, 665, 0, 0, 0, 0, []), some (.iload_n 3, 666, 0, 0, 0, 0, []), some (.iconst 4, 667, 0, 0, 0, 4, []), some (.iadd, 668, 0, 0, 0, 0, []), some (.iaload, 669, 0, 0, 0, 0, []), some (.aload_n 0, 670, 0, 0, 0, 0, []), some (.iload_n 3, 671, 0, 0, 0, 0, []), some (.iconst 5, 672, 0, 0, 0, 5, []), some (.iadd, 673, 0, 0, 0, 0, []), some (.iaload, 674, 0, 0, 0, 0, []), some (.invokevirtual 83, 677, 123, 6, 1, 2, []), none, none, some (.aload_n 2, 678, 0, 0, 0, 0, []), some (.aload_n 0, 679, 0, 0, 0, 0, []), some (.iload_n 3, 680, 0, 0, 0, 0, []), some (.iconst 1, 681, 0, 0, 0, 1, []), some (.iadd, 682, 0, 0, 0, 0, []), some (.iaload, 683, 0, 0, 0, 0, []), some (.aload_n 0, 684, 0, 0, 0, 0, []), some (.iload_n 3, 685, 0, 0, 0, 0, []), some (.iconst 2, 686, 0, 0, 0, 2, []), some (.iadd, 687, 0, 0, 0, 0, []), some (.iaload, 688, 0, 0, 0, 0, []), some (.aload_n 0, 689, 0, 0, 0, 0, []), some (.iload_n 3, 690, 0, 0, 0, 0, []), some (.iconst 3, 691, 0, 0, 0, 3, []), some (.iadd, 692, 0, 0, 0, 0, []), some (.iaload, 693, 0, 0, 0, 0, []), some (.aload_n 0, 694, 0, 0, 0, 0, []), some (.iload_n 3, 695, 0, 0, 0, 0, []), some (.iconst 4, 696, 0, 0, 0, 4, []), some (.iadd, 697, 0, 0, 0, 0, []), some (.iaload, 698, 0, 0, 0, 0, []), some (.aload_n 0, 699, 0, 0, 0, 0, []), some (.iload_n 3, 700, 0, 0, 0, 0, []), some (.iconst 5, 701, 0, 0, 0, 5, []), some (.iadd, 702, 0, 0, 0, 0, []), some (.iaload, 703, 0, 0, 0, 0, []), some (.invokevirtual 87, 706, 223, 6, 1, 2, []), none, none, some (.lcmp, 707, 0, 0, 0, 0, []), some (.ifCond .eq 317, 710, 1024, 0, 0, 0, []), none, none, some (.iconst 0, 711, 0, 0, 0, 0, []), some (.ireturn, 712, 0, 0, 3, 0, []), some (.aload_n 1, 713, 0, 0, 0, 0, []), some (.aload_n 0, 714, 0, 0, 0, 0, []), some (.iload_n 3, 715, 0, 0, 0, 0, []), some (.iconst 1, 716, 0, 0, 0, 1, []), some (.iadd, 717, 0, 0, 0, 0, []), some (.iaload, 718, 0, 0, 0, 0, []), some (.aload_n 0, 719, 0, 0, 0, 0, []), some (.iload_n 3, 720, 0, 0, 0, 0, []), some (.iconst 2, 721, 0, 0, 0, 2, []), some (.iadd, 722, 0, 0, 0, 0, []), some (.iaload, 723, 0, 0, 0, 0, []), some (.invokevirtual 88, 726, 124, 3, 1, 1, []), none, none, some (.aload_n 2, 727, 0, 0, 0, 0, []), some (.aload_n 0, 728, 0, 0, 0, 0, []), some (.iload_n 3, 729, 0, 0, 0, 0, []), some (.iconst 1, 730, 0, 0, 0, 1, []), some (.iadd, 731, 0, 0, 0, 0, []), some (.iaload, 732, 0, 0, 0, 0, []), some (.aload_n 0, 733, 0, 0, 0, 0, []), some (.iload_n 3, 734, 0, 0, 0, 0, []), some (.iconst 2, 735, 0, 0, 0, 2, []), some (.iadd, 736, 0, 0, 0, 0, []), some (.iaload, 737, 0, 0, 0, 0, []), some (.invokevirtual 91, 740, 226, 3, 1, 1, []), none, none, some (.if_icmp .eq 284, 743, 1024, 0, 0, 0, []), none, none, some (.iconst 0, 744, 0, 0, 0, 0, []), some (.ireturn, 745, 0, 0, 3, 0, []), some (.aload_n 1, 746, 0, 0, 0, 0, []), some (.aload_n 0, 747, 0, 0, 0, 0, []), some (.iload_n 3, 748, 0, 0, 0, 0, []), some (.iconst 1, 749, 0, 0, 0, 1, []), some (.iadd, 750, 0, 0, 0, 0, []), some (.iaload, 751, 0, 0, 0, 0, []), some (.invokevirtual 92, 754, 125, 2, 1, 1, []), none, none, some (.aload_n 2, 755, 0, 0, 0, 0, []), some (.aload_n 0, 756, 0, 0, 0, 0, []), some (.iload_n 3, 757, 0, 0, 0, 0, []), some (.iconst 1, 758, 0, 0, 0, 1, []), some (.iadd, 759, 0, 0, 0, 0, []), some (.iaload, 760, 0, 0, 0, 0, []), some (.invokevirtual 95, 763, 229, 2, 1, 1, []), none, none, some (.if_icmp .eq 261, 766, 1024, 0, 0, 0, []), none, none, some (.iconst 0, 767, 0, 0, 0, 0, []), some (.ireturn, 768, 0, 0, 3, 0, []), some (.aload_n 1, 769, 0, 0, 0, 0, []), some (.aload_n 0, 770, 0, 0, 0, 0, []), some (.iload_n 3, 771, 0, 0, 0, 0, []), some (.iconst 1, 772, 0, 0, 0, 1, []), some (.iadd, 773, 0, 0, 0, 0, []), some (.iaload, 774, 0, 0, 0, 0, []), some (.invokevirtual 96, 777, 126, 2, 1, 1, []), none, none, some (.aload_n 2, 778, 0, 0, 0, 0, []), some (.aload_n 0, 779, 0, 0, 0, 0, []), some (.iload_n 3, 780, 0, 0, 0, 0, []), some (.iconst 1, 781, 0, 0, 0, 1, []), some (.iadd, 782, 0, 0, 0, 0, []), some (.iaload, 783, 0, 0, 0, 0, []), some (.invokevirtual 99, 786, 231, 2, 1, 1, []), none, none, some (.if_icmp .eq 238, 789, 1024, 0, 0, 0, []), none, none, some (.iconst 0, 790, 0, 0, 0, 0, []), some (.ireturn, 791, 0, 0, 3, 0, []), some (.aload_n 1, 792, 0, 0, 0, 0, []), some (.invokevirtual 100, 795, 127, 1, 1, 1, []), none, none, some (.aload_n 2, 796, 0, 0, 0, 0, []), some (.invokevirtual 103, 799, 232, 1, 1, 1, []), none, none, some (.if_icmp .eq 225, 802, 1024, 0, 0, 0, []), none, none, some (.iconst 0, 803, 0, 0, 0, 0, []), some (.ireturn, 804, 0, 0, 3, 0, []), some (.aload_n 1, 805, 0, 0, 0, 0, []), some (.aload_n 0, 806, 0, 0, 0, 0, []), some (.iload_n 3, 807, 0, 0, 0, 0, []), some (.iconst 1, 808, 0, 0, 0, 1, []), some (.iadd, 809, 0, 0, 0, 0, []), some (.iaload, 810, 0, 0, 0, 0, []), some (.aload_n 0, 811, 0, 0, 0, 0, []), some (.iload_n 3, 812, 0, 0, 0, 0, []), some (.iconst 2, 813, 0, 0, 0, 2, []), some (.iadd, 814, 0, 0, 0, 0, []), some (.iaload, 815, 0, 0, 0, 0, []), some (.invokevirtual 104, 818, 128, 3, 1, 1, []), none, none, some (.aload_n 2, 819, 0, 0, 0, 0, []), some (.aload_n 0, 820, 0, 0, 0, 0, []), some (.iload_n 3, 821, 0, 0, 0, 0, []), some (.iconst 1, 822, 0, 0, 0, 1, []), some (.iadd, 823, 0, 0, 0, 0, []), some (.iaload, 824, 0, 0, 0, 0, []), some (.aload_n 0, 825, 0, 0, 0, 0, []), some (.iload_n 3, 826, 0, 0, 0, 0, []), some (.iconst 2, 827, 0, 0, 0, 2, []), some (.iadd, 828, 0, 0, 0, 0, []), some (.iaload, 829, 0, 0, 0, 0, []), some (.invokevirtual 107, 832, 233, 3, 1, 1, []), none, none, some (.if_icmp .eq 192, 835, 1024, 0, 0, 0, []), none, none, some (.iconst 0, 836, 0, 0, 0, 0, []), some (.ireturn, 837, 0, 0, 3, 0, []), some (.aload_n 1, 838, 0, 0, 0, 0, []), some (.invokevirtual 108, 841, 129, 1, 1, 1, []), none, none, some (.aload_n 2, 842, 0, 0, 0, 0, []), some (.invokevirtual 111, 845, 234, 1, 1, 1, []), none, none, some (.if_icmp .eq 179, 848, 1024, 0, 0, 0, []), none, none, some (.iconst 0, 849, 0, 0, 0, 0, []), some (.ireturn, 850, 0, 0, 3, 0, []), some (.aload_n 1, 851, 0, 0, 0, 0, []), some (.aload_n 0, 852, 0, 0, 0, 0, []), some (.iload_n 3, 853, 0, 0, 0, 0, []), some (.iconst 1, 854, 0, 0, 0, 1, []), some (.iadd, 855, 0, 0, 0, 0, []), some (.iaload, 856, 0, 0, 0, 0, []), some (.invokevirtual 112, 859, 130, 2, 1, 1, []), none, none, some (.aload_n 2, 860, 0, 0, 0, 0, []), some (.aload_n 0, 861, 0, 0, 0, 0, []), some (.iload_n 3, 862, 0, 0, 0, 0, []), some (.iconst 1, 863, 0, 0, 0, 1, []), some (.iadd, 864, 0, 0, 0, 0, []), some (.iaload, 865, 0, 0, 0, 0, []), some (.invokevirtual 115, 868, 237, 2, 1, 1, []), none, none, some (.if_icmp .eq 156, 871, 1024, 0, 0, 0, []), none, none, some (.iconst 0, 872, 0, 0, 0, 0, []), some (.ireturn, 873, 0, 0, 3, 0, []), some (.aload_n 1, 874, 0, 0, 0, 0, []), some (.aload_n 0, 875, 0, 0, 0, 0, []), some (.iload_n 3, 876, 0, 0, 0, 0, []), some (.iconst 1, 877, 0, 0, 0, 1, []), some (.iadd, 878, 0, 0, 0, 0, []), some (.iaload, 879, 0, 0, 0, 0, []), some (.aload_n 0, 880, 0, 0, 0, 0, []), some (.iload_n 3, 881, 0, 0, 0, 0, []), some (.iconst 2, 882, 0, 0, 0, 2, []), some (.iadd, 883, 0, 0, 0, 0, []), some (.iaload, 884, 0, 0, 0, 0, []), some (.invokevirtual 116, 887, 131, 3, 1, 1, []), none, none, some (.aload_n 2, 888, 0, 0, 0, 0, []), some (.aload_n 0, 889, 0, 0, 0, 0, []), some (.iload_n 3, 890, 0, 0, 0, 0, []), some (.iconst 1, 891, 0, 0, 0, 1, []), some (.iadd, 892, 0, 0, 0, 0, []), some (.iaload, 893, 0, 0, 0, 0, []), some (.aload_n 0, 894, 0, 0, 0, 0, []), some (.iload_n 3, 895, 0, 0, 0, 0, []), some (.iconst 2, 896, 0, 0, 0, 2, []), some (.iadd, 897, 0, 0, 0, 0, []), some (.iaload, 898, 0, 0, 0, 0, []), some (.invokevirtual 119, 901, 238, 3, 1, 1, []), none, none, some (.if_icmp .eq 123, 904, 1024, 0, 0, 0, []), none, none, some (.iconst 0, 905, 0, 0, 0, 0, []), some (.ireturn, 906, 0, 0, 3, 0, []), some (.aload_n 1, 907, 0, 0, 0, 0, []), some (.aload_n 0, 908, 0, 0, 0, 0, []), some (.iload_n 3, 909, 0, 0, 0, 0, []), some (.iconst 1, 910, 0, 0, 0, 1, []), some (.iadd, 911, 0, 0, 0, 0, []), some (.iaload, 912, 0, 0, 0, 0, []), some (.aload_n 0, 913, 0, 0, 0, 0, []), some (.iload_n 3, 914, 0, 0, 0, 0, []), some (.iconst 2, 915, 0, 0, 0, 2, []), some (.iadd, 916, 0, 0, 0, 0, []), some (.iaload, 917, 0, 0, 0, 0, []), some (.ifCond .eq 7, 920, 924, 0, 0, 0, []), none, none, some (.iconst 1, 921, 0, 0, 0, 1, []), some (.goto 4, 924, 925, 0, 0, 0, []), none, none, some (.iconst 0, 925, 0, 0, 0, 0, []), some (.invokevirtual 120, 928, 132, 3, 1, 1, []), none, none, some (.aload_n 2, 929, 0, 0, 0, 0, []), some (.aload_n 0, 930, 0, 0, 0, 0, []), some (.iload_n 3, 931, 0, 0, 0, 0, []), some (.iconst 1, 932, 0, 0, 0, 1, []), some (.iadd, 933, 0, 0, 0, 0, []), some (.iaload, 934, 0, 0, 0, 0, []), some (.aload_n 0, 935, 0, 0, 0, 0, []), some (.iload_n 3, 936, 0, 0, 0, 0, []), some (.iconst 2, 937, 0, 0, 0, 2, []), some (.iadd, 938, 0, 0, 0, 0, []), some (.iaload, 939, 0, 0, 0, 0, []), some (.ifCond .eq 7, 942, 946, 0, 0, 0, []), none, none, some (.iconst 1, 943, 0, 0, 0, 1, []), some (.goto 4, 946, 947, 0, 0, 0, []), none, none, some (.iconst 0, 947, 0, 0, 0, 0, []), some (.invokevirtual 124, 950, 239, 3, 1, 1, []), none, none, some (.if_icmp .eq 74, 953, 1024, 0, 0, 0, []), none, none, some (.iconst 0, 954, 0, 0, 0, 0, []), some (.ireturn, 955, 0, 0, 3, 0, []), some (.aload_n 1, 956, 0, 0, 0, 0, []), some (.aload_n 0, 957, 0, 0, 0, 0, []), some (.iload_n 3, 958, 0, 0, 0, 0, []), some (.iconst 1, 959, 0, 0, 0, 1, []), some (.iadd, 960, 0, 0, 0, 0, []), some (.iaload, 961, 0, 0, 0, 0, []), some (.invokevirtual 125, 964, 133, 2, 1, 1, []), none, none, some (.aload_n 2, 965, 0, 0, 0, 0, []), some (.aload_n 0, 966, 0, 0, 0, 0, []), some (.iload_n 3, 967, 0, 0, 0, 0, []), some (.iconst 1, 968, 0, 0, 0, 1, []), some (.iadd, 969, 0, 0, 0, 0, []), some (.iaload, 970, 0, 0, 0, 0, []), some (.invokevirtual 129, 973, 240, 2, 1, 1, []), none, none, some (.if_icmp .eq 51, 976, 1024, 0, 0, 0, []), none, none, some (.iconst 0, 977, 0, 0, 0, 0, []), some (.ireturn, 978, 0, 0, 3, 0, []), some (.aload_n 1, 979, 0, 0, 0, 0, []), some (.aload_n 0, 980, 0, 0, 0, 0, []), some (.iload_n 3, 981, 0, 0, 0, 0, []), some (.iconst 1, 982, 0, 0, 0, 1, []), some (.iadd, 983, 0, 0, 0, 0, []), some (.iaload, 984, 0, 0, 0, 0, []), some (.invokevirtual 130, 987, 134, 2, 1, 1, []), none, none, some (.aload_n 2, 988, 0, 0, 0, 0, []), some (.aload_n 0, 989, 0, 0, 0, 0, []), some (.iload_n 3, 990, 0, 0, 0, 0, []), some (.iconst 1, 991, 0, 0, 0, 1, []), some (.iadd, 992, 0, 0, 0, 0, []), some (.iaload, 993, 0, 0, 0, 0, []), some (.invokevirtual 133, 996, 241, 2, 1, 1, []), none, none, some (.if_icmp .eq 28, 999, 1024, 0, 0, 0, []), none, none, some (.iconst 0, 1000, 0, 0, 0, 0, []), some (.ireturn, 1001, 0, 0, 3, 0, []), some (.aload_n 1, 1002, 0, 0, 0, 0, []), some (.aload_n 0, 1003, 0, 0, 0, 0, []), some (.iload_n 3, 1004, 0, 0, 0, 0, []), some (.iconst 1, 1005, 0, 0, 0, 1, []), some (.iadd, 1006, 0, 0, 0, 0, []), some (.iaload, 1007, 0, 0, 0, 0, []), some (.invokevirtual 134, 1010, 135, 2, 1, 1, []), none, none, some (.aload_n 2, 1011, 0, 0, 0, 0, []), some (.aload_n 0, 1012, 0, 0, 0, 0, []), some (.iload_n 3, 1013, 0, 0, 0, 0, []), some (.iconst 1, 1014, 0, 0, 0, 1, []), some (.iadd, 1015, 0, 0, 0, 0, []), some (.iaload, 1016, 0, 0, 0, 0, []), some (.invokevirtual 137, 1019, 242, 2, 1, 1, []), none, none, some (.if_icmp .eq 5, 1022, 1024, 0, 0, 0, []), none, none, some (.iconst 0, 1023, 0, 0, 0, 0, []), some (.ireturn, 1024, 0, 0, 3, 0, []), some (.iinc 3 6, 1027, 0, 0, 0, 6, []), none, none, some (.goto (-1009), 1030, 18, 0, 0, 0, []), none, none, some (.iconst 1, 1031, 0, 0, 0, 1, []), some (.ireturn, 1032, 0, 0, 3, 0, [])]
def amCodes : List (List (Option AmE)) := [cdX0_drop, cdX0_allCome, cdX0_allComeOver, cdX0_dryEnoughWays, cdX0_choices, cdX0_power, cdX0_foresee, cdX0_groundBehindDay, cdX0_noteLost, cdX0_fewestHands, cdX0_isCarried, cdX1_clear, cdX1_copyFrom, cdX1_open, cdX1_emit, cdX1_elseHere, cdX1_tells, cdX1_worth, cdX2_allNeed, cdX2_needOf, cdX2_bearsSet, cdX2_treads, cdX2_takenOff, cdX2_dearFrom, cdX2_dearOver, cdX3_drop, cdX3_seek, cdX3_search, cdX4_parse, cdX4_faultPlace, cdX4_readRow, cdX4_readBrine, cdX4_readPilgrim, cdX4_takeName, cdX4_readLaw, cdX4_readIf, cdX4_readSum, cdX4_isSign, cdX4_readUnit, cdX4_take, cdX4_takeInt, cdX4_takeVow, cdX4_fail, cdX4_failLater, cdX5_start, cdX5_copyFrom, cdX5_settle, cdX5_passNight, cdX5_isOnGround, cdX5_grounded, cdX5_standingOn, cdX5_stuckOnes, cdX6_build, cdX6_copyFrom, cdX6_top, cdX6_isStep, cdX6_isThere, cdX6_thickAt, cdX6_borneAt, cdX6_bear, cdX6_setThick, cdX6_rainOn, cdX6_allThick, cdX7_add, cdX7_addFour, cdX7_cut, cdX7_clear, cdX7_kindAt, cdX7_valueAt, cdX7_startAt, cdX7_cutIntoTokens, cdX7_afterBlanks, cdX7_endOf, cdX7_kindOf, cdX7_wordOf, cdX7_isWord, cdX7_valueOf, cdX7_byteAt, cdX7_isBlank, cdX7_isLetter, cdX7_isDigit, cdX8_clear, cdX8_copyFrom, cdX8_hasPilgrim, cdX8_rainOf, cdX9_startAnew, cdX9_add, cdX9_knows, cdX9_fitting, cdX9_fittingAt, cdX9_inSome, cdX9_inAll, cdX9_sets, cdX9_isFitting, cdX9_walkAllSets, cdX9_writeRow, cdX9_readRow, cdX10_begin, cdX10_beginAs, cdX10_through, cdX10_carriesUp, cdX10_advance, cdX10_nextSpot, cdX10_tread, cdX10_leftBehind, cdX10_wearsATread, cdX10_wearOn, cdX11_feed, cdX11_back, cdX11_read, cdX11_place, cdX11_step, cdX11_pilgrim, cdX11_wear, cdX11_go, cdX11_would, cdX11_night, cdX11_mend, cdX11_undo, cdX11_order, cdX11_orderAt, cdX11_need, cdX11_bears, cdX11_odds, cdX11_season, cdX11_rescue, cdX11_bell, cdX11_fair, cdX11_tell, cdX11_forget, cdX11_fits, cdX11_walkers, cdX11_who, cdX11_hold, cdX11_restore, cdX11_count, cdX11_startAnew, cdX11_keepPast, cdX11_goOnFrom, cdX11_dropAnswers, cdX11_areOnGround, cdX11_heldSlots, cdX11_at, cdX11_put, cdX11_copy, cdX11_wipe, cdX11_has, cdX12_feed, cdX12_put, cdX12_back, cdX12_byteAt, cdX12_isDigit, cdX12_isLetter, cdX12_appends, cdX12_word, cdX12_token, cdX12_cut, cdX12_sign, cdX12_is, cdX12_fail, cdX12_wrong, cdX12_goesOn, cdX12_must, cdX12_read, cdX12_place, cdX12_roomFor, cdX12_tell, cdX12_bounded, cdX12_tellSteps, cdX12_tellRain, cdX12_tellVow, cdX12_tellPilgrim, cdX12_tellLaw, cdX12_term, cdX12_emit, cdX12_comesOut, cdX12_expression, cdX12_unit, cdX12_termOf, cdX12_in, cdX12_top, cdX12_many, cdX12_isStep, cdX12_isPilgrim, cdX12_vowOf, cdX12_begins, cdX12_takes, cdX12_goneNow, cdX12_wearOf, cdX12_holds, cdX12_isThere, cdX12_nextUp, cdX12_nextDown, cdX12_goesDown, cdX12_comesOf, cdX12_sends, cdX12_step, cdX12_pilgrim, cdX12_wear, cdX12_keeps, cdX12_onGround, cdX12_go, cdX12_would, cdX12_nightGoes, cdX12_night, cdX12_mend, cdX12_undo, cdX12_bits, cdX12_isSet, cdX12_fillsOrder, cdX12_nextOrder, cdX12_orders, cdX12_order, cdX12_orderAt, cdX12_behind, cdX12_treads, cdX12_isTrodden, cdX12_bearsAll, cdX12_needOf, cdX12_need, cdX12_allThrough, cdX12_bears, cdX12_choose, cdX12_odds, cdX12_marks, cdX12_notes, cdX12_season, cdX12_stuckNow, cdX12_leastFor, cdX12_rescue, cdX12_carries, cdX12_bell, cdX12_fair, cdX12_tell_, cdX12_forget, cdX12_isFit, cdX12_fillsWalkers, cdX12_fits, cdX12_walkers, cdX12_who, cdX12_hold, cdX12_restore, cdX12_count, cdJ6_numberOfLeadingZeros_0f7a4, cdJ6_bitCount_0f7a4, cdL_law]
def amMaxL : List Nat := [1, 3, 4, 12, 5, 5, 5, 7, 4, 5, 7, 2, 2, 2, 3, 2, 2, 10, 6, 6, 7, 4, 5, 5, 5, 1, 3, 8, 2, 1, 6, 1, 2, 5, 3, 2, 6, 1, 3, 2, 4, 2, 2, 2, 1, 2, 5, 1, 2, 3, 4, 3, 3, 2, 1, 2, 2, 2, 2, 2, 3, 5, 3, 6, 3, 2, 1, 2, 2, 2, 6, 3, 3, 4, 4, 7, 7, 2, 1, 1, 1, 1, 2, 2, 2, 1, 3, 2, 4, 5, 4, 4, 1, 4, 3, 3, 3, 3, 4, 7, 5, 4, 5, 8, 7, 1, 5, 6, 2, 2, 1, 3, 3, 4, 3, 6, 3, 4, 1, 3, 4, 3, 2, 8, 3, 2, 2, 4, 3, 2, 2, 3, 3, 2, 2, 2, 2, 1, 3, 1, 2, 3, 2, 3, 2, 2, 2, 6, 3, 2, 2, 1, 1, 3, 7, 6, 8, 5, 2, 2, 4, 1, 2, 2, 1, 3, 1, 4, 2, 2, 1, 4, 4, 1, 3, 3, 3, 1, 8, 3, 1, 1, 2, 2, 2, 2, 2, 3, 12, 8, 2, 3, 3, 5, 4, 3, 5, 3, 4, 2, 2, 3, 4, 3, 3, 3, 2, 3, 3, 3, 6, 7, 3, 3, 9, 4, 4, 7, 5, 6, 3, 2, 5, 12, 2, 4, 5, 3, 5, 8, 3, 6, 4, 3, 2, 4, 3, 2, 3, 6, 3, 3, 4, 2, 1, 4]
def amLg : List (List Nat) := [[], [], [], [7, 10], [2], [2], [], [], [], [], [], [], [], [], [], [], [], [], [], [], [], [], [], [], [], [], [], [], [], [], [], [], [], [2], [], [], [], [], [], [], [], [], [], [], [], [], [], [], [], [], [], [], [], [], [], [], [], [], [], [], [], [], [], [], [], [], [], [], [], [], [], [], [], [], [], [], [3], [], [], [], [], [], [], [], [], [], [], [], [], [], [], [], [], [], [], [], [], [], [], [], [], [], [], [], [], [], [], [], [], [], [], [], [], [], [], [], [], [], [], [], [], [], [], [], [], [], [], [], [], [], [], [], [], [], [], [], [], [], [], [], [], [], [], [], [], [], [], [], [], [], [], [], [], [0], [], [4], [4], [], [], [], [], [], [], [], [], [], [], [], [], [], [], [], [], [], [], [], [], [], [], [], [], [], [], [], [], [], [], [], [], [], [], [], [], [], [], [], [], [], [], [], [], [], [], [], [], [], [], [], [], [], [], [], [], [], [], [], [], [], [], [], [], [], [2], [6, 9], [], [], [], [], [], [], [], [], [], [], [], [], [], [], [], [], [], [], [], [], [], []]
/-- the locals at a method's entry -/
def amLay : List AmV → List AmV
  | [] => []
  | .inr (.inr (.inl x)) :: r => vL x :: vU :: amLay r
  | v :: r => v :: amLay r
def amEnt (n : Nat) (as : List AmV) : List AmV := amLay as ++ List.replicate (n - (amLay as).length) vU
def amLgB (lg : List Nat) : Nat → List AmV → Bool
  | _, [] => true
  | i, .inr (.inr (.inl _)) :: r => lg.contains i && amLgB lg (i + 1) r
  | i, _ :: r => amLgB lg (i + 1) r
noncomputable def amD (G : AmG) : Nat → Nat → List AmV → AmM → Option (AmV × AmM)
  | 0, _, _, _ => none
  | d + 1, mid, as, M => bif Nat.ble (amLay as).length (amMaxL.getD mid 0) && amLgB (amLg.getD mid []) 0 (amLay as) then amRun (amStep G (amD G d) (amCodes.getD mid [])) (0, amEnt (amMaxL.getD mid 0) as, [], M) else none
end
section
/-! THE TIE between the small machine and the real one -/
theorem i32_of {x : Int} (h : i32 x) : (Int32.ofInt x).toInt = x := Int32.toInt_ofInt_of_le (by unfold i32 at h; omega) (by unfold i32 at h; omega)
theorem i64_of {x : Int} (h : i64 x) : (Int64.ofInt x).toInt = x := Int64.toInt_ofInt_of_le (by unfold i64 at h; omega) (by unfold i64 at h; omega)
theorem w32_b (x : Int) : w32 x = x.bmod 4294967296 := by unfold w32; rw [Int.bmod_def]; split <;> omega
theorem w64_b (x : Int) : w64 x = x.bmod 18446744073709551616 := by unfold w64; rw [Int.bmod_def]; split <;> omega
theorem of_w32 (x : Int) : Int32.ofInt (w32 x) = Int32.ofInt x := Int32.toInt_inj.mp (by rw [i32_of (w32_i x), Int32.toInt_ofInt, w32_b])
theorem of_w64 (x : Int) : Int64.ofInt (w64 x) = Int64.ofInt x := Int64.toInt_inj.mp (by rw [i64_of (w64_i x), Int64.toInt_ofInt, w64_b])
theorem toInt_i (x : Int32) : i32 x.toInt := ⟨by have := x.le_toInt; omega, by have := x.toInt_lt; omega⟩
theorem toInt_l (x : Int64) : i64 x.toInt := ⟨by have := x.le_toInt; omega, by have := x.toInt_lt; omega⟩
theorem of_lt {x y : Int} (hx : i32 x) (hy : i32 y) : Int32.ofInt x < Int32.ofInt y ↔ x < y := by rw [Int32.lt_iff_toInt_lt, i32_of hx, i32_of hy]
theorem of_eq {x y : Int} (hx : i32 x) (hy : i32 y) : Int32.ofInt x = Int32.ofInt y ↔ x = y := by rw [← Int32.toInt_inj, i32_of hx, i32_of hy]
theorem of_le {x y : Int} (hx : i32 x) (hy : i32 y) : Int32.ofInt x ≤ Int32.ofInt y ↔ x ≤ y := by rw [Int32.le_iff_toInt_le, i32_of hx, i32_of hy]
theorem of_div {x y : Int} (hx : i32 x) (hy : i32 y) : Int32.ofInt x / Int32.ofInt y = Int32.ofInt (w32 (Int.tdiv x y)) := Int32.toInt_inj.mp (by rw [Int32.toInt_div, i32_of hx, i32_of hy, i32_of (w32_i _), w32_b])
theorem of_ldiv {x y : Int} (hx : i64 x) (hy : i64 y) : Int64.ofInt x / Int64.ofInt y = Int64.ofInt (w64 (Int.tdiv x y)) := Int64.toInt_inj.mp (by rw [Int64.toInt_div, i64_of hx, i64_of hy, i64_of (w64_i _), w64_b])
theorem tmod_i {x y : Int} (hx : i32 x) (hy : y ≠ 0) (hy2 : i32 y) : i32 (Int.tmod x y) := by
  unfold i32 at *
  rcases Int.lt_or_le y 0 with h | h
  · have h1 := tmod_bounds (a := x) (M := -y) (by omega)
    rw [Int.tmod_neg] at h1
    omega
  · have h1 := tmod_bounds (a := x) (M := y) (by omega)
    omega
theorem of_rem {x y : Int} (hx : i32 x) (hy : i32 y) (h0 : y ≠ 0) : Int32.ofInt x - Int32.ofInt x / Int32.ofInt y * Int32.ofInt y = Int32.ofInt (Int.tmod x y) := Int32.toInt_inj.mp (by rw [rem_toInt, i32_of hx, i32_of hy, i32_of (tmod_i hx h0 hy)])
theorem of_in {j : Int} {n : Nat} (hj : i32 j) : vp_in (Int32.ofInt j) n ↔ 0 ≤ j ∧ j < n := by rw [vp_in_iff, i32_of hj]
theorem of_cl {j : Int} (hj : i32 j) : (Int32.ofInt j).toNatClampNeg = j.toNat := Int32.toNatClampNeg_ofInt_of_le (by unfold i32 at hj; omega) (by unfold i32 at hj; omega)
theorem of_8 {x : Int} (h : i32 x) : (Int32.ofInt x).toInt8.toInt32 = Int32.ofInt (w8 x) := Int32.toInt_inj.mp (by
  have e : w8 x = x.bmod 256 := by unfold w8; rw [Int.bmod_def]; split <;> omega
  rw [Int8.toInt_toInt32, Int32.toInt_toInt8, i32_of h, i32_of (by unfold w8 i32; omega), e])
theorem w8_i (x : Int) : i32 (w8 x) := by unfold w8 i32; omega
theorem of_2l {x : Int} (h : i32 x) : (Int32.ofInt x).toInt64 = Int64.ofInt x := Int64.toInt_inj.mp (by
  rw [Int32.toInt_toInt64, i32_of h, i64_of (by unfold i32 at h; unfold i64; omega)])
theorem of_2i {x : Int} (h : i64 x) : (Int64.ofInt x).toInt32 = Int32.ofInt (w32 x) := Int32.toInt_inj.mp (by
  rw [Int64.toInt_toInt32, i64_of h, i32_of (w32_i x), w32_b])
theorem of_2c {x : Int} (h : i32 x) : ((Int32.ofInt x).toUInt32 % 65536).toInt32 = Int32.ofInt (x % 65536) := by
  have h1 : i32 (x % 65536) := by unfold i32; omega
  have key : ((Int32.ofInt x).toUInt32 % 65536).toNat = (x % 65536).toNat := by
    have : (Int32.ofInt x).toUInt32.toNat = (x % 4294967296).toNat := by
      show (BitVec.ofInt 32 x).toNat = _
      rw [BitVec.toNat_ofInt]
      rfl
    rw [UInt32.toNat_mod, this]
    show (x % 4294967296).toNat % 65536 = _
    omega
  refine Int32.toInt_inj.mp ?_
  rw [i32_of h1]
  have h2 : (((Int32.ofInt x).toUInt32 % 65536).toInt32).toInt = ((((Int32.ofInt x).toUInt32 % 65536).toNat : Nat) : Int).bmod 4294967296 := by
    show BitVec.toInt _ = _
    rw [BitVec.toInt_eq_toNat_bmod]
    rfl
  rw [h2, key, Int.bmod_def]
  split <;> omega
theorem of_cmp {x y : Int} (hx : i64 x) (hy : i64 y) : lg_cmp (Int64.ofInt x) (Int64.ofInt y) = Int32.ofInt (amCmp x y) := by
  have a1 : Int64.ofInt y < Int64.ofInt x ↔ y < x := by rw [Int64.lt_iff_toInt_lt, i64_of hx, i64_of hy]
  have a2 : Int64.ofInt x = Int64.ofInt y ↔ x = y := by rw [← Int64.toInt_inj, i64_of hx, i64_of hy]
  unfold lg_cmp amCmp
  simp only [a1, a2]
  rcases Int.lt_trichotomy x y with h | h | h
  · rw [if_neg (by omega), if_neg (by omega), if_pos h]; rfl
  · rw [if_neg (by omega), if_pos h, if_neg (by omega), if_pos h]; rfl
  · rw [if_pos h, if_neg (by omega), if_neg (by omega)]; rfl
theorem amCmp_i (x y : Int) : i32 (amCmp x y) := by unfold amCmp i32; split <;> (try split) <;> omega
/-- (addresses, names, graph, array classes, classes, what may change, script, its length) -/
abbrev AmZ : Type := (Nat → Nat → Nat) × List (Nat × Nat) × AmG × (Nat → ClassId) × va_G × (Nat → Prop) × (Nat → Int32) × Nat
abbrev zAd (Z : AmZ) := Z.1
abbrev zAl (Z : AmZ) := Z.2.1
abbrev zG (Z : AmZ) := Z.2.2.1
abbrev zC (Z : AmZ) := Z.2.2.2.1
abbrev zD (Z : AmZ) := Z.2.2.2.2.1
abbrev zA (Z : AmZ) := Z.2.2.2.2.2.1
abbrev zX (Z : AmZ) := Z.2.2.2.2.2.2.1
abbrev zL (Z : AmZ) := Z.2.2.2.2.2.2.2
def amV (ad : Nat → Nat → Nat) : AmV → Value
  | .inl none => .null
  | .inl (some (_, c, s)) => .ref (ad c s)
  | .inr (.inl x) => .int (Int32.ofInt x)
  | .inr (.inr (.inl x)) => .long (Int64.ofInt x)
  | .inr (.inr (.inr _)) => .null
def amOkN (al : List (Nat × Nat)) (c s : Nat) : Prop := ((c, s) ∈ al ∧ c ≠ 90 ∧ c ≠ 98 ∧ c ≠ 99) ∨ ((c = 90 ∨ c = 98 ∨ c = 99) ∧ s = 0)
def amOk (al : List (Nat × Nat)) : AmV → Prop
  | .inl none => True
  | .inl (some (k, c, s)) => amKndL.getD c 99 = k ∧ amOkN al c s
  | .inr (.inl x) => i32 x
  | .inr (.inr (.inl x)) => i64 x
  | .inr (.inr (.inr _)) => True
def amSet : AmV → Prop
  | .inr (.inr (.inr _)) => False
  | _ => True
def amFv (ad : Nat → Nat → Nat) (c : Nat) (f : Nat → Int) (g : Nat → AmV) (j : Nat) : Value := match (amFkL.getD c []).getD j 0 with
  | 2 => amV ad (g j)
  | _ => .int (Int32.ofInt (f j))
def amRf (ad : Nat → Nat → Nat) : AmV → Option Nat
  | .inl (some (_, c, s)) => some (ad c s)
  | _ => none
def amArr (ad : Nat → Nat → Nat) (c : Nat) (f : Nat → Int) (g : Nat → AmV) : vp_A := (amLenL.getD c 0, match amKndL.getD c 99 with
  | 21 => .inr (.inl fun j => Int64.ofInt (f j))
  | 24 => .inr (.inr (.inr (.inr fun j => amRf ad (g j))))
  | 25 => .inr (.inr (.inr (.inr fun j => amRf ad (g j))))
  | _ => .inl fun j => Int32.ofInt (f j))
def amCell (cA : Nat → ClassId) (ad : Nat → Nat → Nat) (c : Nat) (f : Nat → Int) (g : Nat → AmV) : va_E := if c < 13 then .inr (c, (List.range (amFkL.getD c []).length).map (amFv ad c f g)) else .inl (cA (amKndL.getD c 99), amArr ad c f g)
def amW (Z : AmZ) (M : AmM) : va_W := (zAl Z).map fun n => (zAd Z n.1 n.2, amCell (zC Z) (zAd Z) n.1 (M n.1 n.2) (zG Z n.1 n.2))
def amTys (cA : Nat → ClassId) : List (ClassId × FieldType) := [(cA 20, .int), (cA 21, .long), (cA 22, .byte), (cA 23, .boolean), (cA 24, .object "SaltStairs$Scene"), (cA 25, .object "SaltStairs$Stairs")]
def amI (M : AmM) : Prop := ∀ c s j, (amKndL.getD c 99 ≠ 21 → i32 (M c s j)) ∧ i64 (M c s j)
def amX (Z : AmZ) (M : AmM) : Prop := M 90 1 0 = (zL Z : Int) ∧ ∀ j, j < zL Z → M 90 0 j = (zX Z j).toInt
def amInj (l : List (Nat × Nat)) : Prop := ∀ (i j : Nat) (n : Nat × Nat), l[i]? = some n → l[j]? = some n → i = j
def amGood (w : Jvm.Cond) : Bool := goodWord w
def amT0 : List Jvm.Cond := lw_tbl.filter amGood
def amNest (w : Jvm.Cond) : Bool := match w with
  | .fieldLinkNest _ _ _ _ _ _ => true
  | .methodLinkNest _ _ _ _ => true
  | _ => false
def amNs : List Jvm.Cond := lw_tbl.filter amNest
def amWordsT : String := "steps   rain    brine   pilgrim law     if      then    else    plain   knees   long    stays   weight  thick   step    day     wet     up      gone    "
def amSignsT : String := ";=+-*/<()"
def amWordsI : List Int32 := amWords.map fun n => Int32.ofNat n
def amSignsI : List Int32 := amSigns.map fun n => Int32.ofNat n
/-- what the classes, links and constants are, at a state -/
def amKS (Z : AmZ) (U : State) : Prop := va_K (zD Z) amClasses (amTys (zC Z)) U ∧ (∀ w ∈ amNs, va_Nw w U) ∧ vk_R RX7 84 amWordsT (zAd Z 98 0) U ∧ vk_R RX7 73 amSignsT (zAd Z 99 0) U
/-- what stands outside the world: the script (and the String constants) -/
def amXS (Z : AmZ) (U : State) (H : Heap) : Prop := va_X (zAd Z 90 0) (zL Z) (zX Z) U H ∧ zAd Z 90 0 < H.size ∧ ¬ zA Z (zAd Z 90 0) ∧ ∃ adV : Nat → Nat, vk_S 2 [amWords.length, amSigns.length] [amWordsI, amSignsI] (fun i => zAd Z (98 + i) 0) adV (zA Z) U H
/-- what never changes in a run -/
def amFx (Z : AmZ) : Prop := amInj (zAl Z) ∧ zL Z ≤ 3072 ∧ (∀ n ∈ zAl Z, n.1 < 13 ∨ 100 ≤ n.1) ∧ (∀ n ∈ zAl Z, ∀ j, (n.1 < 13 → (amFkL.getD n.1 []).getD j 0 = 2 → amOk (zAl Z) (zG Z n.1 n.2 j) ∧ amSet (zG Z n.1 n.2 j) ∧ ∃ r, zG Z n.1 n.2 j = .inl r) ∧ (j < amLenL.getD n.1 0 → amKndL.getD n.1 99 = 24 ∨ amKndL.getD n.1 99 = 25 → amOk (zAl Z) (zG Z n.1 n.2 j) ∧ ∃ r, zG Z n.1 n.2 j = .inl r))
/-- a frame and a world, small and real -/
def amRel (Z : AmZ) (H0 : Heap) (nL : Nat) (lg : List Nat) (L st : List AmV) (M : AmM) (ls : Array Slot) (H : Heap) (locs : List Loc) : Prop :=
  (ls.size = nL ∧ lv_wf ls ∧ ∀ (i : Nat) (v : AmV), L[i]? = some v → amSet v → ls[i]? = some (.val (amV (zAd Z) v))) ∧ L.length = nL ∧ (∀ v ∈ L, amOk (zAl Z) v) ∧ (∀ (i : Nat) (x : Int), L[i]? = some (vL x) → i ∈ lg) ∧ (∀ v ∈ st, amOk (zAl Z) v ∧ amSet v) ∧
  va_P (zD Z) amClasses (amW Z M) H ∧ va_D (zA Z) (amW Z M) ∧ va_S (zA Z) H0 H locs ∧ amI M ∧ amX Z M
theorem amRel.st {Z : AmZ} {H0 H : Heap} {nL : Nat} {lg : List Nat} {L st st' : List AmV} {M : AmM} {ls : Array Slot} {locs : List Loc} (h : amRel Z H0 nL lg L st M ls H locs) (hs : ∀ v ∈ st', amOk (zAl Z) v ∧ amSet v) : amRel Z H0 nL lg L st' M ls H locs :=
  ⟨h.1, h.2.1, h.2.2.1, h.2.2.2.1, hs, h.2.2.2.2.2⟩
theorem amRel.top {Z : AmZ} {H0 H : Heap} {nL : Nat} {lg : List Nat} {L st : List AmV} {M : AmM} {ls : Array Slot} {locs : List Loc} (h : amRel Z H0 nL lg L st M ls H locs) {v : AmV} (hv : v ∈ st) : amOk (zAl Z) v := (h.2.2.2.2.1 v hv).1
theorem amSet_ne {v : AmV} (h : amSet v) : v ≠ vU := fun e => by subst e; exact h
theorem amW_at {Z : AmZ} {M : AmM} {c s : Nat} (h : (c, s) ∈ zAl Z) : ∃ p : Nat, (zAl Z)[p]? = some (c, s) ∧ (amW Z M)[p]? = some (zAd Z c s, amCell (zC Z) (zAd Z) c (M c s) (zG Z c s)) := by
  obtain ⟨p, hp⟩ := List.getElem?_of_mem h
  exact ⟨p, hp, by simp [amW, hp]⟩
theorem amW_set {Z : AmZ} {M M' : AmM} {c s p : Nat} {x : va_E} (hn : amInj (zAl Z)) (hp : (zAl Z)[p]? = some (c, s)) (hM : ∀ c' s', ¬ (c' = c ∧ s' = s) → M' c' s' = M c' s') (hx : x = amCell (zC Z) (zAd Z) c (M' c s) (zG Z c s)) : (amW Z M).set p (zAd Z c s, x) = amW Z M' := by
  apply List.ext_getElem?
  intro i
  by_cases hi : i = p
  · subst hi
    have hl : i < (amW Z M).length := by unfold amW; rw [List.length_map]; exact (List.getElem?_eq_some_iff.mp hp).1
    rw [List.getElem?_set_self hl]
    simp [amW, hp, hx]
  · rw [List.getElem?_set_ne (Ne.symm hi)]
    unfold amW
    rw [List.getElem?_map, List.getElem?_map]
    cases ha : (zAl Z)[i]? with
    | none => rfl
    | some n =>
      have hne : ¬ (n.1 = c ∧ n.2 = s) := by
        rintro ⟨e1, e2⟩
        apply hi
        have e : n = (c, s) := by rw [← e1, ← e2]
        rw [e] at ha
        exact hn i p _ ha hp
      simp only [Option.map_some]
      rw [hM n.1 n.2 hne]
theorem amUp_off {M : AmM} {c s j : Nat} {v : Int} {c' s' : Nat} (h : ¬ (c' = c ∧ s' = s)) : amUp M c s j v c' s' = M c' s' := by
  funext j'
  unfold amUp
  have : (c' == c && (s' == s && j' == j)) = false := by
    by_cases h1 : c' = c
    · by_cases h2 : s' = s
      · exact absurd ⟨h1, h2⟩ h
      · simp [h2]
    · simp [h1]
  rw [this]
  rfl
theorem amUp_on {M : AmM} {c s j : Nat} {v : Int} {j' : Nat} : amUp M c s j v c s j' = if j' = j then v else M c s j' := by
  unfold amUp
  by_cases h : j' = j
  · simp [h]
  · have e : (j' == j) = false := beq_false_of_ne h
    simp [e, h]
theorem amUp_I {M : AmM} {c s j : Nat} {v : Int} (h : amI M) (hv : amKndL.getD c 99 ≠ 21 → i32 v) (hv2 : i64 v) : amI (amUp M c s j v) := by
  intro c' s' j'
  by_cases hc : c' = c ∧ s' = s
  · obtain ⟨rfl, rfl⟩ := hc
    rw [amUp_on]
    by_cases hj : j' = j
    · rw [if_pos hj]; exact ⟨hv, hv2⟩
    · rw [if_neg hj]; exact h c' s' j'
  · rw [amUp_off hc]; exact h c' s' j'
theorem amUp_X {Z : AmZ} {M : AmM} {c s j : Nat} {v : Int} (h : amX Z M) (hc : c ≠ 90) : amX Z (amUp M c s j v) := by
  refine ⟨?_, fun k hk => ?_⟩
  · rw [amUp_off (by omega)]; exact h.1
  · rw [amUp_off (by omega)]; exact h.2 k hk
end
section
/-! instructions on locals and stack -/
theorem amRel.get {Z : AmZ} {H0 H : Heap} {nL : Nat} {lg : List Nat} {L st : List AmV} {M : AmM} {ls : Array Slot} {locs : List Loc} (h : amRel Z H0 nL lg L st M ls H locs) {k : Nat} {v : AmV} (hk : L[k]? = some v) (hs : amSet v) : ls[k]? = some (.val (amV (zAd Z) v)) ∧ amOk (zAl Z) v :=
  ⟨h.1.2.2 k v hk hs, h.2.2.1 v (List.mem_of_getElem? hk)⟩
def amLv (ad : Nat → Nat → Nat) (L : List AmV) : List (Nat × Value) := (List.range L.length).filterMap fun (i : Nat) => match (L[i]? : Option AmV) with
  | some (.inr (.inr (.inr ()))) => none
  | some v => some (i, amV ad v)
  | none => none
theorem amLv_mem {ad : Nat → Nat → Nat} {L : List AmV} {i : Nat} {v : AmV} (h : L[i]? = some v) (hs : amSet v) : (i, amV ad v) ∈ amLv ad L := by
  refine List.mem_filterMap.mpr ⟨i, List.mem_range.mpr (List.getElem?_eq_some_iff.mp h).1, ?_⟩
  rw [h]
  rcases v with r | x | x | x
  · rfl
  · rfl
  · rfl
  · exact absurd hs (fun q => q)
theorem amLv_of {ad : Nat → Nat → Nat} {L : List AmV} {q : Nat × Value} (h : q ∈ amLv ad L) : ∃ v, L[q.1]? = some v ∧ amSet v ∧ q.2 = amV ad v := by
  obtain ⟨i, -, hi⟩ := List.mem_filterMap.mp h
  cases hL : L[i]? with
  | none => rw [hL] at hi; cases hi
  | some v =>
    rw [hL] at hi
    rcases v with r | x | x | x
    · cases hi; exact ⟨_, hL, trivial, rfl⟩
    · cases hi; exact ⟨_, hL, trivial, rfl⟩
    · cases hi; exact ⟨_, hL, trivial, rfl⟩
    · cases hi
theorem amRel.has {Z : AmZ} {H0 H : Heap} {nL : Nat} {lg : List Nat} {L st : List AmV} {M : AmM} {ls : Array Slot} {locs : List Loc} (h : amRel Z H0 nL lg L st M ls H locs) : lv_has ls nL (amLv (zAd Z) L) :=
  ⟨h.1.1, h.1.2.1, fun q hq => by
    obtain ⟨v, h1, h2, h3⟩ := amLv_of hq
    rw [h3]
    exact h.1.2.2 q.1 v h1 h2⟩
def amQ (lg : List Nat) (k q : Nat) : Prop := q = 1 ∨ k = 0 ∨ (k - 1) ∉ lg
theorem amSt1_len {L : List AmV} {k : Nat} {v : AmV} {q : Nat} : (amSt1 L k v q).length = L.length := by
  unfold amSt1; split <;> simp
theorem amSt1_get {L : List AmV} {k : Nat} {v : AmV} {q i : Nat} {w : AmV} (h : (amSt1 L k v q)[i]? = some w) (hs : amSet w) : (i = k ∧ w = v) ∨ (i ≠ k ∧ L[i]? = some w ∧ (q ≠ 0 → i + 1 ≠ k)) := by
  unfold amSt1 at h
  split at h
  · by_cases hi : i = k
    · subst hi
      have hl : i < L.length := by simpa using (List.getElem?_eq_some_iff.mp h).1
      rw [List.getElem?_set_self hl] at h
      exact Or.inl ⟨rfl, (Option.some.inj h).symm⟩
    · rw [List.getElem?_set_ne (Ne.symm hi)] at h
      exact Or.inr ⟨hi, h, fun z => absurd rfl z⟩
  · by_cases hi : i = k
    · subst hi
      have hl : i < L.length := by simpa using (List.getElem?_eq_some_iff.mp h).1
      rw [List.getElem?_set_self (by simpa using hl)] at h
      exact Or.inl ⟨rfl, (Option.some.inj h).symm⟩
    · rw [List.getElem?_set_ne (Ne.symm hi)] at h
      by_cases h2 : i = k - 1
      · subst h2
        have hl : k - 1 < L.length := by simpa using (List.getElem?_eq_some_iff.mp h).1
        rw [List.getElem?_set_self hl] at h
        cases h
        exact absurd hs (fun q => q)
      · rw [List.getElem?_set_ne (Ne.symm h2)] at h
        exact Or.inr ⟨hi, h, fun _ => by omega⟩
theorem amSt1_mem {L : List AmV} {k : Nat} {v : AmV} {q : Nat} {w : AmV} (h : w ∈ amSt1 L k v q) : w = v ∨ w = vU ∨ w ∈ L := by
  unfold amSt1 at h
  split at h
  · rcases List.mem_or_eq_of_mem_set h with h | h
    · exact Or.inr (Or.inr h)
    · exact Or.inl h
  · rcases List.mem_or_eq_of_mem_set h with h | h
    · rcases List.mem_or_eq_of_mem_set h with h | h
      · exact Or.inr (Or.inr h)
      · exact Or.inr (Or.inl h)
    · exact Or.inl h
theorem amCat_v {ad : Nat → Nat → Nat} (v : AmV) : (amV ad v).category = 1 ∨ (∃ x, v = vL x ∧ (amV ad v).category = 2) := by
  rcases v with (_ | ⟨k, c, s⟩) | x | x | x
  · exact Or.inl rfl
  · exact Or.inl rfl
  · exact Or.inl rfl
  · exact Or.inr ⟨x, rfl, rfl⟩
  · exact Or.inl rfl
/-- behind a store of one word -/
theorem amRel.sto {Z : AmZ} {H0 H : Heap} {nL : Nat} {lg : List Nat} {L st st' : List AmV} {M : AmM} {ls ls' : Array Slot} {locs : List Loc} (h : amRel Z H0 nL lg L st M ls H locs) {k q : Nat} {v : AmV} (hv : amOk (zAl Z) v) (h1 : (amV (zAd Z) v).category = 1) (hk : k < nL) (hq : amQ lg k q) (hs : ∀ v ∈ st', v ∈ st)
    (hl : lv_has ls' nL ((k, amV (zAd Z) v) :: (amLv (zAd Z) L).filter (fun q => !(q.1 == k) && !(q.1 + 1 == k && q.2.category == 2)))) : amRel Z H0 nL lg (amSt1 L k v q) st' M ls' H locs := by
  refine ⟨⟨hl.1, hl.2.1, fun i w hw hset => ?_⟩, by rw [amSt1_len]; exact h.2.1, fun w hw => ?_, fun i x hx => ?_, fun w hw => h.2.2.2.2.1 w (hs w hw), h.2.2.2.2.2⟩
  · rcases amSt1_get hw hset with ⟨rfl, rfl⟩ | ⟨hi, hL, hq1⟩
    · exact hl.2.2 _ List.mem_cons_self
    · refine hl.2.2 (i, amV (zAd Z) w) (List.mem_cons_of_mem _ (List.mem_filter.mpr ⟨amLv_mem hL hset, ?_⟩))
      have e1 : (i == k) = false := beq_false_of_ne hi
      have e2 : (i + 1 == k && (amV (zAd Z) w).category == 2) = false := by
        rcases amCat_v (ad := zAd Z) w with hc | ⟨x, rfl, hc⟩
        · rw [hc]; simp
        · have hm := h.2.2.2.1 i x hL
          have : i + 1 ≠ k := by
            rcases hq with rfl | rfl | hq
            · exact hq1 (by decide)
            · omega
            · intro e
              apply hq
              rw [show k - 1 = i by omega]
              exact hm
          rw [beq_false_of_ne this]; rfl
      simp only [e1, e2]
      rfl
  · rcases amSt1_mem hw with rfl | rfl | hw
    · exact hv
    · trivial
    · exact h.2.2.1 w hw
  · rcases amSt1_get hx trivial with ⟨-, rfl⟩ | ⟨-, hL, -⟩
    · cases h1
    · exact h.2.2.2.1 i x hL
/-- behind a store of two words -/
theorem amRel.sto2 {Z : AmZ} {H0 H : Heap} {nL : Nat} {lg : List Nat} {L st st' : List AmV} {M : AmM} {ls ls' : Array Slot} {locs : List Loc} (h : amRel Z H0 nL lg L st M ls H locs) {k q : Nat} {x : Int} (hv : i64 x) (hk : k + 1 < nL) (hkl : k ∈ lg) (hq : amQ lg k q) (hs : ∀ v ∈ st', v ∈ st)
    (hl : lv_has ls' nL ((k, Value.long (Int64.ofInt x)) :: (amLv (zAd Z) L).filter (fun q => !(q.1 == k) && (!(q.1 == k + 1) && !(q.1 + 1 == k && q.2.category == 2))))) : amRel Z H0 nL lg (amSt2 L k (vL x) q) st' M ls' H locs := by
  have key : ∀ (i : Nat) (w : AmV), (amSt2 L k (vL x) q)[i]? = some w → amSet w → i ≠ k + 1 ∧ (amSt1 L k (vL x) q)[i]? = some w := by
    intro i w hw hset
    unfold amSt2 at hw
    by_cases hi : i = k + 1
    · subst hi
      have hl : k + 1 < (amSt1 L k (vL x) q).length := by simpa using (List.getElem?_eq_some_iff.mp hw).1
      rw [List.getElem?_set_self hl] at hw
      cases hw
      exact absurd hset (fun q => q)
    · rw [List.getElem?_set_ne (Ne.symm hi)] at hw
      exact ⟨hi, hw⟩
  refine ⟨⟨hl.1, hl.2.1, fun i w hw hset => ?_⟩, by unfold amSt2; rw [List.length_set, amSt1_len]; exact h.2.1, fun w hw => ?_, fun i y hy => ?_, fun w hw => h.2.2.2.2.1 w (hs w hw), h.2.2.2.2.2⟩
  · obtain ⟨hi1, hw⟩ := key i w hw hset
    rcases amSt1_get hw hset with ⟨rfl, rfl⟩ | ⟨hi, hL, hq1⟩
    · exact hl.2.2 _ List.mem_cons_self
    · refine hl.2.2 (i, amV (zAd Z) w) (List.mem_cons_of_mem _ (List.mem_filter.mpr ⟨amLv_mem hL hset, ?_⟩))
      have e1 : (i == k) = false := beq_false_of_ne hi
      have e3 : (i == k + 1) = false := beq_false_of_ne hi1
      have e2 : (i + 1 == k && (amV (zAd Z) w).category == 2) = false := by
        rcases amCat_v (ad := zAd Z) w with hc | ⟨x, rfl, hc⟩
        · rw [hc]; simp
        · have hm := h.2.2.2.1 i x hL
          have : i + 1 ≠ k := by
            rcases hq with rfl | rfl | hq
            · exact hq1 (by decide)
            · omega
            · intro e
              apply hq
              rw [show k - 1 = i by omega]
              exact hm
          rw [beq_false_of_ne this]; rfl
      simp only [e1, e2, e3]
      rfl
  · unfold amSt2 at hw
    rcases List.mem_or_eq_of_mem_set hw with hw | rfl
    · rcases amSt1_mem hw with rfl | rfl | hw
      · exact hv
      · trivial
      · exact h.2.2.1 w hw
    · trivial
  · obtain ⟨-, hy⟩ := key i _ hy trivial
    rcases amSt1_get hy trivial with ⟨rfl, -⟩ | ⟨-, hL, -⟩
    · exact hkl
    · exact h.2.2.2.1 i y hL
end
section
/-! what a program checks of each instruction of a method -/
def amLenI : Jvm.ClassFile.Instr → Nat
  | .iload _ => 2 | .lload _ => 2 | .aload _ => 2 | .istore _ => 2 | .lstore _ => 2 | .astore _ => 2 | .bipush _ => 2 | .ldc _ => 2
  | .sipush _ => 3 | .iinc _ _ => 3 | .goto _ => 3 | .ifCond _ _ => 3 | .if_icmp _ _ => 3 | .ifnull _ => 3 | .ifnonnull _ => 3 | .getfield _ => 3 | .putfield _ => 3
  | .invokevirtual _ => 3 | .invokestatic _ => 3 | .ldc_w _ => 3 | .ldc2_w _ => 3 | .invokespecial _ => 3 | .new _ => 3 | .anewarray _ => 3 | .newarray _ => 2
  | _ => 1
def amR (o : Nat) : String := [RX0, RX1, RX2, RX3, RX4, RX5, RX6, RX7, RX8, RX9, RX10, RX11, RX12, RL, RJ6].getD o ""
def amTf (c : Nat) : u_T := [TX0, TX1, TX2, TX3, TX4, TX5, TX6, TX7, TX8, TX9, TX10, TX11, TX12].getD c TX0
def amR32 (z : Int) : Bool := decide (-2147483648 ≤ z) && decide (z < 2147483648)
def amR64 (z : Int) : Bool := decide (-9223372036854775808 ≤ z) && decide (z < 9223372036854775808)
def amQb (lg : List Nat) (k q : Nat) : Bool := q == 1 || (k == 0 || !(lg.contains (k - 1)))
theorem amQb_of {lg : List Nat} {k q : Nat} (h : amQb lg k q = true) : amQ lg k q := by
  unfold amQb at h
  simp only [Bool.or_eq_true, beq_iff_eq, Bool.not_eq_true', List.contains_eq_mem, decide_eq_false_iff_not] at h
  exact h
theorem amR32_of {z : Int} (h : amR32 z = true) : i32 z := by unfold amR32 at h; simp only [Bool.and_eq_true, decide_eq_true_eq] at h; exact h
theorem amR64_of {z : Int} (h : amR64 z = true) : i64 z := by unfold amR64 at h; simp only [Bool.and_eq_true, decide_eq_true_eq] at h; exact h
def amChkI (ConT : List (Nat × Nat × Int)) (ConL : List (Nat × Nat × Int)) (StrT : List (Nat × Nat × Nat)) (FldT MthT : List (Nat × Nat × Nat × Nat)) (Npar : Nat → Nat) (o : Nat) (ret : Option FieldType) (lg : List Nat) (pc : Nat) (i : Jvm.ClassFile.Instr) (nx a b q : Nat) (z : Int) (ts : List Nat) : Bool := match i with
  | .iconst n => decide (n = z) && amR32 z
  | .bipush n => decide ((Int8.ofInt n).toInt32 = Int32.ofInt z) && amR32 z
  | .sipush n => decide ((Int16.ofInt n).toInt32 = Int32.ofInt z) && amR32 z
  | .lconst n => decide (((n : Nat) : Int) = z)
  | .ldc x => (match q with
    | 0 => ConT.contains (o, x, z) && amR32 z
    | _ => StrT.contains (o, x, a))
  | .ldc_w x => ConT.contains (o, x, z) && amR32 z
  | .ldc2_w x => ConL.contains (o, x, z) && amR64 z
  | .iinc k n => decide (n = z) && amQb lg k q
  | .istore k => amQb lg k q
  | .istore_n k => amQb lg k.val q
  | .astore k => amQb lg k q
  | .astore_n k => amQb lg k.val q
  | .lstore k => amQb lg k q && lg.contains k
  | .lstore_n k => amQb lg k.val q && lg.contains k.val
  | .goto off => decide ((pc : Int) + off = (a : Int))
  | .ifCond _ off => decide ((pc : Int) + off = (a : Int))
  | .if_icmp _ off => decide ((pc : Int) + off = (a : Int))
  | .ifnull off => decide ((pc : Int) + off = (a : Int))
  | .ifnonnull off => decide ((pc : Int) + off = (a : Int))
  | .tableswitch d lo hi offs => decide ((pc : Int) + d = (a : Int)) && (decide (lo = z) && (decide (hi = z + (ts.length : Int) - 1) && (amR32 z && (amR32 hi && (decide (offs.toList.length = ts.length) && (List.range ts.length).all (fun j => decide ((pc : Int) + offs.toList.getD j 0 = ((ts.getD j 0 : Nat) : Int))))))))
  | .getfield x => FldT.contains (o, x, a, b) && (decide (a < 13) && (decide (b < (amFkL.getD a []).length) && decide (q = (amFkL.getD a []).getD b 0)))
  | .putfield x => FldT.contains (o, x, a, b) && (decide (a < 13) && (decide (b < (amFkL.getD a []).length) && (decide (q = (amFkL.getD a []).getD b 0) && (decide ((amTf a b).2.2.2 = false) && (decide (q = 0 ∧ (amTf a b).2.2.1 = "I") || decide (q = 3 ∧ (amTf a b).2.2.1 = "Z"))))))
  | .invokevirtual x => (match q with
    | 1 => (MthT.contains (o, x, a, 0) || MthT.contains (o, x, a, 1)) && decide (b = Npar a + 1)
    | 9 => MthT.contains (o, x, 1009, 9)
    | 10 => MthT.contains (o, x, 1010, 9)
    | 11 => MthT.contains (o, x, 1011, 9)
    | _ => false)
  | .invokestatic x => (match q with
    | 0 => (MthT.contains (o, x, a, 2) || MthT.contains (o, x, a, 3)) && decide (b = Npar a)
    | 5 => MthT.contains (o, x, 1005, 9)
    | 6 => MthT.contains (o, x, 1006, 9)
    | 7 => MthT.contains (o, x, 1007, 9)
    | _ => false)
  | .ireturn => (match q with
    | 0 => decide (ret = some .int)
    | _ => decide (ret = some .boolean))
  | .lreturn => decide (ret = some .long)
  | .return_ => decide (ret = none)
  | _ => true
section AmS
variable {p : Program} {l : Launch} {e : Env} {R : Room} {s : State} {m : MethodId} {args : Array Value} {below : List Frame} {meth : Method} {c : Code} {cells slots : Nat} {Q : State → Prop}
variable {cc : ByteArray} {Z : AmZ} {nL : Nat} {lg : List Nat} {L st : List AmV} {M : AmM} {ls : Array Slot} {H : Heap} {locs : List Loc} {pc : Nat}
/-- what is to be shown behind an instruction -/
def amGo (p : Program) (l : Launch) (e : Env) (R : Room) (s : State) (m : MethodId) (args : Array Value) (below : List Frame) (meth : Method) (c : Code) (cells slots : Nat) (Q : State → Prop) (Z : AmZ) (nL : Nat) (lg : List Nat) (n : AmC) : Prop :=
  ∀ (ls : Array Slot) (H : Heap) (locs : List Loc), amRel Z s.heap nL lg n.2.1 n.2.2.1 n.2.2.2 ls H locs → W p l e R s m args below meth c H locs cells slots Q (F0 m n.1 ls (n.2.2.1.map (amV (zAd Z))))
theorem am_bin {f : Int → Int → Int} {g : Int32 → Int32 → Int32} {c' : AmC} {nx : Nat} {o : AmR} (ho : o = .inl c')
    (h : o = (match st with
      | .inr (.inl y) :: .inr (.inl x) :: st' => (.inl (nx, L, vI (f x y) :: st', M) : AmR)
      | _ => amNo))
    (hfg : ∀ x y, i32 x → i32 y → Int32.ofInt (f x y) = g (Int32.ofInt x) (Int32.ofInt y)) (hf : ∀ x y, i32 x → i32 y → i32 (f x y))
    (row : ∀ (x y : Int32) (rest : List Value), W p l e R s m args below meth c H locs cells slots Q (F0 m nx ls (.int (g x y) :: rest)) → W p l e R s m args below meth c H locs cells slots Q (F0 m pc ls (.int y :: .int x :: rest)))
    (hr : amRel Z s.heap nL lg L st M ls H locs) (kk : amGo p l e R s m args below meth c cells slots Q Z nL lg c') : W p l e R s m args below meth c H locs cells slots Q (F0 m pc ls (st.map (amV (zAd Z)))) := by
  subst ho
  split at h
  · rename_i y x st'
    cases h
    have h1 : i32 y := hr.top (v := vI y) (by simp)
    have h2 : i32 x := hr.top (v := vI x) (by simp)
    refine row (Int32.ofInt x) (Int32.ofInt y) (st'.map (amV (zAd Z))) ?_
    rw [← hfg x y h2 h1]
    refine kk ls H locs (hr.st fun v hv => ?_)
    rcases List.mem_cons.mp hv with rfl | hv
    · exact ⟨hf x y h2 h1, trivial⟩
    · exact hr.2.2.2.2.1 v (by simp [hv])
  · cases h
theorem am_lbin {f : Int → Int → Int} {g : Int64 → Int64 → Int64} {c' : AmC} {nx : Nat} {o : AmR} (ho : o = .inl c')
    (h : o = (match st with
      | .inr (.inr (.inl y)) :: .inr (.inr (.inl x)) :: st' => (.inl (nx, L, vL (f x y) :: st', M) : AmR)
      | _ => amNo))
    (hfg : ∀ x y, i64 x → i64 y → Int64.ofInt (f x y) = g (Int64.ofInt x) (Int64.ofInt y)) (hf : ∀ x y, i64 x → i64 y → i64 (f x y))
    (row : ∀ (x y : Int64) (rest : List Value), W p l e R s m args below meth c H locs cells slots Q (F0 m nx ls (.long (g x y) :: rest)) → W p l e R s m args below meth c H locs cells slots Q (F0 m pc ls (.long y :: .long x :: rest)))
    (hr : amRel Z s.heap nL lg L st M ls H locs) (kk : amGo p l e R s m args below meth c cells slots Q Z nL lg c') : W p l e R s m args below meth c H locs cells slots Q (F0 m pc ls (st.map (amV (zAd Z)))) := by
  subst ho
  split at h
  · rename_i y x st'
    cases h
    have h1 : i64 y := hr.top (v := vL y) (by simp)
    have h2 : i64 x := hr.top (v := vL x) (by simp)
    refine row (Int64.ofInt x) (Int64.ofInt y) (st'.map (amV (zAd Z))) ?_
    rw [← hfg x y h2 h1]
    refine kk ls H locs (hr.st fun v hv => ?_)
    rcases List.mem_cons.mp hv with rfl | hv
    · exact ⟨hf x y h2 h1, trivial⟩
    · exact hr.2.2.2.2.1 v (by simp [hv])
  · cases h
theorem am_un {f : Int → Int} {g : Int32 → Int32} {c' : AmC} {nx : Nat} {o : AmR} (ho : o = .inl c')
    (h : o = (match st with
      | .inr (.inl x) :: st' => (.inl (nx, L, vI (f x) :: st', M) : AmR)
      | _ => amNo))
    (hfg : ∀ x, i32 x → Int32.ofInt (f x) = g (Int32.ofInt x)) (hf : ∀ x, i32 x → i32 (f x))
    (row : ∀ (x : Int32) (rest : List Value), W p l e R s m args below meth c H locs cells slots Q (F0 m nx ls (.int (g x) :: rest)) → W p l e R s m args below meth c H locs cells slots Q (F0 m pc ls (.int x :: rest)))
    (hr : amRel Z s.heap nL lg L st M ls H locs) (kk : amGo p l e R s m args below meth c cells slots Q Z nL lg c') : W p l e R s m args below meth c H locs cells slots Q (F0 m pc ls (st.map (amV (zAd Z)))) := by
  subst ho
  split at h
  · rename_i x st'
    cases h
    have h2 : i32 x := hr.top (v := vI x) (by simp)
    refine row (Int32.ofInt x) (st'.map (amV (zAd Z))) ?_
    rw [← hfg x h2]
    refine kk ls H locs (hr.st fun v hv => ?_)
    rcases List.mem_cons.mp hv with rfl | hv
    · exact ⟨hf x h2, trivial⟩
    · exact hr.2.2.2.2.1 v (by simp [hv])
  · cases h
/-- a push -/
theorem am_push {v : AmV} {nx : Nat} (hv : amOk (zAl Z) v ∧ amSet v) (row : W p l e R s m args below meth c H locs cells slots Q (F0 m nx ls (amV (zAd Z) v :: st.map (amV (zAd Z)))) → W p l e R s m args below meth c H locs cells slots Q (F0 m pc ls (st.map (amV (zAd Z)))))
    (hr : amRel Z s.heap nL lg L st M ls H locs) (kk : amGo p l e R s m args below meth c cells slots Q Z nL lg (nx, L, v :: st, M)) : W p l e R s m args below meth c H locs cells slots Q (F0 m pc ls (st.map (amV (zAd Z)))) :=
  row (kk ls H locs (hr.st fun w hw => by
    rcases List.mem_cons.mp hw with rfl | hw
    · exact hv
    · exact hr.2.2.2.2.1 w hw))
theorem am_loI {c' : AmC} {nx k : Nat} (h : amLoI L st M nx k = .inl c') (row : ∀ x : Int32, ls[k]? = some (.val (.int x)) → W p l e R s m args below meth c H locs cells slots Q (F0 m nx ls (.int x :: st.map (amV (zAd Z)))) → W p l e R s m args below meth c H locs cells slots Q (F0 m pc ls (st.map (amV (zAd Z)))))
    (hr : amRel Z s.heap nL lg L st M ls H locs) (kk : amGo p l e R s m args below meth c cells slots Q Z nL lg c') : W p l e R s m args below meth c H locs cells slots Q (F0 m pc ls (st.map (amV (zAd Z)))) := by
  unfold amLoI at h
  split at h
  · rename_i x hx
    cases h
    obtain ⟨g1, g2⟩ := hr.get hx trivial
    exact am_push (v := vI x) ⟨g2, trivial⟩ (row _ g1) hr kk
  · cases h
theorem am_loL {c' : AmC} {nx k : Nat} (h : amLoL L st M nx k = .inl c') (row : ∀ x : Int64, ls[k]? = some (.val (.long x)) → W p l e R s m args below meth c H locs cells slots Q (F0 m nx ls (.long x :: st.map (amV (zAd Z)))) → W p l e R s m args below meth c H locs cells slots Q (F0 m pc ls (st.map (amV (zAd Z)))))
    (hr : amRel Z s.heap nL lg L st M ls H locs) (kk : amGo p l e R s m args below meth c cells slots Q Z nL lg c') : W p l e R s m args below meth c H locs cells slots Q (F0 m pc ls (st.map (amV (zAd Z)))) := by
  unfold amLoL at h
  split at h
  · rename_i x hx
    cases h
    obtain ⟨g1, g2⟩ := hr.get hx trivial
    exact am_push (v := vL x) ⟨g2, trivial⟩ (row _ g1) hr kk
  · cases h
theorem am_loA {c' : AmC} {nx k : Nat} (h : amLoA L st M nx k = .inl c') (row : ∀ x : Nat, ls[k]? = some (.val (.ref x)) → W p l e R s m args below meth c H locs cells slots Q (F0 m nx ls (.ref x :: st.map (amV (zAd Z)))) → W p l e R s m args below meth c H locs cells slots Q (F0 m pc ls (st.map (amV (zAd Z)))))
    (hr : amRel Z s.heap nL lg L st M ls H locs) (kk : amGo p l e R s m args below meth c cells slots Q Z nL lg c') : W p l e R s m args below meth c H locs cells slots Q (F0 m pc ls (st.map (amV (zAd Z)))) := by
  unfold amLoA at h
  split at h
  · rename_i x hx
    cases h
    obtain ⟨g1, g2⟩ := hr.get hx trivial
    obtain ⟨k1, c1, s1⟩ := x
    exact am_push (v := vR k1 c1 s1) ⟨g2, trivial⟩ (row _ g1) hr kk
  · cases h
theorem am_stI {c' : AmC} {nx k q : Nat} (h : amStoI L st M nx k q = .inl c') (hq : amQ lg k q)
    (row : ∀ (x : Int32) (rest : List Value) (lv lv' : List (Nat × Value)), lv_has ls nL lv → k < nL → (k, Value.int x) :: lv.filter (fun q => !(q.1 == k) && !(q.1 + 1 == k && q.2.category == 2)) = lv' → (∀ ls' : Array Slot, lv_has ls' nL lv' → W p l e R s m args below meth c H locs cells slots Q (F0 m nx ls' rest)) → W p l e R s m args below meth c H locs cells slots Q (F0 m pc ls (.int x :: rest)))
    (hr : amRel Z s.heap nL lg L st M ls H locs) (kk : amGo p l e R s m args below meth c cells slots Q Z nL lg c') : W p l e R s m args below meth c H locs cells slots Q (F0 m pc ls (st.map (amV (zAd Z)))) := by
  unfold amStoI at h
  split at h
  · rename_i x st'
    cases hk : Nat.blt k L.length with
    | false => rw [hk] at h; cases h
    | true =>
      rw [hk] at h
      cases h
      have hk2 : k < nL := by rw [← hr.2.1]; exact Nat.le_of_ble_eq_true hk
      refine row (Int32.ofInt x) (st'.map (amV (zAd Z))) _ _ hr.has hk2 rfl fun ls' hl => ?_
      exact kk ls' H locs (hr.sto (v := vI x) (hr.top (v := vI x) (by simp)) rfl hk2 hq (fun v hv => by simp [hv]) hl)
  · cases h
theorem am_stA {c' : AmC} {nx k q : Nat} (h : amStoA L st M nx k q = .inl c') (hq : amQ lg k q)
    (row : ∀ (x : Nat) (rest : List Value) (lv lv' : List (Nat × Value)), lv_has ls nL lv → k < nL → (k, Value.ref x) :: lv.filter (fun q => !(q.1 == k) && !(q.1 + 1 == k && q.2.category == 2)) = lv' → (∀ ls' : Array Slot, lv_has ls' nL lv' → W p l e R s m args below meth c H locs cells slots Q (F0 m nx ls' rest)) → W p l e R s m args below meth c H locs cells slots Q (F0 m pc ls (.ref x :: rest)))
    (hr : amRel Z s.heap nL lg L st M ls H locs) (kk : amGo p l e R s m args below meth c cells slots Q Z nL lg c') : W p l e R s m args below meth c H locs cells slots Q (F0 m pc ls (st.map (amV (zAd Z)))) := by
  unfold amStoA at h
  split at h
  · rename_i x st'
    obtain ⟨k1, c1, s1⟩ := x
    cases hk : Nat.blt k L.length with
    | false => rw [hk] at h; cases h
    | true =>
      rw [hk] at h
      cases h
      have hk2 : k < nL := by rw [← hr.2.1]; exact Nat.le_of_ble_eq_true hk
      refine row (zAd Z c1 s1) (st'.map (amV (zAd Z))) _ _ hr.has hk2 rfl fun ls' hl => ?_
      exact kk ls' H locs (hr.sto (v := vR k1 c1 s1) (hr.top (v := vR k1 c1 s1) (by simp)) rfl hk2 hq (fun v hv => by simp [hv]) hl)
  · cases h
theorem am_stL {c' : AmC} {nx k q : Nat} (h : amStoL L st M nx k q = .inl c') (hq : amQ lg k q) (hkl : k ∈ lg)
    (row : ∀ (x : Int64) (rest : List Value) (lv lv' : List (Nat × Value)), lv_has ls nL lv → k + 1 < nL → (k, Value.long x) :: lv.filter (fun q => !(q.1 == k) && (!(q.1 == k + 1) && !(q.1 + 1 == k && q.2.category == 2))) = lv' → (∀ ls' : Array Slot, lv_has ls' nL lv' → W p l e R s m args below meth c H locs cells slots Q (F0 m nx ls' rest)) → W p l e R s m args below meth c H locs cells slots Q (F0 m pc ls (.long x :: rest)))
    (hr : amRel Z s.heap nL lg L st M ls H locs) (kk : amGo p l e R s m args below meth c cells slots Q Z nL lg c') : W p l e R s m args below meth c H locs cells slots Q (F0 m pc ls (st.map (amV (zAd Z)))) := by
  unfold amStoL at h
  split at h
  · rename_i x st'
    cases hk : Nat.blt (k + 1) L.length with
    | false => rw [hk] at h; cases h
    | true =>
      rw [hk] at h
      cases h
      have hk2 : k + 1 < nL := by rw [← hr.2.1]; exact Nat.le_of_ble_eq_true hk
      refine row (Int64.ofInt x) (st'.map (amV (zAd Z))) _ _ hr.has hk2 rfl fun ls' hl => ?_
      exact kk ls' H locs (hr.sto2 (hr.top (v := vL x) (by simp)) hk2 hkl hq (fun v hv => by simp [hv]) hl)
  · cases h
theorem am_if {C : Prop} {iC : Decidable C} {A B : AmC} {c' : AmC} (h : (@ite AmR C iC (.inl A) (.inl B)) = .inl c') : (C ∧ c' = A) ∨ (¬ C ∧ c' = B) := by
  by_cases hC : C
  · rw [if_pos hC] at h; cases h; exact Or.inl ⟨hC, rfl⟩
  · rw [if_neg hC] at h; cases h; exact Or.inr ⟨hC, rfl⟩
end AmS
end
section
section AmS3
variable {p : Program} {l : Launch} {e : Env} {R : Room} {s : State} {m : MethodId} {args : Array Value} {below : List Frame} {meth : Method} {c : Code} {cells slots : Nat} {Q : State → Prop}
variable {cc : ByteArray} {Z : AmZ} {nL : Nat} {lg : List Nat} {L st : List AmV} {M : AmM} {ls : Array Slot} {H : Heap} {locs : List Loc} {pc : Nat}
variable {ConT ConL : List (Nat × Nat × Int)} {StrT : List (Nat × Nat × Nat)} {FldT MthT : List (Nat × Nat × Nat × Nat)} {Npar : Nat → Nat} {o : Nat} {ret : Option FieldType} {cal : Nat → List AmV → AmM → Option (AmV × AmM)} {nx a b q : Nat} {z : Int} {ts : List Nat} {c' : AmC}
/-- the instructions on locals and stack alone -/
def amIsA : Jvm.ClassFile.Instr → Bool
  | .iload _ => true | .iload_n _ => true | .lload _ => true | .lload_n _ => true | .aload _ => true | .aload_n _ => true
  | .istore _ => true | .istore_n _ => true | .lstore _ => true | .lstore_n _ => true | .astore _ => true | .astore_n _ => true
  | .iconst _ => true | .bipush _ => true | .sipush _ => true | .lconst _ => true | .iinc _ _ => true
  | .iadd => true | .isub => true | .imul => true | .idiv => true | .irem => true | .iand => true | .ior => true | .ixor => true | .ishl => true | .ishr => true | .iushr => true
  | .ladd => true | .lsub => true | .lmul => true | .ldiv => true | .lcmp => true | .i2l => true | .l2i => true | .i2b => true | .i2c => true
  | .dup => true | .pop => true | .dup2 => true | .goto _ => true
  | _ => false
theorem am_simA {i : Jvm.ClassFile.Instr} (hi : amIsA i = true) (hx : p.tables.exec = Jvm.exec) (hb : c.code = cc) (hd : decode cc pc = .ok (i, amLenI i)) (hn : nx = pc + amLenI i)
    (hc : amChkI ConT ConL StrT FldT MthT Npar o ret lg pc i nx a b q z ts = true) (h : amEx (zG Z) cal i nx a b q z ts L st M = .inl c')
    (hr : amRel Z s.heap nL lg L st M ls H locs) (kk : amGo p l e R s m args below meth c cells slots Q Z nL lg c') : W p l e R s m args below meth c H locs cells slots Q (F0 m pc ls (st.map (amV (zAd Z)))) := by
  subst hn
  cases i <;> first | (cases hi; done) | skip
  case iload k => exact am_loI h (fun x h1 k1 => lv_iload hx hb hd h1 k1) hr kk
  case iload_n k => exact am_loI h (fun x h1 k1 => lv_iload_n hx hb hd rfl h1 k1) hr kk
  case lload k => exact am_loL h (fun x h1 k1 => lv_lload hx hb hd h1 k1) hr kk
  case lload_n k => exact am_loL h (fun x h1 k1 => lv_lload_n hx hb hd rfl h1 k1) hr kk
  case aload k => exact am_loA h (fun x h1 k1 => lv_aload hx hb hd h1 k1) hr kk
  case aload_n k => exact am_loA h (fun x h1 k1 => lv_aload_n hx hb hd rfl h1 k1) hr kk
  case istore k => exact am_stI h (amQb_of hc) (fun x rest lv lv' h1 h2 h3 k1 => lv_istore hx hb hd h1 h2 h3 k1) hr kk
  case istore_n k => exact am_stI h (amQb_of hc) (fun x rest lv lv' h1 h2 h3 k1 => lv_istore_n hx hb hd rfl h1 h2 h3 k1) hr kk
  case astore k => exact am_stA h (amQb_of hc) (fun x rest lv lv' h1 h2 h3 k1 => lv_astore hx hb hd h1 h2 h3 k1) hr kk
  case astore_n k => exact am_stA h (amQb_of hc) (fun x rest lv lv' h1 h2 h3 k1 => lv_astore_n hx hb hd rfl h1 h2 h3 k1) hr kk
  case lstore k =>
    have hc2 : (amQb lg k q && lg.contains k) = true := hc
    simp only [Bool.and_eq_true] at hc2
    exact am_stL h (amQb_of hc2.1) (by simpa using hc2.2) (fun x rest lv lv' h1 h2 h3 k1 => lv_lstore hx hb hd h1 h2 h3 k1) hr kk
  case lstore_n k =>
    have hc2 : (amQb lg k.val q && lg.contains k.val) = true := hc
    simp only [Bool.and_eq_true] at hc2
    exact am_stL h (amQb_of hc2.1) (by simpa using hc2.2) (fun x rest lv lv' h1 h2 h3 k1 => lv_lstore_n hx hb hd rfl h1 h2 h3 k1) hr kk
  case iconst n =>
    have hc2 : (decide (n = z) && amR32 z) = true := hc
    simp only [Bool.and_eq_true, decide_eq_true_eq] at hc2
    cases h
    exact am_push (v := vI z) ⟨amR32_of hc2.2, trivial⟩ (fun k1 => lv_iconst hx hb hd (by rw [hc2.1]) k1) hr kk
  case bipush n =>
    have hc2 : (decide ((Int8.ofInt n).toInt32 = Int32.ofInt z) && amR32 z) = true := hc
    simp only [Bool.and_eq_true, decide_eq_true_eq] at hc2
    cases h
    exact am_push (v := vI z) ⟨amR32_of hc2.2, trivial⟩ (fun k1 => lv_bipush hx hb hd hc2.1 k1) hr kk
  case sipush n =>
    have hc2 : (decide ((Int16.ofInt n).toInt32 = Int32.ofInt z) && amR32 z) = true := hc
    simp only [Bool.and_eq_true, decide_eq_true_eq] at hc2
    cases h
    exact am_push (v := vI z) ⟨amR32_of hc2.2, trivial⟩ (fun k1 => lv_sipush hx hb hd hc2.1 k1) hr kk
  case lconst n =>
    have hc2 : decide (((n : Nat) : Int) = z) = true := hc
    simp only [decide_eq_true_eq] at hc2
    cases h
    refine am_push (v := vL z) ⟨?_, trivial⟩ (fun k1 => lv_lconst hx hb hd (by rw [← hc2]; exact (Int64.ofInt_eq_ofNat).symm) k1) hr kk
    show i64 z
    have := n.isLt
    unfold i64; omega
  case iinc k n =>
    have hc2 : (decide (n = z) && amQb lg k q) = true := hc
    simp only [Bool.and_eq_true, decide_eq_true_eq] at hc2
    obtain ⟨rfl, hc3⟩ := hc2
    have h2 : (match L[k]? with
      | some (.inr (.inl x)) => (.inl (pc + 3, amSt1 L k (vI (w32 (x + n))) q, st, M) : AmR)
      | _ => amNo) = .inl c' := h
    split at h2
    · rename_i x hxk
      cases h2
      obtain ⟨g1, g2⟩ := hr.get hxk trivial
      have hk2 : k < nL := by rw [← hr.2.1]; exact (List.getElem?_eq_some_iff.mp hxk).1
      obtain ⟨pp, hpp⟩ := List.getElem?_of_mem (amLv_mem (ad := zAd Z) hxk trivial)
      refine lv_iinc (v := Int32.ofInt (w32 (x + n))) hx hb hd hr.has (k := pp) hpp ?_ hk2 rfl fun ls' hl => ?_
      · rw [of_w32, Int32.ofInt_add]
      · exact kk ls' H locs (hr.sto (v := vI (w32 (x + n))) (w32_i _) rfl hk2 (amQb_of hc3) (fun v hv => hv) hl)
    · cases h2
  case iadd => exact am_bin h rfl (fun x y _ _ => by rw [of_w32, Int32.ofInt_add]) (fun x y _ _ => w32_i _) (fun x y rest k1 => lv_iadd hx hb hd k1) hr kk
  case isub => exact am_bin h rfl (fun x y _ _ => by rw [of_w32, Int32.ofInt_sub]) (fun x y _ _ => w32_i _) (fun x y rest k1 => lv_isub hx hb hd k1) hr kk
  case imul => exact am_bin h rfl (fun x y _ _ => by rw [of_w32, Int32.ofInt_mul]) (fun x y _ _ => w32_i _) (fun x y rest k1 => lv_imul hx hb hd k1) hr kk
  case iand => exact am_bin (f := bAnd) h rfl (fun x y _ _ => Int32.ofInt_toInt _) (fun x y _ _ => toInt_i _) (fun x y rest k1 => lv_iand hx hb hd k1) hr kk
  case ior => exact am_bin (f := bOr) h rfl (fun x y _ _ => Int32.ofInt_toInt _) (fun x y _ _ => toInt_i _) (fun x y rest k1 => lv_ior hx hb hd k1) hr kk
  case ixor => exact am_bin (f := bXor) h rfl (fun x y _ _ => Int32.ofInt_toInt _) (fun x y _ _ => toInt_i _) (fun x y rest k1 => lv_ixor hx hb hd k1) hr kk
  case ishl => exact am_bin (f := bShl) (g := fun x y => x <<< (y &&& 31)) h rfl (fun x y _ _ => Int32.ofInt_toInt _) (fun x y _ _ => toInt_i _) (fun x y rest k1 => lv_ishl hx hb hd k1) hr kk
  case ishr => exact am_bin (f := bShr) (g := fun x y => x >>> (y &&& 31)) h rfl (fun x y _ _ => Int32.ofInt_toInt _) (fun x y _ _ => toInt_i _) (fun x y rest k1 => lv_ishr hx hb hd k1) hr kk
  case iushr => exact am_bin (f := bUsh) (g := fun x y => (x.toUInt32 >>> (y.toUInt32 &&& Int32.toUInt32 31)).toInt32) h rfl (fun x y _ _ => Int32.ofInt_toInt _) (fun x y _ _ => toInt_i _) (fun x y rest k1 => lv_iushr hx hb hd rfl k1) hr kk
  case idiv =>
    have h2 : (match st with
      | .inr (.inl y) :: .inr (.inl x) :: st' => (if y = 0 then amNo else .inl (pc + 1, L, vI (w32 (Int.tdiv x y)) :: st', M) : AmR)
      | _ => amNo) = .inl c' := h
    split at h2
    · rename_i y x st'
      have hy : i32 y := hr.top (v := vI y) (by simp)
      have hxx : i32 x := hr.top (v := vI x) (by simp)
      by_cases h0 : y = 0
      · rw [if_pos h0] at h2; cases h2
      · rw [if_neg h0] at h2
        cases h2
        refine lv_idiv hx hb hd (fun q => h0 ((of_eq hy (y := 0) (by unfold i32; omega)).mp q)) ?_
        rw [of_div hxx hy]
        refine kk ls H locs (hr.st fun v hv => ?_)
        rcases List.mem_cons.mp hv with rfl | hv
        · exact ⟨w32_i _, trivial⟩
        · exact hr.2.2.2.2.1 v (by simp [hv])
    · cases h2
  case irem =>
    have h2 : (match st with
      | .inr (.inl y) :: .inr (.inl x) :: st' => (if y = 0 then amNo else .inl (pc + 1, L, vI (Int.tmod x y) :: st', M) : AmR)
      | _ => amNo) = .inl c' := h
    split at h2
    · rename_i y x st'
      have hy : i32 y := hr.top (v := vI y) (by simp)
      have hxx : i32 x := hr.top (v := vI x) (by simp)
      by_cases h0 : y = 0
      · rw [if_pos h0] at h2; cases h2
      · rw [if_neg h0] at h2
        cases h2
        refine lv_irem hx hb hd (fun q => h0 ((of_eq hy (y := 0) (by unfold i32; omega)).mp q)) ?_
        rw [of_rem hxx hy h0]
        refine kk ls H locs (hr.st fun v hv => ?_)
        rcases List.mem_cons.mp hv with rfl | hv
        · exact ⟨tmod_i hxx h0 hy, trivial⟩
        · exact hr.2.2.2.2.1 v (by simp [hv])
    · cases h2
  case ladd => exact am_lbin h rfl (fun x y _ _ => by rw [of_w64, Int64.ofInt_add]) (fun x y _ _ => w64_i _) (fun x y rest k1 => lv_ladd hx hb hd k1) hr kk
  case lsub => exact am_lbin h rfl (fun x y _ _ => by rw [of_w64, Int64.ofInt_sub]) (fun x y _ _ => w64_i _) (fun x y rest k1 => lv_lsub hx hb hd k1) hr kk
  case lmul => exact am_lbin h rfl (fun x y _ _ => by rw [of_w64, Int64.ofInt_mul]) (fun x y _ _ => w64_i _) (fun x y rest k1 => lv_lmul hx hb hd k1) hr kk
  case ldiv =>
    have h2 : (match st with
      | .inr (.inr (.inl y)) :: .inr (.inr (.inl x)) :: st' => (if y = 0 then amNo else .inl (pc + 1, L, vL (w64 (Int.tdiv x y)) :: st', M) : AmR)
      | _ => amNo) = .inl c' := h
    split at h2
    · rename_i y x st'
      have hy : i64 y := hr.top (v := vL y) (by simp)
      have hxx : i64 x := hr.top (v := vL x) (by simp)
      by_cases h0 : y = 0
      · rw [if_pos h0] at h2; cases h2
      · rw [if_neg h0] at h2
        cases h2
        refine lv_ldiv hx hb hd (fun q => h0 (by have := congrArg Int64.toInt q; rw [i64_of hy] at this; exact this)) ?_
        rw [of_ldiv hxx hy]
        refine kk ls H locs (hr.st fun v hv => ?_)
        rcases List.mem_cons.mp hv with rfl | hv
        · exact ⟨w64_i _, trivial⟩
        · exact hr.2.2.2.2.1 v (by simp [hv])
    · cases h2
  case lcmp =>
    have h2 : (match st with
      | .inr (.inr (.inl y)) :: .inr (.inr (.inl x)) :: st' => (.inl (pc + 1, L, vI (amCmp x y) :: st', M) : AmR)
      | _ => amNo) = .inl c' := h
    split at h2
    · rename_i y x st'
      cases h2
      have hy : i64 y := hr.top (v := vL y) (by simp)
      have hxx : i64 x := hr.top (v := vL x) (by simp)
      refine W.lcmp hx hb hd ?_
      rw [of_cmp hxx hy]
      refine kk ls H locs (hr.st fun v hv => ?_)
      rcases List.mem_cons.mp hv with rfl | hv
      · exact ⟨amCmp_i _ _, trivial⟩
      · exact hr.2.2.2.2.1 v (by simp [hv])
    · cases h2
  case i2l =>
    have h2 : (match st with
      | .inr (.inl x) :: st' => (.inl (pc + 1, L, vL x :: st', M) : AmR)
      | _ => amNo) = .inl c' := h
    split at h2
    · rename_i x st'
      cases h2
      have hxx : i32 x := hr.top (v := vI x) (by simp)
      refine lv_i2l hx hb hd (of_2l hxx) (kk ls H locs (hr.st fun v hv => ?_))
      rcases List.mem_cons.mp hv with rfl | hv
      · exact ⟨by show i64 x; unfold i32 at hxx; unfold i64; omega, trivial⟩
      · exact hr.2.2.2.2.1 v (by simp [hv])
    · cases h2
  case l2i =>
    have h2 : (match st with
      | .inr (.inr (.inl x)) :: st' => (.inl (pc + 1, L, vI (w32 x) :: st', M) : AmR)
      | _ => amNo) = .inl c' := h
    split at h2
    · rename_i x st'
      cases h2
      have hxx : i64 x := hr.top (v := vL x) (by simp)
      refine lv_l2i hx hb hd (of_2i hxx) (kk ls H locs (hr.st fun v hv => ?_))
      rcases List.mem_cons.mp hv with rfl | hv
      · exact ⟨w32_i x, trivial⟩
      · exact hr.2.2.2.2.1 v (by simp [hv])
    · cases h2
  case i2b => exact am_un (f := w8) h rfl (fun x h1 => (of_8 h1).symm) (fun x _ => w8_i x) (fun x rest k1 => lv_i2b hx hb hd rfl k1) hr kk
  case i2c => exact am_un (f := fun x => x % 65536) h rfl (fun x h1 => (of_2c h1).symm) (fun x _ => by unfold i32; omega) (fun x rest k1 => lv_i2c hx hb hd rfl k1) hr kk
  case goto off =>
    have hc2 : decide ((pc : Int) + off = (a : Int)) = true := hc
    cases h
    exact lv_goto hx hb hd (of_decide_eq_true hc2) (kk ls H locs hr)
  case dup =>
    have h2 : (match st with
      | .inr (.inl x) :: st' => (.inl (pc + 1, L, vI x :: vI x :: st', M) : AmR)
      | .inl r :: st' => .inl (pc + 1, L, .inl r :: .inl r :: st', M)
      | _ => amNo) = .inl c' := h
    split at h2
    · rename_i x st'
      cases h2
      refine lv_dup hx hb hd rfl (kk ls H locs (hr.st fun v hv => hr.2.2.2.2.1 v (by simpa using hv)))
    · rename_i r st'
      cases h2
      refine lv_dup hx hb hd (by rcases r with _ | ⟨_, _, _⟩ <;> rfl) (kk ls H locs (hr.st fun v hv => hr.2.2.2.2.1 v (by simpa using hv)))
    · cases h2
  case pop =>
    have h2 : (match st with
      | .inr (.inl _) :: st' => (.inl (pc + 1, L, st', M) : AmR)
      | .inl _ :: st' => .inl (pc + 1, L, st', M)
      | _ => amNo) = .inl c' := h
    split at h2
    · rename_i x st'
      cases h2
      refine lv_pop hx hb hd rfl (kk ls H locs (hr.st fun v hv => hr.2.2.2.2.1 v (by simp [hv])))
    · rename_i r st'
      cases h2
      refine lv_pop hx hb hd (by rcases r with _ | ⟨_, _, _⟩ <;> rfl) (kk ls H locs (hr.st fun v hv => hr.2.2.2.2.1 v (by simp [hv])))
    · cases h2
  case dup2 =>
    have h2 : (match st with
      | .inr (.inl x) :: .inl r :: st' => (.inl (pc + 1, L, vI x :: .inl r :: vI x :: .inl r :: st', M) : AmR)
      | _ => amNo) = .inl c' := h
    split at h2
    · rename_i x r st'
      cases h2
      refine lv_dup2_11 hx hb hd rfl (by rcases r with _ | ⟨_, _, _⟩ <;> rfl) (kk ls H locs (hr.st fun v hv => hr.2.2.2.2.1 v ?_))
      simp only [List.mem_cons] at hv ⊢
      rcases hv with h | h | h | h | h <;> simp [h]
    · cases h2
end AmS3
end
section
section AmS4
variable {p : Program} {l : Launch} {e : Env} {R : Room} {s : State} {m : MethodId} {args : Array Value} {below : List Frame} {meth : Method} {c : Code} {cells slots : Nat} {Q : State → Prop}
variable {cc : ByteArray} {Z : AmZ} {nL : Nat} {lg : List Nat} {L st : List AmV} {M : AmM} {ls : Array Slot} {H : Heap} {locs : List Loc} {pc : Nat}
variable {ConT ConL : List (Nat × Nat × Int)} {StrT : List (Nat × Nat × Nat)} {FldT MthT : List (Nat × Nat × Nat × Nat)} {Npar : Nat → Nat} {o : Nat} {ret : Option FieldType} {cal : Nat → List AmV → AmM → Option (AmV × AmM)} {nx a b q : Nat} {z : Int} {ts : List Nat} {c' : AmC}
theorem am_0 : i32 0 := by unfold i32; omega
/-- the jumps -/
def amIsB : Jvm.ClassFile.Instr → Bool
  | .ifCond _ _ => true | .if_icmp _ _ => true | .ifnull _ => true | .ifnonnull _ => true | .tableswitch _ _ _ _ => true
  | _ => false
theorem am_simB {i : Jvm.ClassFile.Instr} {len : Nat} (hi : amIsB i = true) (hx : p.tables.exec = Jvm.exec) (hb : c.code = cc) (hd : decode cc pc = .ok (i, len)) (hn : (∀ d lo hi of, i ≠ .tableswitch d lo hi of) → len = 3 ∧ nx = pc + 3)
    (hc : amChkI ConT ConL StrT FldT MthT Npar o ret lg pc i nx a b q z ts = true) (h : amEx (zG Z) cal i nx a b q z ts L st M = .inl c')
    (hr : amRel Z s.heap nL lg L st M ls H locs) (kk : amGo p l e R s m args below meth c cells slots Q Z nL lg c') : W p l e R s m args below meth c H locs cells slots Q (F0 m pc ls (st.map (amV (zAd Z)))) := by
  cases i <;> first | (cases hi; done) | skip
  case ifCond cnd off =>
    obtain ⟨rfl, rfl⟩ := hn (fun _ _ _ _ h => by cases h)
    have ht : (pc : Int) + off = (a : Int) := of_decide_eq_true hc
    have h2 : (match st with
      | .inr (.inl x) :: st' => (amIf cnd x 0 (.inl (a, L, st', M)) (.inl (pc + 3, L, st', M)) : AmR)
      | _ => amNo) = .inl c' := h
    split at h2
    · rename_i x st'
      have hxx : i32 x := hr.top (v := vI x) (by simp)
      have hs : ∀ v ∈ st', amOk (zAl Z) v ∧ amSet v := fun v hv => hr.2.2.2.2.1 v (by simp [hv])
      have e0 : Int32.ofInt x = 0 ↔ x = 0 := of_eq hxx (y := 0) am_0
      have l0 : Int32.ofInt x < 0 ↔ x < 0 := of_lt hxx (y := 0) am_0
      have g0 : 0 < Int32.ofInt x ↔ 0 < x := of_lt (x := 0) am_0 hxx
      have n1 : 0 ≤ Int32.ofInt x ↔ ¬ x < 0 := by rw [show (0 : Int32) ≤ Int32.ofInt x ↔ 0 ≤ x from of_le (x := 0) am_0 hxx]; omega
      have n2 : Int32.ofInt x ≤ 0 ↔ ¬ 0 < x := by rw [show Int32.ofInt x ≤ (0 : Int32) ↔ x ≤ 0 from of_le hxx (y := 0) am_0]; omega
      cases cnd
      · rcases am_if h2 with ⟨hC, rfl⟩ | ⟨hC, rfl⟩
        · exact lv_if_eq hx hb hd ht (fun _ => kk ls H locs (hr.st hs)) (fun k => absurd (e0.mpr hC) k)
        · exact lv_if_eq hx hb hd ht (fun k => absurd (e0.mp k) hC) (fun _ => kk ls H locs (hr.st hs))
      · rcases am_if h2 with ⟨hC, rfl⟩ | ⟨hC, rfl⟩
        · exact lv_if_ne hx hb hd ht (fun k => absurd (e0.mpr hC) k) (fun _ => kk ls H locs (hr.st hs))
        · exact lv_if_ne hx hb hd ht (fun _ => kk ls H locs (hr.st hs)) (fun k => absurd (e0.mp k) hC)
      · rcases am_if h2 with ⟨hC, rfl⟩ | ⟨hC, rfl⟩
        · exact lv_if_lt hx hb hd ht (fun _ => kk ls H locs (hr.st hs)) (fun k => absurd (l0.mpr hC) k)
        · exact lv_if_lt hx hb hd ht (fun k => absurd (l0.mp k) hC) (fun _ => kk ls H locs (hr.st hs))
      · rcases am_if h2 with ⟨hC, rfl⟩ | ⟨hC, rfl⟩
        · exact lv_if_ge hx hb hd ht (fun k => absurd hC (by first | exact n1.mp k | (rw [l0] at k; exact k))) (fun _ => kk ls H locs (hr.st hs))
        · exact lv_if_ge hx hb hd ht (fun _ => kk ls H locs (hr.st hs)) (fun k => absurd (by first | exact n1.mpr hC | (rw [l0]; exact hC)) k)
      · rcases am_if h2 with ⟨hC, rfl⟩ | ⟨hC, rfl⟩
        · exact lv_if_gt hx hb hd ht (fun _ => kk ls H locs (hr.st hs)) (fun k => absurd (g0.mpr hC) k)
        · exact lv_if_gt hx hb hd ht (fun k => absurd (g0.mp k) hC) (fun _ => kk ls H locs (hr.st hs))
      · rcases am_if h2 with ⟨hC, rfl⟩ | ⟨hC, rfl⟩
        · exact lv_if_le hx hb hd ht (fun k => absurd hC (by first | exact n2.mp k | (rw [g0] at k; exact k))) (fun _ => kk ls H locs (hr.st hs))
        · exact lv_if_le hx hb hd ht (fun _ => kk ls H locs (hr.st hs)) (fun k => absurd (by first | exact n2.mpr hC | (rw [g0]; exact hC)) k)
    · cases h2
  case if_icmp cnd off =>
    obtain ⟨rfl, rfl⟩ := hn (fun _ _ _ _ h => by cases h)
    have ht : (pc : Int) + off = (a : Int) := of_decide_eq_true hc
    have h2 : (match st with
      | .inr (.inl y) :: .inr (.inl x) :: st' => (amIf cnd x y (.inl (a, L, st', M)) (.inl (pc + 3, L, st', M)) : AmR)
      | _ => amNo) = .inl c' := h
    split at h2
    · rename_i y x st'
      have hyy : i32 y := hr.top (v := vI y) (by simp)
      have hxx : i32 x := hr.top (v := vI x) (by simp)
      have hs : ∀ v ∈ st', amOk (zAl Z) v ∧ amSet v := fun v hv => hr.2.2.2.2.1 v (by simp [hv])
      have e0 : Int32.ofInt x = Int32.ofInt y ↔ x = y := of_eq hxx hyy
      have l0 : Int32.ofInt x < Int32.ofInt y ↔ x < y := of_lt hxx hyy
      have g0 : Int32.ofInt y < Int32.ofInt x ↔ y < x := of_lt hyy hxx
      have n1 : Int32.ofInt y ≤ Int32.ofInt x ↔ ¬ x < y := by rw [of_le hyy hxx]; omega
      have n2 : Int32.ofInt x ≤ Int32.ofInt y ↔ ¬ y < x := by rw [of_le hxx hyy]; omega
      cases cnd
      · rcases am_if h2 with ⟨hC, rfl⟩ | ⟨hC, rfl⟩
        · exact lv_icmp_eq hx hb hd ht (fun _ => kk ls H locs (hr.st hs)) (fun k => absurd (e0.mpr hC) k)
        · exact lv_icmp_eq hx hb hd ht (fun k => absurd (e0.mp k) hC) (fun _ => kk ls H locs (hr.st hs))
      · rcases am_if h2 with ⟨hC, rfl⟩ | ⟨hC, rfl⟩
        · exact lv_icmp_ne hx hb hd ht (fun k => absurd (e0.mpr hC) k) (fun _ => kk ls H locs (hr.st hs))
        · exact lv_icmp_ne hx hb hd ht (fun _ => kk ls H locs (hr.st hs)) (fun k => absurd (e0.mp k) hC)
      · rcases am_if h2 with ⟨hC, rfl⟩ | ⟨hC, rfl⟩
        · exact lv_icmp_lt hx hb hd ht (fun _ => kk ls H locs (hr.st hs)) (fun k => absurd (l0.mpr hC) k)
        · exact lv_icmp_lt hx hb hd ht (fun k => absurd (l0.mp k) hC) (fun _ => kk ls H locs (hr.st hs))
      · rcases am_if h2 with ⟨hC, rfl⟩ | ⟨hC, rfl⟩
        · exact lv_icmp_ge hx hb hd ht (fun k => absurd hC (by first | exact n1.mp k | (rw [l0] at k; exact k))) (fun _ => kk ls H locs (hr.st hs))
        · exact lv_icmp_ge hx hb hd ht (fun _ => kk ls H locs (hr.st hs)) (fun k => absurd (by first | exact n1.mpr hC | (rw [l0]; exact hC)) k)
      · rcases am_if h2 with ⟨hC, rfl⟩ | ⟨hC, rfl⟩
        · exact lv_icmp_gt hx hb hd ht (fun _ => kk ls H locs (hr.st hs)) (fun k => absurd (g0.mpr hC) k)
        · exact lv_icmp_gt hx hb hd ht (fun k => absurd (g0.mp k) hC) (fun _ => kk ls H locs (hr.st hs))
      · rcases am_if h2 with ⟨hC, rfl⟩ | ⟨hC, rfl⟩
        · exact lv_icmp_le hx hb hd ht (fun k => absurd hC (by first | exact n2.mp k | (rw [g0] at k; exact k))) (fun _ => kk ls H locs (hr.st hs))
        · exact lv_icmp_le hx hb hd ht (fun _ => kk ls H locs (hr.st hs)) (fun k => absurd (by first | exact n2.mpr hC | (rw [g0]; exact hC)) k)
    · cases h2
  case ifnull off =>
    obtain ⟨rfl, rfl⟩ := hn (fun _ _ _ _ h => by cases h)
    have h2 : (match st with
      | .inl (some _) :: st' => (.inl (pc + 3, L, st', M) : AmR)
      | _ => amNo) = .inl c' := h
    split at h2
    · rename_i r st'
      cases h2
      obtain ⟨k1, c1, s1⟩ := r
      exact lv_ifnull hx hb hd (kk ls H locs (hr.st fun v hv => hr.2.2.2.2.1 v (by simp [hv])))
    · cases h2
  case ifnonnull off =>
    obtain ⟨rfl, rfl⟩ := hn (fun _ _ _ _ h => by cases h)
    have h2 : (match st with
      | .inl (some _) :: st' => (.inl (a, L, st', M) : AmR)
      | _ => amNo) = .inl c' := h
    split at h2
    · rename_i r st'
      cases h2
      obtain ⟨k1, c1, s1⟩ := r
      exact lv_ifnonnull hx hb hd (of_decide_eq_true hc) (kk ls H locs (hr.st fun v hv => hr.2.2.2.2.1 v (by simp [hv])))
    · cases h2
  case tableswitch d lo hi2 offs =>
    have hc2 : (decide ((pc : Int) + d = (a : Int)) && (decide (lo = z) && (decide (hi2 = z + (ts.length : Int) - 1) && (amR32 z && (amR32 hi2 && (decide (offs.toList.length = ts.length) && (List.range ts.length).all (fun j => decide ((pc : Int) + offs.toList.getD j 0 = ((ts.getD j 0 : Nat) : Int))))))))) = true := hc
    simp only [Bool.and_eq_true, decide_eq_true_eq, List.all_eq_true, List.mem_range] at hc2
    obtain ⟨e1, e2, e3, e4, e5, e6, e7⟩ := hc2
    subst e2
    have h2 : (match st with
      | .inr (.inl x) :: st' => (amTs x lo ts (fun t => .inl (t, L, st', M)) a : AmR)
      | _ => amNo) = .inl c' := h
    split at h2
    · rename_i x st'
      have hxx : i32 x := hr.top (v := vI x) (by simp)
      have hs : ∀ v ∈ st', amOk (zAl Z) v ∧ amSet v := fun v hv => hr.2.2.2.2.1 v (by simp [hv])
      have key : ∀ (ts : List Nat) (lo : Int) (f : Nat → AmR) (d : Nat), (∃ k, k < ts.length ∧ x = lo + (k : Int) ∧ amTs x lo ts f d = f (ts.getD k 0)) ∨ ((x < lo ∨ lo + (ts.length : Int) - 1 < x) ∧ amTs x lo ts f d = f d) := by
        intro ts
        induction ts with
        | nil => intro lo f d; refine Or.inr ⟨?_, rfl⟩; simp; omega
        | cons t ts ih =>
          intro lo f d
          unfold amTs
          by_cases hxl : x = lo
          · rw [if_pos hxl]; exact Or.inl ⟨0, by simp, by simpa using hxl, rfl⟩
          · rw [if_neg hxl]
            rcases ih (lo + 1) f d with ⟨k, k1, k2, k3⟩ | ⟨k1, k2⟩
            · exact Or.inl ⟨k + 1, by simp; omega, by rw [k2]; push_cast; omega, k3⟩
            · refine Or.inr ⟨?_, k2⟩
              simp only [List.length_cons]; push_cast; omega
      rcases key ts lo (fun t => .inl (t, L, st', M)) a with ⟨k, k1, k2, k3⟩ | ⟨k1, k2⟩
      · rw [k3] at h2
        cases h2
        have hk : offs.toList.getD k 0 = offs.toList[k]'(by omega) := by rw [List.getD_eq_getElem?_getD, List.getElem?_eq_getElem (by omega)]; rfl
        refine lv_tableIn (off := offs.toList.getD k 0) (tgt := ts.getD k 0) hx hb hd (by rw [i32_of hxx]; omega) (by rw [i32_of hxx]; omega) ?_ (e7 k k1) (kk ls H locs (hr.st hs))
        rw [i32_of hxx, show (x - lo).toNat = k by omega, hk, ← Array.getElem?_toList]
        exact List.getElem?_eq_getElem (by omega)
      · rw [k2] at h2
        cases h2
        exact lv_tableOut hx hb hd (by rw [i32_of hxx]; omega) e1 (kk ls H locs (hr.st hs))
    · cases h2
end AmS4
end
section
/-! what the classes' tables say, class by class -/
def amClOk (a : Nat) : Prop := amClasses[a]? = some (amR a, amTf a, (amFkL.getD a []).length) ∧ (∀ w ∈ u_ws (amR a) (amTf a) (amFkL.getD a []).length, w ∈ amT0) ∧ (∀ x, x < (amFkL.getD a []).length → ∀ y, y < (amFkL.getD a []).length → x ≠ y → (amTf a x).2.1 ≠ (amTf a y).2.1) ∧ ∃ ty : Nat → FieldType, ∀ k, k < (amFkL.getD a []).length → parseFieldDescriptor (amTf a k).2.2.1 = some (ty k)
theorem amCl0 : amClOk 0 := ⟨rfl, by decide +kernel, nmX0, tyX0, tyX0_ok⟩
theorem amCl1 : amClOk 1 := ⟨rfl, by decide +kernel, nmX1, tyX1, tyX1_ok⟩
theorem amCl2 : amClOk 2 := ⟨rfl, by decide +kernel, nmX2, tyX2, tyX2_ok⟩
theorem amCl3 : amClOk 3 := ⟨rfl, by decide +kernel, nmX3, tyX3, tyX3_ok⟩
theorem amCl4 : amClOk 4 := ⟨rfl, by decide +kernel, nmX4, tyX4, tyX4_ok⟩
theorem amCl5 : amClOk 5 := ⟨rfl, by decide +kernel, nmX5, tyX5, tyX5_ok⟩
theorem amCl6 : amClOk 6 := ⟨rfl, by decide +kernel, nmX6, tyX6, tyX6_ok⟩
theorem amCl7 : amClOk 7 := ⟨rfl, by decide +kernel, nmX7, tyX7, tyX7_ok⟩
theorem amCl8 : amClOk 8 := ⟨rfl, by decide +kernel, nmX8, tyX8, tyX8_ok⟩
theorem amCl9 : amClOk 9 := ⟨rfl, by decide +kernel, nmX9, tyX9, tyX9_ok⟩
theorem amCl10 : amClOk 10 := ⟨rfl, by decide +kernel, nmX10, tyX10, tyX10_ok⟩
theorem amCl11 : amClOk 11 := ⟨rfl, by decide +kernel, nmX11, tyX11, tyX11_ok⟩
theorem amCl12 : amClOk 12 := ⟨rfl, by decide +kernel, nmX12, tyX12, tyX12_ok⟩
theorem amCl_ok {a : Nat} (h : a < 13) : amClOk a := by
  match a, h with
  | 0, _ => exact amCl0
  | 1, _ => exact amCl1
  | 2, _ => exact amCl2
  | 3, _ => exact amCl3
  | 4, _ => exact amCl4
  | 5, _ => exact amCl5
  | 6, _ => exact amCl6
  | 7, _ => exact amCl7
  | 8, _ => exact amCl8
  | 9, _ => exact amCl9
  | 10, _ => exact amCl10
  | 11, _ => exact amCl11
  | 12, _ => exact amCl12
  | n + 13, h => omega
theorem amKnd_lo : ∀ c, c < 13 → amKndL.getD c 99 = c := by decide +kernel
def amFldOk (t : Nat × Nat × Nat × Nat) : Prop := Jvm.Cond.fieldLink (amR t.1) t.2.1 (amTf t.2.2.1 t.2.2.2).1 (amTf t.2.2.1 t.2.2.2).2.1 (amTf t.2.2.1 t.2.2.2).2.2.1 ∈ amT0 ∨ Jvm.Cond.fieldLinkNest (amR t.1) t.2.1 (amTf t.2.2.1 t.2.2.2).1 (amTf t.2.2.1 t.2.2.2).2.1 (amTf t.2.2.1 t.2.2.2).2.2.1 "SaltStairs" ∈ amNs
end
section
section AmS6
variable {p : Program} {l : Launch} {e : Env} {R : Room} {s : State} {m : MethodId} {args : Array Value} {below : List Frame} {meth : Method} {c : Code} {cells slots : Nat} {Q : State → Prop}
variable {cc : ByteArray} {Z : AmZ} {nL : Nat} {lg : List Nat} {L st : List AmV} {M : AmM} {ls : Array Slot} {H : Heap} {locs : List Loc} {pc : Nat}
variable {ConT ConL : List (Nat × Nat × Int)} {StrT : List (Nat × Nat × Nat)} {FldT MthT : List (Nat × Nat × Nat × Nat)} {Npar : Nat → Nat} {o : Nat} {ret : Option FieldType} {cal : Nat → List AmV → AmM → Option (AmV × AmM)} {nx a b q : Nat} {z : Int} {ts : List Nat} {c' : AmC}
/-- the new world behind a write -/
theorem amRel.put {H0 H1 : Heap} {locs1 : List Loc} {st' : List AmV} {C s' j : Nat} {v : Int} (hr : amRel Z H0 nL lg L st M ls H locs) (hs : ∀ v ∈ st', v ∈ st) (h1 : va_P (zD Z) amClasses (amW Z (amUp M C s' j v)) H1) (h2 : va_D (zA Z) (amW Z (amUp M C s' j v))) (h3 : va_S (zA Z) H0 H1 locs1) (h4 : amKndL.getD C 99 ≠ 21 → i32 v) (h5 : i64 v) (h6 : C ≠ 90) :
    amRel Z H0 nL lg L st' (amUp M C s' j v) ls H1 locs1 :=
  ⟨hr.1, hr.2.1, hr.2.2.1, hr.2.2.2.1, fun v hv => hr.2.2.2.2.1 v (hs v hv), h1, h2, h3, amUp_I hr.2.2.2.2.2.2.2.2.1 h4 h5, amUp_X hr.2.2.2.2.2.2.2.2.2 h6⟩
theorem i32_64 {x : Int} (h : i32 x) : i64 x := by unfold i32 at h; unfold i64; omega
theorem amRow_len {ad : Nat → Nat → Nat} {C : Nat} {f : Nat → Int} {g : Nat → AmV} : ((List.range (amFkL.getD C []).length).map (amFv ad C f g)).length = (amFkL.getD C []).length := by simp
theorem amRow_get {ad : Nat → Nat → Nat} {C k : Nat} {f : Nat → Int} {g : Nat → AmV} (hk : k < (amFkL.getD C []).length) : ((List.range (amFkL.getD C []).length).map (amFv ad C f g))[k]? = some (amFv ad C f g k) := by
  rw [List.getElem?_map, List.getElem?_range hk]; rfl
theorem amRow_set {ad : Nat → Nat → Nat} {C k : Nat} {f f' : Nat → Int} {g : Nat → AmV} {x : Int} (hk : k < (amFkL.getD C []).length) (hq : (amFkL.getD C []).getD k 0 ≠ 2) (h1 : f' k = x) (h2 : ∀ j, j ≠ k → f' j = f j) :
    ((List.range (amFkL.getD C []).length).map (amFv ad C f g)).set k (.int (Int32.ofInt x)) = (List.range (amFkL.getD C []).length).map (amFv ad C f' g) := by
  apply List.ext_getElem?
  intro i
  by_cases hi : i = k
  · subst hi
    rw [List.getElem?_set_self (by rw [amRow_len]; exact hk), amRow_get hk]
    unfold amFv
    split
    · rename_i h; exact absurd h hq
    · rw [h1]
  · rw [List.getElem?_set_ne (Ne.symm hi), List.getElem?_map, List.getElem?_map]
    cases hr : (List.range (amFkL.getD C []).length)[i]? with
    | none => rfl
    | some w =>
      have : w = i := by
        obtain ⟨hl, he⟩ := List.getElem?_eq_some_iff.mp hr
        rw [List.getElem_range] at he
        exact he.symm
      subst this
      simp only [Option.map_some]
      unfold amFv
      rw [h2 w hi]
theorem am_okR {k C s' : Nat} (h : amOk (zAl Z) (vR k C s')) (h90 : C ≠ 90) (h98 : C ≠ 98) (h99 : C ≠ 99) : (C, s') ∈ zAl Z := by
  rcases h.2 with h | ⟨h | h | h, -⟩
  · exact h.1
  · exact absurd h h90
  · exact absurd h h98
  · exact absurd h h99
theorem am_getf {x : Nat} (hF : ∀ t ∈ FldT, amFldOk t) (S : CallFix p m c cc nL s args amT0 (amR o)) (hK : amKS Z s) (hfx : amFx Z) (hd : decode cc pc = .ok (.getfield x, 3))
    (hc : amChkI ConT ConL StrT FldT MthT Npar o ret lg pc (.getfield x) (pc + 3) a b q z ts = true) (h : amEx (zG Z) cal (.getfield x) (pc + 3) a b q z ts L st M = .inl c')
    (hr : amRel Z s.heap nL lg L st M ls H locs) (kk : amGo p l e R s m args below meth c cells slots Q Z nL lg c') : W p l e R s m args below meth c H locs cells slots Q (F0 m pc ls (st.map (amV (zAd Z)))) := by
  obtain ⟨hx, hb, hml, hown, hts⟩ := S
  have hc2 : (FldT.contains (o, x, a, b) && (decide (a < 13) && (decide (b < (amFkL.getD a []).length) && decide (q = (amFkL.getD a []).getD b 0)))) = true := hc
  simp only [Bool.and_eq_true, decide_eq_true_eq, List.contains_iff_mem] at hc2
  obtain ⟨e1, e2, e3, e4⟩ := hc2
  have h2 : (match st with
    | .inl (some (_, c, s)) :: st' => (bif c == a then (match (generalizing := false) q with
      | 2 => .inl (pc + 3, L, zG Z c s b :: st', M)
      | _ => .inl (pc + 3, L, vI (M c s b) :: st', M)) else amNo : AmR)
    | _ => amNo) = .inl c' := h
  split at h2
  · rename_i k1 C s' st'
    cases hC : C == a with
    | false => rw [hC] at h2; cases h2
    | true =>
      have hCa : C = a := eq_of_beq hC
      subst hCa
      rw [hC] at h2
      have hok := hr.top (v := vR k1 C s') (by simp)
      have hmem := am_okR hok (by omega) (by omega) (by omega)
      obtain ⟨cl1, cl2, cl3, ty, cl4⟩ := amCl_ok e2
      obtain ⟨pp, hp1, hp2⟩ := amW_at (M := M) hmem
      have hce : amCell (zC Z) (zAd Z) C (M C s') (zG Z C s') = .inr (C, (List.range (amFkL.getD C []).length).map (amFv (zAd Z) C (M C s') (zG Z C s'))) := if_pos e2
      rw [hce] at hp2
      have hs : ∀ v ∈ st', amOk (zAl Z) v ∧ amSet v := fun v hv => hr.2.2.2.2.1 v (by simp [hv])
      have key : W p l e R s m args below meth c H locs cells slots Q (F0 m (pc + 3) ls (amFv (zAd Z) C (M C s') (zG Z C s') b :: st'.map (amV (zAd Z)))) := by
        unfold amFv
        split
        · rename_i hq2
          have hq : q = 2 := e4.trans hq2
          subst hq
          cases h2
          obtain ⟨g1, g2, r, g3⟩ := (hfx.2.2.2 (C, s') hmem b).1 e2 hq2
          refine kk ls H locs (hr.st fun v hv => ?_)
          rcases List.mem_cons.mp hv with rfl | hv
          · exact ⟨g1, g2⟩
          · exact hs v hv
        · rename_i hq2
          have hq : q ≠ 2 := fun z => hq2 (e4.symm.trans z)
          have h3 : (.inl (pc + 3, L, vI (M C s' b) :: st', M) : AmR) = .inl c' := by
            rw [← h2]
            show _ = (match (generalizing := false) q with
              | 2 => (.inl (pc + 3, L, zG Z C s' b :: st', M) : AmR)
              | _ => (.inl (pc + 3, L, vI (M C s' b) :: st', M) : AmR))
            split
            · rename_i hz; exact absurd rfl hq
            · rfl
          cases h3
          refine kk ls H locs (hr.st fun v hv => ?_)
          rcases List.mem_cons.mp hv with rfl | hv
          · exact ⟨(hr.2.2.2.2.2.2.2.2.1 C s' b).1 (by rw [amKnd_lo C e2]; omega), trivial⟩
          · exact hs v hv
      rcases hF _ e1 with hl | hl
      · exact va_get (D := zD Z) (ci := C) hx hb hts cl2 hown hK.1 hr.2.2.2.2.2.1 pp hp2 cl1 b e3 (hts _ hl) (fun _ h => h) (amRow_get e3) hd key
      · exact va_getN (D := zD Z) (ci := C) hx hb hts cl2 hown hK.1 hr.2.2.2.2.2.1 pp hp2 cl1 b e3 (va_Nw.use rfl (hK.2.1 _ hl)) (fun _ h => h) (amRow_get e3) hd key
  · cases h2
theorem am_putf {x : Nat} (hF : ∀ t ∈ FldT, amFldOk t) (S : CallFix p m c cc nL s args amT0 (amR o)) (hK : amKS Z s) (hfx : amFx Z) (hd : decode cc pc = .ok (.putfield x, 3))
    (hc : amChkI ConT ConL StrT FldT MthT Npar o ret lg pc (.putfield x) (pc + 3) a b q z ts = true) (h : amEx (zG Z) cal (.putfield x) (pc + 3) a b q z ts L st M = .inl c')
    (hr : amRel Z s.heap nL lg L st M ls H locs) (kk : amGo p l e R s m args below meth c cells slots Q Z nL lg c') : W p l e R s m args below meth c H locs cells slots Q (F0 m pc ls (st.map (amV (zAd Z)))) := by
  obtain ⟨hx, hb, hml, hown, hts⟩ := S
  have hc2 : (FldT.contains (o, x, a, b) && (decide (a < 13) && (decide (b < (amFkL.getD a []).length) && (decide (q = (amFkL.getD a []).getD b 0) && (decide ((amTf a b).2.2.2 = false) && (decide (q = 0 ∧ (amTf a b).2.2.1 = "I") || decide (q = 3 ∧ (amTf a b).2.2.1 = "Z"))))))) = true := hc
  simp only [Bool.and_eq_true, Bool.or_eq_true, decide_eq_true_eq, List.contains_iff_mem] at hc2
  obtain ⟨e1, e2, e3, e4, e5, e6⟩ := hc2
  have h2 : (match st with
    | .inr (.inl x) :: .inl (some (_, c, s)) :: st' => (bif c == a then (match (generalizing := false) q with
      | 0 => .inl (pc + 3, L, st', amUp M c s b x)
      | 3 => bif amZ x then .inl (pc + 3, L, st', amUp M c s b x) else amNo
      | _ => amNo) else amNo : AmR)
    | _ => amNo) = .inl c' := h
  split at h2
  · rename_i y k1 C s' st'
    cases hC : C == a with
    | false => rw [hC] at h2; cases h2
    | true =>
      have hCa : C = a := eq_of_beq hC
      subst hCa
      rw [hC] at h2
      have hok := hr.top (v := vR k1 C s') (by simp)
      have hy : i32 y := hr.top (v := vI y) (by simp)
      have hmem := am_okR hok (by omega) (by omega) (by omega)
      obtain ⟨cl1, cl2, cl3, ty, cl4⟩ := amCl_ok e2
      obtain ⟨pp, hp1, hp2⟩ := amW_at (M := M) hmem
      have hce : ∀ M : AmM, amCell (zC Z) (zAd Z) C (M C s') (zG Z C s') = .inr (C, (List.range (amFkL.getD C []).length).map (amFv (zAd Z) C (M C s') (zG Z C s'))) := fun M => if_pos e2
      rw [hce] at hp2
      have hq2 : (amFkL.getD C []).getD b 0 ≠ 2 := by rw [← e4]; rcases e6 with ⟨h, -⟩ | ⟨h, -⟩ <;> omega
      have hb01 : q = 3 → y = 0 ∨ y = 1 := by
        intro hq
        subst hq
        cases hz : amZ y with
        | false =>
          have h2 : (bif amZ y then (.inl (pc + 3, L, st', amUp M C s' b y) : AmR) else amNo) = .inl c' := h2
          rw [hz] at h2; cases h2
        | true => simpa [amZ] using hz
      have hcc : c' = (pc + 3, L, st', amUp M C s' b y) := by
        rcases e6 with ⟨hq, -⟩ | ⟨hq, -⟩
        · subst hq; cases h2; rfl
        · have h01 := hb01 hq
          subst hq
          have h2 : (bif amZ y then (.inl (pc + 3, L, st', amUp M C s' b y) : AmR) else amNo) = .inl c' := h2
          have hz : amZ y = true := by simpa [amZ] using h01
          rw [hz] at h2; cases h2; rfl
      subst hcc
      have hset := amW_set (Z := Z) (M := M) (M' := amUp M C s' b y) (x := .inr (C, ((List.range (amFkL.getD C []).length).map (amFv (zAd Z) C (M C s') (zG Z C s'))).set b (.int (Int32.ofInt y)))) hfx.1 hp1 (fun c' s2 h => amUp_off h) (by rw [hce (amUp M C s' b y), amRow_set (f' := amUp M C s' b y C s') e3 hq2 (by rw [amUp_on, if_pos rfl]) (fun j hj => by rw [amUp_on, if_neg hj])])
      obtain ⟨ty1, f1, f2, f3⟩ : ∃ ty1 : FieldType, parseFieldDescriptor (amTf C b).2.2.1 = some ty1 ∧ narrow ty1 (.int (Int32.ofInt y)) = .int (Int32.ofInt y) ∧ fits ty1 (.int (Int32.ofInt y)) = true := by
        rcases e6 with ⟨hq, ht⟩ | ⟨hq, ht⟩
        · exact ⟨.int, by rw [ht]; rfl, rfl, rfl⟩
        · rcases hb01 hq with rfl | rfl
          · exact ⟨.boolean, by rw [ht]; rfl, by decide, by decide⟩
          · exact ⟨.boolean, by rw [ht]; rfl, by decide, by decide⟩
      have fin : ∀ (H1 : Heap) (locs1 : List Loc), va_P (zD Z) amClasses ((amW Z M).set pp (zAd Z C s', .inr (C, ((List.range (amFkL.getD C []).length).map (amFv (zAd Z) C (M C s') (zG Z C s'))).set b (.int (Int32.ofInt y))))) H1 → va_D (zA Z) ((amW Z M).set pp (zAd Z C s', .inr (C, ((List.range (amFkL.getD C []).length).map (amFv (zAd Z) C (M C s') (zG Z C s'))).set b (.int (Int32.ofInt y))))) → va_S (zA Z) s.heap H1 locs1 → W p l e R s m args below meth c H1 locs1 cells slots Q (F0 m (pc + 3) ls (st'.map (amV (zAd Z)))) := by
        intro H1 locs1 g1 g2 g3
        rw [hset] at g1 g2
        exact kk ls H1 locs1 (hr.put (fun v hv => by simp [hv]) g1 g2 g3 (fun _ => hy) (i32_64 hy) (by omega))
      rcases hF _ e1 with hl | hl
      · exact va_put (D := zD Z) (ci := C) hx hb hts cl2 ty cl4 cl3 hown hK.1 hr.2.2.2.2.2.1 hr.2.2.2.2.2.2.1 hr.2.2.2.2.2.2.2.1 pp hp2 cl1 b e3 (hts _ hl) (fun _ h => h) e5 f1 f2 f3 (by rw [amRow_len]; exact e3) hd fin
      · exact va_putN (D := zD Z) (ci := C) hx hb hts cl2 ty cl4 cl3 hown hK.1 hr.2.2.2.2.2.1 hr.2.2.2.2.2.2.1 hr.2.2.2.2.2.2.2.1 pp hp2 cl1 b e3 (va_Nw.use rfl (hK.2.1 _ hl)) (fun _ h => h) e5 f1 f2 f3 (by rw [amRow_len]; exact e3) hd fin
  · cases h2
end AmS6
end
section
section AmS7
variable {p : Program} {l : Launch} {e : Env} {R : Room} {s : State} {m : MethodId} {args : Array Value} {below : List Frame} {meth : Method} {c : Code} {cells slots : Nat} {Q : State → Prop}
variable {cc : ByteArray} {Z : AmZ} {nL : Nat} {lg : List Nat} {L st : List AmV} {M : AmM} {ls : Array Slot} {H : Heap} {locs : List Loc} {pc : Nat}
variable {ConT ConL : List (Nat × Nat × Int)} {StrT : List (Nat × Nat × Nat)} {FldT MthT : List (Nat × Nat × Nat × Nat)} {Npar : Nat → Nat} {o : Nat} {ret : Option FieldType} {cal : Nat → List AmV → AmM → Option (AmV × AmM)} {nx a b q : Nat} {z : Int} {ts : List Nat} {c' : AmC}
theorem amKnd_90 : amKndL.getD 90 99 = 20 ∧ amKndL.getD 98 99 = 29 ∧ amKndL.getD 99 99 = 29 := by decide +kernel
theorem amLen_sm : ∀ c, c < 200 → amLenL.getD c 0 < 10000 := by decide +kernel
theorem amLen_lt (c : Nat) : amLenL.getD c 0 < 10000 := by
  by_cases h : c < 200
  · exact amLen_sm c h
  · have hl : amLenL.length = 171 := by decide +kernel
    rw [List.getD_eq_getElem?_getD, List.getElem?_eq_none (by omega)]
    decide
theorem amLd_n {M : AmM} {C : Nat} (h : C ≠ 90) : amLd M C = amLenL.getD C 0 := by
  unfold amLd
  rw [show (C == 90) = false from beq_false_of_ne h]
  rfl
theorem amLd_s {M : AmM} (hX : amX Z M) : amLd M 90 = zL Z := by
  have : amLd M 90 = (M 90 1 0).toNat := rfl
  rw [this, hX.1]
  omega
/-- an array's cell -/
theorem am_arr (hr : amRel Z s.heap nL lg L st M ls H locs) (hfx : amFx Z) {k C s' : Nat} (hok : amOk (zAl Z) (vR k C s')) (hk : 20 ≤ k ∧ k ≤ 25) (h90 : C ≠ 90) : (C, s') ∈ zAl Z ∧ ¬ C < 13 ∧ amKndL.getD C 99 = k ∧ ∃ pp : Nat, (zAl Z)[pp]? = some (C, s') ∧ (amW Z M)[pp]? = some (zAd Z C s', .inl (zC Z k, amArr (zAd Z) C (M C s') (zG Z C s'))) := by
  have hkn : amKndL.getD C 99 = k := hok.1
  have h98 : C ≠ 98 := by rintro rfl; rw [amKnd_90.2.1] at hkn; omega
  have h99 : C ≠ 99 := by rintro rfl; rw [amKnd_90.2.2] at hkn; omega
  have hmem := am_okR hok h90 h98 h99
  have h13 : ¬ C < 13 := by intro h; rw [amKnd_lo C h] at hkn; omega
  obtain ⟨pp, hp1, hp2⟩ := amW_at (M := M) hmem
  refine ⟨hmem, h13, hkn, pp, hp1, ?_⟩
  rw [hp2]
  unfold amCell
  rw [if_neg h13, hkn]
theorem amArr_i {ad : Nat → Nat → Nat} {C k : Nat} {f : Nat → Int} {g : Nat → AmV} (hk : amKndL.getD C 99 = k) (h : k = 20 ∨ k = 22 ∨ k = 23) : amArr ad C f g = (amLenL.getD C 0, .inl fun j => Int32.ofInt (f j)) := by
  unfold amArr
  rw [hk]
  rcases h with rfl | rfl | rfl <;> rfl
theorem amArr_l {ad : Nat → Nat → Nat} {C : Nat} {f : Nat → Int} {g : Nat → AmV} (hk : amKndL.getD C 99 = 21) : amArr ad C f g = (amLenL.getD C 0, .inr (.inl fun j => Int64.ofInt (f j))) := by
  unfold amArr
  rw [hk]
  rfl
theorem amArr_q {ad : Nat → Nat → Nat} {C k : Nat} {f : Nat → Int} {g : Nat → AmV} (hk : amKndL.getD C 99 = k) (h : k = 24 ∨ k = 25) : amArr ad C f g = (amLenL.getD C 0, .inr (.inr (.inr (.inr fun j => amRf ad (g j))))) := by
  unfold amArr
  rw [hk]
  rcases h with rfl | rfl <;> rfl
theorem amTy_at {cA : Nat → ClassId} {k : Nat} (h : 20 ≤ k ∧ k ≤ 25) : ∃ ty, (amTys cA)[k - 20]? = some (cA k, ty) := by
  obtain ⟨h1, h2⟩ := h
  have : k = 20 ∨ k = 21 ∨ k = 22 ∨ k = 23 ∨ k = 24 ∨ k = 25 := by omega
  rcases this with rfl | rfl | rfl | rfl | rfl | rfl <;> exact ⟨_, rfl⟩
theorem am_alen (S : CallFix p m c cc nL s args amT0 (amR o)) (hK : amKS Z s) (hX : amXS Z s s.heap) (hfx : amFx Z) (hd : decode cc pc = .ok (.arraylength, 1))
    (h : amEx (zG Z) cal .arraylength (pc + 1) a b q z ts L st M = .inl c')
    (hr : amRel Z s.heap nL lg L st M ls H locs) (kk : amGo p l e R s m args below meth c cells slots Q Z nL lg c') : W p l e R s m args below meth c H locs cells slots Q (F0 m pc ls (st.map (amV (zAd Z)))) := by
  obtain ⟨hx, hb, hml, hown, hts⟩ := S
  have h2 : (match st with
    | .inl (some (k, c, _)) :: st' => (bif Nat.ble 20 k && Nat.ble k 25 then .inl (pc + 1, L, vI (amLd M c : Int) :: st', M) else amNo : AmR)
    | _ => amNo) = .inl c' := h
  split at h2
  · rename_i k C s' st'
    cases hb2 : (Nat.ble 20 k && Nat.ble k 25) with
    | false => rw [hb2] at h2; cases h2
    | true =>
      rw [hb2] at h2
      cases h2
      simp only [Bool.and_eq_true] at hb2
      have hk : 20 ≤ k ∧ k ≤ 25 := ⟨Nat.le_of_ble_eq_true hb2.1, Nat.le_of_ble_eq_true hb2.2⟩
      have hs : ∀ v ∈ st', amOk (zAl Z) v ∧ amSet v := fun v hv => hr.2.2.2.2.1 v (by simp [hv])
      have hok := hr.top (v := vR k C s') (by simp)
      by_cases h90 : C = 90
      · subst h90
        have hs0 : s' = 0 := by
          rcases hok.2 with h | h
          · exact absurd rfl h.2.1
          · exact h.2
        subst hs0
        refine va_slen (A := zA Z) (H0 := s.heap) hx hb hX.1 hX.2.1 hX.2.2.1 hr.2.2.2.2.2.2.2.1 hd ?_
        have e1 : (.int (Int32.ofNat (zL Z)) : Value) = amV (zAd Z) (vI (amLd M 90 : Int)) := by
          rw [amLd_s hr.2.2.2.2.2.2.2.2.2]
          show _ = Value.int (Int32.ofInt _)
          rw [Int32.ofInt_eq_ofNat]
        rw [e1]
        refine kk ls H locs (hr.st fun v hv => ?_)
        rcases List.mem_cons.mp hv with rfl | hv
        · refine ⟨?_, trivial⟩
          show i32 _
          rw [amLd_s hr.2.2.2.2.2.2.2.2.2]
          have := hfx.2.1
          unfold i32
          omega
        · exact hs v hv
      · obtain ⟨hmem, h13, hkn, pp, hp1, hp2⟩ := am_arr hr hfx hok hk h90
        obtain ⟨ty, hty⟩ := amTy_at (cA := zC Z) hk
        refine va_alen (D := zD Z) hx hb hK.1 hr.2.2.2.2.2.1 pp (k - 20) hp2 hty (v := Int32.ofInt (amLd M C : Int)) (by rw [amLd_n h90, Int32.ofInt_eq_ofNat]; rfl) hd (kk ls H locs (hr.st fun v hv => ?_))
        rcases List.mem_cons.mp hv with rfl | hv
        · refine ⟨?_, trivial⟩
          show i32 _
          rw [amLd_n h90]
          have := amLen_lt C
          unfold i32
          omega
        · exact hs v hv
  · cases h2
theorem am_iald (S : CallFix p m c cc nL s args amT0 (amR o)) (hK : amKS Z s) (hX : amXS Z s s.heap) (hfx : amFx Z) (hd : decode cc pc = .ok (.iaload, 1))
    (h : amEx (zG Z) cal .iaload (pc + 1) a b q z ts L st M = .inl c')
    (hr : amRel Z s.heap nL lg L st M ls H locs) (kk : amGo p l e R s m args below meth c cells slots Q Z nL lg c') : W p l e R s m args below meth c H locs cells slots Q (F0 m pc ls (st.map (amV (zAd Z)))) := by
  obtain ⟨hx, hb, hml, hown, hts⟩ := S
  have h2 : (match st with
    | .inr (.inl j) :: .inl (some (k, c, s)) :: st' => (bif k == 20 then (if 0 ≤ j ∧ j < (amLd M c : Int) then .inl (pc + 1, L, vI (M c s j.toNat) :: st', M) else amNo) else amNo : AmR)
    | _ => amNo) = .inl c' := h
  split at h2
  · rename_i j k C s' st'
    cases hb2 : (k == 20) with
    | false => rw [hb2] at h2; cases h2
    | true =>
      rw [hb2] at h2
      have hk : k = 20 := eq_of_beq hb2
      subst hk
      have hj : i32 j := hr.top (v := vI j) (by simp)
      have hs : ∀ v ∈ st', amOk (zAl Z) v ∧ amSet v := fun v hv => hr.2.2.2.2.1 v (by simp [hv])
      have hok := hr.top (v := vR 20 C s') (by simp)
      by_cases hin : 0 ≤ j ∧ j < (amLd M C : Int)
      · have h3 : (.inl (pc + 1, L, vI (M C s' j.toNat) :: st', M) : AmR) = .inl c' := by rw [← h2]; exact (if_pos hin).symm
        cases h3
        have hgo : W p l e R s m args below meth c H locs cells slots Q (F0 m (pc + 1) ls (.int (Int32.ofInt (M C s' j.toNat)) :: st'.map (amV (zAd Z)))) := by
          refine kk ls H locs (hr.st fun v hv => ?_)
          rcases List.mem_cons.mp hv with rfl | hv
          · exact ⟨(hr.2.2.2.2.2.2.2.2.1 C s' j.toNat).1 (by rw [hok.1]; omega), trivial⟩
          · exact hs v hv
        by_cases h90 : C = 90
        · subst h90
          have hs0 : s' = 0 := by
            rcases hok.2 with h | h
            · exact absurd rfl h.2.1
            · exact h.2
          subst hs0
          rw [amLd_s hr.2.2.2.2.2.2.2.2.2] at hin
          refine va_sld (A := zA Z) (H0 := s.heap) hx hb hX.1 hX.2.1 hX.2.2.1 hr.2.2.2.2.2.2.2.1 ((of_in hj).mpr hin) hd ?_
          rw [of_cl hj, show zX Z j.toNat = Int32.ofInt (M 90 0 j.toNat) by rw [hr.2.2.2.2.2.2.2.2.2.2 j.toNat (by omega), Int32.ofInt_toInt]]
          exact hgo
        · obtain ⟨hmem, h13, hkn, pp, hp1, hp2⟩ := am_arr hr hfx hok (by omega) h90
          rw [amArr_i hkn (Or.inl rfl)] at hp2
          rw [amLd_n h90] at hin
          refine va_iald (D := zD Z) hx hb hK.1 hr.2.2.2.2.2.1 pp 0 hp2 rfl ((of_in hj).mpr hin) hd ?_
          rw [of_cl hj]
          exact hgo
      · have h3 : amNo = .inl c' := by rw [← h2]; exact (if_neg hin).symm
        cases h3
  · cases h2
theorem am_bald (S : CallFix p m c cc nL s args amT0 (amR o)) (hK : amKS Z s) (hfx : amFx Z) (hd : decode cc pc = .ok (.baload, 1))
    (h : amEx (zG Z) cal .baload (pc + 1) a b q z ts L st M = .inl c')
    (hr : amRel Z s.heap nL lg L st M ls H locs) (kk : amGo p l e R s m args below meth c cells slots Q Z nL lg c') : W p l e R s m args below meth c H locs cells slots Q (F0 m pc ls (st.map (amV (zAd Z)))) := by
  obtain ⟨hx, hb, hml, hown, hts⟩ := S
  have h2 : (match st with
    | .inr (.inl j) :: .inl (some (k, c, s)) :: st' => (bif k == 22 || k == 23 then (if 0 ≤ j ∧ j < (amLd M c : Int) then .inl (pc + 1, L, vI (M c s j.toNat) :: st', M) else amNo) else amNo : AmR)
    | _ => amNo) = .inl c' := h
  split at h2
  · rename_i j k C s' st'
    cases hb2 : (k == 22 || k == 23) with
    | false => rw [hb2] at h2; cases h2
    | true =>
      rw [hb2] at h2
      have hk : k = 22 ∨ k = 23 := by simpa using hb2
      have hj : i32 j := hr.top (v := vI j) (by simp)
      have hs : ∀ v ∈ st', amOk (zAl Z) v ∧ amSet v := fun v hv => hr.2.2.2.2.1 v (by simp [hv])
      have hok := hr.top (v := vR k C s') (by simp)
      have h90 : C ≠ 90 := by rintro rfl; have h9 : amKndL.getD 90 99 = k := hok.1; rw [amKnd_90.1] at h9; omega
      by_cases hin : 0 ≤ j ∧ j < (amLd M C : Int)
      · have h3 : (.inl (pc + 1, L, vI (M C s' j.toNat) :: st', M) : AmR) = .inl c' := by rw [← h2]; exact (if_pos hin).symm
        cases h3
        have hgo : W p l e R s m args below meth c H locs cells slots Q (F0 m (pc + 1) ls (.int (Int32.ofInt (M C s' j.toNat)) :: st'.map (amV (zAd Z)))) := by
          refine kk ls H locs (hr.st fun v hv => ?_)
          rcases List.mem_cons.mp hv with rfl | hv
          · exact ⟨(hr.2.2.2.2.2.2.2.2.1 C s' j.toNat).1 (by rw [hok.1]; omega), trivial⟩
          · exact hs v hv
        obtain ⟨hmem, h13, hkn, pp, hp1, hp2⟩ := am_arr hr hfx hok (by omega) h90
        rw [amArr_i hkn (by omega)] at hp2
        rw [amLd_n h90] at hin
        rcases hk with rfl | rfl
        · refine va_bald (D := zD Z) hx hb hK.1 hr.2.2.2.2.2.1 pp 2 hp2 rfl ((of_in hj).mpr hin) hd ?_
          rw [of_cl hj]
          exact hgo
        · refine va_zald (D := zD Z) hx hb hK.1 hr.2.2.2.2.2.1 pp 3 hp2 rfl ((of_in hj).mpr hin) hd ?_
          rw [of_cl hj]
          exact hgo
      · have h3 : amNo = .inl c' := by rw [← h2]; exact (if_neg hin).symm
        cases h3
  · cases h2
theorem am_lald (S : CallFix p m c cc nL s args amT0 (amR o)) (hK : amKS Z s) (hfx : amFx Z) (hd : decode cc pc = .ok (.laload, 1))
    (h : amEx (zG Z) cal .laload (pc + 1) a b q z ts L st M = .inl c')
    (hr : amRel Z s.heap nL lg L st M ls H locs) (kk : amGo p l e R s m args below meth c cells slots Q Z nL lg c') : W p l e R s m args below meth c H locs cells slots Q (F0 m pc ls (st.map (amV (zAd Z)))) := by
  obtain ⟨hx, hb, hml, hown, hts⟩ := S
  have h2 : (match st with
    | .inr (.inl j) :: .inl (some (k, c, s)) :: st' => (bif k == 21 then (if 0 ≤ j ∧ j < (amLd M c : Int) then .inl (pc + 1, L, vL (M c s j.toNat) :: st', M) else amNo) else amNo : AmR)
    | _ => amNo) = .inl c' := h
  split at h2
  · rename_i j k C s' st'
    cases hb2 : (k == 21) with
    | false => rw [hb2] at h2; cases h2
    | true =>
      rw [hb2] at h2
      have hk : k = 21 := eq_of_beq hb2
      subst hk
      have hj : i32 j := hr.top (v := vI j) (by simp)
      have hs : ∀ v ∈ st', amOk (zAl Z) v ∧ amSet v := fun v hv => hr.2.2.2.2.1 v (by simp [hv])
      have hok := hr.top (v := vR 21 C s') (by simp)
      have h90 : C ≠ 90 := by rintro rfl; have h9 : amKndL.getD 90 99 = 21 := hok.1; rw [amKnd_90.1] at h9; omega
      by_cases hin : 0 ≤ j ∧ j < (amLd M C : Int)
      · have h3 : (.inl (pc + 1, L, vL (M C s' j.toNat) :: st', M) : AmR) = .inl c' := by rw [← h2]; exact (if_pos hin).symm
        cases h3
        obtain ⟨hmem, h13, hkn, pp, hp1, hp2⟩ := am_arr hr hfx hok (by omega) h90
        rw [amArr_l hkn] at hp2
        rw [amLd_n h90] at hin
        refine va_lald (D := zD Z) hx hb hK.1 hr.2.2.2.2.2.1 pp 1 hp2 rfl ((of_in hj).mpr hin) hd ?_
        rw [of_cl hj]
        refine kk ls H locs (hr.st fun v hv => ?_)
        rcases List.mem_cons.mp hv with rfl | hv
        · exact ⟨(hr.2.2.2.2.2.2.2.2.1 C s' j.toNat).2, trivial⟩
        · exact hs v hv
      · have h3 : amNo = .inl c' := by rw [← h2]; exact (if_neg hin).symm
        cases h3
  · cases h2
theorem am_aald (S : CallFix p m c cc nL s args amT0 (amR o)) (hK : amKS Z s) (hfx : amFx Z) (hd : decode cc pc = .ok (.aaload, 1))
    (h : amEx (zG Z) cal .aaload (pc + 1) a b q z ts L st M = .inl c')
    (hr : amRel Z s.heap nL lg L st M ls H locs) (kk : amGo p l e R s m args below meth c cells slots Q Z nL lg c') : W p l e R s m args below meth c H locs cells slots Q (F0 m pc ls (st.map (amV (zAd Z)))) := by
  obtain ⟨hx, hb, hml, hown, hts⟩ := S
  have h2 : (match st with
    | .inr (.inl j) :: .inl (some (k, c, s)) :: st' => (bif k == 24 || k == 25 then (if 0 ≤ j ∧ j < (amLd M c : Int) then .inl (pc + 1, L, zG Z c s j.toNat :: st', M) else amNo) else amNo : AmR)
    | _ => amNo) = .inl c' := h
  split at h2
  · rename_i j k C s' st'
    cases hb2 : (k == 24 || k == 25) with
    | false => rw [hb2] at h2; cases h2
    | true =>
      rw [hb2] at h2
      have hk : k = 24 ∨ k = 25 := by simpa using hb2
      have hj : i32 j := hr.top (v := vI j) (by simp)
      have hs : ∀ v ∈ st', amOk (zAl Z) v ∧ amSet v := fun v hv => hr.2.2.2.2.1 v (by simp [hv])
      have hok := hr.top (v := vR k C s') (by simp)
      have h90 : C ≠ 90 := by rintro rfl; have h9 : amKndL.getD 90 99 = k := hok.1; rw [amKnd_90.1] at h9; omega
      by_cases hin : 0 ≤ j ∧ j < (amLd M C : Int)
      · have h3 : (.inl (pc + 1, L, zG Z C s' j.toNat :: st', M) : AmR) = .inl c' := by rw [← h2]; exact (if_pos hin).symm
        cases h3
        obtain ⟨hmem, h13, hkn, pp, hp1, hp2⟩ := am_arr hr hfx hok (by omega) h90
        rw [amArr_q hkn hk] at hp2
        rw [amLd_n h90] at hin
        obtain ⟨g1, r, g2⟩ := (hfx.2.2.2 (C, s') hmem j.toNat).2 (show j.toNat < amLenL.getD C 0 by omega) (show amKndL.getD C 99 = 24 ∨ amKndL.getD C 99 = 25 by rw [hkn]; exact hk)
        have hgo : W p l e R s m args below meth c H locs cells slots Q (F0 m (pc + 1) ls (va_rf (amRf (zAd Z) (zG Z C s' j.toNat)) :: st'.map (amV (zAd Z)))) := by
          have ev : va_rf (amRf (zAd Z) (zG Z C s' j.toNat)) = amV (zAd Z) (zG Z C s' j.toNat) := by
            rw [g2]
            rcases r with _ | ⟨k1, c1, s1⟩ <;> rfl
          rw [ev]
          refine kk ls H locs (hr.st fun v hv => ?_)
          rcases List.mem_cons.mp hv with rfl | hv
          · exact ⟨g1, by rw [g2]; trivial⟩
          · exact hs v hv
        rcases hk with rfl | rfl
        · refine va_aldq (D := zD Z) hx hb hK.1 hr.2.2.2.2.2.1 pp 4 hp2 rfl ((of_in hj).mpr hin) hd ?_
          rw [of_cl hj]
          exact hgo
        · refine va_aldq (D := zD Z) hx hb hK.1 hr.2.2.2.2.2.1 pp 5 hp2 rfl ((of_in hj).mpr hin) hd ?_
          rw [of_cl hj]
          exact hgo
      · have h3 : amNo = .inl c' := by rw [← h2]; exact (if_neg hin).symm
        cases h3
  · cases h2
/-- the world behind an array store -/
theorem am_arrSet (hr : amRel Z s.heap nL lg L st M ls H locs) (hfx : amFx Z) {C s' j pp : Nat} {v : Int} (hp1 : (zAl Z)[pp]? = some (C, s')) (h13 : ¬ C < 13) {k : Nat} (hkn : amKndL.getD C 99 = k) {x : vp_A} (hx : x = amArr (zAd Z) C (amUp M C s' j v C s') (zG Z C s')) : (amW Z M).set pp (zAd Z C s', .inl (zC Z k, x)) = amW Z (amUp M C s' j v) :=
  amW_set hfx.1 hp1 (fun c' s2 h => amUp_off h) (by rw [hx]; unfold amCell; rw [if_neg h13, hkn])
theorem am_updI {f : Nat → Int} {C s' j : Nat} {v : Int} {M : AmM} (hf : f = M C s') : upd (fun i => Int32.ofInt (f i)) j (Int32.ofInt v) = fun i => Int32.ofInt (amUp M C s' j v C s' i) := by
  funext i
  rw [amUp_on, hf]
  unfold upd
  by_cases h : i = j <;> simp [h]
theorem am_iast (S : CallFix p m c cc nL s args amT0 (amR o)) (hK : amKS Z s) (hfx : amFx Z) (hd : decode cc pc = .ok (.iastore, 1))
    (h : amEx (zG Z) cal .iastore (pc + 1) a b q z ts L st M = .inl c')
    (hr : amRel Z s.heap nL lg L st M ls H locs) (kk : amGo p l e R s m args below meth c cells slots Q Z nL lg c') : W p l e R s m args below meth c H locs cells slots Q (F0 m pc ls (st.map (amV (zAd Z)))) := by
  obtain ⟨hx, hb, hml, hown, hts⟩ := S
  have h2 : (match st with
    | .inr (.inl x) :: .inr (.inl j) :: .inl (some (k, c, s)) :: st' => (bif k == 20 && !(c == 90) then (if 0 ≤ j ∧ j < (amLd M c : Int) then .inl (pc + 1, L, st', amUp M c s j.toNat x) else amNo) else amNo : AmR)
    | _ => amNo) = .inl c' := h
  split at h2
  · rename_i x j k C s' st'
    cases hb2 : (k == 20 && !(C == 90)) with
    | false => rw [hb2] at h2; cases h2
    | true =>
      rw [hb2] at h2
      have hk : k = 20 ∧ C ≠ 90 := by simpa using hb2
      obtain ⟨rfl, h90⟩ := hk
      have hj : i32 j := hr.top (v := vI j) (by simp)
      have hxx : i32 x := hr.top (v := vI x) (by simp)
      have hok := hr.top (v := vR 20 C s') (by simp)
      by_cases hin : 0 ≤ j ∧ j < (amLd M C : Int)
      · have h3 : (.inl (pc + 1, L, st', amUp M C s' j.toNat x) : AmR) = .inl c' := by rw [← h2]; exact (if_pos hin).symm
        cases h3
        obtain ⟨hmem, h13, hkn, pp, hp1, hp2⟩ := am_arr hr hfx hok (by omega) h90
        rw [amArr_i hkn (Or.inl rfl)] at hp2
        rw [amLd_n h90] at hin
        refine va_iast (D := zD Z) hx hb hK.1 hr.2.2.2.2.2.1 hr.2.2.2.2.2.2.1 hr.2.2.2.2.2.2.2.1 pp 0 hp2 rfl ((of_in hj).mpr hin) hd fun H1 locs1 g1 g2 g3 => ?_
        rw [of_cl hj, am_updI rfl, am_arrSet hr hfx hp1 h13 hkn (by rw [amArr_i hkn (Or.inl rfl)])] at g1 g2
        exact kk ls H1 locs1 (hr.put (fun v hv => by simp [hv]) g1 g2 g3 (fun _ => hxx) (i32_64 hxx) h90)
      · have h3 : amNo = .inl c' := by rw [← h2]; exact (if_neg hin).symm
        cases h3
  · cases h2
theorem am_narB {x : Int} (h : i32 x) : vp_nar .byte (Int32.ofInt x) = Int32.ofInt (w8 x) := by rw [vp_nar_byte, of_8 h]
theorem am_bast (S : CallFix p m c cc nL s args amT0 (amR o)) (hK : amKS Z s) (hfx : amFx Z) (hd : decode cc pc = .ok (.bastore, 1))
    (h : amEx (zG Z) cal .bastore (pc + 1) a b q z ts L st M = .inl c')
    (hr : amRel Z s.heap nL lg L st M ls H locs) (kk : amGo p l e R s m args below meth c cells slots Q Z nL lg c') : W p l e R s m args below meth c H locs cells slots Q (F0 m pc ls (st.map (amV (zAd Z)))) := by
  obtain ⟨hx, hb, hml, hown, hts⟩ := S
  have h2 : (match st with
    | .inr (.inl x) :: .inr (.inl j) :: .inl (some (k, c, s)) :: st' => (if 0 ≤ j ∧ j < (amLd M c : Int) then (match k with
      | 22 => .inl (pc + 1, L, st', amUp M c s j.toNat (w8 x))
      | 23 => bif amZ x then .inl (pc + 1, L, st', amUp M c s j.toNat x) else amNo
      | _ => amNo) else amNo : AmR)
    | _ => amNo) = .inl c' := h
  split at h2
  · rename_i x j k C s' st'
    by_cases hin : 0 ≤ j ∧ j < (amLd M C : Int)
    · rw [if_pos hin] at h2
      have hj : i32 j := hr.top (v := vI j) (by simp)
      have hxx : i32 x := hr.top (v := vI x) (by simp)
      have hok := hr.top (v := vR k C s') (by simp)
      split at h2
      · cases h2
        have h90 : C ≠ 90 := by rintro rfl; have h9 : amKndL.getD 90 99 = 22 := hok.1; rw [amKnd_90.1] at h9; omega
        obtain ⟨hmem, h13, hkn, pp, hp1, hp2⟩ := am_arr hr hfx hok (by omega) h90
        rw [amArr_i hkn (by omega)] at hp2
        rw [amLd_n h90] at hin
        refine va_bast (D := zD Z) hx hb hK.1 hr.2.2.2.2.2.1 hr.2.2.2.2.2.2.1 hr.2.2.2.2.2.2.2.1 pp 2 hp2 rfl ((of_in hj).mpr hin) hd fun H1 locs1 g1 g2 g3 => ?_
        rw [of_cl hj, am_narB hxx, am_updI rfl, am_arrSet hr hfx hp1 h13 hkn (by rw [amArr_i hkn (by omega)])] at g1 g2
        exact kk ls H1 locs1 (hr.put (fun v hv => by simp [hv]) g1 g2 g3 (fun _ => w8_i x) (i32_64 (w8_i x)) h90)
      · cases hz : amZ x with
        | false => rw [hz] at h2; cases h2
        | true =>
          rw [hz] at h2
          cases h2
          have h01 : x = 0 ∨ x = 1 := by simpa [amZ] using hz
          have hnz : vp_nar .boolean (Int32.ofInt x) = Int32.ofInt x := by rcases h01 with rfl | rfl <;> decide
          have h90 : C ≠ 90 := by rintro rfl; have h9 : amKndL.getD 90 99 = 23 := hok.1; rw [amKnd_90.1] at h9; omega
          obtain ⟨hmem, h13, hkn, pp, hp1, hp2⟩ := am_arr hr hfx hok (by omega) h90
          rw [amArr_i hkn (by omega)] at hp2
          rw [amLd_n h90] at hin
          refine va_zast (D := zD Z) hx hb hK.1 hr.2.2.2.2.2.1 hr.2.2.2.2.2.2.1 hr.2.2.2.2.2.2.2.1 pp 3 hp2 rfl ((of_in hj).mpr hin) hd fun H1 locs1 g1 g2 g3 => ?_
          rw [of_cl hj, hnz, am_updI rfl, am_arrSet hr hfx hp1 h13 hkn (by rw [amArr_i hkn (by omega)])] at g1 g2
          exact kk ls H1 locs1 (hr.put (fun v hv => by simp [hv]) g1 g2 g3 (fun _ => hxx) (i32_64 hxx) h90)
      · cases h2
    · rw [if_neg hin] at h2; cases h2
  · cases h2
theorem am_last (S : CallFix p m c cc nL s args amT0 (amR o)) (hK : amKS Z s) (hfx : amFx Z) (hd : decode cc pc = .ok (.lastore, 1))
    (h : amEx (zG Z) cal .lastore (pc + 1) a b q z ts L st M = .inl c')
    (hr : amRel Z s.heap nL lg L st M ls H locs) (kk : amGo p l e R s m args below meth c cells slots Q Z nL lg c') : W p l e R s m args below meth c H locs cells slots Q (F0 m pc ls (st.map (amV (zAd Z)))) := by
  obtain ⟨hx, hb, hml, hown, hts⟩ := S
  have h2 : (match st with
    | .inr (.inr (.inl x)) :: .inr (.inl j) :: .inl (some (k, c, s)) :: st' => (bif k == 21 then (if 0 ≤ j ∧ j < (amLd M c : Int) then .inl (pc + 1, L, st', amUp M c s j.toNat x) else amNo) else amNo : AmR)
    | _ => amNo) = .inl c' := h
  split at h2
  · rename_i x j k C s' st'
    cases hb2 : (k == 21) with
    | false => rw [hb2] at h2; cases h2
    | true =>
      rw [hb2] at h2
      have hk : k = 21 := eq_of_beq hb2
      subst hk
      have hj : i32 j := hr.top (v := vI j) (by simp)
      have hxx : i64 x := hr.top (v := vL x) (by simp)
      have hok := hr.top (v := vR 21 C s') (by simp)
      have h90 : C ≠ 90 := by rintro rfl; have h9 : amKndL.getD 90 99 = 21 := hok.1; rw [amKnd_90.1] at h9; omega
      by_cases hin : 0 ≤ j ∧ j < (amLd M C : Int)
      · have h3 : (.inl (pc + 1, L, st', amUp M C s' j.toNat x) : AmR) = .inl c' := by rw [← h2]; exact (if_pos hin).symm
        cases h3
        obtain ⟨hmem, h13, hkn, pp, hp1, hp2⟩ := am_arr hr hfx hok (by omega) h90
        rw [amArr_l hkn] at hp2
        rw [amLd_n h90] at hin
        refine va_last (D := zD Z) hx hb hK.1 hr.2.2.2.2.2.1 hr.2.2.2.2.2.2.1 hr.2.2.2.2.2.2.2.1 pp 1 hp2 rfl ((of_in hj).mpr hin) hd fun H1 locs1 g1 g2 g3 => ?_
        have eu : vp_updL (fun i => Int64.ofInt (M C s' i)) j.toNat (Int64.ofInt x) = fun i => Int64.ofInt (amUp M C s' j.toNat x C s' i) := by
          funext i
          rw [amUp_on]
          unfold vp_updL
          by_cases h : i = j.toNat <;> simp [h]
        rw [of_cl hj, eu, am_arrSet hr hfx hp1 h13 hkn (by rw [amArr_l hkn])] at g1 g2
        exact kk ls H1 locs1 (hr.put (fun v hv => by simp [hv]) g1 g2 g3 (fun hh => absurd hkn hh) hxx h90)
      · have h3 : amNo = .inl c' := by rw [← h2]; exact (if_neg hin).symm
        cases h3
  · cases h2
end AmS7
end
section
def amConT : List (Nat × Nat × Int) := [(2, 97, 1000000), (12, 442, 1000000), (14, 264, 65536), (14, 265, 1431655765), (14, 266, 858993459), (14, 267, 252645135)]
def amConL : List (Nat × Nat × Int) := [(11, 259, (-1)), (7, 93, 10), (7, 95, 48), (7, 97, 27), (7, 99, 97), (12, 160, 27), (12, 418, (-1))]
def amStrT : List (Nat × Nat × Nat) := [(7, 73, 99), (7, 84, 98)]
def amY : List MethodName := [yX0_drop, yX0_allCome, yX0_allComeOver, yX0_dryEnoughWays, yX0_choices, yX0_power, yX0_foresee, yX0_groundBehindDay, yX0_noteLost, yX0_fewestHands, yX0_isCarried, yX1_clear, yX1_copyFrom, yX1_open, yX1_emit, yX1_elseHere, yX1_tells, yX1_worth, yX2_allNeed, yX2_needOf, yX2_bearsSet, yX2_treads, yX2_takenOff, yX2_dearFrom, yX2_dearOver, yX3_drop, yX3_seek, yX3_search, yX4_parse, yX4_faultPlace, yX4_readRow, yX4_readBrine, yX4_readPilgrim, yX4_takeName, yX4_readLaw, yX4_readIf, yX4_readSum, yX4_isSign, yX4_readUnit, yX4_take, yX4_takeInt, yX4_takeVow, yX4_fail, yX4_failLater, yX5_start, yX5_copyFrom, yX5_settle, yX5_passNight, yX5_isOnGround, yX5_grounded, yX5_standingOn, yX5_stuckOnes, yX6_build, yX6_copyFrom, yX6_top, yX6_isStep, yX6_isThere, yX6_thickAt, yX6_borneAt, yX6_bear, yX6_setThick, yX6_rainOn, yX6_allThick, yX7_add, yX7_addFour, yX7_cut, yX7_clear, yX7_kindAt, yX7_valueAt, yX7_startAt, yX7_cutIntoTokens, yX7_afterBlanks, yX7_endOf, yX7_kindOf, yX7_wordOf, yX7_isWord, yX7_valueOf, yX7_byteAt, yX7_isBlank, yX7_isLetter, yX7_isDigit, yX8_clear, yX8_copyFrom, yX8_hasPilgrim, yX8_rainOf, yX9_startAnew, yX9_add, yX9_knows, yX9_fitting, yX9_fittingAt, yX9_inSome, yX9_inAll, yX9_sets, yX9_isFitting, yX9_walkAllSets, yX9_writeRow, yX9_readRow, yX10_begin, yX10_beginAs, yX10_through, yX10_carriesUp, yX10_advance, yX10_nextSpot, yX10_tread, yX10_leftBehind, yX10_wearsATread, yX10_wearOn, yX11_feed, yX11_back, yX11_read, yX11_place, yX11_step, yX11_pilgrim, yX11_wear, yX11_go, yX11_would, yX11_night, yX11_mend, yX11_undo, yX11_order, yX11_orderAt, yX11_need, yX11_bears, yX11_odds, yX11_season, yX11_rescue, yX11_bell, yX11_fair, yX11_tell, yX11_forget, yX11_fits, yX11_walkers, yX11_who, yX11_hold, yX11_restore, yX11_count, yX11_startAnew, yX11_keepPast, yX11_goOnFrom, yX11_dropAnswers, yX11_areOnGround, yX11_heldSlots, yX11_at, yX11_put, yX11_copy, yX11_wipe, yX11_has, yX12_feed, yX12_put, yX12_back, yX12_byteAt, yX12_isDigit, yX12_isLetter, yX12_appends, yX12_word, yX12_token, yX12_cut, yX12_sign, yX12_is, yX12_fail, yX12_wrong, yX12_goesOn, yX12_must, yX12_read, yX12_place, yX12_roomFor, yX12_tell, yX12_bounded, yX12_tellSteps, yX12_tellRain, yX12_tellVow, yX12_tellPilgrim, yX12_tellLaw, yX12_term, yX12_emit, yX12_comesOut, yX12_expression, yX12_unit, yX12_termOf, yX12_in, yX12_top, yX12_many, yX12_isStep, yX12_isPilgrim, yX12_vowOf, yX12_begins, yX12_takes, yX12_goneNow, yX12_wearOf, yX12_holds, yX12_isThere, yX12_nextUp, yX12_nextDown, yX12_goesDown, yX12_comesOf, yX12_sends, yX12_step, yX12_pilgrim, yX12_wear, yX12_keeps, yX12_onGround, yX12_go, yX12_would, yX12_nightGoes, yX12_night, yX12_mend, yX12_undo, yX12_bits, yX12_isSet, yX12_fillsOrder, yX12_nextOrder, yX12_orders, yX12_order, yX12_orderAt, yX12_behind, yX12_treads, yX12_isTrodden, yX12_bearsAll, yX12_needOf, yX12_need, yX12_allThrough, yX12_bears, yX12_choose, yX12_odds, yX12_marks, yX12_notes, yX12_season, yX12_stuckNow, yX12_leastFor, yX12_rescue, yX12_carries, yX12_bell, yX12_fair, yX12_tell_, yX12_forget, yX12_isFit, yX12_fillsWalkers, yX12_fits, yX12_walkers, yX12_who, yX12_hold, yX12_restore, yX12_count, yJ6_numberOfLeadingZeros_0f7a4, yJ6_bitCount_0f7a4, yL_law]
def amBy : List ByteArray := [cX0_drop, cX0_allCome, cX0_allComeOver, cX0_dryEnoughWays, cX0_choices, cX0_power, cX0_foresee, cX0_groundBehindDay, cX0_noteLost, cX0_fewestHands, cX0_isCarried, cX1_clear, cX1_copyFrom, cX1_open, cX1_emit, cX1_elseHere, cX1_tells, cX1_worth, cX2_allNeed, cX2_needOf, cX2_bearsSet, cX2_treads, cX2_takenOff, cX2_dearFrom, cX2_dearOver, cX3_drop, cX3_seek, cX3_search, cX4_parse, cX4_faultPlace, cX4_readRow, cX4_readBrine, cX4_readPilgrim, cX4_takeName, cX4_readLaw, cX4_readIf, cX4_readSum, cX4_isSign, cX4_readUnit, cX4_take, cX4_takeInt, cX4_takeVow, cX4_fail, cX4_failLater, cX5_start, cX5_copyFrom, cX5_settle, cX5_passNight, cX5_isOnGround, cX5_grounded, cX5_standingOn, cX5_stuckOnes, cX6_build, cX6_copyFrom, cX6_top, cX6_isStep, cX6_isThere, cX6_thickAt, cX6_borneAt, cX6_bear, cX6_setThick, cX6_rainOn, cX6_allThick, cX7_add, cX7_addFour, cX7_cut, cX7_clear, cX7_kindAt, cX7_valueAt, cX7_startAt, cX7_cutIntoTokens, cX7_afterBlanks, cX7_endOf, cX7_kindOf, cX7_wordOf, cX7_isWord, cX7_valueOf, cX7_byteAt, cX7_isBlank, cX7_isLetter, cX7_isDigit, cX8_clear, cX8_copyFrom, cX8_hasPilgrim, cX8_rainOf, cX9_startAnew, cX9_add, cX9_knows, cX9_fitting, cX9_fittingAt, cX9_inSome, cX9_inAll, cX9_sets, cX9_isFitting, cX9_walkAllSets, cX9_writeRow, cX9_readRow, cX10_begin, cX10_beginAs, cX10_through, cX10_carriesUp, cX10_advance, cX10_nextSpot, cX10_tread, cX10_leftBehind, cX10_wearsATread, cX10_wearOn, cX11_feed, cX11_back, cX11_read, cX11_place, cX11_step, cX11_pilgrim, cX11_wear, cX11_go, cX11_would, cX11_night, cX11_mend, cX11_undo, cX11_order, cX11_orderAt, cX11_need, cX11_bears, cX11_odds, cX11_season, cX11_rescue, cX11_bell, cX11_fair, cX11_tell, cX11_forget, cX11_fits, cX11_walkers, cX11_who, cX11_hold, cX11_restore, cX11_count, cX11_startAnew, cX11_keepPast, cX11_goOnFrom, cX11_dropAnswers, cX11_areOnGround, cX11_heldSlots, cX11_at, cX11_put, cX11_copy, cX11_wipe, cX11_has, cX12_feed, cX12_put, cX12_back, cX12_byteAt, cX12_isDigit, cX12_isLetter, cX12_appends, cX12_word, cX12_token, cX12_cut, cX12_sign, cX12_is, cX12_fail, cX12_wrong, cX12_goesOn, cX12_must, cX12_read, cX12_place, cX12_roomFor, cX12_tell, cX12_bounded, cX12_tellSteps, cX12_tellRain, cX12_tellVow, cX12_tellPilgrim, cX12_tellLaw, cX12_term, cX12_emit, cX12_comesOut, cX12_expression, cX12_unit, cX12_termOf, cX12_in, cX12_top, cX12_many, cX12_isStep, cX12_isPilgrim, cX12_vowOf, cX12_begins, cX12_takes, cX12_goneNow, cX12_wearOf, cX12_holds, cX12_isThere, cX12_nextUp, cX12_nextDown, cX12_goesDown, cX12_comesOf, cX12_sends, cX12_step, cX12_pilgrim, cX12_wear, cX12_keeps, cX12_onGround, cX12_go, cX12_would, cX12_nightGoes, cX12_night, cX12_mend, cX12_undo, cX12_bits, cX12_isSet, cX12_fillsOrder, cX12_nextOrder, cX12_orders, cX12_order, cX12_orderAt, cX12_behind, cX12_treads, cX12_isTrodden, cX12_bearsAll, cX12_needOf, cX12_need, cX12_allThrough, cX12_bears, cX12_choose, cX12_odds, cX12_marks, cX12_notes, cX12_season, cX12_stuckNow, cX12_leastFor, cX12_rescue, cX12_carries, cX12_bell, cX12_fair, cX12_tell_, cX12_forget, cX12_isFit, cX12_fillsWalkers, cX12_fits, cX12_walkers, cX12_who, cX12_hold, cX12_restore, cX12_count, cJ6_numberOfLeadingZeros_0f7a4, cJ6_bitCount_0f7a4, cL_law]
def amRt : List (Option FieldType) := [none, some .boolean, some .boolean, some .long, some .long, some .long, none, some .int, none, some .int, some .boolean, none, none, none, none, none, some .boolean, some .int, some .int, some .int, some .boolean, some .boolean, some .int, some .int, some .int, none, none, none, some .int, some .int, some .int, none, none, none, none, none, none, some .boolean, none, none, some .int, some .int, none, none, none, none, none, none, some .boolean, some .int, some .int, some .int, none, none, some .int, some .boolean, some .boolean, some .int, some .int, none, none, some .int, some .int, some .int, none, some .int, none, some .int, some .long, some .int, none, some .int, some .int, some .int, some .int, some .boolean, some .long, some .int, some .boolean, some .boolean, some .boolean, none, none, some .boolean, some .int, none, some .int, some .boolean, some .int, some .int, some .int, some .int, some .int, some .boolean, none, none, none, none, none, some .int, some .boolean, some .int, some .int, some .boolean, some .int, some .int, some .int, some .int, some .int, some .int, some .int, some .int, some .int, some .int, some .int, some .int, some .int, some .int, some .boolean, some .int, some .int, some .int, some .int, some .long, some .int, some .int, some .int, some .int, some .int, some .int, some .int, some .int, some .int, some .boolean, some .boolean, some .int, none, none, some .boolean, none, some .boolean, some .int, some .int, none, none, none, some .boolean, some .int, none, some .int, some .int, some .boolean, some .boolean, some .long, some .long, none, none, some .int, some .boolean, none, none, none, none, some .int, some .int, none, none, some .int, none, none, some .int, none, none, none, none, none, none, none, some .int, some .boolean, some .int, some .int, some .boolean, some .boolean, some .int, none, none, some .int, some .int, some .boolean, some .boolean, some .int, some .int, some .int, some .int, some .int, some .int, some .int, some .int, none, some .boolean, some .int, some .int, none, some .int, some .int, some .boolean, some .int, some .boolean, none, some .boolean, none, some .int, some .int, some .int, some .boolean, some .boolean, some .boolean, some .int, some .int, some .boolean, some .int, some .long, some .long, none, none, some .int, some .int, some .int, some .int, some .boolean, some .int, some .int, some .int, some .int, some .boolean, none, some .int, some .int, some .int, some .boolean, some .boolean, some .int, some .int, some .int, some .boolean]
def amNp : List Nat := [0, 2, 2, 6, 2, 2, 2, 3, 3, 2, 4, 0, 1, 1, 2, 1, 1, 2, 2, 3, 4, 2, 2, 2, 2, 0, 2, 4, 0, 0, 4, 0, 0, 1, 0, 0, 1, 1, 1, 1, 2, 0, 1, 1, 0, 1, 4, 0, 1, 0, 1, 0, 1, 1, 0, 1, 1, 1, 1, 1, 2, 1, 0, 5, 1, 1, 0, 1, 1, 1, 0, 1, 1, 2, 2, 3, 2, 1, 1, 1, 1, 0, 1, 1, 1, 0, 2, 1, 1, 2, 1, 1, 0, 2, 0, 1, 1, 2, 3, 3, 3, 2, 2, 3, 4, 0, 4, 5, 1, 0, 0, 2, 2, 3, 1, 2, 1, 2, 0, 2, 2, 2, 1, 5, 2, 1, 1, 0, 2, 0, 1, 2, 2, 1, 1, 1, 0, 0, 2, 0, 1, 0, 2, 3, 2, 1, 2, 5, 1, 1, 1, 1, 1, 2, 7, 4, 0, 3, 1, 1, 2, 0, 1, 0, 0, 2, 0, 2, 0, 0, 0, 0, 0, 0, 2, 1, 0, 0, 2, 3, 0, 0, 1, 1, 1, 0, 0, 0, 6, 4, 1, 2, 2, 2, 1, 1, 2, 2, 3, 0, 1, 1, 2, 0, 1, 2, 0, 1, 1, 1, 0, 1, 2, 2, 5, 3, 2, 4, 2, 2, 1, 1, 2, 5, 0, 1, 2, 0, 3, 1, 1, 1, 0, 2, 0, 2, 1, 1, 2, 2, 1, 1, 1, 1, 1, 1]
def amYm (m : Nat) : MethodName := amY.getD m ⟨"", "", ""⟩
def amMthOk (t : Nat × Nat × Nat × Nat) : Prop := match t.2.2.2 with
  | 0 => Jvm.Cond.methodLink (amR t.1) t.2.1 (amYm t.2.2.1) ∈ amT0 ∧ Jvm.Cond.instanceMethod (amYm t.2.2.1) ∈ amT0 ∧ Jvm.Cond.selects (amYm t.2.2.1).cls (amYm t.2.2.1) (amYm t.2.2.1) ∈ amT0
  | 1 => Jvm.Cond.methodLinkNest (amR t.1) t.2.1 (amYm t.2.2.1) "SaltStairs" ∈ amNs ∧ Jvm.Cond.instanceMethod (amYm t.2.2.1) ∈ amT0 ∧ Jvm.Cond.selects (amYm t.2.2.1).cls (amYm t.2.2.1) (amYm t.2.2.1) ∈ amT0
  | 2 => Jvm.Cond.methodLink (amR t.1) t.2.1 (amYm t.2.2.1) ∈ amT0 ∧ Jvm.Cond.static (amYm t.2.2.1) ∈ amT0
  | 3 => Jvm.Cond.methodLinkNest (amR t.1) t.2.1 (amYm t.2.2.1) "SaltStairs" ∈ amNs ∧ Jvm.Cond.static (amYm t.2.2.1) ∈ amT0
  | _ => (match t.2.2.1 with
    | 1005 => Jvm.Cond.methodLink (amR t.1) t.2.1 Lib.Math.max.name ∈ amT0
    | 1006 => Jvm.Cond.methodLink (amR t.1) t.2.1 Lib.Math.min.name ∈ amT0
    | 1007 => Jvm.Cond.methodLink (amR t.1) t.2.1 arraycopyName ∈ amT0
    | 1009 => Jvm.Cond.methodLink (amR t.1) t.2.1 yJ0_length_8abf5 ∈ amT0
    | 1010 => Jvm.Cond.methodLink (amR t.1) t.2.1 yJ0_charAt_5068e ∈ amT0
    | 1011 => Jvm.Cond.methodLink (amR t.1) t.2.1 yJ0_indexOf_0f7a4 ∈ amT0
    | _ => False)
theorem amIn0 {w : Jvm.Cond} (n : Nat) (h : lw_tbl[n]? = some w) (g : amGood w = true) : w ∈ amT0 := List.mem_filter.mpr ⟨List.mem_of_getElem? h, g⟩
theorem amInN {w : Jvm.Cond} (n : Nat) (h : lw_tbl[n]? = some w) (g : amNest w = true) : w ∈ amNs := List.mem_filter.mpr ⟨List.mem_of_getElem? h, g⟩
theorem amFd_0 : amFldOk (11, 12, 11, 0) := Or.inl (amIn0 585 (by decide +kernel) (by decide +kernel))
theorem amFd_1 : amFldOk (11, 19, 11, 1) := Or.inl (amIn0 586 (by decide +kernel) (by decide +kernel))
theorem amFd_2 : amFldOk (11, 28, 11, 2) := Or.inl (amIn0 587 (by decide +kernel) (by decide +kernel))
theorem amFd_3 : amFldOk (11, 37, 11, 3) := Or.inl (amIn0 588 (by decide +kernel) (by decide +kernel))
theorem amFd_4 : amFldOk (11, 44, 11, 4) := Or.inl (amIn0 589 (by decide +kernel) (by decide +kernel))
theorem amFd_5 : amFldOk (11, 48, 11, 5) := Or.inl (amIn0 590 (by decide +kernel) (by decide +kernel))
theorem amFd_6 : amFldOk (11, 52, 11, 6) := Or.inl (amIn0 591 (by decide +kernel) (by decide +kernel))
theorem amFd_7 : amFldOk (11, 55, 11, 7) := Or.inl (amIn0 592 (by decide +kernel) (by decide +kernel))
theorem amFd_8 : amFldOk (11, 62, 11, 8) := Or.inl (amIn0 593 (by decide +kernel) (by decide +kernel))
theorem amFd_9 : amFldOk (11, 71, 11, 9) := Or.inl (amIn0 594 (by decide +kernel) (by decide +kernel))
theorem amFd_10 : amFldOk (11, 80, 11, 10) := Or.inl (amIn0 595 (by decide +kernel) (by decide +kernel))
theorem amFd_11 : amFldOk (11, 87, 11, 11) := Or.inl (amIn0 596 (by decide +kernel) (by decide +kernel))
theorem amFd_12 : amFldOk (11, 94, 11, 12) := Or.inl (amIn0 597 (by decide +kernel) (by decide +kernel))
theorem amFd_13 : amFldOk (11, 98, 11, 15) := Or.inl (amIn0 600 (by decide +kernel) (by decide +kernel))
theorem amFd_14 : amFldOk (11, 122, 5, 1) := Or.inr (amInN 420 (by decide +kernel) (by decide +kernel))
theorem amFd_15 : amFldOk (11, 132, 8, 0) := Or.inr (amInN 257 (by decide +kernel) (by decide +kernel))
theorem amFd_16 : amFldOk (11, 149, 5, 2) := Or.inr (amInN 423 (by decide +kernel) (by decide +kernel))
theorem amFd_17 : amFldOk (11, 152, 8, 2) := Or.inr (amInN 263 (by decide +kernel) (by decide +kernel))
theorem amFd_18 : amFldOk (11, 155, 8, 3) := Or.inr (amInN 268 (by decide +kernel) (by decide +kernel))
theorem amFd_19 : amFldOk (11, 158, 5, 3) := Or.inr (amInN 425 (by decide +kernel) (by decide +kernel))
theorem amFd_20 : amFldOk (11, 161, 5, 4) := Or.inr (amInN 427 (by decide +kernel) (by decide +kernel))
theorem amFd_21 : amFldOk (11, 164, 5, 5) := Or.inr (amInN 429 (by decide +kernel) (by decide +kernel))
theorem amFd_22 : amFldOk (11, 167, 5, 7) := Or.inr (amInN 436 (by decide +kernel) (by decide +kernel))
theorem amFd_23 : amFldOk (11, 174, 6, 3) := Or.inr (amInN 405 (by decide +kernel) (by decide +kernel))
theorem amFd_24 : amFldOk (11, 191, 10, 4) := Or.inr (amInN 366 (by decide +kernel) (by decide +kernel))
theorem amFd_25 : amFldOk (11, 194, 10, 5) := Or.inr (amInN 369 (by decide +kernel) (by decide +kernel))
theorem amFd_26 : amFldOk (11, 210, 5, 6) := Or.inr (amInN 431 (by decide +kernel) (by decide +kernel))
theorem amFd_27 : amFldOk (11, 216, 11, 13) := Or.inl (amIn0 598 (by decide +kernel) (by decide +kernel))
theorem amFd_28 : amFldOk (11, 219, 11, 14) := Or.inl (amIn0 599 (by decide +kernel) (by decide +kernel))
theorem amFd_29 : amFldOk (11, 238, 3, 7) := Or.inr (amInN 475 (by decide +kernel) (by decide +kernel))
theorem amFd_30 : amFldOk (11, 241, 3, 8) := Or.inr (amInN 477 (by decide +kernel) (by decide +kernel))
theorem amFd_31 : amFldOk (11, 244, 3, 3) := Or.inr (amInN 470 (by decide +kernel) (by decide +kernel))
theorem amFd_32 : amFldOk (11, 268, 0, 4) := Or.inr (amInN 511 (by decide +kernel) (by decide +kernel))
theorem amFd_33 : amFldOk (11, 271, 0, 5) := Or.inr (amInN 513 (by decide +kernel) (by decide +kernel))
theorem amFd_34 : amFldOk (11, 274, 0, 6) := Or.inr (amInN 515 (by decide +kernel) (by decide +kernel))
theorem amFd_35 : amFldOk (11, 277, 0, 7) := Or.inr (amInN 517 (by decide +kernel) (by decide +kernel))
theorem amFd_36 : amFldOk (11, 285, 8, 9) := Or.inr (amInN 292 (by decide +kernel) (by decide +kernel))
theorem amFd_37 : amFldOk (11, 299, 9, 5) := Or.inr (amInN 565 (by decide +kernel) (by decide +kernel))
theorem amFd_38 : amFldOk (11, 320, 8, 5) := Or.inr (amInN 277 (by decide +kernel) (by decide +kernel))
theorem amFd_39 : amFldOk (11, 323, 8, 6) := Or.inr (amInN 280 (by decide +kernel) (by decide +kernel))
theorem amFd_40 : amFldOk (11, 329, 7, 1) := Or.inr (amInN 205 (by decide +kernel) (by decide +kernel))
theorem amFd_41 : amFldOk (11, 338, 4, 1) := Or.inr (amInN 324 (by decide +kernel) (by decide +kernel))
theorem amFd_42 : amFldOk (0, 12, 0, 2) := Or.inl (amIn0 508 (by decide +kernel) (by decide +kernel))
theorem amFd_43 : amFldOk (0, 18, 0, 3) := Or.inl (amIn0 509 (by decide +kernel) (by decide +kernel))
theorem amFd_44 : amFldOk (0, 22, 0, 0) := Or.inl (amIn0 506 (by decide +kernel) (by decide +kernel))
theorem amFd_45 : amFldOk (0, 26, 0, 1) := Or.inl (amIn0 507 (by decide +kernel) (by decide +kernel))
theorem amFd_46 : amFldOk (0, 30, 5, 1) := Or.inr (amInN 418 (by decide +kernel) (by decide +kernel))
theorem amFd_47 : amFldOk (0, 37, 5, 7) := Or.inr (amInN 433 (by decide +kernel) (by decide +kernel))
theorem amFd_48 : amFldOk (0, 64, 0, 4) := Or.inl (amIn0 510 (by decide +kernel) (by decide +kernel))
theorem amFd_49 : amFldOk (0, 67, 0, 5) := Or.inl (amIn0 512 (by decide +kernel) (by decide +kernel))
theorem amFd_50 : amFldOk (0, 70, 0, 6) := Or.inl (amIn0 514 (by decide +kernel) (by decide +kernel))
theorem amFd_51 : amFldOk (0, 77, 0, 7) := Or.inl (amIn0 516 (by decide +kernel) (by decide +kernel))
theorem amFd_52 : amFldOk (0, 96, 10, 6) := Or.inr (amInN 371 (by decide +kernel) (by decide +kernel))
theorem amFd_53 : amFldOk (0, 99, 10, 4) := Or.inr (amInN 367 (by decide +kernel) (by decide +kernel))
theorem amFd_54 : amFldOk (0, 111, 8, 2) := Or.inr (amInN 264 (by decide +kernel) (by decide +kernel))
theorem amFd_55 : amFldOk (1, 11, 1, 0) := Or.inl (amIn0 239 (by decide +kernel) (by decide +kernel))
theorem amFd_56 : amFldOk (1, 17, 1, 2) := Or.inl (amIn0 242 (by decide +kernel) (by decide +kernel))
theorem amFd_57 : amFldOk (1, 20, 1, 3) := Or.inl (amIn0 243 (by decide +kernel) (by decide +kernel))
theorem amFd_58 : amFldOk (1, 26, 1, 1) := Or.inl (amIn0 240 (by decide +kernel) (by decide +kernel))
theorem amFd_59 : amFldOk (2, 9, 2, 2) := Or.inl (amIn0 543 (by decide +kernel) (by decide +kernel))
theorem amFd_60 : amFldOk (2, 15, 2, 0) := Or.inl (amIn0 541 (by decide +kernel) (by decide +kernel))
theorem amFd_61 : amFldOk (2, 19, 2, 1) := Or.inl (amIn0 542 (by decide +kernel) (by decide +kernel))
theorem amFd_62 : amFldOk (2, 23, 8, 5) := Or.inr (amInN 274 (by decide +kernel) (by decide +kernel))
theorem amFd_63 : amFldOk (2, 33, 5, 1) := Or.inr (amInN 417 (by decide +kernel) (by decide +kernel))
theorem amFd_64 : amFldOk (2, 45, 8, 0) := Or.inr (amInN 256 (by decide +kernel) (by decide +kernel))
theorem amFd_65 : amFldOk (2, 56, 8, 9) := Or.inr (amInN 288 (by decide +kernel) (by decide +kernel))
theorem amFd_66 : amFldOk (2, 63, 5, 7) := Or.inr (amInN 435 (by decide +kernel) (by decide +kernel))
theorem amFd_67 : amFldOk (2, 76, 6, 3) := Or.inr (amInN 403 (by decide +kernel) (by decide +kernel))
theorem amFd_68 : amFldOk (2, 83, 10, 3) := Or.inr (amInN 364 (by decide +kernel) (by decide +kernel))
theorem amFd_69 : amFldOk (2, 86, 5, 2) := Or.inr (amInN 422 (by decide +kernel) (by decide +kernel))
theorem amFd_70 : amFldOk (3, 11, 3, 1) := Or.inl (amIn0 467 (by decide +kernel) (by decide +kernel))
theorem amFd_71 : amFldOk (3, 17, 3, 2) := Or.inl (amIn0 468 (by decide +kernel) (by decide +kernel))
theorem amFd_72 : amFldOk (3, 21, 3, 3) := Or.inl (amIn0 469 (by decide +kernel) (by decide +kernel))
theorem amFd_73 : amFldOk (3, 24, 3, 4) := Or.inl (amIn0 471 (by decide +kernel) (by decide +kernel))
theorem amFd_74 : amFldOk (3, 28, 3, 0) := Or.inl (amIn0 466 (by decide +kernel) (by decide +kernel))
theorem amFd_75 : amFldOk (3, 39, 3, 5) := Or.inl (amIn0 472 (by decide +kernel) (by decide +kernel))
theorem amFd_76 : amFldOk (3, 42, 5, 7) := Or.inr (amInN 434 (by decide +kernel) (by decide +kernel))
theorem amFd_77 : amFldOk (3, 47, 3, 6) := Or.inl (amIn0 473 (by decide +kernel) (by decide +kernel))
theorem amFd_78 : amFldOk (3, 48, 3, 7) := Or.inl (amIn0 474 (by decide +kernel) (by decide +kernel))
theorem amFd_79 : amFldOk (3, 51, 3, 8) := Or.inl (amIn0 476 (by decide +kernel) (by decide +kernel))
theorem amFd_80 : amFldOk (3, 54, 5, 1) := Or.inr (amInN 419 (by decide +kernel) (by decide +kernel))
theorem amFd_81 : amFldOk (4, 12, 4, 1) := Or.inl (amIn0 323 (by decide +kernel) (by decide +kernel))
theorem amFd_82 : amFldOk (4, 18, 4, 2) := Or.inl (amIn0 325 (by decide +kernel) (by decide +kernel))
theorem amFd_83 : amFldOk (4, 22, 4, 0) := Or.inl (amIn0 322 (by decide +kernel) (by decide +kernel))
theorem amFd_84 : amFldOk (4, 31, 4, 3) := Or.inl (amIn0 326 (by decide +kernel) (by decide +kernel))
theorem amFd_85 : amFldOk (4, 39, 4, 4) := Or.inl (amIn0 327 (by decide +kernel) (by decide +kernel))
theorem amFd_86 : amFldOk (4, 42, 4, 5) := Or.inl (amIn0 328 (by decide +kernel) (by decide +kernel))
theorem amFd_87 : amFldOk (4, 45, 4, 6) := Or.inl (amIn0 329 (by decide +kernel) (by decide +kernel))
theorem amFd_88 : amFldOk (4, 48, 4, 8) := Or.inl (amIn0 331 (by decide +kernel) (by decide +kernel))
theorem amFd_89 : amFldOk (4, 54, 8, 0) := Or.inr (amInN 255 (by decide +kernel) (by decide +kernel))
theorem amFd_90 : amFldOk (4, 62, 8, 5) := Or.inr (amInN 275 (by decide +kernel) (by decide +kernel))
theorem amFd_91 : amFldOk (4, 65, 8, 1) := Or.inr (amInN 259 (by decide +kernel) (by decide +kernel))
theorem amFd_92 : amFldOk (4, 68, 8, 6) := Or.inr (amInN 279 (by decide +kernel) (by decide +kernel))
theorem amFd_93 : amFldOk (4, 87, 4, 7) := Or.inl (amIn0 330 (by decide +kernel) (by decide +kernel))
theorem amFd_94 : amFldOk (4, 90, 4, 9) := Or.inl (amIn0 332 (by decide +kernel) (by decide +kernel))
theorem amFd_95 : amFldOk (4, 104, 8, 7) := Or.inr (amInN 283 (by decide +kernel) (by decide +kernel))
theorem amFd_96 : amFldOk (4, 107, 8, 8) := Or.inr (amInN 285 (by decide +kernel) (by decide +kernel))
theorem amFd_97 : amFldOk (4, 110, 8, 9) := Or.inr (amInN 289 (by decide +kernel) (by decide +kernel))
theorem amFd_98 : amFldOk (4, 116, 8, 2) := Or.inr (amInN 262 (by decide +kernel) (by decide +kernel))
theorem amFd_99 : amFldOk (4, 119, 8, 3) := Or.inr (amInN 267 (by decide +kernel) (by decide +kernel))
theorem amFd_100 : amFldOk (4, 133, 8, 4) := Or.inr (amInN 270 (by decide +kernel) (by decide +kernel))
theorem amFd_101 : amFldOk (4, 152, 1, 1) := Or.inr (amInN 241 (by decide +kernel) (by decide +kernel))
theorem amFd_102 : amFldOk (5, 12, 5, 1) := Or.inl (amIn0 416 (by decide +kernel) (by decide +kernel))
theorem amFd_103 : amFldOk (5, 18, 5, 2) := Or.inl (amIn0 421 (by decide +kernel) (by decide +kernel))
theorem amFd_104 : amFldOk (5, 22, 5, 3) := Or.inl (amIn0 424 (by decide +kernel) (by decide +kernel))
theorem amFd_105 : amFldOk (5, 25, 5, 4) := Or.inl (amIn0 426 (by decide +kernel) (by decide +kernel))
theorem amFd_106 : amFldOk (5, 28, 5, 5) := Or.inl (amIn0 428 (by decide +kernel) (by decide +kernel))
theorem amFd_107 : amFldOk (5, 31, 5, 0) := Or.inl (amIn0 415 (by decide +kernel) (by decide +kernel))
theorem amFd_108 : amFldOk (5, 43, 8, 7) := Or.inr (amInN 282 (by decide +kernel) (by decide +kernel))
theorem amFd_109 : amFldOk (5, 49, 5, 6) := Or.inl (amIn0 430 (by decide +kernel) (by decide +kernel))
theorem amFd_110 : amFldOk (5, 50, 5, 7) := Or.inl (amIn0 432 (by decide +kernel) (by decide +kernel))
theorem amFd_111 : amFldOk (5, 76, 8, 8) := Or.inr (amInN 286 (by decide +kernel) (by decide +kernel))
theorem amFd_112 : amFldOk (5, 92, 8, 9) := Or.inr (amInN 290 (by decide +kernel) (by decide +kernel))
theorem amFd_113 : amFldOk (6, 9, 6, 0) := Or.inl (amIn0 399 (by decide +kernel) (by decide +kernel))
theorem amFd_114 : amFldOk (6, 15, 6, 1) := Or.inl (amIn0 400 (by decide +kernel) (by decide +kernel))
theorem amFd_115 : amFldOk (6, 18, 8, 5) := Or.inr (amInN 273 (by decide +kernel) (by decide +kernel))
theorem amFd_116 : amFldOk (6, 24, 6, 2) := Or.inl (amIn0 401 (by decide +kernel) (by decide +kernel))
theorem amFd_117 : amFldOk (6, 25, 8, 0) := Or.inr (amInN 254 (by decide +kernel) (by decide +kernel))
theorem amFd_118 : amFldOk (6, 34, 6, 3) := Or.inl (amIn0 402 (by decide +kernel) (by decide +kernel))
theorem amFd_119 : amFldOk (7, 11, 7, 0) := Or.inl (amIn0 203 (by decide +kernel) (by decide +kernel))
theorem amFd_120 : amFldOk (7, 15, 7, 2) := Or.inl (amIn0 206 (by decide +kernel) (by decide +kernel))
theorem amFd_121 : amFldOk (7, 19, 7, 3) := Or.inl (amIn0 207 (by decide +kernel) (by decide +kernel))
theorem amFd_122 : amFldOk (7, 23, 7, 4) := Or.inl (amIn0 208 (by decide +kernel) (by decide +kernel))
theorem amFd_123 : amFldOk (7, 26, 7, 1) := Or.inl (amIn0 204 (by decide +kernel) (by decide +kernel))
theorem amFd_124 : amFldOk (8, 9, 8, 0) := Or.inl (amIn0 253 (by decide +kernel) (by decide +kernel))
theorem amFd_125 : amFldOk (8, 15, 8, 1) := Or.inl (amIn0 258 (by decide +kernel) (by decide +kernel))
theorem amFd_126 : amFldOk (8, 18, 8, 2) := Or.inl (amIn0 260 (by decide +kernel) (by decide +kernel))
theorem amFd_127 : amFldOk (8, 21, 8, 3) := Or.inl (amIn0 265 (by decide +kernel) (by decide +kernel))
theorem amFd_128 : amFldOk (8, 27, 8, 4) := Or.inl (amIn0 269 (by decide +kernel) (by decide +kernel))
theorem amFd_129 : amFldOk (8, 31, 8, 5) := Or.inl (amIn0 272 (by decide +kernel) (by decide +kernel))
theorem amFd_130 : amFldOk (8, 35, 8, 6) := Or.inl (amIn0 278 (by decide +kernel) (by decide +kernel))
theorem amFd_131 : amFldOk (8, 38, 8, 7) := Or.inl (amIn0 281 (by decide +kernel) (by decide +kernel))
theorem amFd_132 : amFldOk (8, 41, 8, 8) := Or.inl (amIn0 284 (by decide +kernel) (by decide +kernel))
theorem amFd_133 : amFldOk (8, 44, 8, 9) := Or.inl (amIn0 287 (by decide +kernel) (by decide +kernel))
theorem amFd_134 : amFldOk (9, 12, 9, 2) := Or.inl (amIn0 561 (by decide +kernel) (by decide +kernel))
theorem amFd_135 : amFldOk (9, 18, 9, 3) := Or.inl (amIn0 562 (by decide +kernel) (by decide +kernel))
theorem amFd_136 : amFldOk (9, 22, 9, 4) := Or.inl (amIn0 563 (by decide +kernel) (by decide +kernel))
theorem amFd_137 : amFldOk (9, 25, 9, 6) := Or.inl (amIn0 566 (by decide +kernel) (by decide +kernel))
theorem amFd_138 : amFldOk (9, 28, 9, 0) := Or.inl (amIn0 559 (by decide +kernel) (by decide +kernel))
theorem amFd_139 : amFldOk (9, 32, 9, 1) := Or.inl (amIn0 560 (by decide +kernel) (by decide +kernel))
theorem amFd_140 : amFldOk (9, 36, 9, 5) := Or.inl (amIn0 564 (by decide +kernel) (by decide +kernel))
theorem amFd_141 : amFldOk (9, 40, 9, 7) := Or.inl (amIn0 567 (by decide +kernel) (by decide +kernel))
theorem amFd_142 : amFldOk (9, 63, 8, 9) := Or.inr (amInN 291 (by decide +kernel) (by decide +kernel))
theorem amFd_143 : amFldOk (9, 94, 8, 5) := Or.inr (amInN 276 (by decide +kernel) (by decide +kernel))
theorem amFd_144 : amFldOk (10, 9, 10, 1) := Or.inl (amIn0 361 (by decide +kernel) (by decide +kernel))
theorem amFd_145 : amFldOk (10, 15, 10, 0) := Or.inl (amIn0 360 (by decide +kernel) (by decide +kernel))
theorem amFd_146 : amFldOk (10, 19, 8, 2) := Or.inr (amInN 261 (by decide +kernel) (by decide +kernel))
theorem amFd_147 : amFldOk (10, 28, 8, 3) := Or.inr (amInN 266 (by decide +kernel) (by decide +kernel))
theorem amFd_148 : amFldOk (10, 35, 10, 2) := Or.inl (amIn0 362 (by decide +kernel) (by decide +kernel))
theorem amFd_149 : amFldOk (10, 39, 10, 3) := Or.inl (amIn0 363 (by decide +kernel) (by decide +kernel))
theorem amFd_150 : amFldOk (10, 46, 10, 4) := Or.inl (amIn0 365 (by decide +kernel) (by decide +kernel))
theorem amFd_151 : amFldOk (10, 49, 10, 5) := Or.inl (amIn0 368 (by decide +kernel) (by decide +kernel))
theorem amFd_152 : amFldOk (10, 52, 10, 6) := Or.inl (amIn0 370 (by decide +kernel) (by decide +kernel))
theorem amFd_153 : amFldOk (10, 98, 6, 3) := Or.inr (amInN 404 (by decide +kernel) (by decide +kernel))
theorem amFd_154 : amFldOk (10, 112, 8, 4) := Or.inr (amInN 271 (by decide +kernel) (by decide +kernel))
theorem amFd_155 : amFldOk (12, 13, 12, 1) := Or.inl (amIn0 1410 (by decide +kernel) (by decide +kernel))
theorem amFd_156 : amFldOk (12, 17, 12, 3) := Or.inl (amIn0 1412 (by decide +kernel) (by decide +kernel))
theorem amFd_157 : amFldOk (12, 20, 12, 5) := Or.inl (amIn0 1414 (by decide +kernel) (by decide +kernel))
theorem amFd_158 : amFldOk (12, 24, 12, 6) := Or.inl (amIn0 1415 (by decide +kernel) (by decide +kernel))
theorem amFd_159 : amFldOk (12, 27, 12, 7) := Or.inl (amIn0 1416 (by decide +kernel) (by decide +kernel))
theorem amFd_160 : amFldOk (12, 30, 12, 8) := Or.inl (amIn0 1417 (by decide +kernel) (by decide +kernel))
theorem amFd_161 : amFldOk (12, 34, 12, 9) := Or.inl (amIn0 1418 (by decide +kernel) (by decide +kernel))
theorem amFd_162 : amFldOk (12, 37, 12, 17) := Or.inl (amIn0 1426 (by decide +kernel) (by decide +kernel))
theorem amFd_163 : amFldOk (12, 40, 12, 21) := Or.inl (amIn0 1430 (by decide +kernel) (by decide +kernel))
theorem amFd_164 : amFldOk (12, 43, 12, 22) := Or.inl (amIn0 1431 (by decide +kernel) (by decide +kernel))
theorem amFd_165 : amFldOk (12, 46, 12, 23) := Or.inl (amIn0 1432 (by decide +kernel) (by decide +kernel))
theorem amFd_166 : amFldOk (12, 49, 12, 24) := Or.inl (amIn0 1433 (by decide +kernel) (by decide +kernel))
theorem amFd_167 : amFldOk (12, 52, 12, 25) := Or.inl (amIn0 1434 (by decide +kernel) (by decide +kernel))
theorem amFd_168 : amFldOk (12, 55, 12, 26) := Or.inl (amIn0 1435 (by decide +kernel) (by decide +kernel))
theorem amFd_169 : amFldOk (12, 58, 12, 27) := Or.inl (amIn0 1436 (by decide +kernel) (by decide +kernel))
theorem amFd_170 : amFldOk (12, 61, 12, 28) := Or.inl (amIn0 1437 (by decide +kernel) (by decide +kernel))
theorem amFd_171 : amFldOk (12, 64, 12, 29) := Or.inl (amIn0 1438 (by decide +kernel) (by decide +kernel))
theorem amFd_172 : amFldOk (12, 67, 12, 30) := Or.inl (amIn0 1439 (by decide +kernel) (by decide +kernel))
theorem amFd_173 : amFldOk (12, 70, 12, 31) := Or.inl (amIn0 1440 (by decide +kernel) (by decide +kernel))
theorem amFd_174 : amFldOk (12, 73, 12, 32) := Or.inl (amIn0 1441 (by decide +kernel) (by decide +kernel))
theorem amFd_175 : amFldOk (12, 76, 12, 33) := Or.inl (amIn0 1442 (by decide +kernel) (by decide +kernel))
theorem amFd_176 : amFldOk (12, 79, 12, 35) := Or.inl (amIn0 1444 (by decide +kernel) (by decide +kernel))
theorem amFd_177 : amFldOk (12, 83, 12, 36) := Or.inl (amIn0 1445 (by decide +kernel) (by decide +kernel))
theorem amFd_178 : amFldOk (12, 86, 12, 37) := Or.inl (amIn0 1446 (by decide +kernel) (by decide +kernel))
theorem amFd_179 : amFldOk (12, 89, 12, 38) := Or.inl (amIn0 1447 (by decide +kernel) (by decide +kernel))
theorem amFd_180 : amFldOk (12, 92, 12, 39) := Or.inl (amIn0 1448 (by decide +kernel) (by decide +kernel))
theorem amFd_181 : amFldOk (12, 95, 12, 41) := Or.inl (amIn0 1450 (by decide +kernel) (by decide +kernel))
theorem amFd_182 : amFldOk (12, 98, 12, 42) := Or.inl (amIn0 1451 (by decide +kernel) (by decide +kernel))
theorem amFd_183 : amFldOk (12, 101, 12, 43) := Or.inl (amIn0 1452 (by decide +kernel) (by decide +kernel))
theorem amFd_184 : amFldOk (12, 104, 12, 45) := Or.inl (amIn0 1454 (by decide +kernel) (by decide +kernel))
theorem amFd_185 : amFldOk (12, 107, 12, 46) := Or.inl (amIn0 1455 (by decide +kernel) (by decide +kernel))
theorem amFd_186 : amFldOk (12, 110, 12, 48) := Or.inl (amIn0 1457 (by decide +kernel) (by decide +kernel))
theorem amFd_187 : amFldOk (12, 113, 12, 49) := Or.inl (amIn0 1458 (by decide +kernel) (by decide +kernel))
theorem amFd_188 : amFldOk (12, 116, 12, 54) := Or.inl (amIn0 1463 (by decide +kernel) (by decide +kernel))
theorem amFd_189 : amFldOk (12, 119, 12, 56) := Or.inl (amIn0 1465 (by decide +kernel) (by decide +kernel))
theorem amFd_190 : amFldOk (12, 122, 12, 57) := Or.inl (amIn0 1466 (by decide +kernel) (by decide +kernel))
theorem amFd_191 : amFldOk (12, 125, 12, 63) := Or.inl (amIn0 1472 (by decide +kernel) (by decide +kernel))
theorem amFd_192 : amFldOk (12, 128, 12, 64) := Or.inl (amIn0 1473 (by decide +kernel) (by decide +kernel))
theorem amFd_193 : amFldOk (12, 131, 12, 66) := Or.inl (amIn0 1475 (by decide +kernel) (by decide +kernel))
theorem amFd_194 : amFldOk (12, 134, 12, 67) := Or.inl (amIn0 1476 (by decide +kernel) (by decide +kernel))
theorem amFd_195 : amFldOk (12, 137, 12, 68) := Or.inl (amIn0 1477 (by decide +kernel) (by decide +kernel))
theorem amFd_196 : amFldOk (12, 140, 12, 70) := Or.inl (amIn0 1479 (by decide +kernel) (by decide +kernel))
theorem amFd_197 : amFldOk (12, 143, 12, 71) := Or.inl (amIn0 1480 (by decide +kernel) (by decide +kernel))
theorem amFd_198 : amFldOk (12, 150, 12, 2) := Or.inl (amIn0 1411 (by decide +kernel) (by decide +kernel))
theorem amFd_199 : amFldOk (12, 157, 12, 4) := Or.inl (amIn0 1413 (by decide +kernel) (by decide +kernel))
theorem amFd_200 : amFldOk (12, 166, 12, 10) := Or.inl (amIn0 1419 (by decide +kernel) (by decide +kernel))
theorem amFd_201 : amFldOk (12, 188, 12, 13) := Or.inl (amIn0 1422 (by decide +kernel) (by decide +kernel))
theorem amFd_202 : amFldOk (12, 191, 12, 11) := Or.inl (amIn0 1420 (by decide +kernel) (by decide +kernel))
theorem amFd_203 : amFldOk (12, 194, 12, 14) := Or.inl (amIn0 1423 (by decide +kernel) (by decide +kernel))
theorem amFd_204 : amFldOk (12, 197, 12, 15) := Or.inl (amIn0 1424 (by decide +kernel) (by decide +kernel))
theorem amFd_205 : amFldOk (12, 200, 12, 16) := Or.inl (amIn0 1425 (by decide +kernel) (by decide +kernel))
theorem amFd_206 : amFldOk (12, 215, 12, 12) := Or.inl (amIn0 1421 (by decide +kernel) (by decide +kernel))
theorem amFd_207 : amFldOk (12, 218, 12, 18) := Or.inl (amIn0 1427 (by decide +kernel) (by decide +kernel))
theorem amFd_208 : amFldOk (12, 221, 12, 19) := Or.inl (amIn0 1428 (by decide +kernel) (by decide +kernel))
theorem amFd_209 : amFldOk (12, 224, 12, 20) := Or.inl (amIn0 1429 (by decide +kernel) (by decide +kernel))
theorem amFd_210 : amFldOk (12, 227, 12, 34) := Or.inl (amIn0 1443 (by decide +kernel) (by decide +kernel))
theorem amFd_211 : amFldOk (12, 230, 12, 40) := Or.inl (amIn0 1449 (by decide +kernel) (by decide +kernel))
theorem amFd_212 : amFldOk (12, 239, 12, 53) := Or.inl (amIn0 1462 (by decide +kernel) (by decide +kernel))
theorem amFd_213 : amFldOk (12, 242, 12, 65) := Or.inl (amIn0 1474 (by decide +kernel) (by decide +kernel))
theorem amFd_214 : amFldOk (12, 281, 12, 44) := Or.inl (amIn0 1453 (by decide +kernel) (by decide +kernel))
theorem amFd_215 : amFldOk (12, 294, 12, 47) := Or.inl (amIn0 1456 (by decide +kernel) (by decide +kernel))
theorem amFd_216 : amFldOk (12, 315, 12, 50) := Or.inl (amIn0 1459 (by decide +kernel) (by decide +kernel))
theorem amFd_217 : amFldOk (12, 318, 12, 51) := Or.inl (amIn0 1460 (by decide +kernel) (by decide +kernel))
theorem amFd_218 : amFldOk (12, 338, 12, 52) := Or.inl (amIn0 1461 (by decide +kernel) (by decide +kernel))
theorem amFd_219 : amFldOk (12, 371, 12, 55) := Or.inl (amIn0 1464 (by decide +kernel) (by decide +kernel))
theorem amFd_220 : amFldOk (12, 377, 12, 58) := Or.inl (amIn0 1467 (by decide +kernel) (by decide +kernel))
theorem amFd_221 : amFldOk (12, 380, 12, 59) := Or.inl (amIn0 1468 (by decide +kernel) (by decide +kernel))
theorem amFd_222 : amFldOk (12, 424, 12, 60) := Or.inl (amIn0 1469 (by decide +kernel) (by decide +kernel))
theorem amFd_223 : amFldOk (12, 427, 12, 61) := Or.inl (amIn0 1470 (by decide +kernel) (by decide +kernel))
theorem amFd_224 : amFldOk (12, 430, 12, 62) := Or.inl (amIn0 1471 (by decide +kernel) (by decide +kernel))
theorem amFd_225 : amFldOk (12, 449, 12, 69) := Or.inl (amIn0 1478 (by decide +kernel) (by decide +kernel))
theorem amMt_0 : amMthOk (11, 102, 63, 1) := ⟨amInN 638 (by decide +kernel) (by decide +kernel), amIn0 640 (by decide +kernel) (by decide +kernel), amIn0 1 (by decide +kernel) (by decide +kernel)⟩
theorem amMt_1 : amMthOk (11, 106, 65, 1) := ⟨amInN 650 (by decide +kernel) (by decide +kernel), amIn0 652 (by decide +kernel) (by decide +kernel), amIn0 3 (by decide +kernel) (by decide +kernel)⟩
theorem amMt_2 : amMthOk (11, 110, 28, 1) := ⟨amInN 658 (by decide +kernel) (by decide +kernel), amIn0 660 (by decide +kernel) (by decide +kernel), amIn0 4 (by decide +kernel) (by decide +kernel)⟩
theorem amMt_3 : amMthOk (11, 114, 66, 1) := ⟨amInN 901 (by decide +kernel) (by decide +kernel), amIn0 903 (by decide +kernel) (by decide +kernel), amIn0 32 (by decide +kernel) (by decide +kernel)⟩
theorem amMt_4 : amMthOk (11, 117, 29, 1) := ⟨amInN 905 (by decide +kernel) (by decide +kernel), amIn0 907 (by decide +kernel) (by decide +kernel), amIn0 33 (by decide +kernel) (by decide +kernel)⟩
theorem amMt_5 : amMthOk (11, 119, 136, 0) := ⟨amIn0 916 (by decide +kernel) (by decide +kernel), amIn0 918 (by decide +kernel) (by decide +kernel), amIn0 35 (by decide +kernel) (by decide +kernel)⟩
theorem amMt_6 : amMthOk (11, 125, 55, 1) := ⟨amInN 974 (by decide +kernel) (by decide +kernel), amIn0 976 (by decide +kernel) (by decide +kernel), amIn0 44 (by decide +kernel) (by decide +kernel)⟩
theorem amMt_7 : amMthOk (11, 129, 57, 1) := ⟨amInN 978 (by decide +kernel) (by decide +kernel), amIn0 980 (by decide +kernel) (by decide +kernel), amIn0 45 (by decide +kernel) (by decide +kernel)⟩
theorem amMt_8 : amMthOk (11, 136, 142, 2) := ⟨amIn0 982 (by decide +kernel) (by decide +kernel), amIn0 914 (by decide +kernel) (by decide +kernel)⟩
theorem amMt_9 : amMthOk (11, 140, 58, 1) := ⟨amInN 983 (by decide +kernel) (by decide +kernel), amIn0 985 (by decide +kernel) (by decide +kernel), amIn0 46 (by decide +kernel) (by decide +kernel)⟩
theorem amMt_10 : amMthOk (11, 143, 50, 1) := ⟨amInN 987 (by decide +kernel) (by decide +kernel), amIn0 989 (by decide +kernel) (by decide +kernel), amIn0 47 (by decide +kernel) (by decide +kernel)⟩
theorem amMt_11 : amMthOk (11, 146, 83, 1) := ⟨amInN 996 (by decide +kernel) (by decide +kernel), amIn0 998 (by decide +kernel) (by decide +kernel), amIn0 48 (by decide +kernel) (by decide +kernel)⟩
theorem amMt_12 : amMthOk (11, 170, 97, 1) := ⟨amInN 1004 (by decide +kernel) (by decide +kernel), amIn0 1006 (by decide +kernel) (by decide +kernel), amIn0 49 (by decide +kernel) (by decide +kernel)⟩
theorem amMt_13 : amMthOk (11, 177, 106, 1) := ⟨amInN 1018 (by decide +kernel) (by decide +kernel), amIn0 1020 (by decide +kernel) (by decide +kernel), amIn0 52 (by decide +kernel) (by decide +kernel)⟩
theorem amMt_14 : amMthOk (11, 181, 48, 1) := ⟨amInN 1037 (by decide +kernel) (by decide +kernel), amIn0 1039 (by decide +kernel) (by decide +kernel), amIn0 55 (by decide +kernel) (by decide +kernel)⟩
theorem amMt_15 : amMthOk (11, 184, 137, 0) := ⟨amIn0 1042 (by decide +kernel) (by decide +kernel), amIn0 1044 (by decide +kernel) (by decide +kernel), amIn0 56 (by decide +kernel) (by decide +kernel)⟩
theorem amMt_16 : amMthOk (11, 187, 99, 1) := ⟨amInN 1055 (by decide +kernel) (by decide +kernel), amIn0 1057 (by decide +kernel) (by decide +kernel), amIn0 59 (by decide +kernel) (by decide +kernel)⟩
theorem amMt_17 : amMthOk (11, 196, 46, 1) := ⟨amInN 1098 (by decide +kernel) (by decide +kernel), amIn0 1100 (by decide +kernel) (by decide +kernel), amIn0 68 (by decide +kernel) (by decide +kernel)⟩
theorem amMt_18 : amMthOk (11, 200, 139, 0) := ⟨amIn0 954 (by decide +kernel) (by decide +kernel), amIn0 956 (by decide +kernel) (by decide +kernel), amIn0 41 (by decide +kernel) (by decide +kernel)⟩
theorem amMt_19 : amMthOk (11, 203, 53, 1) := ⟨amInN 1107 (by decide +kernel) (by decide +kernel), amIn0 1052 (by decide +kernel) (by decide +kernel), amIn0 58 (by decide +kernel) (by decide +kernel)⟩
theorem amMt_20 : amMthOk (11, 207, 47, 1) := ⟨amInN 1112 (by decide +kernel) (by decide +kernel), amIn0 1114 (by decide +kernel) (by decide +kernel), amIn0 69 (by decide +kernel) (by decide +kernel)⟩
theorem amMt_21 : amMthOk (11, 213, 60, 1) := ⟨amInN 1128 (by decide +kernel) (by decide +kernel), amIn0 1091 (by decide +kernel) (by decide +kernel), amIn0 66 (by decide +kernel) (by decide +kernel)⟩
theorem amMt_22 : amMthOk (11, 222, 138, 0) := ⟨amIn0 1133 (by decide +kernel) (by decide +kernel), amIn0 1135 (by decide +kernel) (by decide +kernel), amIn0 71 (by decide +kernel) (by decide +kernel)⟩
theorem amMt_23 : amMthOk (11, 226, 140, 0) := ⟨amIn0 1141 (by decide +kernel) (by decide +kernel), amIn0 1143 (by decide +kernel) (by decide +kernel), amIn0 72 (by decide +kernel) (by decide +kernel)⟩
theorem amMt_24 : amMthOk (11, 229, 244, 2) := ⟨amIn0 1150 (by decide +kernel) (by decide +kernel), amIn0 1151 (by decide +kernel) (by decide +kernel)⟩
theorem amMt_25 : amMthOk (11, 234, 26, 1) := ⟨amInN 1156 (by decide +kernel) (by decide +kernel), amIn0 1158 (by decide +kernel) (by decide +kernel), amIn0 74 (by decide +kernel) (by decide +kernel)⟩
theorem amMt_26 : amMthOk (11, 247, 18, 1) := ⟨amInN 1179 (by decide +kernel) (by decide +kernel), amIn0 1181 (by decide +kernel) (by decide +kernel), amIn0 76 (by decide +kernel) (by decide +kernel)⟩
theorem amMt_27 : amMthOk (11, 251, 19, 1) := ⟨amInN 1203 (by decide +kernel) (by decide +kernel), amIn0 1185 (by decide +kernel) (by decide +kernel), amIn0 77 (by decide +kernel) (by decide +kernel)⟩
theorem amMt_28 : amMthOk (11, 255, 1, 1) := ⟨amInN 1208 (by decide +kernel) (by decide +kernel), amIn0 1210 (by decide +kernel) (by decide +kernel), amIn0 81 (by decide +kernel) (by decide +kernel)⟩
theorem amMt_29 : amMthOk (11, 261, 3, 1) := ⟨amInN 1224 (by decide +kernel) (by decide +kernel), amIn0 1226 (by decide +kernel) (by decide +kernel), amIn0 83 (by decide +kernel) (by decide +kernel)⟩
theorem amMt_30 : amMthOk (11, 265, 6, 1) := ⟨amInN 1239 (by decide +kernel) (by decide +kernel), amIn0 1241 (by decide +kernel) (by decide +kernel), amIn0 84 (by decide +kernel) (by decide +kernel)⟩
theorem amMt_31 : amMthOk (11, 279, 22, 1) := ⟨amInN 1261 (by decide +kernel) (by decide +kernel), amIn0 1263 (by decide +kernel) (by decide +kernel), amIn0 88 (by decide +kernel) (by decide +kernel)⟩
theorem amMt_32 : amMthOk (11, 282, 9, 1) := ⟨amInN 1282 (by decide +kernel) (by decide +kernel), amIn0 1284 (by decide +kernel) (by decide +kernel), amIn0 91 (by decide +kernel) (by decide +kernel)⟩
theorem amMt_33 : amMthOk (11, 288, 1005, 9) := amIn0 1300 (by decide +kernel) (by decide +kernel)
theorem amMt_34 : amMthOk (11, 294, 1006, 9) := amIn0 927 (by decide +kernel) (by decide +kernel)
theorem amMt_35 : amMthOk (11, 297, 86, 1) := ⟨amInN 1305 (by decide +kernel) (by decide +kernel), amIn0 1307 (by decide +kernel) (by decide +kernel), amIn0 94 (by decide +kernel) (by decide +kernel)⟩
theorem amMt_36 : amMthOk (11, 302, 87, 1) := ⟨amInN 1318 (by decide +kernel) (by decide +kernel), amIn0 1320 (by decide +kernel) (by decide +kernel), amIn0 95 (by decide +kernel) (by decide +kernel)⟩
theorem amMt_37 : amMthOk (11, 305, 88, 1) := ⟨amInN 1347 (by decide +kernel) (by decide +kernel), amIn0 1349 (by decide +kernel) (by decide +kernel), amIn0 100 (by decide +kernel) (by decide +kernel)⟩
theorem amMt_38 : amMthOk (11, 308, 89, 1) := ⟨amInN 1359 (by decide +kernel) (by decide +kernel), amIn0 1361 (by decide +kernel) (by decide +kernel), amIn0 102 (by decide +kernel) (by decide +kernel)⟩
theorem amMt_39 : amMthOk (11, 311, 91, 1) := ⟨amInN 1367 (by decide +kernel) (by decide +kernel), amIn0 1369 (by decide +kernel) (by decide +kernel), amIn0 103 (by decide +kernel) (by decide +kernel)⟩
theorem amMt_40 : amMthOk (11, 314, 90, 1) := ⟨amInN 1375 (by decide +kernel) (by decide +kernel), amIn0 1373 (by decide +kernel) (by decide +kernel), amIn0 104 (by decide +kernel) (by decide +kernel)⟩
theorem amMt_41 : amMthOk (11, 317, 45, 1) := ⟨amInN 1046 (by decide +kernel) (by decide +kernel), amIn0 1048 (by decide +kernel) (by decide +kernel), amIn0 57 (by decide +kernel) (by decide +kernel)⟩
theorem amMt_42 : amMthOk (11, 326, 51, 1) := ⟨amInN 1388 (by decide +kernel) (by decide +kernel), amIn0 1245 (by decide +kernel) (by decide +kernel), amIn0 85 (by decide +kernel) (by decide +kernel)⟩
theorem amMt_43 : amMthOk (11, 332, 141, 0) := ⟨amIn0 1389 (by decide +kernel) (by decide +kernel), amIn0 1391 (by decide +kernel) (by decide +kernel), amIn0 105 (by decide +kernel) (by decide +kernel)⟩
theorem amMt_44 : amMthOk (11, 335, 62, 1) := ⟨amInN 1393 (by decide +kernel) (by decide +kernel), amIn0 1395 (by decide +kernel) (by decide +kernel), amIn0 106 (by decide +kernel) (by decide +kernel)⟩
theorem amMt_45 : amMthOk (11, 341, 82, 1) := ⟨amInN 920 (by decide +kernel) (by decide +kernel), amIn0 922 (by decide +kernel) (by decide +kernel), amIn0 36 (by decide +kernel) (by decide +kernel)⟩
theorem amMt_46 : amMthOk (11, 343, 44, 1) := ⟨amInN 936 (by decide +kernel) (by decide +kernel), amIn0 938 (by decide +kernel) (by decide +kernel), amIn0 38 (by decide +kernel) (by decide +kernel)⟩
theorem amMt_47 : amMthOk (11, 346, 85, 1) := ⟨amInN 950 (by decide +kernel) (by decide +kernel), amIn0 952 (by decide +kernel) (by decide +kernel), amIn0 40 (by decide +kernel) (by decide +kernel)⟩
theorem amMt_48 : amMthOk (11, 347, 25, 1) := ⟨amInN 958 (by decide +kernel) (by decide +kernel), amIn0 960 (by decide +kernel) (by decide +kernel), amIn0 42 (by decide +kernel) (by decide +kernel)⟩
theorem amMt_49 : amMthOk (11, 350, 0, 1) := ⟨amInN 962 (by decide +kernel) (by decide +kernel), amIn0 964 (by decide +kernel) (by decide +kernel), amIn0 43 (by decide +kernel) (by decide +kernel)⟩
theorem amMt_50 : amMthOk (11, 351, 49, 1) := ⟨amInN 1145 (by decide +kernel) (by decide +kernel), amIn0 1147 (by decide +kernel) (by decide +kernel), amIn0 73 (by decide +kernel) (by decide +kernel)⟩
theorem amMt_51 : amMthOk (11, 354, 1007, 9) := amIn0 928 (by decide +kernel) (by decide +kernel)
theorem amMt_52 : amMthOk (0, 33, 53, 1) := ⟨amInN 1212 (by decide +kernel) (by decide +kernel), amIn0 1052 (by decide +kernel) (by decide +kernel), amIn0 58 (by decide +kernel) (by decide +kernel)⟩
theorem amMt_53 : amMthOk (0, 40, 2, 0) := ⟨amIn0 1213 (by decide +kernel) (by decide +kernel), amIn0 1215 (by decide +kernel) (by decide +kernel), amIn0 82 (by decide +kernel) (by decide +kernel)⟩
theorem amMt_54 : amMthOk (0, 44, 146, 3) := ⟨amInN 1217 (by decide +kernel) (by decide +kernel), amIn0 1168 (by decide +kernel) (by decide +kernel)⟩
theorem amMt_55 : amMthOk (0, 47, 99, 1) := ⟨amInN 1218 (by decide +kernel) (by decide +kernel), amIn0 1057 (by decide +kernel) (by decide +kernel), amIn0 59 (by decide +kernel) (by decide +kernel)⟩
theorem amMt_56 : amMthOk (0, 53, 4, 2) := ⟨amIn0 1228 (by decide +kernel) (by decide +kernel), amIn0 1229 (by decide +kernel) (by decide +kernel)⟩
theorem amMt_57 : amMthOk (0, 57, 5, 2) := ⟨amIn0 1231 (by decide +kernel) (by decide +kernel), amIn0 1232 (by decide +kernel) (by decide +kernel)⟩
theorem amMt_58 : amMthOk (0, 60, 61, 1) := ⟨amInN 1234 (by decide +kernel) (by decide +kernel), amIn0 1119 (by decide +kernel) (by decide +kernel), amIn0 70 (by decide +kernel) (by decide +kernel)⟩
theorem amMt_59 : amMthOk (0, 73, 51, 1) := ⟨amInN 1243 (by decide +kernel) (by decide +kernel), amIn0 1245 (by decide +kernel) (by decide +kernel), amIn0 85 (by decide +kernel) (by decide +kernel)⟩
theorem amMt_60 : amMthOk (0, 80, 49, 1) := ⟨amInN 1247 (by decide +kernel) (by decide +kernel), amIn0 1147 (by decide +kernel) (by decide +kernel), amIn0 73 (by decide +kernel) (by decide +kernel)⟩
theorem amMt_61 : amMthOk (0, 83, 7, 0) := ⟨amIn0 1248 (by decide +kernel) (by decide +kernel), amIn0 1250 (by decide +kernel) (by decide +kernel), amIn0 86 (by decide +kernel) (by decide +kernel)⟩
theorem amMt_62 : amMthOk (0, 87, 84, 1) := ⟨amInN 1256 (by decide +kernel) (by decide +kernel), amIn0 1015 (by decide +kernel) (by decide +kernel), amIn0 51 (by decide +kernel) (by decide +kernel)⟩
theorem amMt_63 : amMthOk (0, 92, 8, 0) := ⟨amIn0 1252 (by decide +kernel) (by decide +kernel), amIn0 1254 (by decide +kernel) (by decide +kernel), amIn0 87 (by decide +kernel) (by decide +kernel)⟩
theorem amMt_64 : amMthOk (0, 102, 244, 2) := ⟨amIn0 1286 (by decide +kernel) (by decide +kernel), amIn0 1151 (by decide +kernel) (by decide +kernel)⟩
theorem amMt_65 : amMthOk (0, 107, 10, 0) := ⟨amIn0 1287 (by decide +kernel) (by decide +kernel), amIn0 1289 (by decide +kernel) (by decide +kernel), amIn0 92 (by decide +kernel) (by decide +kernel)⟩
theorem amMt_66 : amMthOk (0, 115, 142, 3) := ⟨amInN 1291 (by decide +kernel) (by decide +kernel), amIn0 914 (by decide +kernel) (by decide +kernel)⟩
theorem amMt_67 : amMthOk (0, 119, 100, 1) := ⟨amInN 1292 (by decide +kernel) (by decide +kernel), amIn0 1294 (by decide +kernel) (by decide +kernel), amIn0 93 (by decide +kernel) (by decide +kernel)⟩
theorem amMt_68 : amMthOk (1, 23, 11, 0) := ⟨amIn0 235 (by decide +kernel) (by decide +kernel), amIn0 237 (by decide +kernel) (by decide +kernel), amIn0 0 (by decide +kernel) (by decide +kernel)⟩
theorem amMt_69 : amMthOk (1, 30, 144, 3) := ⟨amInN 935 (by decide +kernel) (by decide +kernel), amIn0 925 (by decide +kernel) (by decide +kernel)⟩
theorem amMt_70 : amMthOk (1, 34, 143, 3) := ⟨amInN 877 (by decide +kernel) (by decide +kernel), amIn0 809 (by decide +kernel) (by decide +kernel)⟩
theorem amMt_71 : amMthOk (1, 38, 1005, 9) := amIn0 1030 (by decide +kernel) (by decide +kernel)
theorem amMt_72 : amMthOk (2, 29, 19, 0) := ⟨amIn0 1183 (by decide +kernel) (by decide +kernel), amIn0 1185 (by decide +kernel) (by decide +kernel), amIn0 77 (by decide +kernel) (by decide +kernel)⟩
theorem amMt_73 : amMthOk (2, 39, 57, 1) := ⟨amInN 1187 (by decide +kernel) (by decide +kernel), amIn0 980 (by decide +kernel) (by decide +kernel), amIn0 45 (by decide +kernel) (by decide +kernel)⟩
theorem amMt_74 : amMthOk (2, 48, 142, 3) := ⟨amInN 1188 (by decide +kernel) (by decide +kernel), amIn0 914 (by decide +kernel) (by decide +kernel)⟩
theorem amMt_75 : amMthOk (2, 52, 20, 0) := ⟨amIn0 1189 (by decide +kernel) (by decide +kernel), amIn0 1191 (by decide +kernel) (by decide +kernel), amIn0 78 (by decide +kernel) (by decide +kernel)⟩
theorem amMt_76 : amMthOk (2, 59, 146, 3) := ⟨amInN 1193 (by decide +kernel) (by decide +kernel), amIn0 1168 (by decide +kernel) (by decide +kernel)⟩
theorem amMt_77 : amMthOk (2, 66, 97, 1) := ⟨amInN 1194 (by decide +kernel) (by decide +kernel), amIn0 1006 (by decide +kernel) (by decide +kernel), amIn0 49 (by decide +kernel) (by decide +kernel)⟩
theorem amMt_78 : amMthOk (2, 72, 21, 0) := ⟨amIn0 1195 (by decide +kernel) (by decide +kernel), amIn0 1197 (by decide +kernel) (by decide +kernel), amIn0 79 (by decide +kernel) (by decide +kernel)⟩
theorem amMt_79 : amMthOk (2, 79, 104, 1) := ⟨amInN 1199 (by decide +kernel) (by decide +kernel), amIn0 1201 (by decide +kernel) (by decide +kernel), amIn0 80 (by decide +kernel) (by decide +kernel)⟩
theorem amMt_80 : amMthOk (2, 89, 143, 3) := ⟨amInN 1265 (by decide +kernel) (by decide +kernel), amIn0 809 (by decide +kernel) (by decide +kernel)⟩
theorem amMt_81 : amMthOk (2, 93, 23, 0) := ⟨amIn0 1266 (by decide +kernel) (by decide +kernel), amIn0 1268 (by decide +kernel) (by decide +kernel), amIn0 89 (by decide +kernel) (by decide +kernel)⟩
theorem amMt_82 : amMthOk (2, 98, 24, 0) := ⟨amIn0 1270 (by decide +kernel) (by decide +kernel), amIn0 1272 (by decide +kernel) (by decide +kernel), amIn0 90 (by decide +kernel) (by decide +kernel)⟩
theorem amMt_83 : amMthOk (2, 101, 1005, 9) := amIn0 1276 (by decide +kernel) (by decide +kernel)
theorem amMt_84 : amMthOk (2, 107, 56, 1) := ⟨amInN 1277 (by decide +kernel) (by decide +kernel), amIn0 1074 (by decide +kernel) (by decide +kernel), amIn0 63 (by decide +kernel) (by decide +kernel)⟩
theorem amMt_85 : amMthOk (2, 111, 1006, 9) := amIn0 1275 (by decide +kernel) (by decide +kernel)
theorem amMt_86 : amMthOk (3, 33, 244, 2) := ⟨amIn0 1160 (by decide +kernel) (by decide +kernel), amIn0 1151 (by decide +kernel) (by decide +kernel)⟩
theorem amMt_87 : amMthOk (3, 58, 53, 1) := ⟨amInN 1161 (by decide +kernel) (by decide +kernel), amIn0 1052 (by decide +kernel) (by decide +kernel), amIn0 58 (by decide +kernel) (by decide +kernel)⟩
theorem amMt_88 : amMthOk (3, 62, 27, 0) := ⟨amIn0 1162 (by decide +kernel) (by decide +kernel), amIn0 1164 (by decide +kernel) (by decide +kernel), amIn0 75 (by decide +kernel) (by decide +kernel)⟩
theorem amMt_89 : amMthOk (3, 66, 144, 3) := ⟨amInN 1166 (by decide +kernel) (by decide +kernel), amIn0 925 (by decide +kernel) (by decide +kernel)⟩
theorem amMt_90 : amMthOk (3, 70, 146, 3) := ⟨amInN 1167 (by decide +kernel) (by decide +kernel), amIn0 1168 (by decide +kernel) (by decide +kernel)⟩
theorem amMt_91 : amMthOk (3, 74, 99, 1) := ⟨amInN 1170 (by decide +kernel) (by decide +kernel), amIn0 1057 (by decide +kernel) (by decide +kernel), amIn0 59 (by decide +kernel) (by decide +kernel)⟩
theorem amMt_92 : amMthOk (4, 26, 70, 1) := ⟨amInN 662 (by decide +kernel) (by decide +kernel), amIn0 664 (by decide +kernel) (by decide +kernel), amIn0 5 (by decide +kernel) (by decide +kernel)⟩
theorem amMt_93 : amMthOk (4, 35, 67, 1) := ⟨amInN 819 (by decide +kernel) (by decide +kernel), amIn0 821 (by decide +kernel) (by decide +kernel), amIn0 13 (by decide +kernel) (by decide +kernel)⟩
theorem amMt_94 : amMthOk (4, 51, 81, 1) := ⟨amInN 823 (by decide +kernel) (by decide +kernel), amIn0 825 (by decide +kernel) (by decide +kernel), amIn0 14 (by decide +kernel) (by decide +kernel)⟩
theorem amMt_95 : amMthOk (4, 58, 30, 0) := ⟨amIn0 828 (by decide +kernel) (by decide +kernel), amIn0 830 (by decide +kernel) (by decide +kernel), amIn0 15 (by decide +kernel) (by decide +kernel)⟩
theorem amMt_96 : amMthOk (4, 71, 31, 0) := ⟨amIn0 853 (by decide +kernel) (by decide +kernel), amIn0 855 (by decide +kernel) (by decide +kernel), amIn0 21 (by decide +kernel) (by decide +kernel)⟩
theorem amMt_97 : amMthOk (4, 74, 32, 0) := ⟨amIn0 857 (by decide +kernel) (by decide +kernel), amIn0 859 (by decide +kernel) (by decide +kernel), amIn0 22 (by decide +kernel) (by decide +kernel)⟩
theorem amMt_98 : amMthOk (4, 77, 34, 0) := ⟨amIn0 869 (by decide +kernel) (by decide +kernel), amIn0 871 (by decide +kernel) (by decide +kernel), amIn0 25 (by decide +kernel) (by decide +kernel)⟩
theorem amMt_99 : amMthOk (4, 80, 42, 0) := ⟨amIn0 836 (by decide +kernel) (by decide +kernel), amIn0 838 (by decide +kernel) (by decide +kernel), amIn0 17 (by decide +kernel) (by decide +kernel)⟩
theorem amMt_100 : amMthOk (4, 84, 39, 0) := ⟨amIn0 832 (by decide +kernel) (by decide +kernel), amIn0 834 (by decide +kernel) (by decide +kernel), amIn0 16 (by decide +kernel) (by decide +kernel)⟩
theorem amMt_101 : amMthOk (4, 93, 69, 1) := ⟨amInN 909 (by decide +kernel) (by decide +kernel), amIn0 911 (by decide +kernel) (by decide +kernel), amIn0 34 (by decide +kernel) (by decide +kernel)⟩
theorem amMt_102 : amMthOk (4, 96, 40, 0) := ⟨amIn0 840 (by decide +kernel) (by decide +kernel), amIn0 842 (by decide +kernel) (by decide +kernel), amIn0 18 (by decide +kernel) (by decide +kernel)⟩
theorem amMt_103 : amMthOk (4, 100, 143, 3) := ⟨amInN 852 (by decide +kernel) (by decide +kernel), amIn0 809 (by decide +kernel) (by decide +kernel)⟩
theorem amMt_104 : amMthOk (4, 113, 33, 0) := ⟨amIn0 861 (by decide +kernel) (by decide +kernel), amIn0 863 (by decide +kernel) (by decide +kernel), amIn0 23 (by decide +kernel) (by decide +kernel)⟩
theorem amMt_105 : amMthOk (4, 122, 41, 0) := ⟨amIn0 865 (by decide +kernel) (by decide +kernel), amIn0 867 (by decide +kernel) (by decide +kernel), amIn0 24 (by decide +kernel) (by decide +kernel)⟩
theorem amMt_106 : amMthOk (4, 126, 68, 1) := ⟨amInN 844 (by decide +kernel) (by decide +kernel), amIn0 846 (by decide +kernel) (by decide +kernel), amIn0 19 (by decide +kernel) (by decide +kernel)⟩
theorem amMt_107 : amMthOk (4, 130, 43, 0) := ⟨amIn0 848 (by decide +kernel) (by decide +kernel), amIn0 850 (by decide +kernel) (by decide +kernel), amIn0 20 (by decide +kernel) (by decide +kernel)⟩
theorem amMt_108 : amMthOk (4, 137, 13, 1) := ⟨amInN 873 (by decide +kernel) (by decide +kernel), amIn0 875 (by decide +kernel) (by decide +kernel), amIn0 26 (by decide +kernel) (by decide +kernel)⟩
theorem amMt_109 : amMthOk (4, 142, 35, 0) := ⟨amIn0 878 (by decide +kernel) (by decide +kernel), amIn0 880 (by decide +kernel) (by decide +kernel), amIn0 27 (by decide +kernel) (by decide +kernel)⟩
theorem amMt_110 : amMthOk (4, 145, 36, 0) := ⟨amIn0 882 (by decide +kernel) (by decide +kernel), amIn0 884 (by decide +kernel) (by decide +kernel), amIn0 28 (by decide +kernel) (by decide +kernel)⟩
theorem amMt_111 : amMthOk (4, 148, 14, 1) := ⟨amInN 890 (by decide +kernel) (by decide +kernel), amIn0 892 (by decide +kernel) (by decide +kernel), amIn0 30 (by decide +kernel) (by decide +kernel)⟩
theorem amMt_112 : amMthOk (4, 155, 15, 1) := ⟨amInN 897 (by decide +kernel) (by decide +kernel), amIn0 899 (by decide +kernel) (by decide +kernel), amIn0 31 (by decide +kernel) (by decide +kernel)⟩
theorem amMt_113 : amMthOk (4, 158, 38, 0) := ⟨amIn0 886 (by decide +kernel) (by decide +kernel), amIn0 888 (by decide +kernel) (by decide +kernel), amIn0 29 (by decide +kernel) (by decide +kernel)⟩
theorem amMt_114 : amMthOk (4, 161, 37, 2) := ⟨amIn0 894 (by decide +kernel) (by decide +kernel), amIn0 895 (by decide +kernel) (by decide +kernel)⟩
theorem amMt_115 : amMthOk (5, 35, 52, 1) := ⟨amInN 940 (by decide +kernel) (by decide +kernel), amIn0 942 (by decide +kernel) (by decide +kernel), amIn0 39 (by decide +kernel) (by decide +kernel)⟩
theorem amMt_116 : amMthOk (5, 39, 145, 3) := ⟨amInN 949 (by decide +kernel) (by decide +kernel), amIn0 946 (by decide +kernel) (by decide +kernel)⟩
theorem amMt_117 : amMthOk (5, 53, 53, 1) := ⟨amInN 1050 (by decide +kernel) (by decide +kernel), amIn0 1052 (by decide +kernel) (by decide +kernel), amIn0 58 (by decide +kernel) (by decide +kernel)⟩
theorem amMt_118 : amMthOk (5, 57, 144, 3) := ⟨amInN 1054 (by decide +kernel) (by decide +kernel), amIn0 925 (by decide +kernel) (by decide +kernel)⟩
theorem amMt_119 : amMthOk (5, 61, 143, 3) := ⟨amInN 1102 (by decide +kernel) (by decide +kernel), amIn0 809 (by decide +kernel) (by decide +kernel)⟩
theorem amMt_120 : amMthOk (5, 65, 142, 3) := ⟨amInN 991 (by decide +kernel) (by decide +kernel), amIn0 914 (by decide +kernel) (by decide +kernel)⟩
theorem amMt_121 : amMthOk (5, 69, 84, 1) := ⟨amInN 1116 (by decide +kernel) (by decide +kernel), amIn0 1015 (by decide +kernel) (by decide +kernel), amIn0 51 (by decide +kernel) (by decide +kernel)⟩
theorem amMt_122 : amMthOk (5, 73, 61, 1) := ⟨amInN 1117 (by decide +kernel) (by decide +kernel), amIn0 1119 (by decide +kernel) (by decide +kernel), amIn0 70 (by decide +kernel) (by decide +kernel)⟩
theorem amMt_123 : amMthOk (5, 79, 1006, 9) := amIn0 1123 (by decide +kernel) (by decide +kernel)
theorem amMt_124 : amMthOk (5, 85, 83, 1) := ⟨amInN 1041 (by decide +kernel) (by decide +kernel), amIn0 998 (by decide +kernel) (by decide +kernel), amIn0 48 (by decide +kernel) (by decide +kernel)⟩
theorem amMt_125 : amMthOk (5, 89, 48, 0) := ⟨amIn0 1149 (by decide +kernel) (by decide +kernel), amIn0 1039 (by decide +kernel) (by decide +kernel), amIn0 55 (by decide +kernel) (by decide +kernel)⟩
theorem amMt_126 : amMthOk (6, 26, 144, 3) := ⟨amInN 944 (by decide +kernel) (by decide +kernel), amIn0 925 (by decide +kernel) (by decide +kernel)⟩
theorem amMt_127 : amMthOk (6, 30, 145, 3) := ⟨amInN 945 (by decide +kernel) (by decide +kernel), amIn0 946 (by decide +kernel) (by decide +kernel)⟩
theorem amMt_128 : amMthOk (6, 37, 142, 3) := ⟨amInN 948 (by decide +kernel) (by decide +kernel), amIn0 914 (by decide +kernel) (by decide +kernel)⟩
theorem amMt_129 : amMthOk (6, 41, 55, 0) := ⟨amIn0 1076 (by decide +kernel) (by decide +kernel), amIn0 976 (by decide +kernel) (by decide +kernel), amIn0 44 (by decide +kernel) (by decide +kernel)⟩
theorem amMt_130 : amMthOk (6, 45, 57, 0) := ⟨amIn0 1077 (by decide +kernel) (by decide +kernel), amIn0 980 (by decide +kernel) (by decide +kernel), amIn0 45 (by decide +kernel) (by decide +kernel)⟩
theorem amMt_131 : amMthOk (6, 49, 143, 3) := ⟨amInN 1093 (by decide +kernel) (by decide +kernel), amIn0 809 (by decide +kernel) (by decide +kernel)⟩
theorem amMt_132 : amMthOk (6, 53, 1005, 9) := amIn0 1121 (by decide +kernel) (by decide +kernel)
theorem amMt_133 : amMthOk (6, 59, 60, 0) := ⟨amIn0 1122 (by decide +kernel) (by decide +kernel), amIn0 1091 (by decide +kernel) (by decide +kernel), amIn0 66 (by decide +kernel) (by decide +kernel)⟩
theorem amMt_134 : amMthOk (7, 30, 64, 0) := ⟨amIn0 642 (by decide +kernel) (by decide +kernel), amIn0 644 (by decide +kernel) (by decide +kernel), amIn0 2 (by decide +kernel) (by decide +kernel)⟩
theorem amMt_135 : amMthOk (7, 34, 142, 3) := ⟨amInN 913 (by decide +kernel) (by decide +kernel), amIn0 914 (by decide +kernel) (by decide +kernel)⟩
theorem amMt_136 : amMthOk (7, 38, 71, 0) := ⟨amIn0 666 (by decide +kernel) (by decide +kernel), amIn0 668 (by decide +kernel) (by decide +kernel), amIn0 6 (by decide +kernel) (by decide +kernel)⟩
theorem amMt_137 : amMthOk (7, 42, 72, 0) := ⟨amIn0 677 (by decide +kernel) (by decide +kernel), amIn0 679 (by decide +kernel) (by decide +kernel), amIn0 8 (by decide +kernel) (by decide +kernel)⟩
theorem amMt_138 : amMthOk (7, 45, 73, 0) := ⟨amIn0 687 (by decide +kernel) (by decide +kernel), amIn0 689 (by decide +kernel) (by decide +kernel), amIn0 9 (by decide +kernel) (by decide +kernel)⟩
theorem amMt_139 : amMthOk (7, 49, 143, 3) := ⟨amInN 808 (by decide +kernel) (by decide +kernel), amIn0 809 (by decide +kernel) (by decide +kernel)⟩
theorem amMt_140 : amMthOk (7, 53, 76, 0) := ⟨amIn0 811 (by decide +kernel) (by decide +kernel), amIn0 813 (by decide +kernel) (by decide +kernel), amIn0 12 (by decide +kernel) (by decide +kernel)⟩
theorem amMt_141 : amMthOk (7, 57, 77, 0) := ⟨amIn0 670 (by decide +kernel) (by decide +kernel), amIn0 672 (by decide +kernel) (by decide +kernel), amIn0 7 (by decide +kernel) (by decide +kernel)⟩
theorem amMt_142 : amMthOk (7, 60, 78, 2) := ⟨amIn0 674 (by decide +kernel) (by decide +kernel), amIn0 675 (by decide +kernel) (by decide +kernel)⟩
theorem amMt_143 : amMthOk (7, 64, 79, 2) := ⟨amIn0 681 (by decide +kernel) (by decide +kernel), amIn0 682 (by decide +kernel) (by decide +kernel)⟩
theorem amMt_144 : amMthOk (7, 67, 80, 2) := ⟨amIn0 684 (by decide +kernel) (by decide +kernel), amIn0 685 (by decide +kernel) (by decide +kernel)⟩
theorem amMt_145 : amMthOk (7, 70, 74, 0) := ⟨amIn0 691 (by decide +kernel) (by decide +kernel), amIn0 693 (by decide +kernel) (by decide +kernel), amIn0 10 (by decide +kernel) (by decide +kernel)⟩
theorem amMt_146 : amMthOk (7, 75, 1011, 9) := amIn0 749 (by decide +kernel) (by decide +kernel)
theorem amMt_147 : amMthOk (7, 80, 75, 0) := ⟨amIn0 695 (by decide +kernel) (by decide +kernel), amIn0 697 (by decide +kernel) (by decide +kernel), amIn0 11 (by decide +kernel) (by decide +kernel)⟩
theorem amMt_148 : amMthOk (7, 86, 1009, 9) := amIn0 700 (by decide +kernel) (by decide +kernel)
theorem amMt_149 : amMthOk (7, 89, 1010, 9) := amIn0 710 (by decide +kernel) (by decide +kernel)
theorem amMt_150 : amMthOk (8, 47, 11, 1) := ⟨amInN 827 (by decide +kernel) (by decide +kernel), amIn0 237 (by decide +kernel) (by decide +kernel), amIn0 0 (by decide +kernel) (by decide +kernel)⟩
theorem amMt_151 : amMthOk (8, 50, 144, 3) := ⟨amInN 924 (by decide +kernel) (by decide +kernel), amIn0 925 (by decide +kernel) (by decide +kernel)⟩
theorem amMt_152 : amMthOk (8, 54, 12, 1) := ⟨amInN 931 (by decide +kernel) (by decide +kernel), amIn0 933 (by decide +kernel) (by decide +kernel), amIn0 37 (by decide +kernel) (by decide +kernel)⟩
theorem amMt_153 : amMthOk (8, 58, 142, 3) := ⟨amInN 1017 (by decide +kernel) (by decide +kernel), amIn0 914 (by decide +kernel) (by decide +kernel)⟩
theorem amMt_154 : amMthOk (9, 44, 143, 3) := ⟨amInN 1309 (by decide +kernel) (by decide +kernel), amIn0 809 (by decide +kernel) (by decide +kernel)⟩
theorem amMt_155 : amMthOk (9, 48, 94, 0) := ⟨amIn0 1322 (by decide +kernel) (by decide +kernel), amIn0 1324 (by decide +kernel) (by decide +kernel), amIn0 96 (by decide +kernel) (by decide +kernel)⟩
theorem amMt_156 : amMthOk (9, 51, 92, 0) := ⟨amIn0 1332 (by decide +kernel) (by decide +kernel), amIn0 1334 (by decide +kernel) (by decide +kernel), amIn0 98 (by decide +kernel) (by decide +kernel)⟩
theorem amMt_157 : amMthOk (9, 55, 93, 0) := ⟨amIn0 1351 (by decide +kernel) (by decide +kernel), amIn0 1353 (by decide +kernel) (by decide +kernel), amIn0 101 (by decide +kernel) (by decide +kernel)⟩
theorem amMt_158 : amMthOk (9, 59, 90, 0) := ⟨amIn0 1371 (by decide +kernel) (by decide +kernel), amIn0 1373 (by decide +kernel) (by decide +kernel), amIn0 104 (by decide +kernel) (by decide +kernel)⟩
theorem amMt_159 : amMthOk (9, 68, 142, 3) := ⟨amInN 1344 (by decide +kernel) (by decide +kernel), amIn0 914 (by decide +kernel) (by decide +kernel)⟩
theorem amMt_160 : amMthOk (9, 72, 52, 1) := ⟨amInN 1326 (by decide +kernel) (by decide +kernel), amIn0 942 (by decide +kernel) (by decide +kernel), amIn0 39 (by decide +kernel) (by decide +kernel)⟩
theorem amMt_161 : amMthOk (9, 76, 95, 0) := ⟨amIn0 1327 (by decide +kernel) (by decide +kernel), amIn0 1329 (by decide +kernel) (by decide +kernel), amIn0 97 (by decide +kernel) (by decide +kernel)⟩
theorem amMt_162 : amMthOk (9, 80, 243, 2) := ⟨amIn0 1336 (by decide +kernel) (by decide +kernel), amIn0 1337 (by decide +kernel) (by decide +kernel)⟩
theorem amMt_163 : amMthOk (9, 85, 96, 0) := ⟨amIn0 1340 (by decide +kernel) (by decide +kernel), amIn0 1342 (by decide +kernel) (by decide +kernel), amIn0 99 (by decide +kernel) (by decide +kernel)⟩
theorem amMt_164 : amMthOk (9, 88, 99, 1) := ⟨amInN 1346 (by decide +kernel) (by decide +kernel), amIn0 1057 (by decide +kernel) (by decide +kernel), amIn0 59 (by decide +kernel) (by decide +kernel)⟩
theorem amMt_165 : amMthOk (9, 96, 57, 1) := ⟨amInN 1331 (by decide +kernel) (by decide +kernel), amIn0 980 (by decide +kernel) (by decide +kernel), amIn0 45 (by decide +kernel) (by decide +kernel)⟩
theorem amMt_166 : amMthOk (9, 99, 60, 1) := ⟨amInN 1345 (by decide +kernel) (by decide +kernel), amIn0 1091 (by decide +kernel) (by decide +kernel), amIn0 66 (by decide +kernel) (by decide +kernel)⟩
theorem amMt_167 : amMthOk (10, 24, 142, 3) := ⟨amInN 1008 (by decide +kernel) (by decide +kernel), amIn0 914 (by decide +kernel) (by decide +kernel)⟩
theorem amMt_168 : amMthOk (10, 31, 98, 0) := ⟨amIn0 1009 (by decide +kernel) (by decide +kernel), amIn0 1011 (by decide +kernel) (by decide +kernel), amIn0 50 (by decide +kernel) (by decide +kernel)⟩
theorem amMt_169 : amMthOk (10, 42, 84, 1) := ⟨amInN 1013 (by decide +kernel) (by decide +kernel), amIn0 1015 (by decide +kernel) (by decide +kernel), amIn0 51 (by decide +kernel) (by decide +kernel)⟩
theorem amMt_170 : amMthOk (10, 55, 97, 0) := ⟨amIn0 1059 (by decide +kernel) (by decide +kernel), amIn0 1006 (by decide +kernel) (by decide +kernel), amIn0 49 (by decide +kernel) (by decide +kernel)⟩
theorem amMt_171 : amMthOk (10, 59, 54, 1) := ⟨amInN 1060 (by decide +kernel) (by decide +kernel), amIn0 1062 (by decide +kernel) (by decide +kernel), amIn0 60 (by decide +kernel) (by decide +kernel)⟩
theorem amMt_172 : amMthOk (10, 65, 101, 0) := ⟨amIn0 1064 (by decide +kernel) (by decide +kernel), amIn0 1066 (by decide +kernel) (by decide +kernel), amIn0 61 (by decide +kernel) (by decide +kernel)⟩
theorem amMt_173 : amMthOk (10, 69, 102, 0) := ⟨amIn0 1068 (by decide +kernel) (by decide +kernel), amIn0 1070 (by decide +kernel) (by decide +kernel), amIn0 62 (by decide +kernel) (by decide +kernel)⟩
theorem amMt_174 : amMthOk (10, 72, 56, 1) := ⟨amInN 1072 (by decide +kernel) (by decide +kernel), amIn0 1074 (by decide +kernel) (by decide +kernel), amIn0 63 (by decide +kernel) (by decide +kernel)⟩
theorem amMt_175 : amMthOk (10, 76, 55, 1) := ⟨amInN 1078 (by decide +kernel) (by decide +kernel), amIn0 976 (by decide +kernel) (by decide +kernel), amIn0 44 (by decide +kernel) (by decide +kernel)⟩
theorem amMt_176 : amMthOk (10, 79, 103, 0) := ⟨amIn0 1079 (by decide +kernel) (by decide +kernel), amIn0 1081 (by decide +kernel) (by decide +kernel), amIn0 64 (by decide +kernel) (by decide +kernel)⟩
theorem amMt_177 : amMthOk (10, 83, 1006, 9) := amIn0 1031 (by decide +kernel) (by decide +kernel)
theorem amMt_178 : amMthOk (10, 89, 1005, 9) := amIn0 1032 (by decide +kernel) (by decide +kernel)
theorem amMt_179 : amMthOk (10, 92, 105, 0) := ⟨amIn0 1083 (by decide +kernel) (by decide +kernel), amIn0 1085 (by decide +kernel) (by decide +kernel), amIn0 65 (by decide +kernel) (by decide +kernel)⟩
theorem amMt_180 : amMthOk (10, 95, 57, 1) := ⟨amInN 1087 (by decide +kernel) (by decide +kernel), amIn0 980 (by decide +kernel) (by decide +kernel), amIn0 45 (by decide +kernel) (by decide +kernel)⟩
theorem amMt_181 : amMthOk (10, 101, 106, 0) := ⟨amIn0 1088 (by decide +kernel) (by decide +kernel), amIn0 1020 (by decide +kernel) (by decide +kernel), amIn0 52 (by decide +kernel) (by decide +kernel)⟩
theorem amMt_182 : amMthOk (10, 105, 60, 1) := ⟨amInN 1089 (by decide +kernel) (by decide +kernel), amIn0 1091 (by decide +kernel) (by decide +kernel), amIn0 66 (by decide +kernel) (by decide +kernel)⟩
theorem amMt_183 : amMthOk (10, 108, 59, 1) := ⟨amInN 1094 (by decide +kernel) (by decide +kernel), amIn0 1096 (by decide +kernel) (by decide +kernel), amIn0 67 (by decide +kernel) (by decide +kernel)⟩
theorem amMt_184 : amMthOk (10, 116, 16, 1) := ⟨amInN 1022 (by decide +kernel) (by decide +kernel), amIn0 1024 (by decide +kernel) (by decide +kernel), amIn0 53 (by decide +kernel) (by decide +kernel)⟩
theorem amMt_185 : amMthOk (10, 121, 17, 1) := ⟨amInN 1026 (by decide +kernel) (by decide +kernel), amIn0 1028 (by decide +kernel) (by decide +kernel), amIn0 54 (by decide +kernel) (by decide +kernel)⟩
theorem amMt_186 : amMthOk (13, 13, 107, 0) := ⟨amIn0 634 (by decide +kernel) (by decide +kernel), amIn0 635 (by decide +kernel) (by decide +kernel), amIn0 636 (by decide +kernel) (by decide +kernel)⟩
theorem amMt_187 : amMthOk (13, 17, 147, 0) := ⟨amIn0 1626 (by decide +kernel) (by decide +kernel), amIn0 1627 (by decide +kernel) (by decide +kernel), amIn0 1628 (by decide +kernel) (by decide +kernel)⟩
theorem amMt_188 : amMthOk (13, 18, 108, 0) := ⟨amIn0 646 (by decide +kernel) (by decide +kernel), amIn0 647 (by decide +kernel) (by decide +kernel), amIn0 648 (by decide +kernel) (by decide +kernel)⟩
theorem amMt_189 : amMthOk (13, 22, 149, 0) := ⟨amIn0 1634 (by decide +kernel) (by decide +kernel), amIn0 1635 (by decide +kernel) (by decide +kernel), amIn0 1636 (by decide +kernel) (by decide +kernel)⟩
theorem amMt_190 : amMthOk (13, 23, 109, 0) := ⟨amIn0 654 (by decide +kernel) (by decide +kernel), amIn0 655 (by decide +kernel) (by decide +kernel), amIn0 656 (by decide +kernel) (by decide +kernel)⟩
theorem amMt_191 : amMthOk (13, 27, 163, 0) := ⟨amIn0 1638 (by decide +kernel) (by decide +kernel), amIn0 1639 (by decide +kernel) (by decide +kernel), amIn0 1640 (by decide +kernel) (by decide +kernel)⟩
theorem amMt_192 : amMthOk (13, 28, 110, 0) := ⟨amIn0 966 (by decide +kernel) (by decide +kernel), amIn0 967 (by decide +kernel) (by decide +kernel), amIn0 968 (by decide +kernel) (by decide +kernel)⟩
theorem amMt_193 : amMthOk (13, 31, 164, 0) := ⟨amIn0 1740 (by decide +kernel) (by decide +kernel), amIn0 1741 (by decide +kernel) (by decide +kernel), amIn0 1742 (by decide +kernel) (by decide +kernel)⟩
theorem amMt_194 : amMthOk (13, 32, 111, 0) := ⟨amIn0 970 (by decide +kernel) (by decide +kernel), amIn0 971 (by decide +kernel) (by decide +kernel), amIn0 972 (by decide +kernel) (by decide +kernel)⟩
theorem amMt_195 : amMthOk (13, 36, 196, 0) := ⟨amIn0 1744 (by decide +kernel) (by decide +kernel), amIn0 1745 (by decide +kernel) (by decide +kernel), amIn0 1746 (by decide +kernel) (by decide +kernel)⟩
theorem amMt_196 : amMthOk (13, 37, 112, 0) := ⟨amIn0 992 (by decide +kernel) (by decide +kernel), amIn0 993 (by decide +kernel) (by decide +kernel), amIn0 994 (by decide +kernel) (by decide +kernel)⟩
theorem amMt_197 : amMthOk (13, 40, 197, 0) := ⟨amIn0 1759 (by decide +kernel) (by decide +kernel), amIn0 1760 (by decide +kernel) (by decide +kernel), amIn0 1761 (by decide +kernel) (by decide +kernel)⟩
theorem amMt_198 : amMthOk (13, 41, 113, 0) := ⟨amIn0 1000 (by decide +kernel) (by decide +kernel), amIn0 1001 (by decide +kernel) (by decide +kernel), amIn0 1002 (by decide +kernel) (by decide +kernel)⟩
theorem amMt_199 : amMthOk (13, 45, 198, 0) := ⟨amIn0 1771 (by decide +kernel) (by decide +kernel), amIn0 1772 (by decide +kernel) (by decide +kernel), amIn0 1773 (by decide +kernel) (by decide +kernel)⟩
theorem amMt_200 : amMthOk (13, 46, 114, 0) := ⟨amIn0 1033 (by decide +kernel) (by decide +kernel), amIn0 1034 (by decide +kernel) (by decide +kernel), amIn0 1035 (by decide +kernel) (by decide +kernel)⟩
theorem amMt_201 : amMthOk (13, 49, 201, 0) := ⟨amIn0 1791 (by decide +kernel) (by decide +kernel), amIn0 1792 (by decide +kernel) (by decide +kernel), amIn0 1793 (by decide +kernel) (by decide +kernel)⟩
theorem amMt_202 : amMthOk (13, 50, 115, 0) := ⟨amIn0 1103 (by decide +kernel) (by decide +kernel), amIn0 1104 (by decide +kernel) (by decide +kernel), amIn0 1105 (by decide +kernel) (by decide +kernel)⟩
theorem amMt_203 : amMthOk (13, 53, 202, 0) := ⟨amIn0 1835 (by decide +kernel) (by decide +kernel), amIn0 1836 (by decide +kernel) (by decide +kernel), amIn0 1837 (by decide +kernel) (by decide +kernel)⟩
theorem amMt_204 : amMthOk (13, 54, 116, 0) := ⟨amIn0 1108 (by decide +kernel) (by decide +kernel), amIn0 1109 (by decide +kernel) (by decide +kernel), amIn0 1110 (by decide +kernel) (by decide +kernel)⟩
theorem amMt_205 : amMthOk (13, 57, 204, 0) := ⟨amIn0 1839 (by decide +kernel) (by decide +kernel), amIn0 1840 (by decide +kernel) (by decide +kernel), amIn0 1841 (by decide +kernel) (by decide +kernel)⟩
theorem amMt_206 : amMthOk (13, 58, 117, 0) := ⟨amIn0 1124 (by decide +kernel) (by decide +kernel), amIn0 1125 (by decide +kernel) (by decide +kernel), amIn0 1126 (by decide +kernel) (by decide +kernel)⟩
theorem amMt_207 : amMthOk (13, 61, 205, 0) := ⟨amIn0 1847 (by decide +kernel) (by decide +kernel), amIn0 1848 (by decide +kernel) (by decide +kernel), amIn0 1849 (by decide +kernel) (by decide +kernel)⟩
theorem amMt_208 : amMthOk (13, 62, 118, 0) := ⟨amIn0 1129 (by decide +kernel) (by decide +kernel), amIn0 1130 (by decide +kernel) (by decide +kernel), amIn0 1131 (by decide +kernel) (by decide +kernel)⟩
theorem amMt_209 : amMthOk (13, 66, 206, 0) := ⟨amIn0 1851 (by decide +kernel) (by decide +kernel), amIn0 1852 (by decide +kernel) (by decide +kernel), amIn0 1853 (by decide +kernel) (by decide +kernel)⟩
theorem amMt_210 : amMthOk (13, 67, 119, 0) := ⟨amIn0 1137 (by decide +kernel) (by decide +kernel), amIn0 1138 (by decide +kernel) (by decide +kernel), amIn0 1139 (by decide +kernel) (by decide +kernel)⟩
theorem amMt_211 : amMthOk (13, 70, 212, 0) := ⟨amIn0 1855 (by decide +kernel) (by decide +kernel), amIn0 1856 (by decide +kernel) (by decide +kernel), amIn0 1857 (by decide +kernel) (by decide +kernel)⟩
theorem amMt_212 : amMthOk (13, 71, 120, 0) := ⟨amIn0 1171 (by decide +kernel) (by decide +kernel), amIn0 1172 (by decide +kernel) (by decide +kernel), amIn0 1173 (by decide +kernel) (by decide +kernel)⟩
theorem amMt_213 : amMthOk (13, 74, 213, 0) := ⟨amIn0 1878 (by decide +kernel) (by decide +kernel), amIn0 1879 (by decide +kernel) (by decide +kernel), amIn0 1880 (by decide +kernel) (by decide +kernel)⟩
theorem amMt_214 : amMthOk (13, 75, 121, 0) := ⟨amIn0 1175 (by decide +kernel) (by decide +kernel), amIn0 1176 (by decide +kernel) (by decide +kernel), amIn0 1177 (by decide +kernel) (by decide +kernel)⟩
theorem amMt_215 : amMthOk (13, 78, 219, 0) := ⟨amIn0 1882 (by decide +kernel) (by decide +kernel), amIn0 1883 (by decide +kernel) (by decide +kernel), amIn0 1884 (by decide +kernel) (by decide +kernel)⟩
theorem amMt_216 : amMthOk (13, 79, 122, 0) := ⟨amIn0 1204 (by decide +kernel) (by decide +kernel), amIn0 1205 (by decide +kernel) (by decide +kernel), amIn0 1206 (by decide +kernel) (by decide +kernel)⟩
theorem amMt_217 : amMthOk (13, 82, 221, 0) := ⟨amIn0 1906 (by decide +kernel) (by decide +kernel), amIn0 1907 (by decide +kernel) (by decide +kernel), amIn0 1908 (by decide +kernel) (by decide +kernel)⟩
theorem amMt_218 : amMthOk (13, 83, 123, 0) := ⟨amIn0 1219 (by decide +kernel) (by decide +kernel), amIn0 1220 (by decide +kernel) (by decide +kernel), amIn0 1221 (by decide +kernel) (by decide +kernel)⟩
theorem amMt_219 : amMthOk (13, 87, 223, 0) := ⟨amIn0 1914 (by decide +kernel) (by decide +kernel), amIn0 1915 (by decide +kernel) (by decide +kernel), amIn0 1916 (by decide +kernel) (by decide +kernel)⟩
theorem amMt_220 : amMthOk (13, 88, 124, 0) := ⟨amIn0 1235 (by decide +kernel) (by decide +kernel), amIn0 1236 (by decide +kernel) (by decide +kernel), amIn0 1237 (by decide +kernel) (by decide +kernel)⟩
theorem amMt_221 : amMthOk (13, 91, 226, 0) := ⟨amIn0 1922 (by decide +kernel) (by decide +kernel), amIn0 1923 (by decide +kernel) (by decide +kernel), amIn0 1924 (by decide +kernel) (by decide +kernel)⟩
theorem amMt_222 : amMthOk (13, 92, 125, 0) := ⟨amIn0 1257 (by decide +kernel) (by decide +kernel), amIn0 1258 (by decide +kernel) (by decide +kernel), amIn0 1259 (by decide +kernel) (by decide +kernel)⟩
theorem amMt_223 : amMthOk (13, 95, 229, 0) := ⟨amIn0 1938 (by decide +kernel) (by decide +kernel), amIn0 1939 (by decide +kernel) (by decide +kernel), amIn0 1940 (by decide +kernel) (by decide +kernel)⟩
theorem amMt_224 : amMthOk (13, 96, 126, 0) := ⟨amIn0 1278 (by decide +kernel) (by decide +kernel), amIn0 1279 (by decide +kernel) (by decide +kernel), amIn0 1280 (by decide +kernel) (by decide +kernel)⟩
theorem amMt_225 : amMthOk (13, 99, 231, 0) := ⟨amIn0 1947 (by decide +kernel) (by decide +kernel), amIn0 1948 (by decide +kernel) (by decide +kernel), amIn0 1949 (by decide +kernel) (by decide +kernel)⟩
theorem amMt_226 : amMthOk (13, 100, 127, 0) := ⟨amIn0 1296 (by decide +kernel) (by decide +kernel), amIn0 1297 (by decide +kernel) (by decide +kernel), amIn0 1298 (by decide +kernel) (by decide +kernel)⟩
theorem amMt_227 : amMthOk (13, 103, 232, 0) := ⟨amIn0 1955 (by decide +kernel) (by decide +kernel), amIn0 1956 (by decide +kernel) (by decide +kernel), amIn0 1957 (by decide +kernel) (by decide +kernel)⟩
theorem amMt_228 : amMthOk (13, 104, 128, 0) := ⟨amIn0 1301 (by decide +kernel) (by decide +kernel), amIn0 1302 (by decide +kernel) (by decide +kernel), amIn0 1303 (by decide +kernel) (by decide +kernel)⟩
theorem amMt_229 : amMthOk (13, 107, 233, 0) := ⟨amIn0 1959 (by decide +kernel) (by decide +kernel), amIn0 1960 (by decide +kernel) (by decide +kernel), amIn0 1961 (by decide +kernel) (by decide +kernel)⟩
theorem amMt_230 : amMthOk (13, 108, 129, 0) := ⟨amIn0 1310 (by decide +kernel) (by decide +kernel), amIn0 1311 (by decide +kernel) (by decide +kernel), amIn0 1312 (by decide +kernel) (by decide +kernel)⟩
theorem amMt_231 : amMthOk (13, 111, 234, 0) := ⟨amIn0 1963 (by decide +kernel) (by decide +kernel), amIn0 1964 (by decide +kernel) (by decide +kernel), amIn0 1965 (by decide +kernel) (by decide +kernel)⟩
theorem amMt_232 : amMthOk (13, 112, 130, 0) := ⟨amIn0 1314 (by decide +kernel) (by decide +kernel), amIn0 1315 (by decide +kernel) (by decide +kernel), amIn0 1316 (by decide +kernel) (by decide +kernel)⟩
theorem amMt_233 : amMthOk (13, 115, 237, 0) := ⟨amIn0 1967 (by decide +kernel) (by decide +kernel), amIn0 1968 (by decide +kernel) (by decide +kernel), amIn0 1969 (by decide +kernel) (by decide +kernel)⟩
theorem amMt_234 : amMthOk (13, 116, 131, 0) := ⟨amIn0 1355 (by decide +kernel) (by decide +kernel), amIn0 1356 (by decide +kernel) (by decide +kernel), amIn0 1357 (by decide +kernel) (by decide +kernel)⟩
theorem amMt_235 : amMthOk (13, 119, 238, 0) := ⟨amIn0 1979 (by decide +kernel) (by decide +kernel), amIn0 1980 (by decide +kernel) (by decide +kernel), amIn0 1981 (by decide +kernel) (by decide +kernel)⟩
theorem amMt_236 : amMthOk (13, 120, 132, 0) := ⟨amIn0 1363 (by decide +kernel) (by decide +kernel), amIn0 1364 (by decide +kernel) (by decide +kernel), amIn0 1365 (by decide +kernel) (by decide +kernel)⟩
theorem amMt_237 : amMthOk (13, 124, 239, 0) := ⟨amIn0 1983 (by decide +kernel) (by decide +kernel), amIn0 1984 (by decide +kernel) (by decide +kernel), amIn0 1985 (by decide +kernel) (by decide +kernel)⟩
theorem amMt_238 : amMthOk (13, 125, 133, 0) := ⟨amIn0 1376 (by decide +kernel) (by decide +kernel), amIn0 1377 (by decide +kernel) (by decide +kernel), amIn0 1378 (by decide +kernel) (by decide +kernel)⟩
theorem amMt_239 : amMthOk (13, 129, 240, 0) := ⟨amIn0 1987 (by decide +kernel) (by decide +kernel), amIn0 1988 (by decide +kernel) (by decide +kernel), amIn0 1989 (by decide +kernel) (by decide +kernel)⟩
theorem amMt_240 : amMthOk (13, 130, 134, 0) := ⟨amIn0 1380 (by decide +kernel) (by decide +kernel), amIn0 1381 (by decide +kernel) (by decide +kernel), amIn0 1382 (by decide +kernel) (by decide +kernel)⟩
theorem amMt_241 : amMthOk (13, 133, 241, 0) := ⟨amIn0 1991 (by decide +kernel) (by decide +kernel), amIn0 1992 (by decide +kernel) (by decide +kernel), amIn0 1993 (by decide +kernel) (by decide +kernel)⟩
theorem amMt_242 : amMthOk (13, 134, 135, 0) := ⟨amIn0 1384 (by decide +kernel) (by decide +kernel), amIn0 1385 (by decide +kernel) (by decide +kernel), amIn0 1386 (by decide +kernel) (by decide +kernel)⟩
theorem amMt_243 : amMthOk (13, 137, 242, 0) := ⟨amIn0 1995 (by decide +kernel) (by decide +kernel), amIn0 1996 (by decide +kernel) (by decide +kernel), amIn0 1997 (by decide +kernel) (by decide +kernel)⟩
theorem amMt_244 : amMthOk (12, 146, 154, 2) := ⟨amIn0 1403 (by decide +kernel) (by decide +kernel), amIn0 1404 (by decide +kernel) (by decide +kernel)⟩
theorem amMt_245 : amMthOk (12, 153, 148, 0) := ⟨amIn0 1630 (by decide +kernel) (by decide +kernel), amIn0 1632 (by decide +kernel) (by decide +kernel), amIn0 107 (by decide +kernel) (by decide +kernel)⟩
theorem amMt_246 : amMthOk (12, 162, 153, 2) := ⟨amIn0 1406 (by decide +kernel) (by decide +kernel), amIn0 1407 (by decide +kernel) (by decide +kernel)⟩
theorem amMt_247 : amMthOk (12, 169, 150, 0) := ⟨amIn0 1646 (by decide +kernel) (by decide +kernel), amIn0 1648 (by decide +kernel) (by decide +kernel), amIn0 109 (by decide +kernel) (by decide +kernel)⟩
theorem amMt_248 : amMthOk (12, 173, 155, 0) := ⟨amIn0 1650 (by decide +kernel) (by decide +kernel), amIn0 1652 (by decide +kernel) (by decide +kernel), amIn0 110 (by decide +kernel) (by decide +kernel)⟩
theorem amMt_249 : amMthOk (12, 177, 152, 2) := ⟨amIn0 1654 (by decide +kernel) (by decide +kernel), amIn0 1655 (by decide +kernel) (by decide +kernel)⟩
theorem amMt_250 : amMthOk (12, 181, 151, 2) := ⟨amIn0 1657 (by decide +kernel) (by decide +kernel), amIn0 1658 (by decide +kernel) (by decide +kernel)⟩
theorem amMt_251 : amMthOk (12, 184, 157, 0) := ⟨amIn0 1660 (by decide +kernel) (by decide +kernel), amIn0 1662 (by decide +kernel) (by decide +kernel), amIn0 111 (by decide +kernel) (by decide +kernel)⟩
theorem amMt_252 : amMthOk (12, 203, 159, 0) := ⟨amIn0 1676 (by decide +kernel) (by decide +kernel), amIn0 1678 (by decide +kernel) (by decide +kernel), amIn0 115 (by decide +kernel) (by decide +kernel)⟩
theorem amMt_253 : amMthOk (12, 206, 158, 0) := ⟨amIn0 1664 (by decide +kernel) (by decide +kernel), amIn0 1666 (by decide +kernel) (by decide +kernel), amIn0 112 (by decide +kernel) (by decide +kernel)⟩
theorem amMt_254 : amMthOk (12, 209, 161, 0) := ⟨amIn0 1672 (by decide +kernel) (by decide +kernel), amIn0 1674 (by decide +kernel) (by decide +kernel), amIn0 114 (by decide +kernel) (by decide +kernel)⟩
theorem amMt_255 : amMthOk (12, 212, 156, 0) := ⟨amIn0 1642 (by decide +kernel) (by decide +kernel), amIn0 1644 (by decide +kernel) (by decide +kernel), amIn0 108 (by decide +kernel) (by decide +kernel)⟩
theorem amMt_256 : amMthOk (12, 233, 166, 0) := ⟨amIn0 1668 (by decide +kernel) (by decide +kernel), amIn0 1670 (by decide +kernel) (by decide +kernel), amIn0 113 (by decide +kernel) (by decide +kernel)⟩
theorem amMt_257 : amMthOk (12, 236, 185, 0) := ⟨amIn0 1736 (by decide +kernel) (by decide +kernel), amIn0 1738 (by decide +kernel) (by decide +kernel), amIn0 130 (by decide +kernel) (by decide +kernel)⟩
theorem amMt_258 : amMthOk (12, 245, 168, 0) := ⟨amIn0 1680 (by decide +kernel) (by decide +kernel), amIn0 1682 (by decide +kernel) (by decide +kernel), amIn0 116 (by decide +kernel) (by decide +kernel)⟩
theorem amMt_259 : amMthOk (12, 248, 169, 0) := ⟨amIn0 1696 (by decide +kernel) (by decide +kernel), amIn0 1698 (by decide +kernel) (by decide +kernel), amIn0 120 (by decide +kernel) (by decide +kernel)⟩
theorem amMt_260 : amMthOk (12, 251, 167, 0) := ⟨amIn0 1684 (by decide +kernel) (by decide +kernel), amIn0 1686 (by decide +kernel) (by decide +kernel), amIn0 117 (by decide +kernel) (by decide +kernel)⟩
theorem amMt_261 : amMthOk (12, 255, 162, 0) := ⟨amIn0 1692 (by decide +kernel) (by decide +kernel), amIn0 1694 (by decide +kernel) (by decide +kernel), amIn0 119 (by decide +kernel) (by decide +kernel)⟩
theorem amMt_262 : amMthOk (12, 258, 165, 0) := ⟨amIn0 1700 (by decide +kernel) (by decide +kernel), amIn0 1702 (by decide +kernel) (by decide +kernel), amIn0 121 (by decide +kernel) (by decide +kernel)⟩
theorem amMt_263 : amMthOk (12, 262, 171, 0) := ⟨amIn0 1704 (by decide +kernel) (by decide +kernel), amIn0 1706 (by decide +kernel) (by decide +kernel), amIn0 122 (by decide +kernel) (by decide +kernel)⟩
theorem amMt_264 : amMthOk (12, 265, 172, 0) := ⟨amIn0 1712 (by decide +kernel) (by decide +kernel), amIn0 1714 (by decide +kernel) (by decide +kernel), amIn0 124 (by decide +kernel) (by decide +kernel)⟩
theorem amMt_265 : amMthOk (12, 268, 160, 0) := ⟨amIn0 1688 (by decide +kernel) (by decide +kernel), amIn0 1690 (by decide +kernel) (by decide +kernel), amIn0 118 (by decide +kernel) (by decide +kernel)⟩
theorem amMt_266 : amMthOk (12, 271, 170, 0) := ⟨amIn0 1708 (by decide +kernel) (by decide +kernel), amIn0 1710 (by decide +kernel) (by decide +kernel), amIn0 123 (by decide +kernel) (by decide +kernel)⟩
theorem amMt_267 : amMthOk (12, 275, 176, 0) := ⟨amIn0 1716 (by decide +kernel) (by decide +kernel), amIn0 1718 (by decide +kernel) (by decide +kernel), amIn0 125 (by decide +kernel) (by decide +kernel)⟩
theorem amMt_268 : amMthOk (12, 278, 173, 0) := ⟨amIn0 1732 (by decide +kernel) (by decide +kernel), amIn0 1734 (by decide +kernel) (by decide +kernel), amIn0 129 (by decide +kernel) (by decide +kernel)⟩
theorem amMt_269 : amMthOk (12, 284, 174, 0) := ⟨amIn0 1724 (by decide +kernel) (by decide +kernel), amIn0 1726 (by decide +kernel) (by decide +kernel), amIn0 127 (by decide +kernel) (by decide +kernel)⟩
theorem amMt_270 : amMthOk (12, 287, 177, 0) := ⟨amIn0 1720 (by decide +kernel) (by decide +kernel), amIn0 1722 (by decide +kernel) (by decide +kernel), amIn0 126 (by decide +kernel) (by decide +kernel)⟩
theorem amMt_271 : amMthOk (12, 290, 175, 0) := ⟨amIn0 1728 (by decide +kernel) (by decide +kernel), amIn0 1730 (by decide +kernel) (by decide +kernel), amIn0 128 (by decide +kernel) (by decide +kernel)⟩
theorem amMt_272 : amMthOk (12, 298, 179, 2) := ⟨amIn0 1752 (by decide +kernel) (by decide +kernel), amIn0 1753 (by decide +kernel) (by decide +kernel)⟩
theorem amMt_273 : amMthOk (12, 302, 181, 0) := ⟨amIn0 1755 (by decide +kernel) (by decide +kernel), amIn0 1757 (by decide +kernel) (by decide +kernel), amIn0 132 (by decide +kernel) (by decide +kernel)⟩
theorem amMt_274 : amMthOk (12, 305, 178, 0) := ⟨amIn0 1787 (by decide +kernel) (by decide +kernel), amIn0 1789 (by decide +kernel) (by decide +kernel), amIn0 138 (by decide +kernel) (by decide +kernel)⟩
theorem amMt_275 : amMthOk (12, 308, 187, 0) := ⟨amIn0 1779 (by decide +kernel) (by decide +kernel), amIn0 1781 (by decide +kernel) (by decide +kernel), amIn0 136 (by decide +kernel) (by decide +kernel)⟩
theorem amMt_276 : amMthOk (12, 311, 188, 0) := ⟨amIn0 1783 (by decide +kernel) (by decide +kernel), amIn0 1785 (by decide +kernel) (by decide +kernel), amIn0 137 (by decide +kernel) (by decide +kernel)⟩
theorem amMt_277 : amMthOk (12, 321, 180, 0) := ⟨amIn0 1807 (by decide +kernel) (by decide +kernel), amIn0 1809 (by decide +kernel) (by decide +kernel), amIn0 142 (by decide +kernel) (by decide +kernel)⟩
theorem amMt_278 : amMthOk (12, 324, 190, 0) := ⟨amIn0 1815 (by decide +kernel) (by decide +kernel), amIn0 1817 (by decide +kernel) (by decide +kernel), amIn0 144 (by decide +kernel) (by decide +kernel)⟩
theorem amMt_279 : amMthOk (12, 327, 184, 0) := ⟨amIn0 1767 (by decide +kernel) (by decide +kernel), amIn0 1769 (by decide +kernel) (by decide +kernel), amIn0 134 (by decide +kernel) (by decide +kernel)⟩
theorem amMt_280 : amMthOk (12, 330, 192, 0) := ⟨amIn0 1823 (by decide +kernel) (by decide +kernel), amIn0 1825 (by decide +kernel) (by decide +kernel), amIn0 146 (by decide +kernel) (by decide +kernel)⟩
theorem amMt_281 : amMthOk (12, 334, 189, 0) := ⟨amIn0 1827 (by decide +kernel) (by decide +kernel), amIn0 1829 (by decide +kernel) (by decide +kernel), amIn0 147 (by decide +kernel) (by decide +kernel)⟩
theorem amMt_282 : amMthOk (12, 341, 191, 0) := ⟨amIn0 1811 (by decide +kernel) (by decide +kernel), amIn0 1813 (by decide +kernel) (by decide +kernel), amIn0 143 (by decide +kernel) (by decide +kernel)⟩
theorem amMt_283 : amMthOk (12, 344, 193, 0) := ⟨amIn0 1819 (by decide +kernel) (by decide +kernel), amIn0 1821 (by decide +kernel) (by decide +kernel), amIn0 145 (by decide +kernel) (by decide +kernel)⟩
theorem amMt_284 : amMthOk (12, 347, 194, 0) := ⟨amIn0 1803 (by decide +kernel) (by decide +kernel), amIn0 1805 (by decide +kernel) (by decide +kernel), amIn0 141 (by decide +kernel) (by decide +kernel)⟩
theorem amMt_285 : amMthOk (12, 350, 182, 0) := ⟨amIn0 1748 (by decide +kernel) (by decide +kernel), amIn0 1750 (by decide +kernel) (by decide +kernel), amIn0 131 (by decide +kernel) (by decide +kernel)⟩
theorem amMt_286 : amMthOk (12, 353, 183, 0) := ⟨amIn0 1763 (by decide +kernel) (by decide +kernel), amIn0 1765 (by decide +kernel) (by decide +kernel), amIn0 133 (by decide +kernel) (by decide +kernel)⟩
theorem amMt_287 : amMthOk (12, 356, 186, 0) := ⟨amIn0 1775 (by decide +kernel) (by decide +kernel), amIn0 1777 (by decide +kernel) (by decide +kernel), amIn0 135 (by decide +kernel) (by decide +kernel)⟩
theorem amMt_288 : amMthOk (12, 359, 200, 0) := ⟨amIn0 1795 (by decide +kernel) (by decide +kernel), amIn0 1797 (by decide +kernel) (by decide +kernel), amIn0 139 (by decide +kernel) (by decide +kernel)⟩
theorem amMt_289 : amMthOk (12, 362, 195, 0) := ⟨amIn0 1799 (by decide +kernel) (by decide +kernel), amIn0 1801 (by decide +kernel) (by decide +kernel), amIn0 140 (by decide +kernel) (by decide +kernel)⟩
theorem amMt_290 : amMthOk (12, 365, 199, 0) := ⟨amIn0 1831 (by decide +kernel) (by decide +kernel), amIn0 1833 (by decide +kernel) (by decide +kernel), amIn0 148 (by decide +kernel) (by decide +kernel)⟩
theorem amMt_291 : amMthOk (12, 368, 203, 0) := ⟨amIn0 1843 (by decide +kernel) (by decide +kernel), amIn0 1845 (by decide +kernel) (by decide +kernel), amIn0 149 (by decide +kernel) (by decide +kernel)⟩
theorem amMt_292 : amMthOk (12, 374, 209, 0) := ⟨amIn0 1870 (by decide +kernel) (by decide +kernel), amIn0 1872 (by decide +kernel) (by decide +kernel), amIn0 152 (by decide +kernel) (by decide +kernel)⟩
theorem amMt_293 : amMthOk (12, 383, 210, 0) := ⟨amIn0 1874 (by decide +kernel) (by decide +kernel), amIn0 1876 (by decide +kernel) (by decide +kernel), amIn0 153 (by decide +kernel) (by decide +kernel)⟩
theorem amMt_294 : amMthOk (12, 387, 208, 0) := ⟨amIn0 1859 (by decide +kernel) (by decide +kernel), amIn0 1861 (by decide +kernel) (by decide +kernel), amIn0 150 (by decide +kernel) (by decide +kernel)⟩
theorem amMt_295 : amMthOk (12, 390, 207, 2) := ⟨amIn0 1863 (by decide +kernel) (by decide +kernel), amIn0 1864 (by decide +kernel) (by decide +kernel)⟩
theorem amMt_296 : amMthOk (12, 393, 211, 0) := ⟨amIn0 1866 (by decide +kernel) (by decide +kernel), amIn0 1868 (by decide +kernel) (by decide +kernel), amIn0 151 (by decide +kernel) (by decide +kernel)⟩
theorem amMt_297 : amMthOk (12, 396, 215, 0) := ⟨amIn0 1894 (by decide +kernel) (by decide +kernel), amIn0 1896 (by decide +kernel) (by decide +kernel), amIn0 156 (by decide +kernel) (by decide +kernel)⟩
theorem amMt_298 : amMthOk (12, 400, 214, 0) := ⟨amIn0 1902 (by decide +kernel) (by decide +kernel), amIn0 1904 (by decide +kernel) (by decide +kernel), amIn0 158 (by decide +kernel) (by decide +kernel)⟩
theorem amMt_299 : amMthOk (12, 404, 216, 0) := ⟨amIn0 1890 (by decide +kernel) (by decide +kernel), amIn0 1892 (by decide +kernel) (by decide +kernel), amIn0 155 (by decide +kernel) (by decide +kernel)⟩
theorem amMt_300 : amMthOk (12, 408, 217, 0) := ⟨amIn0 1898 (by decide +kernel) (by decide +kernel), amIn0 1900 (by decide +kernel) (by decide +kernel), amIn0 157 (by decide +kernel) (by decide +kernel)⟩
theorem amMt_301 : amMthOk (12, 412, 218, 0) := ⟨amIn0 1886 (by decide +kernel) (by decide +kernel), amIn0 1888 (by decide +kernel) (by decide +kernel), amIn0 154 (by decide +kernel) (by decide +kernel)⟩
theorem amMt_302 : amMthOk (12, 415, 220, 0) := ⟨amIn0 1910 (by decide +kernel) (by decide +kernel), amIn0 1912 (by decide +kernel) (by decide +kernel), amIn0 159 (by decide +kernel) (by decide +kernel)⟩
theorem amMt_303 : amMthOk (12, 420, 222, 2) := ⟨amIn0 1919 (by decide +kernel) (by decide +kernel), amIn0 1920 (by decide +kernel) (by decide +kernel)⟩
theorem amMt_304 : amMthOk (12, 433, 225, 0) := ⟨amIn0 1926 (by decide +kernel) (by decide +kernel), amIn0 1928 (by decide +kernel) (by decide +kernel), amIn0 160 (by decide +kernel) (by decide +kernel)⟩
theorem amMt_305 : amMthOk (12, 436, 224, 0) := ⟨amIn0 1930 (by decide +kernel) (by decide +kernel), amIn0 1932 (by decide +kernel) (by decide +kernel), amIn0 161 (by decide +kernel) (by decide +kernel)⟩
theorem amMt_306 : amMthOk (12, 439, 227, 0) := ⟨amIn0 1934 (by decide +kernel) (by decide +kernel), amIn0 1936 (by decide +kernel) (by decide +kernel), amIn0 162 (by decide +kernel) (by decide +kernel)⟩
theorem amMt_307 : amMthOk (12, 443, 228, 0) := ⟨amIn0 1942 (by decide +kernel) (by decide +kernel), amIn0 1944 (by decide +kernel) (by decide +kernel), amIn0 163 (by decide +kernel) (by decide +kernel)⟩
theorem amMt_308 : amMthOk (12, 446, 230, 0) := ⟨amIn0 1951 (by decide +kernel) (by decide +kernel), amIn0 1953 (by decide +kernel) (by decide +kernel), amIn0 164 (by decide +kernel) (by decide +kernel)⟩
theorem amMt_309 : amMthOk (12, 452, 235, 0) := ⟨amIn0 1975 (by decide +kernel) (by decide +kernel), amIn0 1977 (by decide +kernel) (by decide +kernel), amIn0 166 (by decide +kernel) (by decide +kernel)⟩
theorem amMt_310 : amMthOk (12, 455, 236, 0) := ⟨amIn0 1971 (by decide +kernel) (by decide +kernel), amIn0 1973 (by decide +kernel) (by decide +kernel), amIn0 165 (by decide +kernel) (by decide +kernel)⟩
def amMthT_0 : List (Nat × Nat × Nat × Nat) := [(11, 102, 63, 1), (11, 106, 65, 1), (11, 110, 28, 1), (11, 114, 66, 1), (11, 117, 29, 1), (11, 119, 136, 0), (11, 125, 55, 1), (11, 129, 57, 1), (11, 136, 142, 2), (11, 140, 58, 1), (11, 143, 50, 1), (11, 146, 83, 1), (11, 170, 97, 1), (11, 177, 106, 1), (11, 181, 48, 1), (11, 184, 137, 0), (11, 187, 99, 1), (11, 196, 46, 1), (11, 200, 139, 0), (11, 203, 53, 1), (11, 207, 47, 1), (11, 213, 60, 1), (11, 222, 138, 0), (11, 226, 140, 0), (11, 229, 244, 2), (11, 234, 26, 1), (11, 247, 18, 1), (11, 251, 19, 1), (11, 255, 1, 1), (11, 261, 3, 1), (11, 265, 6, 1), (11, 279, 22, 1), (11, 282, 9, 1), (11, 288, 1005, 9), (11, 294, 1006, 9), (11, 297, 86, 1), (11, 302, 87, 1), (11, 305, 88, 1), (11, 308, 89, 1), (11, 311, 91, 1)]
theorem amMth_0 : ∀ t ∈ amMthT_0, amMthOk t := List.forall_mem_cons.mpr ⟨amMt_0, List.forall_mem_cons.mpr ⟨amMt_1, List.forall_mem_cons.mpr ⟨amMt_2, List.forall_mem_cons.mpr ⟨amMt_3, List.forall_mem_cons.mpr ⟨amMt_4, List.forall_mem_cons.mpr ⟨amMt_5, List.forall_mem_cons.mpr ⟨amMt_6, List.forall_mem_cons.mpr ⟨amMt_7, List.forall_mem_cons.mpr ⟨amMt_8, List.forall_mem_cons.mpr ⟨amMt_9, List.forall_mem_cons.mpr ⟨amMt_10, List.forall_mem_cons.mpr ⟨amMt_11, List.forall_mem_cons.mpr ⟨amMt_12, List.forall_mem_cons.mpr ⟨amMt_13, List.forall_mem_cons.mpr ⟨amMt_14, List.forall_mem_cons.mpr ⟨amMt_15, List.forall_mem_cons.mpr ⟨amMt_16, List.forall_mem_cons.mpr ⟨amMt_17, List.forall_mem_cons.mpr ⟨amMt_18, List.forall_mem_cons.mpr ⟨amMt_19, List.forall_mem_cons.mpr ⟨amMt_20, List.forall_mem_cons.mpr ⟨amMt_21, List.forall_mem_cons.mpr ⟨amMt_22, List.forall_mem_cons.mpr ⟨amMt_23, List.forall_mem_cons.mpr ⟨amMt_24, List.forall_mem_cons.mpr ⟨amMt_25, List.forall_mem_cons.mpr ⟨amMt_26, List.forall_mem_cons.mpr ⟨amMt_27, List.forall_mem_cons.mpr ⟨amMt_28, List.forall_mem_cons.mpr ⟨amMt_29, List.forall_mem_cons.mpr ⟨amMt_30, List.forall_mem_cons.mpr ⟨amMt_31, List.forall_mem_cons.mpr ⟨amMt_32, List.forall_mem_cons.mpr ⟨amMt_33, List.forall_mem_cons.mpr ⟨amMt_34, List.forall_mem_cons.mpr ⟨amMt_35, List.forall_mem_cons.mpr ⟨amMt_36, List.forall_mem_cons.mpr ⟨amMt_37, List.forall_mem_cons.mpr ⟨amMt_38, List.forall_mem_cons.mpr ⟨amMt_39, fun _ h => absurd h List.not_mem_nil⟩⟩⟩⟩⟩⟩⟩⟩⟩⟩⟩⟩⟩⟩⟩⟩⟩⟩⟩⟩⟩⟩⟩⟩⟩⟩⟩⟩⟩⟩⟩⟩⟩⟩⟩⟩⟩⟩⟩⟩
def amMthT_1 : List (Nat × Nat × Nat × Nat) := [(11, 314, 90, 1), (11, 317, 45, 1), (11, 326, 51, 1), (11, 332, 141, 0), (11, 335, 62, 1), (11, 341, 82, 1), (11, 343, 44, 1), (11, 346, 85, 1), (11, 347, 25, 1), (11, 350, 0, 1), (11, 351, 49, 1), (11, 354, 1007, 9), (0, 33, 53, 1), (0, 40, 2, 0), (0, 44, 146, 3), (0, 47, 99, 1), (0, 53, 4, 2), (0, 57, 5, 2), (0, 60, 61, 1), (0, 73, 51, 1), (0, 80, 49, 1), (0, 83, 7, 0), (0, 87, 84, 1), (0, 92, 8, 0), (0, 102, 244, 2), (0, 107, 10, 0), (0, 115, 142, 3), (0, 119, 100, 1), (1, 23, 11, 0), (1, 30, 144, 3), (1, 34, 143, 3), (1, 38, 1005, 9), (2, 29, 19, 0), (2, 39, 57, 1), (2, 48, 142, 3), (2, 52, 20, 0), (2, 59, 146, 3), (2, 66, 97, 1), (2, 72, 21, 0), (2, 79, 104, 1)]
theorem amMth_1 : ∀ t ∈ amMthT_1, amMthOk t := List.forall_mem_cons.mpr ⟨amMt_40, List.forall_mem_cons.mpr ⟨amMt_41, List.forall_mem_cons.mpr ⟨amMt_42, List.forall_mem_cons.mpr ⟨amMt_43, List.forall_mem_cons.mpr ⟨amMt_44, List.forall_mem_cons.mpr ⟨amMt_45, List.forall_mem_cons.mpr ⟨amMt_46, List.forall_mem_cons.mpr ⟨amMt_47, List.forall_mem_cons.mpr ⟨amMt_48, List.forall_mem_cons.mpr ⟨amMt_49, List.forall_mem_cons.mpr ⟨amMt_50, List.forall_mem_cons.mpr ⟨amMt_51, List.forall_mem_cons.mpr ⟨amMt_52, List.forall_mem_cons.mpr ⟨amMt_53, List.forall_mem_cons.mpr ⟨amMt_54, List.forall_mem_cons.mpr ⟨amMt_55, List.forall_mem_cons.mpr ⟨amMt_56, List.forall_mem_cons.mpr ⟨amMt_57, List.forall_mem_cons.mpr ⟨amMt_58, List.forall_mem_cons.mpr ⟨amMt_59, List.forall_mem_cons.mpr ⟨amMt_60, List.forall_mem_cons.mpr ⟨amMt_61, List.forall_mem_cons.mpr ⟨amMt_62, List.forall_mem_cons.mpr ⟨amMt_63, List.forall_mem_cons.mpr ⟨amMt_64, List.forall_mem_cons.mpr ⟨amMt_65, List.forall_mem_cons.mpr ⟨amMt_66, List.forall_mem_cons.mpr ⟨amMt_67, List.forall_mem_cons.mpr ⟨amMt_68, List.forall_mem_cons.mpr ⟨amMt_69, List.forall_mem_cons.mpr ⟨amMt_70, List.forall_mem_cons.mpr ⟨amMt_71, List.forall_mem_cons.mpr ⟨amMt_72, List.forall_mem_cons.mpr ⟨amMt_73, List.forall_mem_cons.mpr ⟨amMt_74, List.forall_mem_cons.mpr ⟨amMt_75, List.forall_mem_cons.mpr ⟨amMt_76, List.forall_mem_cons.mpr ⟨amMt_77, List.forall_mem_cons.mpr ⟨amMt_78, List.forall_mem_cons.mpr ⟨amMt_79, fun _ h => absurd h List.not_mem_nil⟩⟩⟩⟩⟩⟩⟩⟩⟩⟩⟩⟩⟩⟩⟩⟩⟩⟩⟩⟩⟩⟩⟩⟩⟩⟩⟩⟩⟩⟩⟩⟩⟩⟩⟩⟩⟩⟩⟩⟩
def amMthT_2 : List (Nat × Nat × Nat × Nat) := [(2, 89, 143, 3), (2, 93, 23, 0), (2, 98, 24, 0), (2, 101, 1005, 9), (2, 107, 56, 1), (2, 111, 1006, 9), (3, 33, 244, 2), (3, 58, 53, 1), (3, 62, 27, 0), (3, 66, 144, 3), (3, 70, 146, 3), (3, 74, 99, 1), (4, 26, 70, 1), (4, 35, 67, 1), (4, 51, 81, 1), (4, 58, 30, 0), (4, 71, 31, 0), (4, 74, 32, 0), (4, 77, 34, 0), (4, 80, 42, 0), (4, 84, 39, 0), (4, 93, 69, 1), (4, 96, 40, 0), (4, 100, 143, 3), (4, 113, 33, 0), (4, 122, 41, 0), (4, 126, 68, 1), (4, 130, 43, 0), (4, 137, 13, 1), (4, 142, 35, 0), (4, 145, 36, 0), (4, 148, 14, 1), (4, 155, 15, 1), (4, 158, 38, 0), (4, 161, 37, 2), (5, 35, 52, 1), (5, 39, 145, 3), (5, 53, 53, 1), (5, 57, 144, 3), (5, 61, 143, 3)]
theorem amMth_2 : ∀ t ∈ amMthT_2, amMthOk t := List.forall_mem_cons.mpr ⟨amMt_80, List.forall_mem_cons.mpr ⟨amMt_81, List.forall_mem_cons.mpr ⟨amMt_82, List.forall_mem_cons.mpr ⟨amMt_83, List.forall_mem_cons.mpr ⟨amMt_84, List.forall_mem_cons.mpr ⟨amMt_85, List.forall_mem_cons.mpr ⟨amMt_86, List.forall_mem_cons.mpr ⟨amMt_87, List.forall_mem_cons.mpr ⟨amMt_88, List.forall_mem_cons.mpr ⟨amMt_89, List.forall_mem_cons.mpr ⟨amMt_90, List.forall_mem_cons.mpr ⟨amMt_91, List.forall_mem_cons.mpr ⟨amMt_92, List.forall_mem_cons.mpr ⟨amMt_93, List.forall_mem_cons.mpr ⟨amMt_94, List.forall_mem_cons.mpr ⟨amMt_95, List.forall_mem_cons.mpr ⟨amMt_96, List.forall_mem_cons.mpr ⟨amMt_97, List.forall_mem_cons.mpr ⟨amMt_98, List.forall_mem_cons.mpr ⟨amMt_99, List.forall_mem_cons.mpr ⟨amMt_100, List.forall_mem_cons.mpr ⟨amMt_101, List.forall_mem_cons.mpr ⟨amMt_102, List.forall_mem_cons.mpr ⟨amMt_103, List.forall_mem_cons.mpr ⟨amMt_104, List.forall_mem_cons.mpr ⟨amMt_105, List.forall_mem_cons.mpr ⟨amMt_106, List.forall_mem_cons.mpr ⟨amMt_107, List.forall_mem_cons.mpr ⟨amMt_108, List.forall_mem_cons.mpr ⟨amMt_109, List.forall_mem_cons.mpr ⟨amMt_110, List.forall_mem_cons.mpr ⟨amMt_111, List.forall_mem_cons.mpr ⟨amMt_112, List.forall_mem_cons.mpr ⟨amMt_113, List.forall_mem_cons.mpr ⟨amMt_114, List.forall_mem_cons.mpr ⟨amMt_115, List.forall_mem_cons.mpr ⟨amMt_116, List.forall_mem_cons.mpr ⟨amMt_117, List.forall_mem_cons.mpr ⟨amMt_118, List.forall_mem_cons.mpr ⟨amMt_119, fun _ h => absurd h List.not_mem_nil⟩⟩⟩⟩⟩⟩⟩⟩⟩⟩⟩⟩⟩⟩⟩⟩⟩⟩⟩⟩⟩⟩⟩⟩⟩⟩⟩⟩⟩⟩⟩⟩⟩⟩⟩⟩⟩⟩⟩⟩
def amMthT_3 : List (Nat × Nat × Nat × Nat) := [(5, 65, 142, 3), (5, 69, 84, 1), (5, 73, 61, 1), (5, 79, 1006, 9), (5, 85, 83, 1), (5, 89, 48, 0), (6, 26, 144, 3), (6, 30, 145, 3), (6, 37, 142, 3), (6, 41, 55, 0), (6, 45, 57, 0), (6, 49, 143, 3), (6, 53, 1005, 9), (6, 59, 60, 0), (7, 30, 64, 0), (7, 34, 142, 3), (7, 38, 71, 0), (7, 42, 72, 0), (7, 45, 73, 0), (7, 49, 143, 3), (7, 53, 76, 0), (7, 57, 77, 0), (7, 60, 78, 2), (7, 64, 79, 2), (7, 67, 80, 2), (7, 70, 74, 0), (7, 75, 1011, 9), (7, 80, 75, 0), (7, 86, 1009, 9), (7, 89, 1010, 9), (8, 47, 11, 1), (8, 50, 144, 3), (8, 54, 12, 1), (8, 58, 142, 3), (9, 44, 143, 3), (9, 48, 94, 0), (9, 51, 92, 0), (9, 55, 93, 0), (9, 59, 90, 0), (9, 68, 142, 3)]
theorem amMth_3 : ∀ t ∈ amMthT_3, amMthOk t := List.forall_mem_cons.mpr ⟨amMt_120, List.forall_mem_cons.mpr ⟨amMt_121, List.forall_mem_cons.mpr ⟨amMt_122, List.forall_mem_cons.mpr ⟨amMt_123, List.forall_mem_cons.mpr ⟨amMt_124, List.forall_mem_cons.mpr ⟨amMt_125, List.forall_mem_cons.mpr ⟨amMt_126, List.forall_mem_cons.mpr ⟨amMt_127, List.forall_mem_cons.mpr ⟨amMt_128, List.forall_mem_cons.mpr ⟨amMt_129, List.forall_mem_cons.mpr ⟨amMt_130, List.forall_mem_cons.mpr ⟨amMt_131, List.forall_mem_cons.mpr ⟨amMt_132, List.forall_mem_cons.mpr ⟨amMt_133, List.forall_mem_cons.mpr ⟨amMt_134, List.forall_mem_cons.mpr ⟨amMt_135, List.forall_mem_cons.mpr ⟨amMt_136, List.forall_mem_cons.mpr ⟨amMt_137, List.forall_mem_cons.mpr ⟨amMt_138, List.forall_mem_cons.mpr ⟨amMt_139, List.forall_mem_cons.mpr ⟨amMt_140, List.forall_mem_cons.mpr ⟨amMt_141, List.forall_mem_cons.mpr ⟨amMt_142, List.forall_mem_cons.mpr ⟨amMt_143, List.forall_mem_cons.mpr ⟨amMt_144, List.forall_mem_cons.mpr ⟨amMt_145, List.forall_mem_cons.mpr ⟨amMt_146, List.forall_mem_cons.mpr ⟨amMt_147, List.forall_mem_cons.mpr ⟨amMt_148, List.forall_mem_cons.mpr ⟨amMt_149, List.forall_mem_cons.mpr ⟨amMt_150, List.forall_mem_cons.mpr ⟨amMt_151, List.forall_mem_cons.mpr ⟨amMt_152, List.forall_mem_cons.mpr ⟨amMt_153, List.forall_mem_cons.mpr ⟨amMt_154, List.forall_mem_cons.mpr ⟨amMt_155, List.forall_mem_cons.mpr ⟨amMt_156, List.forall_mem_cons.mpr ⟨amMt_157, List.forall_mem_cons.mpr ⟨amMt_158, List.forall_mem_cons.mpr ⟨amMt_159, fun _ h => absurd h List.not_mem_nil⟩⟩⟩⟩⟩⟩⟩⟩⟩⟩⟩⟩⟩⟩⟩⟩⟩⟩⟩⟩⟩⟩⟩⟩⟩⟩⟩⟩⟩⟩⟩⟩⟩⟩⟩⟩⟩⟩⟩⟩
def amMthT_4 : List (Nat × Nat × Nat × Nat) := [(9, 72, 52, 1), (9, 76, 95, 0), (9, 80, 243, 2), (9, 85, 96, 0), (9, 88, 99, 1), (9, 96, 57, 1), (9, 99, 60, 1), (10, 24, 142, 3), (10, 31, 98, 0), (10, 42, 84, 1), (10, 55, 97, 0), (10, 59, 54, 1), (10, 65, 101, 0), (10, 69, 102, 0), (10, 72, 56, 1), (10, 76, 55, 1), (10, 79, 103, 0), (10, 83, 1006, 9), (10, 89, 1005, 9), (10, 92, 105, 0), (10, 95, 57, 1), (10, 101, 106, 0), (10, 105, 60, 1), (10, 108, 59, 1), (10, 116, 16, 1), (10, 121, 17, 1), (13, 13, 107, 0), (13, 17, 147, 0), (13, 18, 108, 0), (13, 22, 149, 0), (13, 23, 109, 0), (13, 27, 163, 0), (13, 28, 110, 0), (13, 31, 164, 0), (13, 32, 111, 0), (13, 36, 196, 0), (13, 37, 112, 0), (13, 40, 197, 0), (13, 41, 113, 0), (13, 45, 198, 0)]
theorem amMth_4 : ∀ t ∈ amMthT_4, amMthOk t := List.forall_mem_cons.mpr ⟨amMt_160, List.forall_mem_cons.mpr ⟨amMt_161, List.forall_mem_cons.mpr ⟨amMt_162, List.forall_mem_cons.mpr ⟨amMt_163, List.forall_mem_cons.mpr ⟨amMt_164, List.forall_mem_cons.mpr ⟨amMt_165, List.forall_mem_cons.mpr ⟨amMt_166, List.forall_mem_cons.mpr ⟨amMt_167, List.forall_mem_cons.mpr ⟨amMt_168, List.forall_mem_cons.mpr ⟨amMt_169, List.forall_mem_cons.mpr ⟨amMt_170, List.forall_mem_cons.mpr ⟨amMt_171, List.forall_mem_cons.mpr ⟨amMt_172, List.forall_mem_cons.mpr ⟨amMt_173, List.forall_mem_cons.mpr ⟨amMt_174, List.forall_mem_cons.mpr ⟨amMt_175, List.forall_mem_cons.mpr ⟨amMt_176, List.forall_mem_cons.mpr ⟨amMt_177, List.forall_mem_cons.mpr ⟨amMt_178, List.forall_mem_cons.mpr ⟨amMt_179, List.forall_mem_cons.mpr ⟨amMt_180, List.forall_mem_cons.mpr ⟨amMt_181, List.forall_mem_cons.mpr ⟨amMt_182, List.forall_mem_cons.mpr ⟨amMt_183, List.forall_mem_cons.mpr ⟨amMt_184, List.forall_mem_cons.mpr ⟨amMt_185, List.forall_mem_cons.mpr ⟨amMt_186, List.forall_mem_cons.mpr ⟨amMt_187, List.forall_mem_cons.mpr ⟨amMt_188, List.forall_mem_cons.mpr ⟨amMt_189, List.forall_mem_cons.mpr ⟨amMt_190, List.forall_mem_cons.mpr ⟨amMt_191, List.forall_mem_cons.mpr ⟨amMt_192, List.forall_mem_cons.mpr ⟨amMt_193, List.forall_mem_cons.mpr ⟨amMt_194, List.forall_mem_cons.mpr ⟨amMt_195, List.forall_mem_cons.mpr ⟨amMt_196, List.forall_mem_cons.mpr ⟨amMt_197, List.forall_mem_cons.mpr ⟨amMt_198, List.forall_mem_cons.mpr ⟨amMt_199, fun _ h => absurd h List.not_mem_nil⟩⟩⟩⟩⟩⟩⟩⟩⟩⟩⟩⟩⟩⟩⟩⟩⟩⟩⟩⟩⟩⟩⟩⟩⟩⟩⟩⟩⟩⟩⟩⟩⟩⟩⟩⟩⟩⟩⟩⟩
def amMthT_5 : List (Nat × Nat × Nat × Nat) := [(13, 46, 114, 0), (13, 49, 201, 0), (13, 50, 115, 0), (13, 53, 202, 0), (13, 54, 116, 0), (13, 57, 204, 0), (13, 58, 117, 0), (13, 61, 205, 0), (13, 62, 118, 0), (13, 66, 206, 0), (13, 67, 119, 0), (13, 70, 212, 0), (13, 71, 120, 0), (13, 74, 213, 0), (13, 75, 121, 0), (13, 78, 219, 0), (13, 79, 122, 0), (13, 82, 221, 0), (13, 83, 123, 0), (13, 87, 223, 0), (13, 88, 124, 0), (13, 91, 226, 0), (13, 92, 125, 0), (13, 95, 229, 0), (13, 96, 126, 0), (13, 99, 231, 0), (13, 100, 127, 0), (13, 103, 232, 0), (13, 104, 128, 0), (13, 107, 233, 0), (13, 108, 129, 0), (13, 111, 234, 0), (13, 112, 130, 0), (13, 115, 237, 0), (13, 116, 131, 0), (13, 119, 238, 0), (13, 120, 132, 0), (13, 124, 239, 0), (13, 125, 133, 0), (13, 129, 240, 0)]
theorem amMth_5 : ∀ t ∈ amMthT_5, amMthOk t := List.forall_mem_cons.mpr ⟨amMt_200, List.forall_mem_cons.mpr ⟨amMt_201, List.forall_mem_cons.mpr ⟨amMt_202, List.forall_mem_cons.mpr ⟨amMt_203, List.forall_mem_cons.mpr ⟨amMt_204, List.forall_mem_cons.mpr ⟨amMt_205, List.forall_mem_cons.mpr ⟨amMt_206, List.forall_mem_cons.mpr ⟨amMt_207, List.forall_mem_cons.mpr ⟨amMt_208, List.forall_mem_cons.mpr ⟨amMt_209, List.forall_mem_cons.mpr ⟨amMt_210, List.forall_mem_cons.mpr ⟨amMt_211, List.forall_mem_cons.mpr ⟨amMt_212, List.forall_mem_cons.mpr ⟨amMt_213, List.forall_mem_cons.mpr ⟨amMt_214, List.forall_mem_cons.mpr ⟨amMt_215, List.forall_mem_cons.mpr ⟨amMt_216, List.forall_mem_cons.mpr ⟨amMt_217, List.forall_mem_cons.mpr ⟨amMt_218, List.forall_mem_cons.mpr ⟨amMt_219, List.forall_mem_cons.mpr ⟨amMt_220, List.forall_mem_cons.mpr ⟨amMt_221, List.forall_mem_cons.mpr ⟨amMt_222, List.forall_mem_cons.mpr ⟨amMt_223, List.forall_mem_cons.mpr ⟨amMt_224, List.forall_mem_cons.mpr ⟨amMt_225, List.forall_mem_cons.mpr ⟨amMt_226, List.forall_mem_cons.mpr ⟨amMt_227, List.forall_mem_cons.mpr ⟨amMt_228, List.forall_mem_cons.mpr ⟨amMt_229, List.forall_mem_cons.mpr ⟨amMt_230, List.forall_mem_cons.mpr ⟨amMt_231, List.forall_mem_cons.mpr ⟨amMt_232, List.forall_mem_cons.mpr ⟨amMt_233, List.forall_mem_cons.mpr ⟨amMt_234, List.forall_mem_cons.mpr ⟨amMt_235, List.forall_mem_cons.mpr ⟨amMt_236, List.forall_mem_cons.mpr ⟨amMt_237, List.forall_mem_cons.mpr ⟨amMt_238, List.forall_mem_cons.mpr ⟨amMt_239, fun _ h => absurd h List.not_mem_nil⟩⟩⟩⟩⟩⟩⟩⟩⟩⟩⟩⟩⟩⟩⟩⟩⟩⟩⟩⟩⟩⟩⟩⟩⟩⟩⟩⟩⟩⟩⟩⟩⟩⟩⟩⟩⟩⟩⟩⟩
def amMthT_6 : List (Nat × Nat × Nat × Nat) := [(13, 130, 134, 0), (13, 133, 241, 0), (13, 134, 135, 0), (13, 137, 242, 0), (12, 146, 154, 2), (12, 153, 148, 0), (12, 162, 153, 2), (12, 169, 150, 0), (12, 173, 155, 0), (12, 177, 152, 2), (12, 181, 151, 2), (12, 184, 157, 0), (12, 203, 159, 0), (12, 206, 158, 0), (12, 209, 161, 0), (12, 212, 156, 0), (12, 233, 166, 0), (12, 236, 185, 0), (12, 245, 168, 0), (12, 248, 169, 0), (12, 251, 167, 0), (12, 255, 162, 0), (12, 258, 165, 0), (12, 262, 171, 0), (12, 265, 172, 0), (12, 268, 160, 0), (12, 271, 170, 0), (12, 275, 176, 0), (12, 278, 173, 0), (12, 284, 174, 0), (12, 287, 177, 0), (12, 290, 175, 0), (12, 298, 179, 2), (12, 302, 181, 0), (12, 305, 178, 0), (12, 308, 187, 0), (12, 311, 188, 0), (12, 321, 180, 0), (12, 324, 190, 0), (12, 327, 184, 0)]
theorem amMth_6 : ∀ t ∈ amMthT_6, amMthOk t := List.forall_mem_cons.mpr ⟨amMt_240, List.forall_mem_cons.mpr ⟨amMt_241, List.forall_mem_cons.mpr ⟨amMt_242, List.forall_mem_cons.mpr ⟨amMt_243, List.forall_mem_cons.mpr ⟨amMt_244, List.forall_mem_cons.mpr ⟨amMt_245, List.forall_mem_cons.mpr ⟨amMt_246, List.forall_mem_cons.mpr ⟨amMt_247, List.forall_mem_cons.mpr ⟨amMt_248, List.forall_mem_cons.mpr ⟨amMt_249, List.forall_mem_cons.mpr ⟨amMt_250, List.forall_mem_cons.mpr ⟨amMt_251, List.forall_mem_cons.mpr ⟨amMt_252, List.forall_mem_cons.mpr ⟨amMt_253, List.forall_mem_cons.mpr ⟨amMt_254, List.forall_mem_cons.mpr ⟨amMt_255, List.forall_mem_cons.mpr ⟨amMt_256, List.forall_mem_cons.mpr ⟨amMt_257, List.forall_mem_cons.mpr ⟨amMt_258, List.forall_mem_cons.mpr ⟨amMt_259, List.forall_mem_cons.mpr ⟨amMt_260, List.forall_mem_cons.mpr ⟨amMt_261, List.forall_mem_cons.mpr ⟨amMt_262, List.forall_mem_cons.mpr ⟨amMt_263, List.forall_mem_cons.mpr ⟨amMt_264, List.forall_mem_cons.mpr ⟨amMt_265, List.forall_mem_cons.mpr ⟨amMt_266, List.forall_mem_cons.mpr ⟨amMt_267, List.forall_mem_cons.mpr ⟨amMt_268, List.forall_mem_cons.mpr ⟨amMt_269, List.forall_mem_cons.mpr ⟨amMt_270, List.forall_mem_cons.mpr ⟨amMt_271, List.forall_mem_cons.mpr ⟨amMt_272, List.forall_mem_cons.mpr ⟨amMt_273, List.forall_mem_cons.mpr ⟨amMt_274, List.forall_mem_cons.mpr ⟨amMt_275, List.forall_mem_cons.mpr ⟨amMt_276, List.forall_mem_cons.mpr ⟨amMt_277, List.forall_mem_cons.mpr ⟨amMt_278, List.forall_mem_cons.mpr ⟨amMt_279, fun _ h => absurd h List.not_mem_nil⟩⟩⟩⟩⟩⟩⟩⟩⟩⟩⟩⟩⟩⟩⟩⟩⟩⟩⟩⟩⟩⟩⟩⟩⟩⟩⟩⟩⟩⟩⟩⟩⟩⟩⟩⟩⟩⟩⟩⟩
def amMthT_7 : List (Nat × Nat × Nat × Nat) := [(12, 330, 192, 0), (12, 334, 189, 0), (12, 341, 191, 0), (12, 344, 193, 0), (12, 347, 194, 0), (12, 350, 182, 0), (12, 353, 183, 0), (12, 356, 186, 0), (12, 359, 200, 0), (12, 362, 195, 0), (12, 365, 199, 0), (12, 368, 203, 0), (12, 374, 209, 0), (12, 383, 210, 0), (12, 387, 208, 0), (12, 390, 207, 2), (12, 393, 211, 0), (12, 396, 215, 0), (12, 400, 214, 0), (12, 404, 216, 0), (12, 408, 217, 0), (12, 412, 218, 0), (12, 415, 220, 0), (12, 420, 222, 2), (12, 433, 225, 0), (12, 436, 224, 0), (12, 439, 227, 0), (12, 443, 228, 0), (12, 446, 230, 0), (12, 452, 235, 0), (12, 455, 236, 0)]
theorem amMth_7 : ∀ t ∈ amMthT_7, amMthOk t := List.forall_mem_cons.mpr ⟨amMt_280, List.forall_mem_cons.mpr ⟨amMt_281, List.forall_mem_cons.mpr ⟨amMt_282, List.forall_mem_cons.mpr ⟨amMt_283, List.forall_mem_cons.mpr ⟨amMt_284, List.forall_mem_cons.mpr ⟨amMt_285, List.forall_mem_cons.mpr ⟨amMt_286, List.forall_mem_cons.mpr ⟨amMt_287, List.forall_mem_cons.mpr ⟨amMt_288, List.forall_mem_cons.mpr ⟨amMt_289, List.forall_mem_cons.mpr ⟨amMt_290, List.forall_mem_cons.mpr ⟨amMt_291, List.forall_mem_cons.mpr ⟨amMt_292, List.forall_mem_cons.mpr ⟨amMt_293, List.forall_mem_cons.mpr ⟨amMt_294, List.forall_mem_cons.mpr ⟨amMt_295, List.forall_mem_cons.mpr ⟨amMt_296, List.forall_mem_cons.mpr ⟨amMt_297, List.forall_mem_cons.mpr ⟨amMt_298, List.forall_mem_cons.mpr ⟨amMt_299, List.forall_mem_cons.mpr ⟨amMt_300, List.forall_mem_cons.mpr ⟨amMt_301, List.forall_mem_cons.mpr ⟨amMt_302, List.forall_mem_cons.mpr ⟨amMt_303, List.forall_mem_cons.mpr ⟨amMt_304, List.forall_mem_cons.mpr ⟨amMt_305, List.forall_mem_cons.mpr ⟨amMt_306, List.forall_mem_cons.mpr ⟨amMt_307, List.forall_mem_cons.mpr ⟨amMt_308, List.forall_mem_cons.mpr ⟨amMt_309, List.forall_mem_cons.mpr ⟨amMt_310, fun _ h => absurd h List.not_mem_nil⟩⟩⟩⟩⟩⟩⟩⟩⟩⟩⟩⟩⟩⟩⟩⟩⟩⟩⟩⟩⟩⟩⟩⟩⟩⟩⟩⟩⟩⟩⟩
def amMthT : List (Nat × Nat × Nat × Nat) := amMthT_0 ++ (amMthT_1 ++ (amMthT_2 ++ (amMthT_3 ++ (amMthT_4 ++ (amMthT_5 ++ (amMthT_6 ++ (amMthT_7)))))))
theorem amMth_ok : ∀ t ∈ amMthT, amMthOk t := by
  intro t h
  unfold amMthT at h
  simp only [List.mem_append] at h
  rcases h with h | h | h | h | h | h | h | h
  · exact amMth_0 t h
  · exact amMth_1 t h
  · exact amMth_2 t h
  · exact amMth_3 t h
  · exact amMth_4 t h
  · exact amMth_5 t h
  · exact amMth_6 t h
  · exact amMth_7 t h
def amFldT_0 : List (Nat × Nat × Nat × Nat) := [(11, 12, 11, 0), (11, 19, 11, 1), (11, 28, 11, 2), (11, 37, 11, 3), (11, 44, 11, 4), (11, 48, 11, 5), (11, 52, 11, 6), (11, 55, 11, 7), (11, 62, 11, 8), (11, 71, 11, 9), (11, 80, 11, 10), (11, 87, 11, 11), (11, 94, 11, 12), (11, 98, 11, 15), (11, 122, 5, 1), (11, 132, 8, 0), (11, 149, 5, 2), (11, 152, 8, 2), (11, 155, 8, 3), (11, 158, 5, 3), (11, 161, 5, 4), (11, 164, 5, 5), (11, 167, 5, 7), (11, 174, 6, 3), (11, 191, 10, 4), (11, 194, 10, 5), (11, 210, 5, 6), (11, 216, 11, 13), (11, 219, 11, 14), (11, 238, 3, 7), (11, 241, 3, 8), (11, 244, 3, 3), (11, 268, 0, 4), (11, 271, 0, 5), (11, 274, 0, 6), (11, 277, 0, 7), (11, 285, 8, 9), (11, 299, 9, 5), (11, 320, 8, 5), (11, 323, 8, 6)]
theorem amFld_0 : ∀ t ∈ amFldT_0, amFldOk t := List.forall_mem_cons.mpr ⟨amFd_0, List.forall_mem_cons.mpr ⟨amFd_1, List.forall_mem_cons.mpr ⟨amFd_2, List.forall_mem_cons.mpr ⟨amFd_3, List.forall_mem_cons.mpr ⟨amFd_4, List.forall_mem_cons.mpr ⟨amFd_5, List.forall_mem_cons.mpr ⟨amFd_6, List.forall_mem_cons.mpr ⟨amFd_7, List.forall_mem_cons.mpr ⟨amFd_8, List.forall_mem_cons.mpr ⟨amFd_9, List.forall_mem_cons.mpr ⟨amFd_10, List.forall_mem_cons.mpr ⟨amFd_11, List.forall_mem_cons.mpr ⟨amFd_12, List.forall_mem_cons.mpr ⟨amFd_13, List.forall_mem_cons.mpr ⟨amFd_14, List.forall_mem_cons.mpr ⟨amFd_15, List.forall_mem_cons.mpr ⟨amFd_16, List.forall_mem_cons.mpr ⟨amFd_17, List.forall_mem_cons.mpr ⟨amFd_18, List.forall_mem_cons.mpr ⟨amFd_19, List.forall_mem_cons.mpr ⟨amFd_20, List.forall_mem_cons.mpr ⟨amFd_21, List.forall_mem_cons.mpr ⟨amFd_22, List.forall_mem_cons.mpr ⟨amFd_23, List.forall_mem_cons.mpr ⟨amFd_24, List.forall_mem_cons.mpr ⟨amFd_25, List.forall_mem_cons.mpr ⟨amFd_26, List.forall_mem_cons.mpr ⟨amFd_27, List.forall_mem_cons.mpr ⟨amFd_28, List.forall_mem_cons.mpr ⟨amFd_29, List.forall_mem_cons.mpr ⟨amFd_30, List.forall_mem_cons.mpr ⟨amFd_31, List.forall_mem_cons.mpr ⟨amFd_32, List.forall_mem_cons.mpr ⟨amFd_33, List.forall_mem_cons.mpr ⟨amFd_34, List.forall_mem_cons.mpr ⟨amFd_35, List.forall_mem_cons.mpr ⟨amFd_36, List.forall_mem_cons.mpr ⟨amFd_37, List.forall_mem_cons.mpr ⟨amFd_38, List.forall_mem_cons.mpr ⟨amFd_39, fun _ h => absurd h List.not_mem_nil⟩⟩⟩⟩⟩⟩⟩⟩⟩⟩⟩⟩⟩⟩⟩⟩⟩⟩⟩⟩⟩⟩⟩⟩⟩⟩⟩⟩⟩⟩⟩⟩⟩⟩⟩⟩⟩⟩⟩⟩
def amFldT_1 : List (Nat × Nat × Nat × Nat) := [(11, 329, 7, 1), (11, 338, 4, 1), (0, 12, 0, 2), (0, 18, 0, 3), (0, 22, 0, 0), (0, 26, 0, 1), (0, 30, 5, 1), (0, 37, 5, 7), (0, 64, 0, 4), (0, 67, 0, 5), (0, 70, 0, 6), (0, 77, 0, 7), (0, 96, 10, 6), (0, 99, 10, 4), (0, 111, 8, 2), (1, 11, 1, 0), (1, 17, 1, 2), (1, 20, 1, 3), (1, 26, 1, 1), (2, 9, 2, 2), (2, 15, 2, 0), (2, 19, 2, 1), (2, 23, 8, 5), (2, 33, 5, 1), (2, 45, 8, 0), (2, 56, 8, 9), (2, 63, 5, 7), (2, 76, 6, 3), (2, 83, 10, 3), (2, 86, 5, 2), (3, 11, 3, 1), (3, 17, 3, 2), (3, 21, 3, 3), (3, 24, 3, 4), (3, 28, 3, 0), (3, 39, 3, 5), (3, 42, 5, 7), (3, 47, 3, 6), (3, 48, 3, 7), (3, 51, 3, 8)]
theorem amFld_1 : ∀ t ∈ amFldT_1, amFldOk t := List.forall_mem_cons.mpr ⟨amFd_40, List.forall_mem_cons.mpr ⟨amFd_41, List.forall_mem_cons.mpr ⟨amFd_42, List.forall_mem_cons.mpr ⟨amFd_43, List.forall_mem_cons.mpr ⟨amFd_44, List.forall_mem_cons.mpr ⟨amFd_45, List.forall_mem_cons.mpr ⟨amFd_46, List.forall_mem_cons.mpr ⟨amFd_47, List.forall_mem_cons.mpr ⟨amFd_48, List.forall_mem_cons.mpr ⟨amFd_49, List.forall_mem_cons.mpr ⟨amFd_50, List.forall_mem_cons.mpr ⟨amFd_51, List.forall_mem_cons.mpr ⟨amFd_52, List.forall_mem_cons.mpr ⟨amFd_53, List.forall_mem_cons.mpr ⟨amFd_54, List.forall_mem_cons.mpr ⟨amFd_55, List.forall_mem_cons.mpr ⟨amFd_56, List.forall_mem_cons.mpr ⟨amFd_57, List.forall_mem_cons.mpr ⟨amFd_58, List.forall_mem_cons.mpr ⟨amFd_59, List.forall_mem_cons.mpr ⟨amFd_60, List.forall_mem_cons.mpr ⟨amFd_61, List.forall_mem_cons.mpr ⟨amFd_62, List.forall_mem_cons.mpr ⟨amFd_63, List.forall_mem_cons.mpr ⟨amFd_64, List.forall_mem_cons.mpr ⟨amFd_65, List.forall_mem_cons.mpr ⟨amFd_66, List.forall_mem_cons.mpr ⟨amFd_67, List.forall_mem_cons.mpr ⟨amFd_68, List.forall_mem_cons.mpr ⟨amFd_69, List.forall_mem_cons.mpr ⟨amFd_70, List.forall_mem_cons.mpr ⟨amFd_71, List.forall_mem_cons.mpr ⟨amFd_72, List.forall_mem_cons.mpr ⟨amFd_73, List.forall_mem_cons.mpr ⟨amFd_74, List.forall_mem_cons.mpr ⟨amFd_75, List.forall_mem_cons.mpr ⟨amFd_76, List.forall_mem_cons.mpr ⟨amFd_77, List.forall_mem_cons.mpr ⟨amFd_78, List.forall_mem_cons.mpr ⟨amFd_79, fun _ h => absurd h List.not_mem_nil⟩⟩⟩⟩⟩⟩⟩⟩⟩⟩⟩⟩⟩⟩⟩⟩⟩⟩⟩⟩⟩⟩⟩⟩⟩⟩⟩⟩⟩⟩⟩⟩⟩⟩⟩⟩⟩⟩⟩⟩
def amFldT_2 : List (Nat × Nat × Nat × Nat) := [(3, 54, 5, 1), (4, 12, 4, 1), (4, 18, 4, 2), (4, 22, 4, 0), (4, 31, 4, 3), (4, 39, 4, 4), (4, 42, 4, 5), (4, 45, 4, 6), (4, 48, 4, 8), (4, 54, 8, 0), (4, 62, 8, 5), (4, 65, 8, 1), (4, 68, 8, 6), (4, 87, 4, 7), (4, 90, 4, 9), (4, 104, 8, 7), (4, 107, 8, 8), (4, 110, 8, 9), (4, 116, 8, 2), (4, 119, 8, 3), (4, 133, 8, 4), (4, 152, 1, 1), (5, 12, 5, 1), (5, 18, 5, 2), (5, 22, 5, 3), (5, 25, 5, 4), (5, 28, 5, 5), (5, 31, 5, 0), (5, 43, 8, 7), (5, 49, 5, 6), (5, 50, 5, 7), (5, 76, 8, 8), (5, 92, 8, 9), (6, 9, 6, 0), (6, 15, 6, 1), (6, 18, 8, 5), (6, 24, 6, 2), (6, 25, 8, 0), (6, 34, 6, 3), (7, 11, 7, 0)]
theorem amFld_2 : ∀ t ∈ amFldT_2, amFldOk t := List.forall_mem_cons.mpr ⟨amFd_80, List.forall_mem_cons.mpr ⟨amFd_81, List.forall_mem_cons.mpr ⟨amFd_82, List.forall_mem_cons.mpr ⟨amFd_83, List.forall_mem_cons.mpr ⟨amFd_84, List.forall_mem_cons.mpr ⟨amFd_85, List.forall_mem_cons.mpr ⟨amFd_86, List.forall_mem_cons.mpr ⟨amFd_87, List.forall_mem_cons.mpr ⟨amFd_88, List.forall_mem_cons.mpr ⟨amFd_89, List.forall_mem_cons.mpr ⟨amFd_90, List.forall_mem_cons.mpr ⟨amFd_91, List.forall_mem_cons.mpr ⟨amFd_92, List.forall_mem_cons.mpr ⟨amFd_93, List.forall_mem_cons.mpr ⟨amFd_94, List.forall_mem_cons.mpr ⟨amFd_95, List.forall_mem_cons.mpr ⟨amFd_96, List.forall_mem_cons.mpr ⟨amFd_97, List.forall_mem_cons.mpr ⟨amFd_98, List.forall_mem_cons.mpr ⟨amFd_99, List.forall_mem_cons.mpr ⟨amFd_100, List.forall_mem_cons.mpr ⟨amFd_101, List.forall_mem_cons.mpr ⟨amFd_102, List.forall_mem_cons.mpr ⟨amFd_103, List.forall_mem_cons.mpr ⟨amFd_104, List.forall_mem_cons.mpr ⟨amFd_105, List.forall_mem_cons.mpr ⟨amFd_106, List.forall_mem_cons.mpr ⟨amFd_107, List.forall_mem_cons.mpr ⟨amFd_108, List.forall_mem_cons.mpr ⟨amFd_109, List.forall_mem_cons.mpr ⟨amFd_110, List.forall_mem_cons.mpr ⟨amFd_111, List.forall_mem_cons.mpr ⟨amFd_112, List.forall_mem_cons.mpr ⟨amFd_113, List.forall_mem_cons.mpr ⟨amFd_114, List.forall_mem_cons.mpr ⟨amFd_115, List.forall_mem_cons.mpr ⟨amFd_116, List.forall_mem_cons.mpr ⟨amFd_117, List.forall_mem_cons.mpr ⟨amFd_118, List.forall_mem_cons.mpr ⟨amFd_119, fun _ h => absurd h List.not_mem_nil⟩⟩⟩⟩⟩⟩⟩⟩⟩⟩⟩⟩⟩⟩⟩⟩⟩⟩⟩⟩⟩⟩⟩⟩⟩⟩⟩⟩⟩⟩⟩⟩⟩⟩⟩⟩⟩⟩⟩⟩
def amFldT_3 : List (Nat × Nat × Nat × Nat) := [(7, 15, 7, 2), (7, 19, 7, 3), (7, 23, 7, 4), (7, 26, 7, 1), (8, 9, 8, 0), (8, 15, 8, 1), (8, 18, 8, 2), (8, 21, 8, 3), (8, 27, 8, 4), (8, 31, 8, 5), (8, 35, 8, 6), (8, 38, 8, 7), (8, 41, 8, 8), (8, 44, 8, 9), (9, 12, 9, 2), (9, 18, 9, 3), (9, 22, 9, 4), (9, 25, 9, 6), (9, 28, 9, 0), (9, 32, 9, 1), (9, 36, 9, 5), (9, 40, 9, 7), (9, 63, 8, 9), (9, 94, 8, 5), (10, 9, 10, 1), (10, 15, 10, 0), (10, 19, 8, 2), (10, 28, 8, 3), (10, 35, 10, 2), (10, 39, 10, 3), (10, 46, 10, 4), (10, 49, 10, 5), (10, 52, 10, 6), (10, 98, 6, 3), (10, 112, 8, 4), (12, 13, 12, 1), (12, 17, 12, 3), (12, 20, 12, 5), (12, 24, 12, 6), (12, 27, 12, 7)]
theorem amFld_3 : ∀ t ∈ amFldT_3, amFldOk t := List.forall_mem_cons.mpr ⟨amFd_120, List.forall_mem_cons.mpr ⟨amFd_121, List.forall_mem_cons.mpr ⟨amFd_122, List.forall_mem_cons.mpr ⟨amFd_123, List.forall_mem_cons.mpr ⟨amFd_124, List.forall_mem_cons.mpr ⟨amFd_125, List.forall_mem_cons.mpr ⟨amFd_126, List.forall_mem_cons.mpr ⟨amFd_127, List.forall_mem_cons.mpr ⟨amFd_128, List.forall_mem_cons.mpr ⟨amFd_129, List.forall_mem_cons.mpr ⟨amFd_130, List.forall_mem_cons.mpr ⟨amFd_131, List.forall_mem_cons.mpr ⟨amFd_132, List.forall_mem_cons.mpr ⟨amFd_133, List.forall_mem_cons.mpr ⟨amFd_134, List.forall_mem_cons.mpr ⟨amFd_135, List.forall_mem_cons.mpr ⟨amFd_136, List.forall_mem_cons.mpr ⟨amFd_137, List.forall_mem_cons.mpr ⟨amFd_138, List.forall_mem_cons.mpr ⟨amFd_139, List.forall_mem_cons.mpr ⟨amFd_140, List.forall_mem_cons.mpr ⟨amFd_141, List.forall_mem_cons.mpr ⟨amFd_142, List.forall_mem_cons.mpr ⟨amFd_143, List.forall_mem_cons.mpr ⟨amFd_144, List.forall_mem_cons.mpr ⟨amFd_145, List.forall_mem_cons.mpr ⟨amFd_146, List.forall_mem_cons.mpr ⟨amFd_147, List.forall_mem_cons.mpr ⟨amFd_148, List.forall_mem_cons.mpr ⟨amFd_149, List.forall_mem_cons.mpr ⟨amFd_150, List.forall_mem_cons.mpr ⟨amFd_151, List.forall_mem_cons.mpr ⟨amFd_152, List.forall_mem_cons.mpr ⟨amFd_153, List.forall_mem_cons.mpr ⟨amFd_154, List.forall_mem_cons.mpr ⟨amFd_155, List.forall_mem_cons.mpr ⟨amFd_156, List.forall_mem_cons.mpr ⟨amFd_157, List.forall_mem_cons.mpr ⟨amFd_158, List.forall_mem_cons.mpr ⟨amFd_159, fun _ h => absurd h List.not_mem_nil⟩⟩⟩⟩⟩⟩⟩⟩⟩⟩⟩⟩⟩⟩⟩⟩⟩⟩⟩⟩⟩⟩⟩⟩⟩⟩⟩⟩⟩⟩⟩⟩⟩⟩⟩⟩⟩⟩⟩⟩
def amFldT_4 : List (Nat × Nat × Nat × Nat) := [(12, 30, 12, 8), (12, 34, 12, 9), (12, 37, 12, 17), (12, 40, 12, 21), (12, 43, 12, 22), (12, 46, 12, 23), (12, 49, 12, 24), (12, 52, 12, 25), (12, 55, 12, 26), (12, 58, 12, 27), (12, 61, 12, 28), (12, 64, 12, 29), (12, 67, 12, 30), (12, 70, 12, 31), (12, 73, 12, 32), (12, 76, 12, 33), (12, 79, 12, 35), (12, 83, 12, 36), (12, 86, 12, 37), (12, 89, 12, 38), (12, 92, 12, 39), (12, 95, 12, 41), (12, 98, 12, 42), (12, 101, 12, 43), (12, 104, 12, 45), (12, 107, 12, 46), (12, 110, 12, 48), (12, 113, 12, 49), (12, 116, 12, 54), (12, 119, 12, 56), (12, 122, 12, 57), (12, 125, 12, 63), (12, 128, 12, 64), (12, 131, 12, 66), (12, 134, 12, 67), (12, 137, 12, 68), (12, 140, 12, 70), (12, 143, 12, 71), (12, 150, 12, 2), (12, 157, 12, 4)]
theorem amFld_4 : ∀ t ∈ amFldT_4, amFldOk t := List.forall_mem_cons.mpr ⟨amFd_160, List.forall_mem_cons.mpr ⟨amFd_161, List.forall_mem_cons.mpr ⟨amFd_162, List.forall_mem_cons.mpr ⟨amFd_163, List.forall_mem_cons.mpr ⟨amFd_164, List.forall_mem_cons.mpr ⟨amFd_165, List.forall_mem_cons.mpr ⟨amFd_166, List.forall_mem_cons.mpr ⟨amFd_167, List.forall_mem_cons.mpr ⟨amFd_168, List.forall_mem_cons.mpr ⟨amFd_169, List.forall_mem_cons.mpr ⟨amFd_170, List.forall_mem_cons.mpr ⟨amFd_171, List.forall_mem_cons.mpr ⟨amFd_172, List.forall_mem_cons.mpr ⟨amFd_173, List.forall_mem_cons.mpr ⟨amFd_174, List.forall_mem_cons.mpr ⟨amFd_175, List.forall_mem_cons.mpr ⟨amFd_176, List.forall_mem_cons.mpr ⟨amFd_177, List.forall_mem_cons.mpr ⟨amFd_178, List.forall_mem_cons.mpr ⟨amFd_179, List.forall_mem_cons.mpr ⟨amFd_180, List.forall_mem_cons.mpr ⟨amFd_181, List.forall_mem_cons.mpr ⟨amFd_182, List.forall_mem_cons.mpr ⟨amFd_183, List.forall_mem_cons.mpr ⟨amFd_184, List.forall_mem_cons.mpr ⟨amFd_185, List.forall_mem_cons.mpr ⟨amFd_186, List.forall_mem_cons.mpr ⟨amFd_187, List.forall_mem_cons.mpr ⟨amFd_188, List.forall_mem_cons.mpr ⟨amFd_189, List.forall_mem_cons.mpr ⟨amFd_190, List.forall_mem_cons.mpr ⟨amFd_191, List.forall_mem_cons.mpr ⟨amFd_192, List.forall_mem_cons.mpr ⟨amFd_193, List.forall_mem_cons.mpr ⟨amFd_194, List.forall_mem_cons.mpr ⟨amFd_195, List.forall_mem_cons.mpr ⟨amFd_196, List.forall_mem_cons.mpr ⟨amFd_197, List.forall_mem_cons.mpr ⟨amFd_198, List.forall_mem_cons.mpr ⟨amFd_199, fun _ h => absurd h List.not_mem_nil⟩⟩⟩⟩⟩⟩⟩⟩⟩⟩⟩⟩⟩⟩⟩⟩⟩⟩⟩⟩⟩⟩⟩⟩⟩⟩⟩⟩⟩⟩⟩⟩⟩⟩⟩⟩⟩⟩⟩⟩
def amFldT_5 : List (Nat × Nat × Nat × Nat) := [(12, 166, 12, 10), (12, 188, 12, 13), (12, 191, 12, 11), (12, 194, 12, 14), (12, 197, 12, 15), (12, 200, 12, 16), (12, 215, 12, 12), (12, 218, 12, 18), (12, 221, 12, 19), (12, 224, 12, 20), (12, 227, 12, 34), (12, 230, 12, 40), (12, 239, 12, 53), (12, 242, 12, 65), (12, 281, 12, 44), (12, 294, 12, 47), (12, 315, 12, 50), (12, 318, 12, 51), (12, 338, 12, 52), (12, 371, 12, 55), (12, 377, 12, 58), (12, 380, 12, 59), (12, 424, 12, 60), (12, 427, 12, 61), (12, 430, 12, 62), (12, 449, 12, 69)]
theorem amFld_5 : ∀ t ∈ amFldT_5, amFldOk t := List.forall_mem_cons.mpr ⟨amFd_200, List.forall_mem_cons.mpr ⟨amFd_201, List.forall_mem_cons.mpr ⟨amFd_202, List.forall_mem_cons.mpr ⟨amFd_203, List.forall_mem_cons.mpr ⟨amFd_204, List.forall_mem_cons.mpr ⟨amFd_205, List.forall_mem_cons.mpr ⟨amFd_206, List.forall_mem_cons.mpr ⟨amFd_207, List.forall_mem_cons.mpr ⟨amFd_208, List.forall_mem_cons.mpr ⟨amFd_209, List.forall_mem_cons.mpr ⟨amFd_210, List.forall_mem_cons.mpr ⟨amFd_211, List.forall_mem_cons.mpr ⟨amFd_212, List.forall_mem_cons.mpr ⟨amFd_213, List.forall_mem_cons.mpr ⟨amFd_214, List.forall_mem_cons.mpr ⟨amFd_215, List.forall_mem_cons.mpr ⟨amFd_216, List.forall_mem_cons.mpr ⟨amFd_217, List.forall_mem_cons.mpr ⟨amFd_218, List.forall_mem_cons.mpr ⟨amFd_219, List.forall_mem_cons.mpr ⟨amFd_220, List.forall_mem_cons.mpr ⟨amFd_221, List.forall_mem_cons.mpr ⟨amFd_222, List.forall_mem_cons.mpr ⟨amFd_223, List.forall_mem_cons.mpr ⟨amFd_224, List.forall_mem_cons.mpr ⟨amFd_225, fun _ h => absurd h List.not_mem_nil⟩⟩⟩⟩⟩⟩⟩⟩⟩⟩⟩⟩⟩⟩⟩⟩⟩⟩⟩⟩⟩⟩⟩⟩⟩⟩
def amFldT : List (Nat × Nat × Nat × Nat) := amFldT_0 ++ (amFldT_1 ++ (amFldT_2 ++ (amFldT_3 ++ (amFldT_4 ++ (amFldT_5)))))
theorem amFld_ok : ∀ t ∈ amFldT, amFldOk t := by
  intro t h
  unfold amFldT at h
  simp only [List.mem_append] at h
  rcases h with h | h | h | h | h | h
  · exact amFld_0 t h
  · exact amFld_1 t h
  · exact amFld_2 t h
  · exact amFld_3 t h
  · exact amFld_4 t h
  · exact amFld_5 t h
end
section
section AmS9
variable {p : Program} {l : Launch} {e : Env} {R : Room} {s : State} {m : MethodId} {args : Array Value} {below : List Frame} {meth : Method} {c : Code} {cells slots : Nat} {Q : State → Prop}
variable {cc : ByteArray} {Z : AmZ} {nL : Nat} {lg : List Nat} {L st : List AmV} {M : AmM} {ls : Array Slot} {H : Heap} {locs : List Loc} {pc : Nat}
variable {Npar : Nat → Nat} {o : Nat} {ret : Option FieldType} {cal : Nat → List AmV → AmM → Option (AmV × AmM)} {nx a b q : Nat} {z : Int} {ts : List Nat} {c' : AmC}
/-- what a method's state is, at its entry -/
def amSt (Z : AmZ) (lo : Nat) (M : AmM) (U : State) : Prop := amKS Z U ∧ va_P (zD Z) amClasses (amW Z M) U.heap ∧ amXS Z U U.heap ∧ lo ≤ U.heap.size
def amPre (Z : AmZ) (lo : Nat) (as : List AmV) (M : AmM) : Array Value → State → Prop := fun v U => v = (as.map (amV (zAd Z))).toArray ∧ amSt Z lo M U
def amRetV (ad : Nat → Nat → Nat) : AmV → Option Value
  | .inr (.inr (.inr _)) => none
  | v => some (amV ad v)
/-- pure facts that hold of a world and go on -/
def amPu0 (Z : AmZ) (M : AmM) : Prop := va_D (zA Z) (amW Z M) ∧ amI M ∧ amX Z M
def amPost (Z : AmZ) (v : AmV) (M' : AmM) : Array Value → State → Outcome → State → Prop := fun _ st oc t => oc = .returned (amRetV (zAd Z) v) ∧ va_P (zD Z) amClasses (amW Z M') t.heap ∧ st.heap.size ≤ t.heap.size ∧ (∀ q, q < st.heap.size → ¬ zA Z q → t.heap[q]? = st.heap[q]?) ∧ amPu0 Z M' ∧ amOk (zAl Z) v ∧ (∀ k c s, v ≠ vR k c s) ∧ v ≠ vN
def amPsh : AmV → List AmV → List AmV
  | .inr (.inr (.inr _)), st => st
  | v, st => v :: st
def amRm (d : Nat) : Room := { frames := d + 10, cells := 0, slots := 0, locals := 200 * d + 2000 }
def amWs (mid : Nat) : List Jvm.Cond := Jvm.Cond.code (amYm mid) (amBy.getD mid ⟨#[]⟩) (amMaxL.getD mid 0) (amRt.getD mid none) :: amT0
/-- the contract of a call of the small machine -/
def amMet (l : Launch) (Z : AmZ) (lo d mid : Nat) (as : List AmV) (M : AmM) (v : AmV) (M' : AmM) : Prop :=
  Met l (amYm mid) (amWs mid) (amRm d) (amPre Z lo as M) (amPost Z v M') 0 0 (zA Z)
theorem amD_of {A : Nat → Prop} {Z : AmZ} {M M' : AmM} (h : va_D A (amW Z M)) : va_D A (amW Z M') := by
  have key : ∀ (i : Nat) (x : Nat × va_E), (amW Z M')[i]? = some x → ∃ y, (amW Z M)[i]? = some y ∧ y.1 = x.1 := by
    intro i x hx
    unfold amW at hx ⊢
    rw [List.getElem?_map] at hx ⊢
    cases hn : (zAl Z)[i]? with
    | none => rw [hn] at hx; cases hx
    | some n => rw [hn] at hx; cases hx; exact ⟨_, rfl, rfl⟩
  refine ⟨fun i j x y hi hj hxy => ?_, fun k x hk => ?_⟩
  · obtain ⟨x0, h1, h2⟩ := key i x hi
    obtain ⟨y0, h3, h4⟩ := key j y hj
    exact h.1 i j x0 y0 h1 h3 (by rw [h2, h4, hxy])
  · obtain ⟨x0, h1, h2⟩ := key k x hk
    rw [← h2]
    exact h.2 k x0 h1
theorem amCat_eq {ad : Nat → Nat → Nat} : ∀ st : List AmV, ((st.map (amV ad)).map fun v => v.category).sum = amCat st
  | [] => rfl
  | .inl none :: r => by
    show 1 + ((r.map (amV ad)).map fun v => v.category).sum = amCat r + 1
    rw [amCat_eq r]; omega
  | .inl (some (k, c, s)) :: r => by
    show 1 + ((r.map (amV ad)).map fun v => v.category).sum = amCat r + 1
    rw [amCat_eq r]; omega
  | .inr (.inl x) :: r => by
    show 1 + ((r.map (amV ad)).map fun v => v.category).sum = amCat r + 1
    rw [amCat_eq r]; omega
  | .inr (.inr (.inl x)) :: r => by
    show 2 + ((r.map (amV ad)).map fun v => v.category).sum = amCat r + 2
    rw [amCat_eq r]; omega
  | .inr (.inr (.inr x)) :: r => by
    show 1 + ((r.map (amV ad)).map fun v => v.category).sum = amCat r + 1
    rw [amCat_eq r]; omega
/-- the state of a callee, out of the caller's -/
theorem amSt_of (hK : amKS Z s) (hX : amXS Z s s.heap) (hr : amRel Z s.heap nL lg L st M ls H locs) {lo : Nat} (hlo : lo ≤ s.heap.size) {U : State} (hU : U.heap = H) (hW : s.WarmedH U.vm) : amSt Z lo M U := by
  have hS := hr.2.2.2.2.2.2.2.1
  refine ⟨⟨va_K.moved hW.alike hK.1, fun w hw => ?_, vk_R.warm hW hK.2.2.1, vk_R.warm hW hK.2.2.2⟩, by rw [hU]; exact hr.2.2.2.2.2.1, ⟨?_, ?_, hX.2.2.1, ?_⟩, by rw [hU]; exact Nat.le_trans hlo hS.1⟩
  · have h1 := hK.2.1 w hw
    have h2 : amNest w = true := (List.mem_filter.mp hw).2
    cases w <;> first | (cases h2; done) | skip
    case fieldLinkNest => exact va_Nw.warmF hW h1
    case methodLinkNest => exact va_Nw.warmM hW h1
  · rw [hU]
    exact va_X.moved hW.alike (va_X.kept hX.1 (hS.2.1 _ hX.2.1 hX.2.2.1))
  · rw [hU]; exact Nat.lt_of_lt_of_le hX.2.1 hS.1
  · obtain ⟨adV, hV⟩ := hX.2.2.2
    rw [hU]
    exact ⟨adV, vk_S.moved hW.alike (hV.kept hS.2.1)⟩
theorem amPre_blind {lo : Nat} {as : List AmV} : FrameBlind (amPre Z lo as M) := by
  intro av U g mk h
  obtain ⟨e1, ⟨k1, k2, k3, k4⟩, e3, ⟨x1, x2, x3, adV, x4⟩, e5⟩ := h
  refine ⟨e1, ⟨⟨va_K.moved (u := U) (U := U.calling g mk av) (Vm.Alike.refl U.vm) k1, fun w hw => va_Nw.same ?_ (u := U) (U := U.calling g mk av) rfl (k2 w hw), vk_R.same (u := U) (U := U.calling g mk av) rfl k3, vk_R.same (u := U) (U := U.calling g mk av) rfl k4⟩, e3, ⟨va_X.moved (u := U) (U := U.calling g mk av) (Vm.Alike.refl U.vm) x1, x2, x3, adV, vk_S.moved (u := U) (U := U.calling g mk av) (Vm.Alike.refl U.vm) x4⟩, e5⟩⟩
  have h2 : amNest w = true := (List.mem_filter.mp hw).2
  cases w <;> first | (cases h2; done) | rfl
/-- behind a call -/
theorem am_back {v : AmV} {M' : AmM} {av : Array Value} {st0 : List Value} {st' : List AmV} (hfx : amFx Z) (hS : va_S (zA Z) s.heap H locs)
    (hrun : va_Run p l e R s m args below meth c H locs cells slots 0 0 (F0 m pc ls st0) (st'.map (amV (zAd Z))) (amPost Z v M' av) (zA Z))
    (hr : amRel Z s.heap nL lg L st M ls H locs) (hs : ∀ w ∈ st', w ∈ st)
    (kk : amGo p l e R s m args below meth c cells slots Q Z nL lg (pc + 3, L, amPsh v st', M')) : W p l e R s m args below meth c H locs cells slots Q (F0 m pc ls st0) := by
  intro T hT X
  obtain ⟨w, st₀, t, T', L', h0, X', hL, e1, e2, ⟨hw, hP, hz, hk, hp, hv⟩, st1⟩ := hrun T hT X
  rw [h0] at hz hk
  have hS' : va_S (zA Z) s.heap T'.heap (locs ++ L') := ⟨Nat.le_trans hS.1 (by rw [e1]; exact hz), fun q h1 h2 => by rw [e1, hk q (Nat.lt_of_lt_of_le h1 hS.1) h2]; exact hS.2.1 q h1 h2, fun q hq => by
      rcases List.mem_append.mp hq with h | h
      · exact hS.2.2 q h
      · exact hL q h⟩
  have hrel : ∀ st2 : List AmV, (∀ w ∈ st2, amOk (zAl Z) w ∧ amSet w) → amRel Z s.heap nL lg L st2 M' ls T'.heap (locs ++ L') := fun st2 h2 => ⟨hr.1, hr.2.1, hr.2.2.1, hr.2.2.2.1, h2, by rw [e1]; exact hP, hp.1, hS', hp.2.1, hp.2.2⟩
  have hst : ∀ w ∈ st', amOk (zAl Z) w ∧ amSet w := fun w hw => hr.2.2.2.2.1 w (hs w hw)
  rcases v with (_ | ⟨k, c, s⟩) | x | x | x
  · exact absurd rfl hv.2.2
  · exact absurd rfl (hv.2.1 k c s)
  · cases hw
    obtain ⟨t2, a1, b1⟩ := kk ls T'.heap (locs ++ L') (hrel (vI x :: st') (fun w hw => by
      rcases List.mem_cons.mp hw with rfl | hw
      · exact ⟨hv.1, trivial⟩
      · exact hst w hw)) T' rfl X'
    exact ⟨t2, st1 t2 a1, b1⟩
  · cases hw
    obtain ⟨t2, a1, b1⟩ := kk ls T'.heap (locs ++ L') (hrel (vL x :: st') (fun w hw => by
      rcases List.mem_cons.mp hw with rfl | hw
      · exact ⟨hv.1, trivial⟩
      · exact hst w hw)) T' rfl X'
    exact ⟨t2, st1 t2 a1, b1⟩
  · cases hw
    obtain ⟨t2, a1, b1⟩ := kk ls T'.heap (locs ++ L') (hrel st' hst) T' rfl X'
    exact ⟨t2, st1 t2 a1, b1⟩
end AmS9
end
section
def amChk1 (cc : ByteArray) (o : Nat) (ret : Option FieldType) (lg : List Nat) (pc : Nat) (e : AmE) : Bool := match decode cc pc with
  | .ok (i', len) => decide (i' = e.1) && ((match e.1 with
    | .tableswitch _ _ _ _ => true
    | i => decide (len = amLenI i) && decide (e.2.1 = pc + amLenI i)) && amChkI amConT amConL amStrT amFldT amMthT (fun m => amNp.getD m 0) o ret lg pc e.1 e.2.1 e.2.2.1 e.2.2.2.1 e.2.2.2.2.1 e.2.2.2.2.2.1 e.2.2.2.2.2.2)
  | _ => false
def amChkC (cc : ByteArray) (o : Nat) (ret : Option FieldType) (lg : List Nat) (cd : List (Option AmE)) : Bool := (List.range cd.length).all fun pc => match cd.getD pc none with
  | none => true
  | some e => amChk1 cc o ret lg pc e
def amMidOk (mid : Nat) : Prop := Jvm.Cond.code (amYm mid) (amBy.getD mid ⟨#[]⟩) (amMaxL.getD mid 0) (amRt.getD mid none) ∈ amT0 ∧ Jvm.Cond.initialized (amYm mid).cls ∈ amT0 ∧ plainName (amYm mid).cls = true ∧
  ((amYm mid).cls ≠ "java/lang/invoke/MethodHandle" ∧ (amYm mid).cls ≠ "java/lang/invoke/VarHandle" ∧ (parseMethodDescriptor (amYm mid).desc).map (fun d => d.parameters.length) = some (amNp.getD mid 0)) ∧ (amYm mid).cls = amR (amOwn.getD mid 99) ∧ amMaxL.getD mid 0 ≤ 12
theorem amGoodIn {mid : Nat} (h : amMidOk mid) : GoodIn amT0 (amWs mid) := by
  have key : ∀ w ∈ amT0, w ∈ amT0 ∧ ((w.onTables && w.keeps) = true ∨ ∃ ty, w = .arrayClass ty) := fun w hw => ⟨hw, good_of_word (List.mem_filter.mp hw).2⟩
  intro w hw
  rcases List.mem_cons.mp hw with rfl | hw
  · exact key _ h.1
  · exact key _ hw
section AmSI
variable {p : Program} {l : Launch} {e : Env} {R : Room} {s : State} {m : MethodId} {args : Array Value} {below : List Frame} {meth : Method} {c : Code} {cells slots : Nat} {Q : State → Prop}
variable {cc : ByteArray} {Z : AmZ} {nL : Nat} {lg : List Nat} {L st : List AmV} {M : AmM} {ls : Array Slot} {H : Heap} {locs : List Loc} {pc : Nat}
variable {o : Nat} {ret : Option FieldType} {cal : Nat → List AmV → AmM → Option (AmV × AmM)} {nx a b q : Nat} {z : Int} {ts : List Nat} {c' : AmC}
theorem amPu_inl {z : Int} {r : Option (AmV × AmM)} {f : List AmV → AmM → AmR} (h : amPu z r f = .inl c') : ∃ v M', r = some (v, M') ∧ ((v = vU ∧ f [] M' = .inl c') ∨ ((∃ x, v = vI x) ∧ f [v] M' = .inl c') ∨ ((∃ x, v = vL x) ∧ f [v] M' = .inl c')) := by
  rcases r with _ | ⟨_ | x | x | x, M'⟩
  · cases h
  · cases h
  · have h2 : (bif z == 1 then f [vI x] M' else amNo) = .inl c' := h
    cases hz : (z == 1) with
    | false => rw [hz] at h2; cases h2
    | true => rw [hz] at h2; exact ⟨_, _, rfl, Or.inr (Or.inl ⟨⟨x, rfl⟩, h2⟩)⟩
  · have h2 : (bif z == 2 then f [vL x] M' else amNo) = .inl c' := h
    cases hz : (z == 2) with
    | false => rw [hz] at h2; cases h2
    | true => rw [hz] at h2; exact ⟨_, _, rfl, Or.inr (Or.inr ⟨⟨x, rfl⟩, h2⟩)⟩
  · have h2 : (bif z == 0 then f [] M' else amNo) = .inl c' := h
    cases hz : (z == 0) with
    | false => rw [hz] at h2; cases h2
    | true => rw [hz] at h2; exact ⟨_, _, rfl, Or.inl ⟨rfl, h2⟩⟩
/-- every call of the small machine has its contract -/
def amAll (l : Launch) (Z : AmZ) (lo d : Nat) (cal : Nat → List AmV → AmM → Option (AmV × AmM)) : Prop := ∀ (mid : Nat) (as : List AmV) (M : AmM) (v : AmV) (M' : AmM), mid < 245 → cal mid as M = some (v, M') → (∀ w ∈ as, amOk (zAl Z) w ∧ amSet w) → amPu0 Z M → amMet l Z lo d mid as M v M'
theorem am_goBack {lo d mid : Nat} {as st' : List AmV} {v : AmV} {M' : AmM} (hm : amMet l Z lo d mid as M v M') {f : List AmV → AmM → AmR} (hf : f = fun r M' => .inl (pc + 3, L, r ++ st', M'))
    (h : (v = vU ∧ f [] M' = .inl c') ∨ ((∃ x, v = vI x) ∧ f [v] M' = .inl c') ∨ ((∃ x, v = vL x) ∧ f [v] M' = .inl c')) : c' = (pc + 3, L, amPsh v st', M') := by
  subst hf
  rcases h with ⟨rfl, h⟩ | ⟨⟨x, rfl⟩, h⟩ | ⟨⟨x, rfl⟩, h⟩ <;> (cases h; rfl)
def amMtLt : Prop := (∀ t ∈ amMthT, t.2.2.2 ≠ 9 → t.2.2.1 < 245) ∧ ∀ t ∈ amMthT, t.2.2.2 = 0 ∨ t.2.2.2 = 1 → amOwn.getD t.2.2.1 99 < 13
theorem am_invV {x lo d : Nat} (hA : amAll l Z lo d cal) (hMid : ∀ mid, mid < 245 → amMidOk mid) (hMt : amMtLt) (S : CallFix p m c cc nL s args amT0 (amR o)) (hK : amKS Z s) (hX : amXS Z s s.heap) (hfx : amFx Z) (hlo : lo ≤ s.heap.size)
    (hR : d + 11 ≤ R.frames ∧ 2031 + 200 * d ≤ R.locals ∧ cells ≤ R.cells ∧ slots ≤ R.slots) (hd : decode cc pc = .ok (.invokevirtual x, 3))
    (e1 : (o, x, a, 0) ∈ amMthT ∨ (o, x, a, 1) ∈ amMthT) (e2 : b = amNp.getD a 0 + 1) (h : amInv cal (pc + 3) a b 1 z L st M = .inl c')
    (hr : amRel Z s.heap nL lg L st M ls H locs) (kk : amGo p l e R s m args below meth c cells slots Q Z nL lg c') : W p l e R s m args below meth c H locs cells slots Q (F0 m pc ls (st.map (amV (zAd Z)))) := by
  have ha : a < 245 := by rcases e1 with h | h <;> exact hMt.1 _ h (by simp)
  have hOw : amOwn.getD a 99 < 13 := by rcases e1 with h | h <;> exact hMt.2 _ h (by simp)
  obtain ⟨m1, m2, m3, m4, m5, m6⟩ := hMid a ha
  have h2 : (match st.drop (b - 1) with
    | .inl (some (_, c, _)) :: _ => bif c == amOwn.getD a 99 && (Nat.ble b st.length && Nat.ble (amCat (st.drop b)) 8) then amPu z (cal a (st.take b).reverse M) (fun r M' => .inl (pc + 3, L, r ++ st.drop b, M')) else amNo
    | _ => (amNo : AmR)) = .inl c' := h
  split at h2
  · rename_i k C s' r' hdrop
    cases hb : (C == amOwn.getD a 99 && (Nat.ble b st.length && Nat.ble (amCat (st.drop b)) 8)) with
    | false => rw [hb] at h2; cases h2
    | true =>
      rw [hb] at h2
      simp only [Bool.and_eq_true, beq_iff_eq] at hb
      obtain ⟨f1, f2, f3⟩ := hb
      have f2 := Nat.le_of_ble_eq_true f2
      have f3 := Nat.le_of_ble_eq_true f3
      obtain ⟨v, M', g1, g2⟩ := amPu_inl (show amPu z (cal a (st.take b).reverse M) (fun r M' => .inl (pc + 3, L, r ++ st.drop b, M')) = .inl c' from h2)
      have hb1 : b - 1 + 1 = b := by omega
      have hrest : st.drop b = r' := by rw [← hb1, ← List.drop_drop, hdrop]; rfl
      have htake : st.take b = st.take (b - 1) ++ [vR k C s'] := by
        rw [← hb1, List.take_add, hdrop, hb1]; rfl
      have has : (st.take b).reverse = vR k C s' :: (st.take (b - 1)).reverse := by rw [htake, List.reverse_append]; rfl
      have hstk : st = st.take (b - 1) ++ vR k C s' :: r' := by rw [← hdrop, List.take_append_drop]
      have hin : ∀ w ∈ (st.take b).reverse, amOk (zAl Z) w ∧ amSet w := fun w hw => hr.2.2.2.2.1 w (List.mem_of_mem_take (List.mem_reverse.mp hw))
      have hm := hA a _ M v M' ha g1 hin ⟨hr.2.2.2.2.2.2.1, hr.2.2.2.2.2.2.2.2.1, hr.2.2.2.2.2.2.2.2.2⟩
      have hCl : C < 13 := by rw [f1]; exact hOw
      obtain ⟨cl1, -⟩ := amCl_ok hCl
      have hok := (hin (vR k C s') (by rw [has]; simp)).1
      have hmem := am_okR hok (by omega) (by omega) (by omega)
      obtain ⟨pp, hp1, hp2⟩ := amW_at (M := M) hmem
      have hce : amCell (zC Z) (zAd Z) C (M C s') (zG Z C s') = .inr (C, (List.range (amFkL.getD C []).length).map (amFv (zAd Z) C (M C s') (zG Z C s'))) := if_pos hCl
      rw [hce] at hp2
      have hrecv : ∃ cell : Cell, H[zAd Z C s']? = some cell ∧ cell.vm.isStatics = false ∧ s.vm.findClass (amYm a).cls = some cell.cls := by
        rw [m5, ← f1]
        exact va_recv hK.1 hr.2.2.2.2.2.1 cl1 hp2
      have hcc := am_goBack (pc := pc) (L := L) (f := fun r M' => .inl (pc + 3, L, r ++ st.drop b, M')) (st' := r') hm (by rw [hrest]) g2
      subst hcc
      have hlen : (((st.take (b - 1)).reverse).map (amV (zAd Z))).length = amNp.getD a 0 := by
        rw [List.length_map, List.length_reverse, List.length_take]; omega
      have hstack : st.map (amV (zAd Z)) = (((st.take (b - 1)).reverse).map (amV (zAd Z))).reverse ++ Value.ref (zAd Z C s') :: r'.map (amV (zAd Z)) := by
        conv => lhs; rw [hstk]
        simp [List.map_reverse, amV]
      have hpre : ∀ U : State, U.heap = H → s.WarmedH U.vm → amPre Z lo (st.take b).reverse M (Value.ref (zAd Z C s') :: ((st.take (b - 1)).reverse).map (amV (zAd Z))).toArray U := fun U hU hW => ⟨by rw [has]; rfl, amSt_of hK hX hr hlo hU hW⟩
      have hroom : (amRm d).frames + 1 ≤ R.frames ∧ 8 + (amMaxL.getD a 0 + 11) + (amRm d).locals ≤ R.locals := ⟨hR.1, by show 8 + (amMaxL.getD a 0 + 11) + (200 * d + 2000) ≤ R.locals; omega⟩
      have hWr : 2 * (F0 m pc ls (st.map (amV (zAd Z)))).monitorRoom + ((r'.map (amV (zAd Z))).map fun v => v.category).sum ≤ 8 := lv_room (by rw [amCat_eq, ← hrest]; exact f3)
      refine am_back hfx hr.2.2.2.2.2.2.2.1 (av := (Value.ref (zAd Z C s') :: ((st.take (b - 1)).reverse).map (amV (zAd Z))).toArray) ?_ hr (fun w hw => by rw [hstk]; simp [hw]) kk
      obtain ⟨hx, hbb, hml, hown, hts⟩ := S
      rcases e1 with e1 | e1
      · obtain ⟨l1, l2, l3⟩ : Jvm.Cond.methodLink (amR o) x (amYm a) ∈ amT0 ∧ Jvm.Cond.instanceMethod (amYm a) ∈ amT0 ∧ Jvm.Cond.selects (amYm a).cls (amYm a) (amYm a) ∈ amT0 := amMth_ok _ e1
        exact va_runV ⟨hx, hbb, hml, hown, hts⟩ hm ⟨callB_of (amNp.getD a 0) hts (amGoodIn (hMid a ha)) rfl rfl rfl (hts _ m2) (hts _ l1) m4 hroom, hts _ l2, hts _ l3⟩ ⟨amPre_blind, hrecv, hpre⟩ rfl hlen hr.1.1 hstack hWr hd ⟨hR.2.2.1, hR.2.2.2⟩
      · obtain ⟨l1, l2, l3⟩ : Jvm.Cond.methodLinkNest (amR o) x (amYm a) "SaltStairs" ∈ amNs ∧ Jvm.Cond.instanceMethod (amYm a) ∈ amT0 ∧ Jvm.Cond.selects (amYm a).cls (amYm a) (amYm a) ∈ amT0 := amMth_ok _ e1
        exact va_runVN ⟨hx, hbb, hml, hown, hts⟩ hm ⟨va_cnB (amNp.getD a 0) hts (amGoodIn (hMid a ha)) rfl rfl rfl (hK.2.1 _ l1) (hts _ m2) m4 hroom, hts _ l2, hts _ l3⟩ ⟨amPre_blind, hrecv, hpre⟩ rfl hlen hr.1.1 hstack hWr hd ⟨hR.2.2.1, hR.2.2.2⟩
  · cases h2
theorem am_invS {x lo d : Nat} (hA : amAll l Z lo d cal) (hMid : ∀ mid, mid < 245 → amMidOk mid) (hMt : amMtLt) (S : CallFix p m c cc nL s args amT0 (amR o)) (hK : amKS Z s) (hX : amXS Z s s.heap) (hfx : amFx Z) (hlo : lo ≤ s.heap.size)
    (hR : d + 11 ≤ R.frames ∧ 2031 + 200 * d ≤ R.locals ∧ cells ≤ R.cells ∧ slots ≤ R.slots) (hd : decode cc pc = .ok (.invokestatic x, 3))
    (e1 : (o, x, a, 2) ∈ amMthT ∨ (o, x, a, 3) ∈ amMthT) (e2 : b = amNp.getD a 0) (h : amInv cal (pc + 3) a b 0 z L st M = .inl c')
    (hr : amRel Z s.heap nL lg L st M ls H locs) (kk : amGo p l e R s m args below meth c cells slots Q Z nL lg c') : W p l e R s m args below meth c H locs cells slots Q (F0 m pc ls (st.map (amV (zAd Z)))) := by
  have ha : a < 245 := by rcases e1 with h | h <;> exact hMt.1 _ h (by simp)
  obtain ⟨m1, m2, m3, m4, m5, m6⟩ := hMid a ha
  have h2 : (bif Nat.ble b st.length && Nat.ble (amCat (st.drop b)) 8 then amPu z (cal a (st.take b).reverse M) (fun r M' => .inl (pc + 3, L, r ++ st.drop b, M')) else (amNo : AmR)) = .inl c' := h
  cases hb : (Nat.ble b st.length && Nat.ble (amCat (st.drop b)) 8) with
  | false => rw [hb] at h2; cases h2
  | true =>
    rw [hb] at h2
    simp only [Bool.and_eq_true] at hb
    obtain ⟨f2, f3⟩ := hb
    have f2 := Nat.le_of_ble_eq_true f2
    have f3 := Nat.le_of_ble_eq_true f3
    obtain ⟨v, M', g1, g2⟩ := amPu_inl (show amPu z (cal a (st.take b).reverse M) (fun r M' => .inl (pc + 3, L, r ++ st.drop b, M')) = .inl c' from h2)
    have hin : ∀ w ∈ (st.take b).reverse, amOk (zAl Z) w ∧ amSet w := fun w hw => hr.2.2.2.2.1 w (List.mem_of_mem_take (List.mem_reverse.mp hw))
    have hm := hA a _ M v M' ha g1 hin ⟨hr.2.2.2.2.2.2.1, hr.2.2.2.2.2.2.2.2.1, hr.2.2.2.2.2.2.2.2.2⟩
    have hcc := am_goBack (pc := pc) (L := L) (f := fun r M' => .inl (pc + 3, L, r ++ st.drop b, M')) (st' := st.drop b) hm rfl g2
    subst hcc
    have hlen : (((st.take b).reverse).map (amV (zAd Z))).length = amNp.getD a 0 := by
      rw [List.length_map, List.length_reverse, List.length_take]; omega
    have hstack : st.map (amV (zAd Z)) = (((st.take b).reverse).map (amV (zAd Z))).reverse ++ (st.drop b).map (amV (zAd Z)) := by
      rw [← List.map_reverse, List.reverse_reverse, ← List.map_append, List.take_append_drop]
    have hpre : ∀ U : State, U.heap = H → s.WarmedH U.vm → amPre Z lo (st.take b).reverse M (((st.take b).reverse).map (amV (zAd Z))).toArray U := fun U hU hW => ⟨rfl, amSt_of hK hX hr hlo hU hW⟩
    have hroom : (amRm d).frames + 1 ≤ R.frames ∧ 8 + (amMaxL.getD a 0 + 11) + (amRm d).locals ≤ R.locals := ⟨hR.1, by show 8 + (amMaxL.getD a 0 + 11) + (200 * d + 2000) ≤ R.locals; omega⟩
    have hWr : 2 * (F0 m pc ls (st.map (amV (zAd Z)))).monitorRoom + (((st.drop b).map (amV (zAd Z))).map fun v => v.category).sum ≤ 8 := lv_room (by rw [amCat_eq]; exact f3)
    refine am_back hfx hr.2.2.2.2.2.2.2.1 (av := (((st.take b).reverse).map (amV (zAd Z))).toArray) ?_ hr (fun w hw => List.mem_of_mem_drop hw) kk
    obtain ⟨hx, hbb, hml, hown, hts⟩ := S
    rcases e1 with e1 | e1
    · obtain ⟨l1, l2⟩ : Jvm.Cond.methodLink (amR o) x (amYm a) ∈ amT0 ∧ Jvm.Cond.static (amYm a) ∈ amT0 := amMth_ok _ e1
      exact va_runS ⟨hx, hbb, hml, hown, hts⟩ hm ⟨callB_of (amNp.getD a 0) hts (amGoodIn (hMid a ha)) rfl rfl rfl (hts _ m2) (hts _ l1) m4 hroom, hts _ l2⟩ ⟨amPre_blind, hpre⟩ rfl hlen hr.1.1 hstack hWr hd ⟨hR.2.2.1, hR.2.2.2⟩
    · obtain ⟨l1, l2⟩ : Jvm.Cond.methodLinkNest (amR o) x (amYm a) "SaltStairs" ∈ amNs ∧ Jvm.Cond.static (amYm a) ∈ amT0 := amMth_ok _ e1
      exact va_runSN ⟨hx, hbb, hml, hown, hts⟩ hm ⟨va_cnB (amNp.getD a 0) hts (amGoodIn (hMid a ha)) rfl rfl rfl (hK.2.1 _ l1) (hts _ m2) m4 hroom, hts _ l2, trivial⟩ ⟨amPre_blind, hpre⟩ rfl hlen hr.1.1 hstack hWr hd ⟨hR.2.2.1, hR.2.2.2⟩
end AmSI
end
section
def amMidP (mid : Nat) : Prop := amMidOk mid ∧ amChkC (amBy.getD mid ⟨#[]⟩) (amOwn.getD mid 99) (amRt.getD mid none) (amLg.getD mid []) (amCodes.getD mid []) = true
theorem amMt_lt : amMtLt := ⟨by decide +kernel, by decide +kernel⟩
theorem amMid_0 : amMidP 0 := ⟨⟨amIn0 965 (by decide +kernel) (by decide +kernel), amIn0 177 (by decide +kernel) (by decide +kernel), by decide +kernel, ⟨by decide +kernel, by decide +kernel, by decide +kernel⟩, by decide +kernel, by decide +kernel⟩, by decide +kernel⟩
theorem amMid_1 : amMidP 1 := ⟨⟨amIn0 1211 (by decide +kernel) (by decide +kernel), amIn0 177 (by decide +kernel) (by decide +kernel), by decide +kernel, ⟨by decide +kernel, by decide +kernel, by decide +kernel⟩, by decide +kernel, by decide +kernel⟩, by decide +kernel⟩
theorem amMid_2 : amMidP 2 := ⟨⟨amIn0 1216 (by decide +kernel) (by decide +kernel), amIn0 177 (by decide +kernel) (by decide +kernel), by decide +kernel, ⟨by decide +kernel, by decide +kernel, by decide +kernel⟩, by decide +kernel, by decide +kernel⟩, by decide +kernel⟩
theorem amMid_3 : amMidP 3 := ⟨⟨amIn0 1227 (by decide +kernel) (by decide +kernel), amIn0 177 (by decide +kernel) (by decide +kernel), by decide +kernel, ⟨by decide +kernel, by decide +kernel, by decide +kernel⟩, by decide +kernel, by decide +kernel⟩, by decide +kernel⟩
theorem amMid_4 : amMidP 4 := ⟨⟨amIn0 1230 (by decide +kernel) (by decide +kernel), amIn0 177 (by decide +kernel) (by decide +kernel), by decide +kernel, ⟨by decide +kernel, by decide +kernel, by decide +kernel⟩, by decide +kernel, by decide +kernel⟩, by decide +kernel⟩
theorem amMid_5 : amMidP 5 := ⟨⟨amIn0 1233 (by decide +kernel) (by decide +kernel), amIn0 177 (by decide +kernel) (by decide +kernel), by decide +kernel, ⟨by decide +kernel, by decide +kernel, by decide +kernel⟩, by decide +kernel, by decide +kernel⟩, by decide +kernel⟩
theorem amMid_6 : amMidP 6 := ⟨⟨amIn0 1242 (by decide +kernel) (by decide +kernel), amIn0 177 (by decide +kernel) (by decide +kernel), by decide +kernel, ⟨by decide +kernel, by decide +kernel, by decide +kernel⟩, by decide +kernel, by decide +kernel⟩, by decide +kernel⟩
theorem amMid_7 : amMidP 7 := ⟨⟨amIn0 1251 (by decide +kernel) (by decide +kernel), amIn0 177 (by decide +kernel) (by decide +kernel), by decide +kernel, ⟨by decide +kernel, by decide +kernel, by decide +kernel⟩, by decide +kernel, by decide +kernel⟩, by decide +kernel⟩
theorem amMid_8 : amMidP 8 := ⟨⟨amIn0 1255 (by decide +kernel) (by decide +kernel), amIn0 177 (by decide +kernel) (by decide +kernel), by decide +kernel, ⟨by decide +kernel, by decide +kernel, by decide +kernel⟩, by decide +kernel, by decide +kernel⟩, by decide +kernel⟩
theorem amMid_9 : amMidP 9 := ⟨⟨amIn0 1285 (by decide +kernel) (by decide +kernel), amIn0 177 (by decide +kernel) (by decide +kernel), by decide +kernel, ⟨by decide +kernel, by decide +kernel, by decide +kernel⟩, by decide +kernel, by decide +kernel⟩, by decide +kernel⟩
theorem amMid_10 : amMidP 10 := ⟨⟨amIn0 1290 (by decide +kernel) (by decide +kernel), amIn0 177 (by decide +kernel) (by decide +kernel), by decide +kernel, ⟨by decide +kernel, by decide +kernel, by decide +kernel⟩, by decide +kernel, by decide +kernel⟩, by decide +kernel⟩
theorem amMid_11 : amMidP 11 := ⟨⟨amIn0 238 (by decide +kernel) (by decide +kernel), amIn0 171 (by decide +kernel) (by decide +kernel), by decide +kernel, ⟨by decide +kernel, by decide +kernel, by decide +kernel⟩, by decide +kernel, by decide +kernel⟩, by decide +kernel⟩
theorem amMid_12 : amMidP 12 := ⟨⟨amIn0 934 (by decide +kernel) (by decide +kernel), amIn0 171 (by decide +kernel) (by decide +kernel), by decide +kernel, ⟨by decide +kernel, by decide +kernel, by decide +kernel⟩, by decide +kernel, by decide +kernel⟩, by decide +kernel⟩
theorem amMid_13 : amMidP 13 := ⟨⟨amIn0 876 (by decide +kernel) (by decide +kernel), amIn0 171 (by decide +kernel) (by decide +kernel), by decide +kernel, ⟨by decide +kernel, by decide +kernel, by decide +kernel⟩, by decide +kernel, by decide +kernel⟩, by decide +kernel⟩
theorem amMid_14 : amMidP 14 := ⟨⟨amIn0 893 (by decide +kernel) (by decide +kernel), amIn0 171 (by decide +kernel) (by decide +kernel), by decide +kernel, ⟨by decide +kernel, by decide +kernel, by decide +kernel⟩, by decide +kernel, by decide +kernel⟩, by decide +kernel⟩
theorem amMid_15 : amMidP 15 := ⟨⟨amIn0 900 (by decide +kernel) (by decide +kernel), amIn0 171 (by decide +kernel) (by decide +kernel), by decide +kernel, ⟨by decide +kernel, by decide +kernel, by decide +kernel⟩, by decide +kernel, by decide +kernel⟩, by decide +kernel⟩
theorem amMid_16 : amMidP 16 := ⟨⟨amIn0 1025 (by decide +kernel) (by decide +kernel), amIn0 171 (by decide +kernel) (by decide +kernel), by decide +kernel, ⟨by decide +kernel, by decide +kernel, by decide +kernel⟩, by decide +kernel, by decide +kernel⟩, by decide +kernel⟩
theorem amMid_17 : amMidP 17 := ⟨⟨amIn0 1029 (by decide +kernel) (by decide +kernel), amIn0 171 (by decide +kernel) (by decide +kernel), by decide +kernel, ⟨by decide +kernel, by decide +kernel, by decide +kernel⟩, by decide +kernel, by decide +kernel⟩, by decide +kernel⟩
theorem amMid_18 : amMidP 18 := ⟨⟨amIn0 1182 (by decide +kernel) (by decide +kernel), amIn0 178 (by decide +kernel) (by decide +kernel), by decide +kernel, ⟨by decide +kernel, by decide +kernel, by decide +kernel⟩, by decide +kernel, by decide +kernel⟩, by decide +kernel⟩
theorem amMid_19 : amMidP 19 := ⟨⟨amIn0 1186 (by decide +kernel) (by decide +kernel), amIn0 178 (by decide +kernel) (by decide +kernel), by decide +kernel, ⟨by decide +kernel, by decide +kernel, by decide +kernel⟩, by decide +kernel, by decide +kernel⟩, by decide +kernel⟩
theorem amMid_20 : amMidP 20 := ⟨⟨amIn0 1192 (by decide +kernel) (by decide +kernel), amIn0 178 (by decide +kernel) (by decide +kernel), by decide +kernel, ⟨by decide +kernel, by decide +kernel, by decide +kernel⟩, by decide +kernel, by decide +kernel⟩, by decide +kernel⟩
theorem amMid_21 : amMidP 21 := ⟨⟨amIn0 1198 (by decide +kernel) (by decide +kernel), amIn0 178 (by decide +kernel) (by decide +kernel), by decide +kernel, ⟨by decide +kernel, by decide +kernel, by decide +kernel⟩, by decide +kernel, by decide +kernel⟩, by decide +kernel⟩
theorem amMid_22 : amMidP 22 := ⟨⟨amIn0 1264 (by decide +kernel) (by decide +kernel), amIn0 178 (by decide +kernel) (by decide +kernel), by decide +kernel, ⟨by decide +kernel, by decide +kernel, by decide +kernel⟩, by decide +kernel, by decide +kernel⟩, by decide +kernel⟩
theorem amMid_23 : amMidP 23 := ⟨⟨amIn0 1269 (by decide +kernel) (by decide +kernel), amIn0 178 (by decide +kernel) (by decide +kernel), by decide +kernel, ⟨by decide +kernel, by decide +kernel, by decide +kernel⟩, by decide +kernel, by decide +kernel⟩, by decide +kernel⟩
theorem amMid_24 : amMidP 24 := ⟨⟨amIn0 1273 (by decide +kernel) (by decide +kernel), amIn0 178 (by decide +kernel) (by decide +kernel), by decide +kernel, ⟨by decide +kernel, by decide +kernel, by decide +kernel⟩, by decide +kernel, by decide +kernel⟩, by decide +kernel⟩
theorem amMid_25 : amMidP 25 := ⟨⟨amIn0 961 (by decide +kernel) (by decide +kernel), amIn0 176 (by decide +kernel) (by decide +kernel), by decide +kernel, ⟨by decide +kernel, by decide +kernel, by decide +kernel⟩, by decide +kernel, by decide +kernel⟩, by decide +kernel⟩
theorem amMid_26 : amMidP 26 := ⟨⟨amIn0 1159 (by decide +kernel) (by decide +kernel), amIn0 176 (by decide +kernel) (by decide +kernel), by decide +kernel, ⟨by decide +kernel, by decide +kernel, by decide +kernel⟩, by decide +kernel, by decide +kernel⟩, by decide +kernel⟩
theorem amMid_27 : amMidP 27 := ⟨⟨amIn0 1165 (by decide +kernel) (by decide +kernel), amIn0 176 (by decide +kernel) (by decide +kernel), by decide +kernel, ⟨by decide +kernel, by decide +kernel, by decide +kernel⟩, by decide +kernel, by decide +kernel⟩, by decide +kernel⟩
theorem amMid_28 : amMidP 28 := ⟨⟨amIn0 661 (by decide +kernel) (by decide +kernel), amIn0 172 (by decide +kernel) (by decide +kernel), by decide +kernel, ⟨by decide +kernel, by decide +kernel, by decide +kernel⟩, by decide +kernel, by decide +kernel⟩, by decide +kernel⟩
theorem amMid_29 : amMidP 29 := ⟨⟨amIn0 908 (by decide +kernel) (by decide +kernel), amIn0 172 (by decide +kernel) (by decide +kernel), by decide +kernel, ⟨by decide +kernel, by decide +kernel, by decide +kernel⟩, by decide +kernel, by decide +kernel⟩, by decide +kernel⟩
theorem amMid_30 : amMidP 30 := ⟨⟨amIn0 831 (by decide +kernel) (by decide +kernel), amIn0 172 (by decide +kernel) (by decide +kernel), by decide +kernel, ⟨by decide +kernel, by decide +kernel, by decide +kernel⟩, by decide +kernel, by decide +kernel⟩, by decide +kernel⟩
theorem amMid_31 : amMidP 31 := ⟨⟨amIn0 856 (by decide +kernel) (by decide +kernel), amIn0 172 (by decide +kernel) (by decide +kernel), by decide +kernel, ⟨by decide +kernel, by decide +kernel, by decide +kernel⟩, by decide +kernel, by decide +kernel⟩, by decide +kernel⟩
theorem amMid_32 : amMidP 32 := ⟨⟨amIn0 860 (by decide +kernel) (by decide +kernel), amIn0 172 (by decide +kernel) (by decide +kernel), by decide +kernel, ⟨by decide +kernel, by decide +kernel, by decide +kernel⟩, by decide +kernel, by decide +kernel⟩, by decide +kernel⟩
theorem amMid_33 : amMidP 33 := ⟨⟨amIn0 864 (by decide +kernel) (by decide +kernel), amIn0 172 (by decide +kernel) (by decide +kernel), by decide +kernel, ⟨by decide +kernel, by decide +kernel, by decide +kernel⟩, by decide +kernel, by decide +kernel⟩, by decide +kernel⟩
theorem amMid_34 : amMidP 34 := ⟨⟨amIn0 872 (by decide +kernel) (by decide +kernel), amIn0 172 (by decide +kernel) (by decide +kernel), by decide +kernel, ⟨by decide +kernel, by decide +kernel, by decide +kernel⟩, by decide +kernel, by decide +kernel⟩, by decide +kernel⟩
theorem amMid_35 : amMidP 35 := ⟨⟨amIn0 881 (by decide +kernel) (by decide +kernel), amIn0 172 (by decide +kernel) (by decide +kernel), by decide +kernel, ⟨by decide +kernel, by decide +kernel, by decide +kernel⟩, by decide +kernel, by decide +kernel⟩, by decide +kernel⟩
theorem amMid_36 : amMidP 36 := ⟨⟨amIn0 885 (by decide +kernel) (by decide +kernel), amIn0 172 (by decide +kernel) (by decide +kernel), by decide +kernel, ⟨by decide +kernel, by decide +kernel, by decide +kernel⟩, by decide +kernel, by decide +kernel⟩, by decide +kernel⟩
theorem amMid_37 : amMidP 37 := ⟨⟨amIn0 896 (by decide +kernel) (by decide +kernel), amIn0 172 (by decide +kernel) (by decide +kernel), by decide +kernel, ⟨by decide +kernel, by decide +kernel, by decide +kernel⟩, by decide +kernel, by decide +kernel⟩, by decide +kernel⟩
theorem amMid_38 : amMidP 38 := ⟨⟨amIn0 889 (by decide +kernel) (by decide +kernel), amIn0 172 (by decide +kernel) (by decide +kernel), by decide +kernel, ⟨by decide +kernel, by decide +kernel, by decide +kernel⟩, by decide +kernel, by decide +kernel⟩, by decide +kernel⟩
theorem amMid_39 : amMidP 39 := ⟨⟨amIn0 835 (by decide +kernel) (by decide +kernel), amIn0 172 (by decide +kernel) (by decide +kernel), by decide +kernel, ⟨by decide +kernel, by decide +kernel, by decide +kernel⟩, by decide +kernel, by decide +kernel⟩, by decide +kernel⟩
theorem amMid_40 : amMidP 40 := ⟨⟨amIn0 843 (by decide +kernel) (by decide +kernel), amIn0 172 (by decide +kernel) (by decide +kernel), by decide +kernel, ⟨by decide +kernel, by decide +kernel, by decide +kernel⟩, by decide +kernel, by decide +kernel⟩, by decide +kernel⟩
theorem amMid_41 : amMidP 41 := ⟨⟨amIn0 868 (by decide +kernel) (by decide +kernel), amIn0 172 (by decide +kernel) (by decide +kernel), by decide +kernel, ⟨by decide +kernel, by decide +kernel, by decide +kernel⟩, by decide +kernel, by decide +kernel⟩, by decide +kernel⟩
theorem amMid_42 : amMidP 42 := ⟨⟨amIn0 839 (by decide +kernel) (by decide +kernel), amIn0 172 (by decide +kernel) (by decide +kernel), by decide +kernel, ⟨by decide +kernel, by decide +kernel, by decide +kernel⟩, by decide +kernel, by decide +kernel⟩, by decide +kernel⟩
theorem amMid_43 : amMidP 43 := ⟨⟨amIn0 851 (by decide +kernel) (by decide +kernel), amIn0 172 (by decide +kernel) (by decide +kernel), by decide +kernel, ⟨by decide +kernel, by decide +kernel, by decide +kernel⟩, by decide +kernel, by decide +kernel⟩, by decide +kernel⟩
theorem amMid_44 : amMidP 44 := ⟨⟨amIn0 939 (by decide +kernel) (by decide +kernel), amIn0 174 (by decide +kernel) (by decide +kernel), by decide +kernel, ⟨by decide +kernel, by decide +kernel, by decide +kernel⟩, by decide +kernel, by decide +kernel⟩, by decide +kernel⟩
theorem amMid_45 : amMidP 45 := ⟨⟨amIn0 1049 (by decide +kernel) (by decide +kernel), amIn0 174 (by decide +kernel) (by decide +kernel), by decide +kernel, ⟨by decide +kernel, by decide +kernel, by decide +kernel⟩, by decide +kernel, by decide +kernel⟩, by decide +kernel⟩
theorem amMid_46 : amMidP 46 := ⟨⟨amIn0 1101 (by decide +kernel) (by decide +kernel), amIn0 174 (by decide +kernel) (by decide +kernel), by decide +kernel, ⟨by decide +kernel, by decide +kernel, by decide +kernel⟩, by decide +kernel, by decide +kernel⟩, by decide +kernel⟩
theorem amMid_47 : amMidP 47 := ⟨⟨amIn0 1115 (by decide +kernel) (by decide +kernel), amIn0 174 (by decide +kernel) (by decide +kernel), by decide +kernel, ⟨by decide +kernel, by decide +kernel, by decide +kernel⟩, by decide +kernel, by decide +kernel⟩, by decide +kernel⟩
theorem amMid_48 : amMidP 48 := ⟨⟨amIn0 1040 (by decide +kernel) (by decide +kernel), amIn0 174 (by decide +kernel) (by decide +kernel), by decide +kernel, ⟨by decide +kernel, by decide +kernel, by decide +kernel⟩, by decide +kernel, by decide +kernel⟩, by decide +kernel⟩
theorem amMid_49 : amMidP 49 := ⟨⟨amIn0 1148 (by decide +kernel) (by decide +kernel), amIn0 174 (by decide +kernel) (by decide +kernel), by decide +kernel, ⟨by decide +kernel, by decide +kernel, by decide +kernel⟩, by decide +kernel, by decide +kernel⟩, by decide +kernel⟩
theorem amMid_50 : amMidP 50 := ⟨⟨amIn0 990 (by decide +kernel) (by decide +kernel), amIn0 174 (by decide +kernel) (by decide +kernel), by decide +kernel, ⟨by decide +kernel, by decide +kernel, by decide +kernel⟩, by decide +kernel, by decide +kernel⟩, by decide +kernel⟩
theorem amMid_51 : amMidP 51 := ⟨⟨amIn0 1246 (by decide +kernel) (by decide +kernel), amIn0 174 (by decide +kernel) (by decide +kernel), by decide +kernel, ⟨by decide +kernel, by decide +kernel, by decide +kernel⟩, by decide +kernel, by decide +kernel⟩, by decide +kernel⟩
theorem amMid_52 : amMidP 52 := ⟨⟨amIn0 943 (by decide +kernel) (by decide +kernel), amIn0 175 (by decide +kernel) (by decide +kernel), by decide +kernel, ⟨by decide +kernel, by decide +kernel, by decide +kernel⟩, by decide +kernel, by decide +kernel⟩, by decide +kernel⟩
theorem amMid_53 : amMidP 53 := ⟨⟨amIn0 1053 (by decide +kernel) (by decide +kernel), amIn0 175 (by decide +kernel) (by decide +kernel), by decide +kernel, ⟨by decide +kernel, by decide +kernel, by decide +kernel⟩, by decide +kernel, by decide +kernel⟩, by decide +kernel⟩
theorem amMid_54 : amMidP 54 := ⟨⟨amIn0 1063 (by decide +kernel) (by decide +kernel), amIn0 175 (by decide +kernel) (by decide +kernel), by decide +kernel, ⟨by decide +kernel, by decide +kernel, by decide +kernel⟩, by decide +kernel, by decide +kernel⟩, by decide +kernel⟩
theorem amMid_55 : amMidP 55 := ⟨⟨amIn0 977 (by decide +kernel) (by decide +kernel), amIn0 175 (by decide +kernel) (by decide +kernel), by decide +kernel, ⟨by decide +kernel, by decide +kernel, by decide +kernel⟩, by decide +kernel, by decide +kernel⟩, by decide +kernel⟩
theorem amMid_56 : amMidP 56 := ⟨⟨amIn0 1075 (by decide +kernel) (by decide +kernel), amIn0 175 (by decide +kernel) (by decide +kernel), by decide +kernel, ⟨by decide +kernel, by decide +kernel, by decide +kernel⟩, by decide +kernel, by decide +kernel⟩, by decide +kernel⟩
theorem amMid_57 : amMidP 57 := ⟨⟨amIn0 981 (by decide +kernel) (by decide +kernel), amIn0 175 (by decide +kernel) (by decide +kernel), by decide +kernel, ⟨by decide +kernel, by decide +kernel, by decide +kernel⟩, by decide +kernel, by decide +kernel⟩, by decide +kernel⟩
theorem amMid_58 : amMidP 58 := ⟨⟨amIn0 986 (by decide +kernel) (by decide +kernel), amIn0 175 (by decide +kernel) (by decide +kernel), by decide +kernel, ⟨by decide +kernel, by decide +kernel, by decide +kernel⟩, by decide +kernel, by decide +kernel⟩, by decide +kernel⟩
theorem amMid_59 : amMidP 59 := ⟨⟨amIn0 1097 (by decide +kernel) (by decide +kernel), amIn0 175 (by decide +kernel) (by decide +kernel), by decide +kernel, ⟨by decide +kernel, by decide +kernel, by decide +kernel⟩, by decide +kernel, by decide +kernel⟩, by decide +kernel⟩
theorem amMid_60 : amMidP 60 := ⟨⟨amIn0 1092 (by decide +kernel) (by decide +kernel), amIn0 175 (by decide +kernel) (by decide +kernel), by decide +kernel, ⟨by decide +kernel, by decide +kernel, by decide +kernel⟩, by decide +kernel, by decide +kernel⟩, by decide +kernel⟩
theorem amMid_61 : amMidP 61 := ⟨⟨amIn0 1120 (by decide +kernel) (by decide +kernel), amIn0 175 (by decide +kernel) (by decide +kernel), by decide +kernel, ⟨by decide +kernel, by decide +kernel, by decide +kernel⟩, by decide +kernel, by decide +kernel⟩, by decide +kernel⟩
theorem amMid_62 : amMidP 62 := ⟨⟨amIn0 1396 (by decide +kernel) (by decide +kernel), amIn0 175 (by decide +kernel) (by decide +kernel), by decide +kernel, ⟨by decide +kernel, by decide +kernel, by decide +kernel⟩, by decide +kernel, by decide +kernel⟩, by decide +kernel⟩
theorem amMid_63 : amMidP 63 := ⟨⟨amIn0 641 (by decide +kernel) (by decide +kernel), amIn0 169 (by decide +kernel) (by decide +kernel), by decide +kernel, ⟨by decide +kernel, by decide +kernel, by decide +kernel⟩, by decide +kernel, by decide +kernel⟩, by decide +kernel⟩
theorem amMid_64 : amMidP 64 := ⟨⟨amIn0 645 (by decide +kernel) (by decide +kernel), amIn0 169 (by decide +kernel) (by decide +kernel), by decide +kernel, ⟨by decide +kernel, by decide +kernel, by decide +kernel⟩, by decide +kernel, by decide +kernel⟩, by decide +kernel⟩
theorem amMid_65 : amMidP 65 := ⟨⟨amIn0 653 (by decide +kernel) (by decide +kernel), amIn0 169 (by decide +kernel) (by decide +kernel), by decide +kernel, ⟨by decide +kernel, by decide +kernel, by decide +kernel⟩, by decide +kernel, by decide +kernel⟩, by decide +kernel⟩
theorem amMid_66 : amMidP 66 := ⟨⟨amIn0 904 (by decide +kernel) (by decide +kernel), amIn0 169 (by decide +kernel) (by decide +kernel), by decide +kernel, ⟨by decide +kernel, by decide +kernel, by decide +kernel⟩, by decide +kernel, by decide +kernel⟩, by decide +kernel⟩
theorem amMid_67 : amMidP 67 := ⟨⟨amIn0 822 (by decide +kernel) (by decide +kernel), amIn0 169 (by decide +kernel) (by decide +kernel), by decide +kernel, ⟨by decide +kernel, by decide +kernel, by decide +kernel⟩, by decide +kernel, by decide +kernel⟩, by decide +kernel⟩
theorem amMid_68 : amMidP 68 := ⟨⟨amIn0 847 (by decide +kernel) (by decide +kernel), amIn0 169 (by decide +kernel) (by decide +kernel), by decide +kernel, ⟨by decide +kernel, by decide +kernel, by decide +kernel⟩, by decide +kernel, by decide +kernel⟩, by decide +kernel⟩
theorem amMid_69 : amMidP 69 := ⟨⟨amIn0 912 (by decide +kernel) (by decide +kernel), amIn0 169 (by decide +kernel) (by decide +kernel), by decide +kernel, ⟨by decide +kernel, by decide +kernel, by decide +kernel⟩, by decide +kernel, by decide +kernel⟩, by decide +kernel⟩
theorem amMid_70 : amMidP 70 := ⟨⟨amIn0 665 (by decide +kernel) (by decide +kernel), amIn0 169 (by decide +kernel) (by decide +kernel), by decide +kernel, ⟨by decide +kernel, by decide +kernel, by decide +kernel⟩, by decide +kernel, by decide +kernel⟩, by decide +kernel⟩
theorem amMid_71 : amMidP 71 := ⟨⟨amIn0 669 (by decide +kernel) (by decide +kernel), amIn0 169 (by decide +kernel) (by decide +kernel), by decide +kernel, ⟨by decide +kernel, by decide +kernel, by decide +kernel⟩, by decide +kernel, by decide +kernel⟩, by decide +kernel⟩
theorem amMid_72 : amMidP 72 := ⟨⟨amIn0 680 (by decide +kernel) (by decide +kernel), amIn0 169 (by decide +kernel) (by decide +kernel), by decide +kernel, ⟨by decide +kernel, by decide +kernel, by decide +kernel⟩, by decide +kernel, by decide +kernel⟩, by decide +kernel⟩
theorem amMid_73 : amMidP 73 := ⟨⟨amIn0 690 (by decide +kernel) (by decide +kernel), amIn0 169 (by decide +kernel) (by decide +kernel), by decide +kernel, ⟨by decide +kernel, by decide +kernel, by decide +kernel⟩, by decide +kernel, by decide +kernel⟩, by decide +kernel⟩
theorem amMid_74 : amMidP 74 := ⟨⟨amIn0 694 (by decide +kernel) (by decide +kernel), amIn0 169 (by decide +kernel) (by decide +kernel), by decide +kernel, ⟨by decide +kernel, by decide +kernel, by decide +kernel⟩, by decide +kernel, by decide +kernel⟩, by decide +kernel⟩
theorem amMid_75 : amMidP 75 := ⟨⟨amIn0 698 (by decide +kernel) (by decide +kernel), amIn0 169 (by decide +kernel) (by decide +kernel), by decide +kernel, ⟨by decide +kernel, by decide +kernel, by decide +kernel⟩, by decide +kernel, by decide +kernel⟩, by decide +kernel⟩
theorem amMid_76 : amMidP 76 := ⟨⟨amIn0 814 (by decide +kernel) (by decide +kernel), amIn0 169 (by decide +kernel) (by decide +kernel), by decide +kernel, ⟨by decide +kernel, by decide +kernel, by decide +kernel⟩, by decide +kernel, by decide +kernel⟩, by decide +kernel⟩
theorem amMid_77 : amMidP 77 := ⟨⟨amIn0 673 (by decide +kernel) (by decide +kernel), amIn0 169 (by decide +kernel) (by decide +kernel), by decide +kernel, ⟨by decide +kernel, by decide +kernel, by decide +kernel⟩, by decide +kernel, by decide +kernel⟩, by decide +kernel⟩
theorem amMid_78 : amMidP 78 := ⟨⟨amIn0 676 (by decide +kernel) (by decide +kernel), amIn0 169 (by decide +kernel) (by decide +kernel), by decide +kernel, ⟨by decide +kernel, by decide +kernel, by decide +kernel⟩, by decide +kernel, by decide +kernel⟩, by decide +kernel⟩
theorem amMid_79 : amMidP 79 := ⟨⟨amIn0 683 (by decide +kernel) (by decide +kernel), amIn0 169 (by decide +kernel) (by decide +kernel), by decide +kernel, ⟨by decide +kernel, by decide +kernel, by decide +kernel⟩, by decide +kernel, by decide +kernel⟩, by decide +kernel⟩
theorem amMid_80 : amMidP 80 := ⟨⟨amIn0 686 (by decide +kernel) (by decide +kernel), amIn0 169 (by decide +kernel) (by decide +kernel), by decide +kernel, ⟨by decide +kernel, by decide +kernel, by decide +kernel⟩, by decide +kernel, by decide +kernel⟩, by decide +kernel⟩
theorem amMid_81 : amMidP 81 := ⟨⟨amIn0 826 (by decide +kernel) (by decide +kernel), amIn0 170 (by decide +kernel) (by decide +kernel), by decide +kernel, ⟨by decide +kernel, by decide +kernel, by decide +kernel⟩, by decide +kernel, by decide +kernel⟩, by decide +kernel⟩
theorem amMid_82 : amMidP 82 := ⟨⟨amIn0 923 (by decide +kernel) (by decide +kernel), amIn0 170 (by decide +kernel) (by decide +kernel), by decide +kernel, ⟨by decide +kernel, by decide +kernel, by decide +kernel⟩, by decide +kernel, by decide +kernel⟩, by decide +kernel⟩
theorem amMid_83 : amMidP 83 := ⟨⟨amIn0 999 (by decide +kernel) (by decide +kernel), amIn0 170 (by decide +kernel) (by decide +kernel), by decide +kernel, ⟨by decide +kernel, by decide +kernel, by decide +kernel⟩, by decide +kernel, by decide +kernel⟩, by decide +kernel⟩
theorem amMid_84 : amMidP 84 := ⟨⟨amIn0 1016 (by decide +kernel) (by decide +kernel), amIn0 170 (by decide +kernel) (by decide +kernel), by decide +kernel, ⟨by decide +kernel, by decide +kernel, by decide +kernel⟩, by decide +kernel, by decide +kernel⟩, by decide +kernel⟩
theorem amMid_85 : amMidP 85 := ⟨⟨amIn0 953 (by decide +kernel) (by decide +kernel), amIn0 179 (by decide +kernel) (by decide +kernel), by decide +kernel, ⟨by decide +kernel, by decide +kernel, by decide +kernel⟩, by decide +kernel, by decide +kernel⟩, by decide +kernel⟩
theorem amMid_86 : amMidP 86 := ⟨⟨amIn0 1308 (by decide +kernel) (by decide +kernel), amIn0 179 (by decide +kernel) (by decide +kernel), by decide +kernel, ⟨by decide +kernel, by decide +kernel, by decide +kernel⟩, by decide +kernel, by decide +kernel⟩, by decide +kernel⟩
theorem amMid_87 : amMidP 87 := ⟨⟨amIn0 1321 (by decide +kernel) (by decide +kernel), amIn0 179 (by decide +kernel) (by decide +kernel), by decide +kernel, ⟨by decide +kernel, by decide +kernel, by decide +kernel⟩, by decide +kernel, by decide +kernel⟩, by decide +kernel⟩
theorem amMid_88 : amMidP 88 := ⟨⟨amIn0 1350 (by decide +kernel) (by decide +kernel), amIn0 179 (by decide +kernel) (by decide +kernel), by decide +kernel, ⟨by decide +kernel, by decide +kernel, by decide +kernel⟩, by decide +kernel, by decide +kernel⟩, by decide +kernel⟩
theorem amMid_89 : amMidP 89 := ⟨⟨amIn0 1362 (by decide +kernel) (by decide +kernel), amIn0 179 (by decide +kernel) (by decide +kernel), by decide +kernel, ⟨by decide +kernel, by decide +kernel, by decide +kernel⟩, by decide +kernel, by decide +kernel⟩, by decide +kernel⟩
theorem amMid_90 : amMidP 90 := ⟨⟨amIn0 1374 (by decide +kernel) (by decide +kernel), amIn0 179 (by decide +kernel) (by decide +kernel), by decide +kernel, ⟨by decide +kernel, by decide +kernel, by decide +kernel⟩, by decide +kernel, by decide +kernel⟩, by decide +kernel⟩
theorem amMid_91 : amMidP 91 := ⟨⟨amIn0 1370 (by decide +kernel) (by decide +kernel), amIn0 179 (by decide +kernel) (by decide +kernel), by decide +kernel, ⟨by decide +kernel, by decide +kernel, by decide +kernel⟩, by decide +kernel, by decide +kernel⟩, by decide +kernel⟩
theorem amMid_92 : amMidP 92 := ⟨⟨amIn0 1335 (by decide +kernel) (by decide +kernel), amIn0 179 (by decide +kernel) (by decide +kernel), by decide +kernel, ⟨by decide +kernel, by decide +kernel, by decide +kernel⟩, by decide +kernel, by decide +kernel⟩, by decide +kernel⟩
theorem amMid_93 : amMidP 93 := ⟨⟨amIn0 1354 (by decide +kernel) (by decide +kernel), amIn0 179 (by decide +kernel) (by decide +kernel), by decide +kernel, ⟨by decide +kernel, by decide +kernel, by decide +kernel⟩, by decide +kernel, by decide +kernel⟩, by decide +kernel⟩
theorem amMid_94 : amMidP 94 := ⟨⟨amIn0 1325 (by decide +kernel) (by decide +kernel), amIn0 179 (by decide +kernel) (by decide +kernel), by decide +kernel, ⟨by decide +kernel, by decide +kernel, by decide +kernel⟩, by decide +kernel, by decide +kernel⟩, by decide +kernel⟩
theorem amMid_95 : amMidP 95 := ⟨⟨amIn0 1330 (by decide +kernel) (by decide +kernel), amIn0 179 (by decide +kernel) (by decide +kernel), by decide +kernel, ⟨by decide +kernel, by decide +kernel, by decide +kernel⟩, by decide +kernel, by decide +kernel⟩, by decide +kernel⟩
theorem amMid_96 : amMidP 96 := ⟨⟨amIn0 1343 (by decide +kernel) (by decide +kernel), amIn0 179 (by decide +kernel) (by decide +kernel), by decide +kernel, ⟨by decide +kernel, by decide +kernel, by decide +kernel⟩, by decide +kernel, by decide +kernel⟩, by decide +kernel⟩
theorem amMid_97 : amMidP 97 := ⟨⟨amIn0 1007 (by decide +kernel) (by decide +kernel), amIn0 173 (by decide +kernel) (by decide +kernel), by decide +kernel, ⟨by decide +kernel, by decide +kernel, by decide +kernel⟩, by decide +kernel, by decide +kernel⟩, by decide +kernel⟩
theorem amMid_98 : amMidP 98 := ⟨⟨amIn0 1012 (by decide +kernel) (by decide +kernel), amIn0 173 (by decide +kernel) (by decide +kernel), by decide +kernel, ⟨by decide +kernel, by decide +kernel, by decide +kernel⟩, by decide +kernel, by decide +kernel⟩, by decide +kernel⟩
theorem amMid_99 : amMidP 99 := ⟨⟨amIn0 1058 (by decide +kernel) (by decide +kernel), amIn0 173 (by decide +kernel) (by decide +kernel), by decide +kernel, ⟨by decide +kernel, by decide +kernel, by decide +kernel⟩, by decide +kernel, by decide +kernel⟩, by decide +kernel⟩
theorem amMid_100 : amMidP 100 := ⟨⟨amIn0 1295 (by decide +kernel) (by decide +kernel), amIn0 173 (by decide +kernel) (by decide +kernel), by decide +kernel, ⟨by decide +kernel, by decide +kernel, by decide +kernel⟩, by decide +kernel, by decide +kernel⟩, by decide +kernel⟩
theorem amMid_101 : amMidP 101 := ⟨⟨amIn0 1067 (by decide +kernel) (by decide +kernel), amIn0 173 (by decide +kernel) (by decide +kernel), by decide +kernel, ⟨by decide +kernel, by decide +kernel, by decide +kernel⟩, by decide +kernel, by decide +kernel⟩, by decide +kernel⟩
theorem amMid_102 : amMidP 102 := ⟨⟨amIn0 1071 (by decide +kernel) (by decide +kernel), amIn0 173 (by decide +kernel) (by decide +kernel), by decide +kernel, ⟨by decide +kernel, by decide +kernel, by decide +kernel⟩, by decide +kernel, by decide +kernel⟩, by decide +kernel⟩
theorem amMid_103 : amMidP 103 := ⟨⟨amIn0 1082 (by decide +kernel) (by decide +kernel), amIn0 173 (by decide +kernel) (by decide +kernel), by decide +kernel, ⟨by decide +kernel, by decide +kernel, by decide +kernel⟩, by decide +kernel, by decide +kernel⟩, by decide +kernel⟩
theorem amMid_104 : amMidP 104 := ⟨⟨amIn0 1202 (by decide +kernel) (by decide +kernel), amIn0 173 (by decide +kernel) (by decide +kernel), by decide +kernel, ⟨by decide +kernel, by decide +kernel, by decide +kernel⟩, by decide +kernel, by decide +kernel⟩, by decide +kernel⟩
theorem amMid_105 : amMidP 105 := ⟨⟨amIn0 1086 (by decide +kernel) (by decide +kernel), amIn0 173 (by decide +kernel) (by decide +kernel), by decide +kernel, ⟨by decide +kernel, by decide +kernel, by decide +kernel⟩, by decide +kernel, by decide +kernel⟩, by decide +kernel⟩
theorem amMid_106 : amMidP 106 := ⟨⟨amIn0 1021 (by decide +kernel) (by decide +kernel), amIn0 173 (by decide +kernel) (by decide +kernel), by decide +kernel, ⟨by decide +kernel, by decide +kernel, by decide +kernel⟩, by decide +kernel, by decide +kernel⟩, by decide +kernel⟩
theorem amMid_107 : amMidP 107 := ⟨⟨amIn0 637 (by decide +kernel) (by decide +kernel), amIn0 168 (by decide +kernel) (by decide +kernel), by decide +kernel, ⟨by decide +kernel, by decide +kernel, by decide +kernel⟩, by decide +kernel, by decide +kernel⟩, by decide +kernel⟩
theorem amMid_108 : amMidP 108 := ⟨⟨amIn0 649 (by decide +kernel) (by decide +kernel), amIn0 168 (by decide +kernel) (by decide +kernel), by decide +kernel, ⟨by decide +kernel, by decide +kernel, by decide +kernel⟩, by decide +kernel, by decide +kernel⟩, by decide +kernel⟩
theorem amMid_109 : amMidP 109 := ⟨⟨amIn0 657 (by decide +kernel) (by decide +kernel), amIn0 168 (by decide +kernel) (by decide +kernel), by decide +kernel, ⟨by decide +kernel, by decide +kernel, by decide +kernel⟩, by decide +kernel, by decide +kernel⟩, by decide +kernel⟩
theorem amMid_110 : amMidP 110 := ⟨⟨amIn0 969 (by decide +kernel) (by decide +kernel), amIn0 168 (by decide +kernel) (by decide +kernel), by decide +kernel, ⟨by decide +kernel, by decide +kernel, by decide +kernel⟩, by decide +kernel, by decide +kernel⟩, by decide +kernel⟩
theorem amMid_111 : amMidP 111 := ⟨⟨amIn0 973 (by decide +kernel) (by decide +kernel), amIn0 168 (by decide +kernel) (by decide +kernel), by decide +kernel, ⟨by decide +kernel, by decide +kernel, by decide +kernel⟩, by decide +kernel, by decide +kernel⟩, by decide +kernel⟩
theorem amMid_112 : amMidP 112 := ⟨⟨amIn0 995 (by decide +kernel) (by decide +kernel), amIn0 168 (by decide +kernel) (by decide +kernel), by decide +kernel, ⟨by decide +kernel, by decide +kernel, by decide +kernel⟩, by decide +kernel, by decide +kernel⟩, by decide +kernel⟩
theorem amMid_113 : amMidP 113 := ⟨⟨amIn0 1003 (by decide +kernel) (by decide +kernel), amIn0 168 (by decide +kernel) (by decide +kernel), by decide +kernel, ⟨by decide +kernel, by decide +kernel, by decide +kernel⟩, by decide +kernel, by decide +kernel⟩, by decide +kernel⟩
theorem amMid_114 : amMidP 114 := ⟨⟨amIn0 1036 (by decide +kernel) (by decide +kernel), amIn0 168 (by decide +kernel) (by decide +kernel), by decide +kernel, ⟨by decide +kernel, by decide +kernel, by decide +kernel⟩, by decide +kernel, by decide +kernel⟩, by decide +kernel⟩
theorem amMid_115 : amMidP 115 := ⟨⟨amIn0 1106 (by decide +kernel) (by decide +kernel), amIn0 168 (by decide +kernel) (by decide +kernel), by decide +kernel, ⟨by decide +kernel, by decide +kernel, by decide +kernel⟩, by decide +kernel, by decide +kernel⟩, by decide +kernel⟩
theorem amMid_116 : amMidP 116 := ⟨⟨amIn0 1111 (by decide +kernel) (by decide +kernel), amIn0 168 (by decide +kernel) (by decide +kernel), by decide +kernel, ⟨by decide +kernel, by decide +kernel, by decide +kernel⟩, by decide +kernel, by decide +kernel⟩, by decide +kernel⟩
theorem amMid_117 : amMidP 117 := ⟨⟨amIn0 1127 (by decide +kernel) (by decide +kernel), amIn0 168 (by decide +kernel) (by decide +kernel), by decide +kernel, ⟨by decide +kernel, by decide +kernel, by decide +kernel⟩, by decide +kernel, by decide +kernel⟩, by decide +kernel⟩
theorem amMid_118 : amMidP 118 := ⟨⟨amIn0 1132 (by decide +kernel) (by decide +kernel), amIn0 168 (by decide +kernel) (by decide +kernel), by decide +kernel, ⟨by decide +kernel, by decide +kernel, by decide +kernel⟩, by decide +kernel, by decide +kernel⟩, by decide +kernel⟩
theorem amMid_119 : amMidP 119 := ⟨⟨amIn0 1140 (by decide +kernel) (by decide +kernel), amIn0 168 (by decide +kernel) (by decide +kernel), by decide +kernel, ⟨by decide +kernel, by decide +kernel, by decide +kernel⟩, by decide +kernel, by decide +kernel⟩, by decide +kernel⟩
theorem amMid_120 : amMidP 120 := ⟨⟨amIn0 1174 (by decide +kernel) (by decide +kernel), amIn0 168 (by decide +kernel) (by decide +kernel), by decide +kernel, ⟨by decide +kernel, by decide +kernel, by decide +kernel⟩, by decide +kernel, by decide +kernel⟩, by decide +kernel⟩
theorem amMid_121 : amMidP 121 := ⟨⟨amIn0 1178 (by decide +kernel) (by decide +kernel), amIn0 168 (by decide +kernel) (by decide +kernel), by decide +kernel, ⟨by decide +kernel, by decide +kernel, by decide +kernel⟩, by decide +kernel, by decide +kernel⟩, by decide +kernel⟩
theorem amMidC_25 : ∀ a, a < 25 → amMidP a := lt_s (lt_s (lt_s (lt_s (lt_s (lt_s (lt_s (lt_s (lt_s (lt_s (lt_s (lt_s (lt_s (lt_s (lt_s (lt_s (lt_s (lt_s (lt_s (lt_s (lt_s (lt_s (lt_s (lt_s (lt_s (lt_0) amMid_0) amMid_1) amMid_2) amMid_3) amMid_4) amMid_5) amMid_6) amMid_7) amMid_8) amMid_9) amMid_10) amMid_11) amMid_12) amMid_13) amMid_14) amMid_15) amMid_16) amMid_17) amMid_18) amMid_19) amMid_20) amMid_21) amMid_22) amMid_23) amMid_24
theorem amMidC_50 : ∀ a, a < 50 → amMidP a := lt_s (lt_s (lt_s (lt_s (lt_s (lt_s (lt_s (lt_s (lt_s (lt_s (lt_s (lt_s (lt_s (lt_s (lt_s (lt_s (lt_s (lt_s (lt_s (lt_s (lt_s (lt_s (lt_s (lt_s (lt_s (amMidC_25) amMid_25) amMid_26) amMid_27) amMid_28) amMid_29) amMid_30) amMid_31) amMid_32) amMid_33) amMid_34) amMid_35) amMid_36) amMid_37) amMid_38) amMid_39) amMid_40) amMid_41) amMid_42) amMid_43) amMid_44) amMid_45) amMid_46) amMid_47) amMid_48) amMid_49
theorem amMidC_75 : ∀ a, a < 75 → amMidP a := lt_s (lt_s (lt_s (lt_s (lt_s (lt_s (lt_s (lt_s (lt_s (lt_s (lt_s (lt_s (lt_s (lt_s (lt_s (lt_s (lt_s (lt_s (lt_s (lt_s (lt_s (lt_s (lt_s (lt_s (lt_s (amMidC_50) amMid_50) amMid_51) amMid_52) amMid_53) amMid_54) amMid_55) amMid_56) amMid_57) amMid_58) amMid_59) amMid_60) amMid_61) amMid_62) amMid_63) amMid_64) amMid_65) amMid_66) amMid_67) amMid_68) amMid_69) amMid_70) amMid_71) amMid_72) amMid_73) amMid_74
theorem amMidC_100 : ∀ a, a < 100 → amMidP a := lt_s (lt_s (lt_s (lt_s (lt_s (lt_s (lt_s (lt_s (lt_s (lt_s (lt_s (lt_s (lt_s (lt_s (lt_s (lt_s (lt_s (lt_s (lt_s (lt_s (lt_s (lt_s (lt_s (lt_s (lt_s (amMidC_75) amMid_75) amMid_76) amMid_77) amMid_78) amMid_79) amMid_80) amMid_81) amMid_82) amMid_83) amMid_84) amMid_85) amMid_86) amMid_87) amMid_88) amMid_89) amMid_90) amMid_91) amMid_92) amMid_93) amMid_94) amMid_95) amMid_96) amMid_97) amMid_98) amMid_99
theorem amMidC_122 : ∀ a, a < 122 → amMidP a := lt_s (lt_s (lt_s (lt_s (lt_s (lt_s (lt_s (lt_s (lt_s (lt_s (lt_s (lt_s (lt_s (lt_s (lt_s (lt_s (lt_s (lt_s (lt_s (lt_s (lt_s (lt_s (amMidC_100) amMid_100) amMid_101) amMid_102) amMid_103) amMid_104) amMid_105) amMid_106) amMid_107) amMid_108) amMid_109) amMid_110) amMid_111) amMid_112) amMid_113) amMid_114) amMid_115) amMid_116) amMid_117) amMid_118) amMid_119) amMid_120) amMid_121
end
section
theorem amMid_122 : amMidP 122 := ⟨⟨amIn0 1207 (by decide +kernel) (by decide +kernel), amIn0 168 (by decide +kernel) (by decide +kernel), by decide +kernel, ⟨by decide +kernel, by decide +kernel, by decide +kernel⟩, by decide +kernel, by decide +kernel⟩, by decide +kernel⟩
theorem amMid_123 : amMidP 123 := ⟨⟨amIn0 1222 (by decide +kernel) (by decide +kernel), amIn0 168 (by decide +kernel) (by decide +kernel), by decide +kernel, ⟨by decide +kernel, by decide +kernel, by decide +kernel⟩, by decide +kernel, by decide +kernel⟩, by decide +kernel⟩
theorem amMid_124 : amMidP 124 := ⟨⟨amIn0 1238 (by decide +kernel) (by decide +kernel), amIn0 168 (by decide +kernel) (by decide +kernel), by decide +kernel, ⟨by decide +kernel, by decide +kernel, by decide +kernel⟩, by decide +kernel, by decide +kernel⟩, by decide +kernel⟩
theorem amMid_125 : amMidP 125 := ⟨⟨amIn0 1260 (by decide +kernel) (by decide +kernel), amIn0 168 (by decide +kernel) (by decide +kernel), by decide +kernel, ⟨by decide +kernel, by decide +kernel, by decide +kernel⟩, by decide +kernel, by decide +kernel⟩, by decide +kernel⟩
theorem amMid_126 : amMidP 126 := ⟨⟨amIn0 1281 (by decide +kernel) (by decide +kernel), amIn0 168 (by decide +kernel) (by decide +kernel), by decide +kernel, ⟨by decide +kernel, by decide +kernel, by decide +kernel⟩, by decide +kernel, by decide +kernel⟩, by decide +kernel⟩
theorem amMid_127 : amMidP 127 := ⟨⟨amIn0 1299 (by decide +kernel) (by decide +kernel), amIn0 168 (by decide +kernel) (by decide +kernel), by decide +kernel, ⟨by decide +kernel, by decide +kernel, by decide +kernel⟩, by decide +kernel, by decide +kernel⟩, by decide +kernel⟩
theorem amMid_128 : amMidP 128 := ⟨⟨amIn0 1304 (by decide +kernel) (by decide +kernel), amIn0 168 (by decide +kernel) (by decide +kernel), by decide +kernel, ⟨by decide +kernel, by decide +kernel, by decide +kernel⟩, by decide +kernel, by decide +kernel⟩, by decide +kernel⟩
theorem amMid_129 : amMidP 129 := ⟨⟨amIn0 1313 (by decide +kernel) (by decide +kernel), amIn0 168 (by decide +kernel) (by decide +kernel), by decide +kernel, ⟨by decide +kernel, by decide +kernel, by decide +kernel⟩, by decide +kernel, by decide +kernel⟩, by decide +kernel⟩
theorem amMid_130 : amMidP 130 := ⟨⟨amIn0 1317 (by decide +kernel) (by decide +kernel), amIn0 168 (by decide +kernel) (by decide +kernel), by decide +kernel, ⟨by decide +kernel, by decide +kernel, by decide +kernel⟩, by decide +kernel, by decide +kernel⟩, by decide +kernel⟩
theorem amMid_131 : amMidP 131 := ⟨⟨amIn0 1358 (by decide +kernel) (by decide +kernel), amIn0 168 (by decide +kernel) (by decide +kernel), by decide +kernel, ⟨by decide +kernel, by decide +kernel, by decide +kernel⟩, by decide +kernel, by decide +kernel⟩, by decide +kernel⟩
theorem amMid_132 : amMidP 132 := ⟨⟨amIn0 1366 (by decide +kernel) (by decide +kernel), amIn0 168 (by decide +kernel) (by decide +kernel), by decide +kernel, ⟨by decide +kernel, by decide +kernel, by decide +kernel⟩, by decide +kernel, by decide +kernel⟩, by decide +kernel⟩
theorem amMid_133 : amMidP 133 := ⟨⟨amIn0 1379 (by decide +kernel) (by decide +kernel), amIn0 168 (by decide +kernel) (by decide +kernel), by decide +kernel, ⟨by decide +kernel, by decide +kernel, by decide +kernel⟩, by decide +kernel, by decide +kernel⟩, by decide +kernel⟩
theorem amMid_134 : amMidP 134 := ⟨⟨amIn0 1383 (by decide +kernel) (by decide +kernel), amIn0 168 (by decide +kernel) (by decide +kernel), by decide +kernel, ⟨by decide +kernel, by decide +kernel, by decide +kernel⟩, by decide +kernel, by decide +kernel⟩, by decide +kernel⟩
theorem amMid_135 : amMidP 135 := ⟨⟨amIn0 1387 (by decide +kernel) (by decide +kernel), amIn0 168 (by decide +kernel) (by decide +kernel), by decide +kernel, ⟨by decide +kernel, by decide +kernel, by decide +kernel⟩, by decide +kernel, by decide +kernel⟩, by decide +kernel⟩
theorem amMid_136 : amMidP 136 := ⟨⟨amIn0 919 (by decide +kernel) (by decide +kernel), amIn0 168 (by decide +kernel) (by decide +kernel), by decide +kernel, ⟨by decide +kernel, by decide +kernel, by decide +kernel⟩, by decide +kernel, by decide +kernel⟩, by decide +kernel⟩
theorem amMid_137 : amMidP 137 := ⟨⟨amIn0 1045 (by decide +kernel) (by decide +kernel), amIn0 168 (by decide +kernel) (by decide +kernel), by decide +kernel, ⟨by decide +kernel, by decide +kernel, by decide +kernel⟩, by decide +kernel, by decide +kernel⟩, by decide +kernel⟩
theorem amMid_138 : amMidP 138 := ⟨⟨amIn0 1136 (by decide +kernel) (by decide +kernel), amIn0 168 (by decide +kernel) (by decide +kernel), by decide +kernel, ⟨by decide +kernel, by decide +kernel, by decide +kernel⟩, by decide +kernel, by decide +kernel⟩, by decide +kernel⟩
theorem amMid_139 : amMidP 139 := ⟨⟨amIn0 957 (by decide +kernel) (by decide +kernel), amIn0 168 (by decide +kernel) (by decide +kernel), by decide +kernel, ⟨by decide +kernel, by decide +kernel, by decide +kernel⟩, by decide +kernel, by decide +kernel⟩, by decide +kernel⟩
theorem amMid_140 : amMidP 140 := ⟨⟨amIn0 1144 (by decide +kernel) (by decide +kernel), amIn0 168 (by decide +kernel) (by decide +kernel), by decide +kernel, ⟨by decide +kernel, by decide +kernel, by decide +kernel⟩, by decide +kernel, by decide +kernel⟩, by decide +kernel⟩
theorem amMid_141 : amMidP 141 := ⟨⟨amIn0 1392 (by decide +kernel) (by decide +kernel), amIn0 168 (by decide +kernel) (by decide +kernel), by decide +kernel, ⟨by decide +kernel, by decide +kernel, by decide +kernel⟩, by decide +kernel, by decide +kernel⟩, by decide +kernel⟩
theorem amMid_142 : amMidP 142 := ⟨⟨amIn0 915 (by decide +kernel) (by decide +kernel), amIn0 168 (by decide +kernel) (by decide +kernel), by decide +kernel, ⟨by decide +kernel, by decide +kernel, by decide +kernel⟩, by decide +kernel, by decide +kernel⟩, by decide +kernel⟩
theorem amMid_143 : amMidP 143 := ⟨⟨amIn0 810 (by decide +kernel) (by decide +kernel), amIn0 168 (by decide +kernel) (by decide +kernel), by decide +kernel, ⟨by decide +kernel, by decide +kernel, by decide +kernel⟩, by decide +kernel, by decide +kernel⟩, by decide +kernel⟩
theorem amMid_144 : amMidP 144 := ⟨⟨amIn0 926 (by decide +kernel) (by decide +kernel), amIn0 168 (by decide +kernel) (by decide +kernel), by decide +kernel, ⟨by decide +kernel, by decide +kernel, by decide +kernel⟩, by decide +kernel, by decide +kernel⟩, by decide +kernel⟩
theorem amMid_145 : amMidP 145 := ⟨⟨amIn0 947 (by decide +kernel) (by decide +kernel), amIn0 168 (by decide +kernel) (by decide +kernel), by decide +kernel, ⟨by decide +kernel, by decide +kernel, by decide +kernel⟩, by decide +kernel, by decide +kernel⟩, by decide +kernel⟩
theorem amMid_146 : amMidP 146 := ⟨⟨amIn0 1169 (by decide +kernel) (by decide +kernel), amIn0 168 (by decide +kernel) (by decide +kernel), by decide +kernel, ⟨by decide +kernel, by decide +kernel, by decide +kernel⟩, by decide +kernel, by decide +kernel⟩, by decide +kernel⟩
theorem amMid_147 : amMidP 147 := ⟨⟨amIn0 1629 (by decide +kernel) (by decide +kernel), amIn0 180 (by decide +kernel) (by decide +kernel), by decide +kernel, ⟨by decide +kernel, by decide +kernel, by decide +kernel⟩, by decide +kernel, by decide +kernel⟩, by decide +kernel⟩
theorem amMid_148 : amMidP 148 := ⟨⟨amIn0 1633 (by decide +kernel) (by decide +kernel), amIn0 180 (by decide +kernel) (by decide +kernel), by decide +kernel, ⟨by decide +kernel, by decide +kernel, by decide +kernel⟩, by decide +kernel, by decide +kernel⟩, by decide +kernel⟩
theorem amMid_149 : amMidP 149 := ⟨⟨amIn0 1637 (by decide +kernel) (by decide +kernel), amIn0 180 (by decide +kernel) (by decide +kernel), by decide +kernel, ⟨by decide +kernel, by decide +kernel, by decide +kernel⟩, by decide +kernel, by decide +kernel⟩, by decide +kernel⟩
theorem amMid_150 : amMidP 150 := ⟨⟨amIn0 1649 (by decide +kernel) (by decide +kernel), amIn0 180 (by decide +kernel) (by decide +kernel), by decide +kernel, ⟨by decide +kernel, by decide +kernel, by decide +kernel⟩, by decide +kernel, by decide +kernel⟩, by decide +kernel⟩
theorem amMid_151 : amMidP 151 := ⟨⟨amIn0 1659 (by decide +kernel) (by decide +kernel), amIn0 180 (by decide +kernel) (by decide +kernel), by decide +kernel, ⟨by decide +kernel, by decide +kernel, by decide +kernel⟩, by decide +kernel, by decide +kernel⟩, by decide +kernel⟩
theorem amMid_152 : amMidP 152 := ⟨⟨amIn0 1656 (by decide +kernel) (by decide +kernel), amIn0 180 (by decide +kernel) (by decide +kernel), by decide +kernel, ⟨by decide +kernel, by decide +kernel, by decide +kernel⟩, by decide +kernel, by decide +kernel⟩, by decide +kernel⟩
theorem amMid_153 : amMidP 153 := ⟨⟨amIn0 1408 (by decide +kernel) (by decide +kernel), amIn0 180 (by decide +kernel) (by decide +kernel), by decide +kernel, ⟨by decide +kernel, by decide +kernel, by decide +kernel⟩, by decide +kernel, by decide +kernel⟩, by decide +kernel⟩
theorem amMid_154 : amMidP 154 := ⟨⟨amIn0 1405 (by decide +kernel) (by decide +kernel), amIn0 180 (by decide +kernel) (by decide +kernel), by decide +kernel, ⟨by decide +kernel, by decide +kernel, by decide +kernel⟩, by decide +kernel, by decide +kernel⟩, by decide +kernel⟩
theorem amMid_155 : amMidP 155 := ⟨⟨amIn0 1653 (by decide +kernel) (by decide +kernel), amIn0 180 (by decide +kernel) (by decide +kernel), by decide +kernel, ⟨by decide +kernel, by decide +kernel, by decide +kernel⟩, by decide +kernel, by decide +kernel⟩, by decide +kernel⟩
theorem amMid_156 : amMidP 156 := ⟨⟨amIn0 1645 (by decide +kernel) (by decide +kernel), amIn0 180 (by decide +kernel) (by decide +kernel), by decide +kernel, ⟨by decide +kernel, by decide +kernel, by decide +kernel⟩, by decide +kernel, by decide +kernel⟩, by decide +kernel⟩
theorem amMid_157 : amMidP 157 := ⟨⟨amIn0 1663 (by decide +kernel) (by decide +kernel), amIn0 180 (by decide +kernel) (by decide +kernel), by decide +kernel, ⟨by decide +kernel, by decide +kernel, by decide +kernel⟩, by decide +kernel, by decide +kernel⟩, by decide +kernel⟩
theorem amMid_158 : amMidP 158 := ⟨⟨amIn0 1667 (by decide +kernel) (by decide +kernel), amIn0 180 (by decide +kernel) (by decide +kernel), by decide +kernel, ⟨by decide +kernel, by decide +kernel, by decide +kernel⟩, by decide +kernel, by decide +kernel⟩, by decide +kernel⟩
theorem amMid_159 : amMidP 159 := ⟨⟨amIn0 1679 (by decide +kernel) (by decide +kernel), amIn0 180 (by decide +kernel) (by decide +kernel), by decide +kernel, ⟨by decide +kernel, by decide +kernel, by decide +kernel⟩, by decide +kernel, by decide +kernel⟩, by decide +kernel⟩
theorem amMid_160 : amMidP 160 := ⟨⟨amIn0 1691 (by decide +kernel) (by decide +kernel), amIn0 180 (by decide +kernel) (by decide +kernel), by decide +kernel, ⟨by decide +kernel, by decide +kernel, by decide +kernel⟩, by decide +kernel, by decide +kernel⟩, by decide +kernel⟩
theorem amMid_161 : amMidP 161 := ⟨⟨amIn0 1675 (by decide +kernel) (by decide +kernel), amIn0 180 (by decide +kernel) (by decide +kernel), by decide +kernel, ⟨by decide +kernel, by decide +kernel, by decide +kernel⟩, by decide +kernel, by decide +kernel⟩, by decide +kernel⟩
theorem amMid_162 : amMidP 162 := ⟨⟨amIn0 1695 (by decide +kernel) (by decide +kernel), amIn0 180 (by decide +kernel) (by decide +kernel), by decide +kernel, ⟨by decide +kernel, by decide +kernel, by decide +kernel⟩, by decide +kernel, by decide +kernel⟩, by decide +kernel⟩
theorem amMid_163 : amMidP 163 := ⟨⟨amIn0 1641 (by decide +kernel) (by decide +kernel), amIn0 180 (by decide +kernel) (by decide +kernel), by decide +kernel, ⟨by decide +kernel, by decide +kernel, by decide +kernel⟩, by decide +kernel, by decide +kernel⟩, by decide +kernel⟩
theorem amMid_164 : amMidP 164 := ⟨⟨amIn0 1743 (by decide +kernel) (by decide +kernel), amIn0 180 (by decide +kernel) (by decide +kernel), by decide +kernel, ⟨by decide +kernel, by decide +kernel, by decide +kernel⟩, by decide +kernel, by decide +kernel⟩, by decide +kernel⟩
theorem amMid_165 : amMidP 165 := ⟨⟨amIn0 1703 (by decide +kernel) (by decide +kernel), amIn0 180 (by decide +kernel) (by decide +kernel), by decide +kernel, ⟨by decide +kernel, by decide +kernel, by decide +kernel⟩, by decide +kernel, by decide +kernel⟩, by decide +kernel⟩
theorem amMid_166 : amMidP 166 := ⟨⟨amIn0 1671 (by decide +kernel) (by decide +kernel), amIn0 180 (by decide +kernel) (by decide +kernel), by decide +kernel, ⟨by decide +kernel, by decide +kernel, by decide +kernel⟩, by decide +kernel, by decide +kernel⟩, by decide +kernel⟩
theorem amMid_167 : amMidP 167 := ⟨⟨amIn0 1687 (by decide +kernel) (by decide +kernel), amIn0 180 (by decide +kernel) (by decide +kernel), by decide +kernel, ⟨by decide +kernel, by decide +kernel, by decide +kernel⟩, by decide +kernel, by decide +kernel⟩, by decide +kernel⟩
theorem amMid_168 : amMidP 168 := ⟨⟨amIn0 1683 (by decide +kernel) (by decide +kernel), amIn0 180 (by decide +kernel) (by decide +kernel), by decide +kernel, ⟨by decide +kernel, by decide +kernel, by decide +kernel⟩, by decide +kernel, by decide +kernel⟩, by decide +kernel⟩
theorem amMid_169 : amMidP 169 := ⟨⟨amIn0 1699 (by decide +kernel) (by decide +kernel), amIn0 180 (by decide +kernel) (by decide +kernel), by decide +kernel, ⟨by decide +kernel, by decide +kernel, by decide +kernel⟩, by decide +kernel, by decide +kernel⟩, by decide +kernel⟩
theorem amMid_170 : amMidP 170 := ⟨⟨amIn0 1711 (by decide +kernel) (by decide +kernel), amIn0 180 (by decide +kernel) (by decide +kernel), by decide +kernel, ⟨by decide +kernel, by decide +kernel, by decide +kernel⟩, by decide +kernel, by decide +kernel⟩, by decide +kernel⟩
theorem amMid_171 : amMidP 171 := ⟨⟨amIn0 1707 (by decide +kernel) (by decide +kernel), amIn0 180 (by decide +kernel) (by decide +kernel), by decide +kernel, ⟨by decide +kernel, by decide +kernel, by decide +kernel⟩, by decide +kernel, by decide +kernel⟩, by decide +kernel⟩
theorem amMid_172 : amMidP 172 := ⟨⟨amIn0 1715 (by decide +kernel) (by decide +kernel), amIn0 180 (by decide +kernel) (by decide +kernel), by decide +kernel, ⟨by decide +kernel, by decide +kernel, by decide +kernel⟩, by decide +kernel, by decide +kernel⟩, by decide +kernel⟩
theorem amMid_173 : amMidP 173 := ⟨⟨amIn0 1735 (by decide +kernel) (by decide +kernel), amIn0 180 (by decide +kernel) (by decide +kernel), by decide +kernel, ⟨by decide +kernel, by decide +kernel, by decide +kernel⟩, by decide +kernel, by decide +kernel⟩, by decide +kernel⟩
theorem amMid_174 : amMidP 174 := ⟨⟨amIn0 1727 (by decide +kernel) (by decide +kernel), amIn0 180 (by decide +kernel) (by decide +kernel), by decide +kernel, ⟨by decide +kernel, by decide +kernel, by decide +kernel⟩, by decide +kernel, by decide +kernel⟩, by decide +kernel⟩
theorem amMid_175 : amMidP 175 := ⟨⟨amIn0 1731 (by decide +kernel) (by decide +kernel), amIn0 180 (by decide +kernel) (by decide +kernel), by decide +kernel, ⟨by decide +kernel, by decide +kernel, by decide +kernel⟩, by decide +kernel, by decide +kernel⟩, by decide +kernel⟩
theorem amMid_176 : amMidP 176 := ⟨⟨amIn0 1719 (by decide +kernel) (by decide +kernel), amIn0 180 (by decide +kernel) (by decide +kernel), by decide +kernel, ⟨by decide +kernel, by decide +kernel, by decide +kernel⟩, by decide +kernel, by decide +kernel⟩, by decide +kernel⟩
theorem amMid_177 : amMidP 177 := ⟨⟨amIn0 1723 (by decide +kernel) (by decide +kernel), amIn0 180 (by decide +kernel) (by decide +kernel), by decide +kernel, ⟨by decide +kernel, by decide +kernel, by decide +kernel⟩, by decide +kernel, by decide +kernel⟩, by decide +kernel⟩
theorem amMid_178 : amMidP 178 := ⟨⟨amIn0 1790 (by decide +kernel) (by decide +kernel), amIn0 180 (by decide +kernel) (by decide +kernel), by decide +kernel, ⟨by decide +kernel, by decide +kernel, by decide +kernel⟩, by decide +kernel, by decide +kernel⟩, by decide +kernel⟩
theorem amMid_179 : amMidP 179 := ⟨⟨amIn0 1754 (by decide +kernel) (by decide +kernel), amIn0 180 (by decide +kernel) (by decide +kernel), by decide +kernel, ⟨by decide +kernel, by decide +kernel, by decide +kernel⟩, by decide +kernel, by decide +kernel⟩, by decide +kernel⟩
theorem amMid_180 : amMidP 180 := ⟨⟨amIn0 1810 (by decide +kernel) (by decide +kernel), amIn0 180 (by decide +kernel) (by decide +kernel), by decide +kernel, ⟨by decide +kernel, by decide +kernel, by decide +kernel⟩, by decide +kernel, by decide +kernel⟩, by decide +kernel⟩
theorem amMid_181 : amMidP 181 := ⟨⟨amIn0 1758 (by decide +kernel) (by decide +kernel), amIn0 180 (by decide +kernel) (by decide +kernel), by decide +kernel, ⟨by decide +kernel, by decide +kernel, by decide +kernel⟩, by decide +kernel, by decide +kernel⟩, by decide +kernel⟩
theorem amMid_182 : amMidP 182 := ⟨⟨amIn0 1751 (by decide +kernel) (by decide +kernel), amIn0 180 (by decide +kernel) (by decide +kernel), by decide +kernel, ⟨by decide +kernel, by decide +kernel, by decide +kernel⟩, by decide +kernel, by decide +kernel⟩, by decide +kernel⟩
theorem amMid_183 : amMidP 183 := ⟨⟨amIn0 1766 (by decide +kernel) (by decide +kernel), amIn0 180 (by decide +kernel) (by decide +kernel), by decide +kernel, ⟨by decide +kernel, by decide +kernel, by decide +kernel⟩, by decide +kernel, by decide +kernel⟩, by decide +kernel⟩
theorem amMid_184 : amMidP 184 := ⟨⟨amIn0 1770 (by decide +kernel) (by decide +kernel), amIn0 180 (by decide +kernel) (by decide +kernel), by decide +kernel, ⟨by decide +kernel, by decide +kernel, by decide +kernel⟩, by decide +kernel, by decide +kernel⟩, by decide +kernel⟩
theorem amMid_185 : amMidP 185 := ⟨⟨amIn0 1739 (by decide +kernel) (by decide +kernel), amIn0 180 (by decide +kernel) (by decide +kernel), by decide +kernel, ⟨by decide +kernel, by decide +kernel, by decide +kernel⟩, by decide +kernel, by decide +kernel⟩, by decide +kernel⟩
theorem amMid_186 : amMidP 186 := ⟨⟨amIn0 1778 (by decide +kernel) (by decide +kernel), amIn0 180 (by decide +kernel) (by decide +kernel), by decide +kernel, ⟨by decide +kernel, by decide +kernel, by decide +kernel⟩, by decide +kernel, by decide +kernel⟩, by decide +kernel⟩
theorem amMid_187 : amMidP 187 := ⟨⟨amIn0 1782 (by decide +kernel) (by decide +kernel), amIn0 180 (by decide +kernel) (by decide +kernel), by decide +kernel, ⟨by decide +kernel, by decide +kernel, by decide +kernel⟩, by decide +kernel, by decide +kernel⟩, by decide +kernel⟩
theorem amMid_188 : amMidP 188 := ⟨⟨amIn0 1786 (by decide +kernel) (by decide +kernel), amIn0 180 (by decide +kernel) (by decide +kernel), by decide +kernel, ⟨by decide +kernel, by decide +kernel, by decide +kernel⟩, by decide +kernel, by decide +kernel⟩, by decide +kernel⟩
theorem amMid_189 : amMidP 189 := ⟨⟨amIn0 1830 (by decide +kernel) (by decide +kernel), amIn0 180 (by decide +kernel) (by decide +kernel), by decide +kernel, ⟨by decide +kernel, by decide +kernel, by decide +kernel⟩, by decide +kernel, by decide +kernel⟩, by decide +kernel⟩
theorem amMid_190 : amMidP 190 := ⟨⟨amIn0 1818 (by decide +kernel) (by decide +kernel), amIn0 180 (by decide +kernel) (by decide +kernel), by decide +kernel, ⟨by decide +kernel, by decide +kernel, by decide +kernel⟩, by decide +kernel, by decide +kernel⟩, by decide +kernel⟩
theorem amMid_191 : amMidP 191 := ⟨⟨amIn0 1814 (by decide +kernel) (by decide +kernel), amIn0 180 (by decide +kernel) (by decide +kernel), by decide +kernel, ⟨by decide +kernel, by decide +kernel, by decide +kernel⟩, by decide +kernel, by decide +kernel⟩, by decide +kernel⟩
theorem amMid_192 : amMidP 192 := ⟨⟨amIn0 1826 (by decide +kernel) (by decide +kernel), amIn0 180 (by decide +kernel) (by decide +kernel), by decide +kernel, ⟨by decide +kernel, by decide +kernel, by decide +kernel⟩, by decide +kernel, by decide +kernel⟩, by decide +kernel⟩
theorem amMid_193 : amMidP 193 := ⟨⟨amIn0 1822 (by decide +kernel) (by decide +kernel), amIn0 180 (by decide +kernel) (by decide +kernel), by decide +kernel, ⟨by decide +kernel, by decide +kernel, by decide +kernel⟩, by decide +kernel, by decide +kernel⟩, by decide +kernel⟩
theorem amMid_194 : amMidP 194 := ⟨⟨amIn0 1806 (by decide +kernel) (by decide +kernel), amIn0 180 (by decide +kernel) (by decide +kernel), by decide +kernel, ⟨by decide +kernel, by decide +kernel, by decide +kernel⟩, by decide +kernel, by decide +kernel⟩, by decide +kernel⟩
theorem amMid_195 : amMidP 195 := ⟨⟨amIn0 1802 (by decide +kernel) (by decide +kernel), amIn0 180 (by decide +kernel) (by decide +kernel), by decide +kernel, ⟨by decide +kernel, by decide +kernel, by decide +kernel⟩, by decide +kernel, by decide +kernel⟩, by decide +kernel⟩
theorem amMid_196 : amMidP 196 := ⟨⟨amIn0 1747 (by decide +kernel) (by decide +kernel), amIn0 180 (by decide +kernel) (by decide +kernel), by decide +kernel, ⟨by decide +kernel, by decide +kernel, by decide +kernel⟩, by decide +kernel, by decide +kernel⟩, by decide +kernel⟩
theorem amMid_197 : amMidP 197 := ⟨⟨amIn0 1762 (by decide +kernel) (by decide +kernel), amIn0 180 (by decide +kernel) (by decide +kernel), by decide +kernel, ⟨by decide +kernel, by decide +kernel, by decide +kernel⟩, by decide +kernel, by decide +kernel⟩, by decide +kernel⟩
theorem amMid_198 : amMidP 198 := ⟨⟨amIn0 1774 (by decide +kernel) (by decide +kernel), amIn0 180 (by decide +kernel) (by decide +kernel), by decide +kernel, ⟨by decide +kernel, by decide +kernel, by decide +kernel⟩, by decide +kernel, by decide +kernel⟩, by decide +kernel⟩
theorem amMid_199 : amMidP 199 := ⟨⟨amIn0 1834 (by decide +kernel) (by decide +kernel), amIn0 180 (by decide +kernel) (by decide +kernel), by decide +kernel, ⟨by decide +kernel, by decide +kernel, by decide +kernel⟩, by decide +kernel, by decide +kernel⟩, by decide +kernel⟩
theorem amMid_200 : amMidP 200 := ⟨⟨amIn0 1798 (by decide +kernel) (by decide +kernel), amIn0 180 (by decide +kernel) (by decide +kernel), by decide +kernel, ⟨by decide +kernel, by decide +kernel, by decide +kernel⟩, by decide +kernel, by decide +kernel⟩, by decide +kernel⟩
theorem amMid_201 : amMidP 201 := ⟨⟨amIn0 1794 (by decide +kernel) (by decide +kernel), amIn0 180 (by decide +kernel) (by decide +kernel), by decide +kernel, ⟨by decide +kernel, by decide +kernel, by decide +kernel⟩, by decide +kernel, by decide +kernel⟩, by decide +kernel⟩
theorem amMid_202 : amMidP 202 := ⟨⟨amIn0 1838 (by decide +kernel) (by decide +kernel), amIn0 180 (by decide +kernel) (by decide +kernel), by decide +kernel, ⟨by decide +kernel, by decide +kernel, by decide +kernel⟩, by decide +kernel, by decide +kernel⟩, by decide +kernel⟩
theorem amMid_203 : amMidP 203 := ⟨⟨amIn0 1846 (by decide +kernel) (by decide +kernel), amIn0 180 (by decide +kernel) (by decide +kernel), by decide +kernel, ⟨by decide +kernel, by decide +kernel, by decide +kernel⟩, by decide +kernel, by decide +kernel⟩, by decide +kernel⟩
theorem amMid_204 : amMidP 204 := ⟨⟨amIn0 1842 (by decide +kernel) (by decide +kernel), amIn0 180 (by decide +kernel) (by decide +kernel), by decide +kernel, ⟨by decide +kernel, by decide +kernel, by decide +kernel⟩, by decide +kernel, by decide +kernel⟩, by decide +kernel⟩
theorem amMid_205 : amMidP 205 := ⟨⟨amIn0 1850 (by decide +kernel) (by decide +kernel), amIn0 180 (by decide +kernel) (by decide +kernel), by decide +kernel, ⟨by decide +kernel, by decide +kernel, by decide +kernel⟩, by decide +kernel, by decide +kernel⟩, by decide +kernel⟩
theorem amMid_206 : amMidP 206 := ⟨⟨amIn0 1854 (by decide +kernel) (by decide +kernel), amIn0 180 (by decide +kernel) (by decide +kernel), by decide +kernel, ⟨by decide +kernel, by decide +kernel, by decide +kernel⟩, by decide +kernel, by decide +kernel⟩, by decide +kernel⟩
theorem amMid_207 : amMidP 207 := ⟨⟨amIn0 1865 (by decide +kernel) (by decide +kernel), amIn0 180 (by decide +kernel) (by decide +kernel), by decide +kernel, ⟨by decide +kernel, by decide +kernel, by decide +kernel⟩, by decide +kernel, by decide +kernel⟩, by decide +kernel⟩
theorem amMid_208 : amMidP 208 := ⟨⟨amIn0 1862 (by decide +kernel) (by decide +kernel), amIn0 180 (by decide +kernel) (by decide +kernel), by decide +kernel, ⟨by decide +kernel, by decide +kernel, by decide +kernel⟩, by decide +kernel, by decide +kernel⟩, by decide +kernel⟩
theorem amMid_209 : amMidP 209 := ⟨⟨amIn0 1873 (by decide +kernel) (by decide +kernel), amIn0 180 (by decide +kernel) (by decide +kernel), by decide +kernel, ⟨by decide +kernel, by decide +kernel, by decide +kernel⟩, by decide +kernel, by decide +kernel⟩, by decide +kernel⟩
theorem amMid_210 : amMidP 210 := ⟨⟨amIn0 1877 (by decide +kernel) (by decide +kernel), amIn0 180 (by decide +kernel) (by decide +kernel), by decide +kernel, ⟨by decide +kernel, by decide +kernel, by decide +kernel⟩, by decide +kernel, by decide +kernel⟩, by decide +kernel⟩
theorem amMid_211 : amMidP 211 := ⟨⟨amIn0 1869 (by decide +kernel) (by decide +kernel), amIn0 180 (by decide +kernel) (by decide +kernel), by decide +kernel, ⟨by decide +kernel, by decide +kernel, by decide +kernel⟩, by decide +kernel, by decide +kernel⟩, by decide +kernel⟩
theorem amMid_212 : amMidP 212 := ⟨⟨amIn0 1858 (by decide +kernel) (by decide +kernel), amIn0 180 (by decide +kernel) (by decide +kernel), by decide +kernel, ⟨by decide +kernel, by decide +kernel, by decide +kernel⟩, by decide +kernel, by decide +kernel⟩, by decide +kernel⟩
theorem amMid_213 : amMidP 213 := ⟨⟨amIn0 1881 (by decide +kernel) (by decide +kernel), amIn0 180 (by decide +kernel) (by decide +kernel), by decide +kernel, ⟨by decide +kernel, by decide +kernel, by decide +kernel⟩, by decide +kernel, by decide +kernel⟩, by decide +kernel⟩
theorem amMid_214 : amMidP 214 := ⟨⟨amIn0 1905 (by decide +kernel) (by decide +kernel), amIn0 180 (by decide +kernel) (by decide +kernel), by decide +kernel, ⟨by decide +kernel, by decide +kernel, by decide +kernel⟩, by decide +kernel, by decide +kernel⟩, by decide +kernel⟩
theorem amMid_215 : amMidP 215 := ⟨⟨amIn0 1897 (by decide +kernel) (by decide +kernel), amIn0 180 (by decide +kernel) (by decide +kernel), by decide +kernel, ⟨by decide +kernel, by decide +kernel, by decide +kernel⟩, by decide +kernel, by decide +kernel⟩, by decide +kernel⟩
theorem amMid_216 : amMidP 216 := ⟨⟨amIn0 1893 (by decide +kernel) (by decide +kernel), amIn0 180 (by decide +kernel) (by decide +kernel), by decide +kernel, ⟨by decide +kernel, by decide +kernel, by decide +kernel⟩, by decide +kernel, by decide +kernel⟩, by decide +kernel⟩
theorem amMid_217 : amMidP 217 := ⟨⟨amIn0 1901 (by decide +kernel) (by decide +kernel), amIn0 180 (by decide +kernel) (by decide +kernel), by decide +kernel, ⟨by decide +kernel, by decide +kernel, by decide +kernel⟩, by decide +kernel, by decide +kernel⟩, by decide +kernel⟩
theorem amMid_218 : amMidP 218 := ⟨⟨amIn0 1889 (by decide +kernel) (by decide +kernel), amIn0 180 (by decide +kernel) (by decide +kernel), by decide +kernel, ⟨by decide +kernel, by decide +kernel, by decide +kernel⟩, by decide +kernel, by decide +kernel⟩, by decide +kernel⟩
theorem amMid_219 : amMidP 219 := ⟨⟨amIn0 1885 (by decide +kernel) (by decide +kernel), amIn0 180 (by decide +kernel) (by decide +kernel), by decide +kernel, ⟨by decide +kernel, by decide +kernel, by decide +kernel⟩, by decide +kernel, by decide +kernel⟩, by decide +kernel⟩
theorem amMid_220 : amMidP 220 := ⟨⟨amIn0 1913 (by decide +kernel) (by decide +kernel), amIn0 180 (by decide +kernel) (by decide +kernel), by decide +kernel, ⟨by decide +kernel, by decide +kernel, by decide +kernel⟩, by decide +kernel, by decide +kernel⟩, by decide +kernel⟩
theorem amMid_221 : amMidP 221 := ⟨⟨amIn0 1909 (by decide +kernel) (by decide +kernel), amIn0 180 (by decide +kernel) (by decide +kernel), by decide +kernel, ⟨by decide +kernel, by decide +kernel, by decide +kernel⟩, by decide +kernel, by decide +kernel⟩, by decide +kernel⟩
theorem amMid_222 : amMidP 222 := ⟨⟨amIn0 1921 (by decide +kernel) (by decide +kernel), amIn0 180 (by decide +kernel) (by decide +kernel), by decide +kernel, ⟨by decide +kernel, by decide +kernel, by decide +kernel⟩, by decide +kernel, by decide +kernel⟩, by decide +kernel⟩
theorem amMid_223 : amMidP 223 := ⟨⟨amIn0 1917 (by decide +kernel) (by decide +kernel), amIn0 180 (by decide +kernel) (by decide +kernel), by decide +kernel, ⟨by decide +kernel, by decide +kernel, by decide +kernel⟩, by decide +kernel, by decide +kernel⟩, by decide +kernel⟩
theorem amMid_224 : amMidP 224 := ⟨⟨amIn0 1933 (by decide +kernel) (by decide +kernel), amIn0 180 (by decide +kernel) (by decide +kernel), by decide +kernel, ⟨by decide +kernel, by decide +kernel, by decide +kernel⟩, by decide +kernel, by decide +kernel⟩, by decide +kernel⟩
theorem amMid_225 : amMidP 225 := ⟨⟨amIn0 1929 (by decide +kernel) (by decide +kernel), amIn0 180 (by decide +kernel) (by decide +kernel), by decide +kernel, ⟨by decide +kernel, by decide +kernel, by decide +kernel⟩, by decide +kernel, by decide +kernel⟩, by decide +kernel⟩
theorem amMid_226 : amMidP 226 := ⟨⟨amIn0 1925 (by decide +kernel) (by decide +kernel), amIn0 180 (by decide +kernel) (by decide +kernel), by decide +kernel, ⟨by decide +kernel, by decide +kernel, by decide +kernel⟩, by decide +kernel, by decide +kernel⟩, by decide +kernel⟩
theorem amMid_227 : amMidP 227 := ⟨⟨amIn0 1937 (by decide +kernel) (by decide +kernel), amIn0 180 (by decide +kernel) (by decide +kernel), by decide +kernel, ⟨by decide +kernel, by decide +kernel, by decide +kernel⟩, by decide +kernel, by decide +kernel⟩, by decide +kernel⟩
theorem amMid_228 : amMidP 228 := ⟨⟨amIn0 1945 (by decide +kernel) (by decide +kernel), amIn0 180 (by decide +kernel) (by decide +kernel), by decide +kernel, ⟨by decide +kernel, by decide +kernel, by decide +kernel⟩, by decide +kernel, by decide +kernel⟩, by decide +kernel⟩
theorem amMid_229 : amMidP 229 := ⟨⟨amIn0 1941 (by decide +kernel) (by decide +kernel), amIn0 180 (by decide +kernel) (by decide +kernel), by decide +kernel, ⟨by decide +kernel, by decide +kernel, by decide +kernel⟩, by decide +kernel, by decide +kernel⟩, by decide +kernel⟩
theorem amMid_230 : amMidP 230 := ⟨⟨amIn0 1954 (by decide +kernel) (by decide +kernel), amIn0 180 (by decide +kernel) (by decide +kernel), by decide +kernel, ⟨by decide +kernel, by decide +kernel, by decide +kernel⟩, by decide +kernel, by decide +kernel⟩, by decide +kernel⟩
theorem amMid_231 : amMidP 231 := ⟨⟨amIn0 1950 (by decide +kernel) (by decide +kernel), amIn0 180 (by decide +kernel) (by decide +kernel), by decide +kernel, ⟨by decide +kernel, by decide +kernel, by decide +kernel⟩, by decide +kernel, by decide +kernel⟩, by decide +kernel⟩
theorem amMid_232 : amMidP 232 := ⟨⟨amIn0 1958 (by decide +kernel) (by decide +kernel), amIn0 180 (by decide +kernel) (by decide +kernel), by decide +kernel, ⟨by decide +kernel, by decide +kernel, by decide +kernel⟩, by decide +kernel, by decide +kernel⟩, by decide +kernel⟩
theorem amMid_233 : amMidP 233 := ⟨⟨amIn0 1962 (by decide +kernel) (by decide +kernel), amIn0 180 (by decide +kernel) (by decide +kernel), by decide +kernel, ⟨by decide +kernel, by decide +kernel, by decide +kernel⟩, by decide +kernel, by decide +kernel⟩, by decide +kernel⟩
theorem amMid_234 : amMidP 234 := ⟨⟨amIn0 1966 (by decide +kernel) (by decide +kernel), amIn0 180 (by decide +kernel) (by decide +kernel), by decide +kernel, ⟨by decide +kernel, by decide +kernel, by decide +kernel⟩, by decide +kernel, by decide +kernel⟩, by decide +kernel⟩
theorem amMid_235 : amMidP 235 := ⟨⟨amIn0 1978 (by decide +kernel) (by decide +kernel), amIn0 180 (by decide +kernel) (by decide +kernel), by decide +kernel, ⟨by decide +kernel, by decide +kernel, by decide +kernel⟩, by decide +kernel, by decide +kernel⟩, by decide +kernel⟩
theorem amMid_236 : amMidP 236 := ⟨⟨amIn0 1974 (by decide +kernel) (by decide +kernel), amIn0 180 (by decide +kernel) (by decide +kernel), by decide +kernel, ⟨by decide +kernel, by decide +kernel, by decide +kernel⟩, by decide +kernel, by decide +kernel⟩, by decide +kernel⟩
theorem amMid_237 : amMidP 237 := ⟨⟨amIn0 1970 (by decide +kernel) (by decide +kernel), amIn0 180 (by decide +kernel) (by decide +kernel), by decide +kernel, ⟨by decide +kernel, by decide +kernel, by decide +kernel⟩, by decide +kernel, by decide +kernel⟩, by decide +kernel⟩
theorem amMid_238 : amMidP 238 := ⟨⟨amIn0 1982 (by decide +kernel) (by decide +kernel), amIn0 180 (by decide +kernel) (by decide +kernel), by decide +kernel, ⟨by decide +kernel, by decide +kernel, by decide +kernel⟩, by decide +kernel, by decide +kernel⟩, by decide +kernel⟩
theorem amMid_239 : amMidP 239 := ⟨⟨amIn0 1986 (by decide +kernel) (by decide +kernel), amIn0 180 (by decide +kernel) (by decide +kernel), by decide +kernel, ⟨by decide +kernel, by decide +kernel, by decide +kernel⟩, by decide +kernel, by decide +kernel⟩, by decide +kernel⟩
theorem amMid_240 : amMidP 240 := ⟨⟨amIn0 1990 (by decide +kernel) (by decide +kernel), amIn0 180 (by decide +kernel) (by decide +kernel), by decide +kernel, ⟨by decide +kernel, by decide +kernel, by decide +kernel⟩, by decide +kernel, by decide +kernel⟩, by decide +kernel⟩
theorem amMid_241 : amMidP 241 := ⟨⟨amIn0 1994 (by decide +kernel) (by decide +kernel), amIn0 180 (by decide +kernel) (by decide +kernel), by decide +kernel, ⟨by decide +kernel, by decide +kernel, by decide +kernel⟩, by decide +kernel, by decide +kernel⟩, by decide +kernel⟩
theorem amMid_242 : amMidP 242 := ⟨⟨amIn0 1998 (by decide +kernel) (by decide +kernel), amIn0 180 (by decide +kernel) (by decide +kernel), by decide +kernel, ⟨by decide +kernel, by decide +kernel, by decide +kernel⟩, by decide +kernel, by decide +kernel⟩, by decide +kernel⟩
theorem amMid_243 : amMidP 243 := ⟨⟨amIn0 1338 (by decide +kernel) (by decide +kernel), amIn0 188 (by decide +kernel) (by decide +kernel), by decide +kernel, ⟨by decide +kernel, by decide +kernel, by decide +kernel⟩, by decide +kernel, by decide +kernel⟩, by decide +kernel⟩
theorem amMid_244 : amMidP 244 := ⟨⟨amIn0 1152 (by decide +kernel) (by decide +kernel), amIn0 188 (by decide +kernel) (by decide +kernel), by decide +kernel, ⟨by decide +kernel, by decide +kernel, by decide +kernel⟩, by decide +kernel, by decide +kernel⟩, by decide +kernel⟩
theorem amMidC_147 : ∀ a, a < 147 → amMidP a := lt_s (lt_s (lt_s (lt_s (lt_s (lt_s (lt_s (lt_s (lt_s (lt_s (lt_s (lt_s (lt_s (lt_s (lt_s (lt_s (lt_s (lt_s (lt_s (lt_s (lt_s (lt_s (lt_s (lt_s (lt_s (amMidC_122) amMid_122) amMid_123) amMid_124) amMid_125) amMid_126) amMid_127) amMid_128) amMid_129) amMid_130) amMid_131) amMid_132) amMid_133) amMid_134) amMid_135) amMid_136) amMid_137) amMid_138) amMid_139) amMid_140) amMid_141) amMid_142) amMid_143) amMid_144) amMid_145) amMid_146
theorem amMidC_172 : ∀ a, a < 172 → amMidP a := lt_s (lt_s (lt_s (lt_s (lt_s (lt_s (lt_s (lt_s (lt_s (lt_s (lt_s (lt_s (lt_s (lt_s (lt_s (lt_s (lt_s (lt_s (lt_s (lt_s (lt_s (lt_s (lt_s (lt_s (lt_s (amMidC_147) amMid_147) amMid_148) amMid_149) amMid_150) amMid_151) amMid_152) amMid_153) amMid_154) amMid_155) amMid_156) amMid_157) amMid_158) amMid_159) amMid_160) amMid_161) amMid_162) amMid_163) amMid_164) amMid_165) amMid_166) amMid_167) amMid_168) amMid_169) amMid_170) amMid_171
theorem amMidC_197 : ∀ a, a < 197 → amMidP a := lt_s (lt_s (lt_s (lt_s (lt_s (lt_s (lt_s (lt_s (lt_s (lt_s (lt_s (lt_s (lt_s (lt_s (lt_s (lt_s (lt_s (lt_s (lt_s (lt_s (lt_s (lt_s (lt_s (lt_s (lt_s (amMidC_172) amMid_172) amMid_173) amMid_174) amMid_175) amMid_176) amMid_177) amMid_178) amMid_179) amMid_180) amMid_181) amMid_182) amMid_183) amMid_184) amMid_185) amMid_186) amMid_187) amMid_188) amMid_189) amMid_190) amMid_191) amMid_192) amMid_193) amMid_194) amMid_195) amMid_196
theorem amMidC_222 : ∀ a, a < 222 → amMidP a := lt_s (lt_s (lt_s (lt_s (lt_s (lt_s (lt_s (lt_s (lt_s (lt_s (lt_s (lt_s (lt_s (lt_s (lt_s (lt_s (lt_s (lt_s (lt_s (lt_s (lt_s (lt_s (lt_s (lt_s (lt_s (amMidC_197) amMid_197) amMid_198) amMid_199) amMid_200) amMid_201) amMid_202) amMid_203) amMid_204) amMid_205) amMid_206) amMid_207) amMid_208) amMid_209) amMid_210) amMid_211) amMid_212) amMid_213) amMid_214) amMid_215) amMid_216) amMid_217) amMid_218) amMid_219) amMid_220) amMid_221
theorem amMidC_245 : ∀ a, a < 245 → amMidP a := lt_s (lt_s (lt_s (lt_s (lt_s (lt_s (lt_s (lt_s (lt_s (lt_s (lt_s (lt_s (lt_s (lt_s (lt_s (lt_s (lt_s (lt_s (lt_s (lt_s (lt_s (lt_s (lt_s (amMidC_222) amMid_222) amMid_223) amMid_224) amMid_225) amMid_226) amMid_227) amMid_228) amMid_229) amMid_230) amMid_231) amMid_232) amMid_233) amMid_234) amMid_235) amMid_236) amMid_237) amMid_238) amMid_239) amMid_240) amMid_241) amMid_242) amMid_243) amMid_244
theorem amMid_all : ∀ mid, mid < 245 → amMidP mid := amMidC_245
end
section
theorem amMax_w : Jvm.Cond.static Lib.Math.max.name ∈ amT0 ∧ Jvm.Cond.initialized "java/lang/Math" ∈ amT0 ∧ Jvm.Cond.code Lib.Math.max.name Lib.Math.max.code 2 (some .int) ∈ amT0 := ⟨amIn0 765 (by decide +kernel) (by decide +kernel), amIn0 185 (by decide +kernel) (by decide +kernel), amIn0 766 (by decide +kernel) (by decide +kernel)⟩
theorem amMin_w : Jvm.Cond.static Lib.Math.min.name ∈ amT0 ∧ Jvm.Cond.code Lib.Math.min.name Lib.Math.min.code 2 (some .int) ∈ amT0 := ⟨amIn0 768 (by decide +kernel) (by decide +kernel), amIn0 769 (by decide +kernel) (by decide +kernel)⟩
theorem amCpy_w : Jvm.Cond.native arraycopyName ∈ amT0 ∧ Jvm.Cond.static arraycopyName ∈ amT0 ∧ Jvm.Cond.initialized "java/lang/System" ∈ amT0 := ⟨amIn0 930 (by decide +kernel) (by decide +kernel), amIn0 929 (by decide +kernel) (by decide +kernel), amIn0 187 (by decide +kernel) (by decide +kernel)⟩
theorem amNfw : nativeFrameWords "java/lang/System" "arraycopy" 5 = 7 := by decide +kernel
section AmSR
variable {p : Program} {l : Launch} {e : Env} {R : Room} {s : State} {m : MethodId} {args : Array Value} {below : List Frame} {meth : Method} {c : Code} {cells slots : Nat} {Q : State → Prop}
variable {cc : ByteArray} {Z : AmZ} {nL : Nat} {lg : List Nat} {L st : List AmV} {M : AmM} {ls : Array Slot} {H : Heap} {locs : List Loc} {pc : Nat}
variable {o : Nat} {ret : Option FieldType} {cal : Nat → List AmV → AmM → Option (AmV × AmM)} {nx a b q : Nat} {z : Int} {ts : List Nat} {c' : AmC}
theorem am_max {x : Nat} (S : CallFix p m c cc nL s args amT0 (amR o)) (hR : 1 ≤ R.frames ∧ 31 ≤ R.locals ∧ cells ≤ R.cells ∧ slots ≤ R.slots) (hd : decode cc pc = .ok (.invokestatic x, 3))
    (e1 : (o, x, 1005, 9) ∈ amMthT) (h : amInv cal (pc + 3) a b 5 z L st M = .inl c')
    (hr : amRel Z s.heap nL lg L st M ls H locs) (kk : amGo p l e R s m args below meth c cells slots Q Z nL lg c') : W p l e R s m args below meth c H locs cells slots Q (F0 m pc ls (st.map (amV (zAd Z)))) := by
  obtain ⟨hx, hb, hml, hown, hts⟩ := S
  have h2 : (match st with
    | .inr (.inl y) :: .inr (.inl x) :: st' => (bif Nat.ble (amCat st') 8 then .inl (pc + 3, L, vI (amMax x y) :: st', M) else amNo : AmR)
    | _ => amNo) = .inl c' := h
  split at h2
  · rename_i y x1 st'
    cases hb2 : Nat.ble (amCat st') 8 with
    | false => rw [hb2] at h2; cases h2
    | true =>
      rw [hb2] at h2
      have f3 := Nat.le_of_ble_eq_true hb2
      cases h2
      have hy : i32 y := hr.top (v := vI y) (by simp)
      have hxx : i32 x1 := hr.top (v := vI x1) (by simp)
      have l1 : Jvm.Cond.methodLink (amR o) x Lib.Math.max.name ∈ amT0 := amMth_ok _ e1
      refine va_mmax hx hb (hml.trans hr.1.1.symm) hown (hts _ l1) (hts _ amMax_w.1) (hts _ amMax_w.2.1) (hts _ amMax_w.2.2) hR.1 (by rw [amCat_eq]; omega) hR.2.2.1 hR.2.2.2 hd ?_
      have ev : (if Int32.ofInt x1 < Int32.ofInt y then Int32.ofInt y else Int32.ofInt x1) = Int32.ofInt (amMax x1 y) := by
        unfold amMax
        by_cases hlt : x1 < y
        · rw [if_pos hlt, if_pos ((of_lt hxx hy).mpr hlt)]
        · rw [if_neg hlt, if_neg (fun k => hlt ((of_lt hxx hy).mp k))]
      rw [ev]
      refine kk ls H locs (hr.st fun v hv => ?_)
      rcases List.mem_cons.mp hv with rfl | hv
      · refine ⟨?_, trivial⟩
        show i32 (amMax x1 y)
        unfold amMax; split
        · exact hy
        · exact hxx
      · exact hr.2.2.2.2.1 v (by simp [hv])
  · cases h2
theorem am_min {x : Nat} (S : CallFix p m c cc nL s args amT0 (amR o)) (hR : 1 ≤ R.frames ∧ 31 ≤ R.locals ∧ cells ≤ R.cells ∧ slots ≤ R.slots) (hd : decode cc pc = .ok (.invokestatic x, 3))
    (e1 : (o, x, 1006, 9) ∈ amMthT) (h : amInv cal (pc + 3) a b 6 z L st M = .inl c')
    (hr : amRel Z s.heap nL lg L st M ls H locs) (kk : amGo p l e R s m args below meth c cells slots Q Z nL lg c') : W p l e R s m args below meth c H locs cells slots Q (F0 m pc ls (st.map (amV (zAd Z)))) := by
  obtain ⟨hx, hb, hml, hown, hts⟩ := S
  have h2 : (match st with
    | .inr (.inl y) :: .inr (.inl x) :: st' => (bif Nat.ble (amCat st') 8 then .inl (pc + 3, L, vI (amMin x y) :: st', M) else amNo : AmR)
    | _ => amNo) = .inl c' := h
  split at h2
  · rename_i y x1 st'
    cases hb2 : Nat.ble (amCat st') 8 with
    | false => rw [hb2] at h2; cases h2
    | true =>
      rw [hb2] at h2
      have f3 := Nat.le_of_ble_eq_true hb2
      cases h2
      have hy : i32 y := hr.top (v := vI y) (by simp)
      have hxx : i32 x1 := hr.top (v := vI x1) (by simp)
      have l1 : Jvm.Cond.methodLink (amR o) x Lib.Math.min.name ∈ amT0 := amMth_ok _ e1
      refine va_mmin hx hb (hml.trans hr.1.1.symm) hown (hts _ l1) (hts _ amMin_w.1) (hts _ amMax_w.2.1) (hts _ amMin_w.2) hR.1 (by rw [amCat_eq]; omega) hR.2.2.1 hR.2.2.2 hd ?_
      have ev : (if Int32.ofInt y < Int32.ofInt x1 then Int32.ofInt y else Int32.ofInt x1) = Int32.ofInt (amMin x1 y) := by
        unfold amMin
        by_cases hlt : y < x1
        · rw [if_pos hlt, if_pos ((of_lt hy hxx).mpr hlt)]
        · rw [if_neg hlt, if_neg (fun k => hlt ((of_lt hy hxx).mp k))]
      rw [ev]
      refine kk ls H locs (hr.st fun v hv => ?_)
      rcases List.mem_cons.mp hv with rfl | hv
      · refine ⟨?_, trivial⟩
        show i32 (amMin x1 y)
        unfold amMin; split
        · exact hy
        · exact hxx
      · exact hr.2.2.2.2.1 v (by simp [hv])
  · cases h2
theorem am_cpy {x : Nat} (S : CallFix p m c cc nL s args amT0 (amR o)) (hK : amKS Z s) (hfx : amFx Z) (hR : 1 ≤ R.frames ∧ 31 ≤ R.locals ∧ cells ≤ R.cells ∧ slots ≤ R.slots) (hd : decode cc pc = .ok (.invokestatic x, 3))
    (e1 : (o, x, 1007, 9) ∈ amMthT) (h : amInv cal (pc + 3) a b 7 z L st M = .inl c')
    (hr : amRel Z s.heap nL lg L st M ls H locs) (kk : amGo p l e R s m args below meth c cells slots Q Z nL lg c') : W p l e R s m args below meth c H locs cells slots Q (F0 m pc ls (st.map (amV (zAd Z)))) := by
  obtain ⟨hx, hb, hml, hown, hts⟩ := S
  have h2 : (match st with
    | .inr (.inl n) :: .inr (.inl dp) :: .inl (some (k1, c1, s1)) :: .inr (.inl sp) :: .inl (some (k0, c0, s0)) :: st' =>
      (bif Nat.ble (amCat st') 8 && (k1 == 20 && (k0 == 20 && (!(c1 == 90) && !(c0 == 90)))) then (if 0 ≤ sp ∧ 0 ≤ dp ∧ 0 ≤ n ∧ sp + n ≤ (amLd M c0 : Int) ∧ dp + n ≤ (amLd M c1 : Int) then .inl (pc + 3, L, st', amCpy M c0 s0 sp c1 s1 dp n) else amNo) else amNo : AmR)
    | _ => amNo) = .inl c' := h
  split at h2
  · rename_i n dp k1 c1 s1 sp k0 c0 s0 st'
    cases hb2 : (Nat.ble (amCat st') 8 && (k1 == 20 && (k0 == 20 && (!(c1 == 90) && !(c0 == 90))))) with
    | false => rw [hb2] at h2; cases h2
    | true =>
      rw [hb2] at h2
      simp only [Bool.and_eq_true, beq_iff_eq, Bool.not_eq_true', beq_eq_false_iff_ne] at hb2
      obtain ⟨f3, rfl, rfl, n1, n0⟩ := hb2
      have f3 := Nat.le_of_ble_eq_true f3
      by_cases hin : 0 ≤ sp ∧ 0 ≤ dp ∧ 0 ≤ n ∧ sp + n ≤ (amLd M c0 : Int) ∧ dp + n ≤ (amLd M c1 : Int)
      · have h3 : (.inl (pc + 3, L, st', amCpy M c0 s0 sp c1 s1 dp n) : AmR) = .inl c' := by rw [← h2]; exact (if_pos hin).symm
        cases h3
        obtain ⟨i1, i2, i3, i4, i5⟩ := hin
        have hn : i32 n := hr.top (v := vI n) (by simp)
        have hdp : i32 dp := hr.top (v := vI dp) (by simp)
        have hsp : i32 sp := hr.top (v := vI sp) (by simp)
        have hok1 := hr.top (v := vR 20 c1 s1) (by simp)
        have hok0 := hr.top (v := vR 20 c0 s0) (by simp)
        obtain ⟨hmem1, h131, hkn1, p1, hp1, hw1⟩ := am_arr hr hfx hok1 (by omega) n1
        obtain ⟨hmem0, h130, hkn0, p0, hp0, hw0⟩ := am_arr hr hfx hok0 (by omega) n0
        rw [amArr_i hkn1 (Or.inl rfl)] at hw1
        rw [amArr_i hkn0 (Or.inl rfl)] at hw0
        rw [amLd_n n0] at i4
        rw [amLd_n n1] at i5
        have l1 : Jvm.Cond.methodLink (amR o) x arraycopyName ∈ amT0 := amMth_ok _ e1
        have ng : ∀ y : Int, i32 y → 0 ≤ y → ¬ Int32.ofInt y < 0 := fun y hy h0 k => by
          have := (of_lt hy (y := 0) am_0).mp k
          omega
        have en : ∀ c' s', ¬ (c' = c1 ∧ s' = s1) → amCpy M c0 s0 sp c1 s1 dp n c' s' = M c' s' := fun c' s' hne => by
          funext j
          unfold amCpy
          rw [if_neg (fun k => hne ⟨k.1, k.2.1⟩)]
        have eq : va_cpy (fun j => Int32.ofInt (M c0 s0 j)) (fun j => Int32.ofInt (M c1 s1 j)) sp.toNat dp.toNat n.toNat = fun j => Int32.ofInt (amCpy M c0 s0 sp c1 s1 dp n c1 s1 j) := by
          funext j
          unfold va_cpy amCpy
          by_cases hj : dp ≤ (j : Int) ∧ (j : Int) < dp + n
          · rw [if_pos (by omega), if_pos ⟨rfl, rfl, hj.1, hj.2⟩, show sp.toNat + (j - dp.toNat) = (sp + ((j : Int) - dp)).toNat by omega]
          · rw [if_neg (by omega), if_neg (fun k => hj ⟨k.2.2.1, k.2.2.2⟩)]
        have hset := amW_set (Z := Z) (M := M) (M' := amCpy M c0 s0 sp c1 s1 dp n) (x := .inl (zC Z 20, amLenL.getD c1 0, .inl (va_cpy (fun j => Int32.ofInt (M c0 s0 j)) (fun j => Int32.ofInt (M c1 s1 j)) sp.toNat dp.toNat n.toNat))) hfx.1 hp1 en (by
          unfold amCell
          rw [if_neg h131, hkn1, amArr_i hkn1 (Or.inl rfl), eq])
        refine va_copyi (D := zD Z) hx hb (hml.trans hr.1.1.symm) hown (hts _ l1) (hts _ amCpy_w.1) (hts _ amCpy_w.2.1) (hts _ amCpy_w.2.2) hK.1 hr.2.2.2.2.2.1 hr.2.2.2.2.2.2.1 hr.2.2.2.2.2.2.2.1 p0 p1 0 0 hw0 hw1 rfl rfl rfl (ng sp hsp i1) (ng dp hdp i2) (ng n hn i3) (by rw [of_cl hsp, of_cl hn]; omega) (by rw [of_cl hdp, of_cl hn]; omega) (fun _ _ => rfl) hR.1 (by rw [amCat_eq, amNfw]; omega) hd fun H1 locs1 g1 g2 g3 => ?_
        rw [of_cl hsp, of_cl hdp, of_cl hn, hset] at g1 g2
        refine kk ls H1 locs1 ⟨hr.1, hr.2.1, hr.2.2.1, hr.2.2.2.1, fun v hv => hr.2.2.2.2.1 v (by simp [hv]), g1, g2, g3, ?_, ?_⟩
        · intro c' s' j
          have hI := hr.2.2.2.2.2.2.2.2.1
          show (_ → i32 (amCpy M c0 s0 sp c1 s1 dp n c' s' j)) ∧ i64 (amCpy M c0 s0 sp c1 s1 dp n c' s' j)
          unfold amCpy
          split
          · exact ⟨fun _ => (hI c0 s0 _).1 (by rw [hkn0]; omega), (hI c0 s0 _).2⟩
          · exact hI c' s' j
        · have hXX := hr.2.2.2.2.2.2.2.2.2
          refine ⟨?_, fun k hk => ?_⟩
          · show amCpy M c0 s0 sp c1 s1 dp n 90 1 0 = _
            rw [en 90 1 (by omega)]; exact hXX.1
          · show amCpy M c0 s0 sp c1 s1 dp n 90 0 k = _
            rw [en 90 0 (by omega)]; exact hXX.2 k hk
      · have h3 : amNo = .inl c' := by rw [← h2]; exact (if_neg hin).symm
        cases h3
  · cases h2
end AmSR
end
section
theorem amCon_ok : ∀ t ∈ amConT, Jvm.Cond.constant (amR t.1) t.2.1 (Int32.ofInt t.2.2) ∈ amT0 := by decide +kernel
theorem amConL_ok : ∀ t ∈ amConL, Jvm.Cond.constantLong (amR t.1) t.2.1 (Int64.ofInt t.2.2) ∈ amT0 := by decide +kernel
theorem amStr_ok : ∀ t ∈ amStrT, (t.1 = 7 ∧ t.2.1 = 84 ∧ t.2.2 = 98) ∨ (t.1 = 7 ∧ t.2.1 = 73 ∧ t.2.2 = 99) := by decide +kernel
/-- the String methods (shown elsewhere) -/
def amStrOk (Z : AmZ) : Prop := ∀ {p : Program} {l : Launch} {e : Env} {R : Room} {s : State} {m : MethodId} {args : Array Value} {below : List Frame} {meth : Method} {c : Code} {cells slots : Nat} {Q : State → Prop} {cc : ByteArray} {nL : Nat} {lg : List Nat} {L st : List AmV} {M : AmM} {ls : Array Slot} {H : Heap} {locs : List Loc} {pc o x a b q : Nat} {z : Int} {cal : Nat → List AmV → AmM → Option (AmV × AmM)} {c' : AmC},
  CallFix p m c cc nL s args amT0 (amR o) → amKS Z s → amXS Z s s.heap → amFx Z → 11 ≤ R.frames ∧ 2031 ≤ R.locals ∧ cells ≤ R.cells ∧ slots ≤ R.slots → decode cc pc = .ok (.invokevirtual x, 3) → (q = 9 ∧ (o, x, 1009, 9) ∈ amMthT ∨ q = 10 ∧ (o, x, 1010, 9) ∈ amMthT ∨ q = 11 ∧ (o, x, 1011, 9) ∈ amMthT) →
  amInv cal (pc + 3) a b q z L st M = .inl c' → amRel Z s.heap nL lg L st M ls H locs → amGo p l e R s m args below meth c cells slots Q Z nL lg c' → W p l e R s m args below meth c H locs cells slots Q (F0 m pc ls (st.map (amV (zAd Z))))
section AmSS
variable {p : Program} {l : Launch} {e : Env} {R : Room} {s : State} {m : MethodId} {args : Array Value} {below : List Frame} {meth : Method} {c : Code} {cells slots : Nat} {Q : State → Prop}
variable {cc : ByteArray} {Z : AmZ} {nL : Nat} {lg : List Nat} {L st : List AmV} {M : AmM} {ls : Array Slot} {H : Heap} {locs : List Loc} {pc : Nat}
variable {o : Nat} {ret : Option FieldType} {cal : Nat → List AmV → AmM → Option (AmV × AmM)} {nx a b q : Nat} {z : Int} {ts : List Nat} {c' : AmC}
theorem am_sim {i : Jvm.ClassFile.Instr} {len lo d : Nat} (hStr : amStrOk Z) (hA : amAll l Z lo d cal) (hMid : ∀ mid, mid < 245 → amMidOk mid) (hMt : amMtLt) (S : CallFix p m c cc nL s args amT0 (amR o)) (hK : amKS Z s) (hX : amXS Z s s.heap) (hfx : amFx Z) (hlo : lo ≤ s.heap.size)
    (hR : d + 11 ≤ R.frames ∧ 2031 + 200 * d ≤ R.locals ∧ cells ≤ R.cells ∧ slots ≤ R.slots) (hd : decode cc pc = .ok (i, len)) (hn : (∀ d lo hi of, i ≠ .tableswitch d lo hi of) → len = amLenI i ∧ nx = pc + amLenI i)
    (hc : amChkI amConT amConL amStrT amFldT amMthT (fun m => amNp.getD m 0) o ret lg pc i nx a b q z ts = true) (h : amEx (zG Z) cal i nx a b q z ts L st M = .inl c')
    (hr : amRel Z s.heap nL lg L st M ls H locs) (kk : amGo p l e R s m args below meth c cells slots Q Z nL lg c') : W p l e R s m args below meth c H locs cells slots Q (F0 m pc ls (st.map (amV (zAd Z)))) := by
  cases hiA : amIsA i with
  | true =>
    obtain ⟨rfl, rfl⟩ := hn (fun _ _ _ _ h => by rw [h] at hiA; cases hiA)
    exact am_simA hiA S.1 S.2.1 hd rfl hc h hr kk
  | false =>
  cases hiB : amIsB i with
  | true => exact am_simB hiB S.1 S.2.1 hd (fun h9 => by
      obtain ⟨h1, h2⟩ := hn h9
      cases i <;> first | (cases hiB; done) | exact ⟨h1, h2⟩ | exact absurd rfl (h9 _ _ _ _)) hc h hr kk
  | false =>
  have hR1 : 1 ≤ R.frames ∧ 31 ≤ R.locals ∧ cells ≤ R.cells ∧ slots ≤ R.slots := ⟨by omega, by omega, hR.2.2.1, hR.2.2.2⟩
  cases i
  case getfield x => obtain ⟨rfl, rfl⟩ := hn (fun _ _ _ _ h => by cases h); exact am_getf amFld_ok S hK hfx hd hc h hr kk
  case putfield x => obtain ⟨rfl, rfl⟩ := hn (fun _ _ _ _ h => by cases h); exact am_putf amFld_ok S hK hfx hd hc h hr kk
  case arraylength => obtain ⟨rfl, rfl⟩ := hn (fun _ _ _ _ h => by cases h); exact am_alen S hK hX hfx hd h hr kk
  case iaload => obtain ⟨rfl, rfl⟩ := hn (fun _ _ _ _ h => by cases h); exact am_iald S hK hX hfx hd h hr kk
  case baload => obtain ⟨rfl, rfl⟩ := hn (fun _ _ _ _ h => by cases h); exact am_bald S hK hfx hd h hr kk
  case laload => obtain ⟨rfl, rfl⟩ := hn (fun _ _ _ _ h => by cases h); exact am_lald S hK hfx hd h hr kk
  case aaload => obtain ⟨rfl, rfl⟩ := hn (fun _ _ _ _ h => by cases h); exact am_aald S hK hfx hd h hr kk
  case iastore => obtain ⟨rfl, rfl⟩ := hn (fun _ _ _ _ h => by cases h); exact am_iast S hK hfx hd h hr kk
  case bastore => obtain ⟨rfl, rfl⟩ := hn (fun _ _ _ _ h => by cases h); exact am_bast S hK hfx hd h hr kk
  case lastore => obtain ⟨rfl, rfl⟩ := hn (fun _ _ _ _ h => by cases h); exact am_last S hK hfx hd h hr kk
  case invokevirtual x =>
    obtain ⟨rfl, rfl⟩ := hn (fun _ _ _ _ h => by cases h)
    have hi : amInv cal (pc + 3) a b q z L st M = .inl c' := h
    match q, hc, hi with
    | 1, hc, hi =>
      have hc2 : ((amMthT.contains (o, x, a, 0) || amMthT.contains (o, x, a, 1)) && decide (b = amNp.getD a 0 + 1)) = true := hc
      simp only [Bool.and_eq_true, Bool.or_eq_true, decide_eq_true_eq, List.contains_iff_mem] at hc2
      exact am_invV hA hMid hMt S hK hX hfx hlo hR hd hc2.1 hc2.2 hi hr kk
    | 9, hc, hi =>
      have hc2 : amMthT.contains (o, x, 1009, 9) = true := hc
      simp only [List.contains_iff_mem] at hc2
      exact hStr S hK hX hfx ⟨by omega, by omega, hR.2.2⟩ hd (Or.inl ⟨rfl, hc2⟩) hi hr kk
    | 10, hc, hi =>
      have hc2 : amMthT.contains (o, x, 1010, 9) = true := hc
      simp only [List.contains_iff_mem] at hc2
      exact hStr S hK hX hfx ⟨by omega, by omega, hR.2.2⟩ hd (Or.inr (Or.inl ⟨rfl, hc2⟩)) hi hr kk
    | 11, hc, hi =>
      have hc2 : amMthT.contains (o, x, 1011, 9) = true := hc
      simp only [List.contains_iff_mem] at hc2
      exact hStr S hK hX hfx ⟨by omega, by omega, hR.2.2⟩ hd (Or.inr (Or.inr ⟨rfl, hc2⟩)) hi hr kk
    | 0, hc, hi => cases hc
    | 2, hc, hi => cases hc
    | 3, hc, hi => cases hc
    | 4, hc, hi => cases hc
    | 5, hc, hi => cases hc
    | 6, hc, hi => cases hc
    | 7, hc, hi => cases hc
    | 8, hc, hi => cases hc
    | n + 12, hc, hi => cases hc
  case invokestatic x =>
    obtain ⟨rfl, rfl⟩ := hn (fun _ _ _ _ h => by cases h)
    have hi : amInv cal (pc + 3) a b q z L st M = .inl c' := h
    match q, hc, hi with
    | 0, hc, hi =>
      have hc2 : ((amMthT.contains (o, x, a, 2) || amMthT.contains (o, x, a, 3)) && decide (b = amNp.getD a 0)) = true := hc
      simp only [Bool.and_eq_true, Bool.or_eq_true, decide_eq_true_eq, List.contains_iff_mem] at hc2
      exact am_invS hA hMid hMt S hK hX hfx hlo hR hd hc2.1 hc2.2 hi hr kk
    | 5, hc, hi =>
      have hc2 : amMthT.contains (o, x, 1005, 9) = true := hc
      simp only [List.contains_iff_mem] at hc2
      exact am_max S hR1 hd hc2 hi hr kk
    | 6, hc, hi =>
      have hc2 : amMthT.contains (o, x, 1006, 9) = true := hc
      simp only [List.contains_iff_mem] at hc2
      exact am_min S hR1 hd hc2 hi hr kk
    | 7, hc, hi =>
      have hc2 : amMthT.contains (o, x, 1007, 9) = true := hc
      simp only [List.contains_iff_mem] at hc2
      exact am_cpy S hK hfx hR1 hd hc2 hi hr kk
    | 1, hc, hi => cases hc
    | 2, hc, hi => cases hc
    | 3, hc, hi => cases hc
    | 4, hc, hi => cases hc
    | n + 8, hc, hi => cases hc
  case ldc x =>
    obtain ⟨rfl, rfl⟩ := hn (fun _ _ _ _ h => by cases h)
    obtain ⟨hx, hb, hml, hown, hts⟩ := S
    match q, hc, h with
    | 0, hc, h =>
      have hc2 : (amConT.contains (o, x, z) && amR32 z) = true := hc
      simp only [Bool.and_eq_true, List.contains_iff_mem] at hc2
      cases h
      exact am_push (v := vI z) ⟨amR32_of hc2.2, trivial⟩ (fun k1 => lv_ldc hx hb hown (hts _ (amCon_ok _ hc2.1)) hd k1) hr kk
    | n + 1, hc, h =>
      have hc2 : amStrT.contains (o, x, a) = true := hc
      simp only [List.contains_iff_mem] at hc2
      cases h
      rcases amStr_ok _ hc2 with ⟨rfl, rfl, rfl⟩ | ⟨rfl, rfl, rfl⟩
      · exact am_push (v := vR 29 98 0) ⟨⟨amKnd_90.2.1, Or.inr ⟨by omega, rfl⟩⟩, trivial⟩ (fun k1 => va_ldcS hx hb hown hK.2.2.1 hd k1) hr kk
      · exact am_push (v := vR 29 99 0) ⟨⟨amKnd_90.2.2, Or.inr ⟨by omega, rfl⟩⟩, trivial⟩ (fun k1 => va_ldcS hx hb hown hK.2.2.2 hd k1) hr kk
  case ldc_w x =>
    obtain ⟨rfl, rfl⟩ := hn (fun _ _ _ _ h => by cases h)
    obtain ⟨hx, hb, hml, hown, hts⟩ := S
    have hc2 : (amConT.contains (o, x, z) && amR32 z) = true := hc
    simp only [Bool.and_eq_true, List.contains_iff_mem] at hc2
    cases h
    exact am_push (v := vI z) ⟨amR32_of hc2.2, trivial⟩ (fun k1 => lv_ldcw hx hb hown (hts _ (amCon_ok _ hc2.1)) hd k1) hr kk
  case ldc2_w x =>
    obtain ⟨rfl, rfl⟩ := hn (fun _ _ _ _ h => by cases h)
    obtain ⟨hx, hb, hml, hown, hts⟩ := S
    have hc2 : (amConL.contains (o, x, z) && amR64 z) = true := hc
    simp only [Bool.and_eq_true, List.contains_iff_mem] at hc2
    cases h
    exact am_push (v := vL z) ⟨amR64_of hc2.2, trivial⟩ (fun k1 => lv_ldc2 hx hb hown (hts _ (amConL_ok _ hc2.1)) hd k1) hr kk
  case ireturn =>
    exfalso
    have h2 : (match st with
      | [.inr (.inl x)] => (match (generalizing := false) q with
        | 0 => (.inr (some (vI x, M)) : AmR)
        | _ => bif amZ x then (.inr (some (vI x, M)) : AmR) else amNo)
      | _ => (amNo : AmR)) = .inl c' := h
    split at h2
    · rename_i x
      split at h2
      · cases h2
      · cases hz : amZ x with
        | false => rw [hz] at h2; cases h2
        | true => rw [hz] at h2; cases h2
    · cases h2
  case lreturn =>
    exfalso
    have h2 : (match st with
      | [.inr (.inr (.inl x))] => (.inr (some (vL x, M)) : AmR)
      | _ => (amNo : AmR)) = .inl c' := h
    split at h2 <;> cases h2
  case return_ =>
    exfalso
    have h2 : (match st with
      | [] => (.inr (some (vU, M)) : AmR)
      | _ => (amNo : AmR)) = .inl c' := h
    split at h2 <;> cases h2
  all_goals first | (cases hiA; done) | (cases hiB; done) | (have h' : (amNo : AmR) = .inl c' := h; cases h')
/-- the returns -/
theorem am_ret {i : Jvm.ClassFile.Instr} {len : Nat} {v : AmV} {M' : AmM} (hx : p.tables.exec = Jvm.exec) (hb : c.code = cc) (hret : meth.sig.returnType = ret) (hlk : meth.locks = false) (hfx : amFx Z) (hd : decode cc pc = .ok (i, len)) (hn : (∀ d lo hi of, i ≠ .tableswitch d lo hi of) → len = amLenI i ∧ nx = pc + amLenI i)
    (hc : amChkI amConT amConL amStrT amFldT amMthT (fun m => amNp.getD m 0) o ret lg pc i nx a b q z ts = true) (h : amEx (zG Z) cal i nx a b q z ts L st M = .inr (some (v, M')))
    (hr : amRel Z s.heap nL lg L st M ls H locs) : W p l e R s m args below meth c H locs 0 0 (MQ below (amPost Z v M') args s 0 0 (zA Z)) (F0 m pc ls (st.map (amV (zAd Z)))) := by
  have hS := hr.2.2.2.2.2.2.2.1
  have hpu : amPu0 Z M := ⟨hr.2.2.2.2.2.2.1, hr.2.2.2.2.2.2.2.2.1, hr.2.2.2.2.2.2.2.2.2⟩
  have hpost : M' = M → (amOk (zAl Z) v ∧ (∀ k c s, v ≠ vR k c s) ∧ v ≠ vN) → ∀ (t : State) (w : Option Value), w = amRetV (zAd Z) v → t.heap = H → amPost Z v M' args s (.returned w) t := fun hM hv t w hw ht => ⟨by rw [hw], by rw [hM, ht]; exact hr.2.2.2.2.2.1, by rw [ht]; exact hS.1, fun q h1 h2 => by rw [ht]; exact hS.2.1 q h1 h2, by rw [hM]; exact hpu, hv⟩
  cases i
  case ireturn =>
    obtain ⟨rfl, rfl⟩ := hn (fun _ _ _ _ h => by cases h)
    have h2 : (match st with
      | [.inr (.inl x)] => (match (generalizing := false) q with
        | 0 => (.inr (some (vI x, M)) : AmR)
        | _ => bif amZ x then (.inr (some (vI x, M)) : AmR) else amNo)
      | _ => (amNo : AmR)) = .inr (some (v, M')) := h
    split at h2
    · rename_i x
      have hxx : i32 x := hr.top (v := vI x) (by simp)
      have hc2 : (match (generalizing := false) q with
        | 0 => decide (ret = some .int)
        | _ => decide (ret = some .boolean)) = true := hc
      split at h2
      · cases h2
        exact W.iret hx hb (hret.trans (of_decide_eq_true hc2)) (fun t ht _ => hpost rfl ⟨hxx, (fun _ _ _ h => by cases h), (fun h => by cases h)⟩ t _ rfl ht) hS.2.2 hd hlk
      · rename_i hq
        cases hz : amZ x with
        | false => rw [hz] at h2; cases h2
        | true =>
          rw [hz] at h2
          cases h2
          have h01 : x = 0 ∨ x = 1 := by simpa [amZ] using hz
          have hrb : ret = some .boolean := by
            split at hc2
            · exact absurd rfl hq
            · exact of_decide_eq_true hc2
          exact W.zret (ty := .boolean) hx hb (hret.trans hrb) (by rcases h01 with rfl | rfl <;> decide) (fun t ht _ => hpost rfl ⟨hxx, (fun _ _ _ h => by cases h), (fun h => by cases h)⟩ t _ rfl ht) hS.2.2 hd hlk
    · cases h2
  case lreturn =>
    obtain ⟨rfl, rfl⟩ := hn (fun _ _ _ _ h => by cases h)
    have h2 : (match st with
      | [.inr (.inr (.inl x))] => (.inr (some (vL x, M)) : AmR)
      | _ => (amNo : AmR)) = .inr (some (v, M')) := h
    split at h2
    · rename_i x
      cases h2
      have hxx : i64 x := hr.top (v := vL x) (by simp)
      have hc2 : decide (ret = some .long) = true := hc
      exact W.lret hx hb (hret.trans (of_decide_eq_true hc2)) (fun t ht _ => hpost rfl ⟨hxx, (fun _ _ _ h => by cases h), (fun h => by cases h)⟩ t _ rfl ht) hS.2.2 hd hlk
    · cases h2
  case return_ =>
    obtain ⟨rfl, rfl⟩ := hn (fun _ _ _ _ h => by cases h)
    have h2 : (match st with
      | [] => (.inr (some (vU, M)) : AmR)
      | _ => (amNo : AmR)) = .inr (some (v, M')) := h
    split at h2
    · cases h2
      have hc2 : decide (ret = none) = true := hc
      exact W.vret hx hb (hret.trans (of_decide_eq_true hc2)) (fun t ht _ => hpost rfl ⟨trivial, (fun _ _ _ h => by cases h), (fun h => by cases h)⟩ t _ rfl ht) hS.2.2 hd hlk
    · cases h2
  case tableswitch d lo hi2 offs =>
    exfalso
    have h2 : (match st with
      | .inr (.inl x) :: st' => (amTs x z ts (fun t => .inl (t, L, st', M)) a : AmR)
      | _ => amNo) = .inr (some (v, M')) := h
    have key : ∀ (x : Int) (st' : List AmV) (ts : List Nat) (lo : Int) (d : Nat), ∃ t, amTs x lo ts (fun t => .inl (t, L, st', M)) d = .inl (t, L, st', M) := by
      intro x st' ts
      induction ts with
      | nil => intro lo d; exact ⟨d, rfl⟩
      | cons t ts ih =>
        intro lo d
        unfold amTs
        by_cases hx : x = lo
        · rw [if_pos hx]; exact ⟨t, rfl⟩
        · rw [if_neg hx]; exact ih _ _
    split at h2
    · rename_i x st'
      obtain ⟨t, ht⟩ := key x st' ts z a
      rw [ht] at h2
      cases h2
    · cases h2
  all_goals
    exfalso
    first
    | (have h' : (amNo : AmR) = .inr (some (v, M')) := h; cases h'; done)
    | (simp only [amEx, amLoI, amLoL, amLoA, amStoI, amStoL, amStoA, amInv, amPu, amIf, Bool.cond_eq_ite] at h
       repeat' (split at h)
       all_goals first | (cases h; done) | (simp [amNo] at h; done))
end AmSS
end
section
section AmSM
variable {p : Program} {l : Launch} {e : Env} {R : Room} {s : State} {m : MethodId} {args : Array Value} {below : List Frame} {meth : Method} {c : Code}
variable {cc : ByteArray} {Z : AmZ} {nL : Nat} {lg : List Nat} {o : Nat} {ret : Option FieldType} {cal : Nat → List AmV → AmM → Option (AmV × AmM)} {cd : List (Option AmE)} {cells slots : Nat} {Q : State → Prop}
theorem am_chk {pc : Nat} {en : AmE} (hchk : amChkC cc o ret lg cd = true) (h : cd[pc]? = some (some en)) : ∃ len, decode cc pc = .ok (en.1, len) ∧ ((∀ d lo hi of, en.1 ≠ .tableswitch d lo hi of) → len = amLenI en.1 ∧ en.2.1 = pc + amLenI en.1) ∧
    amChkI amConT amConL amStrT amFldT amMthT (fun m => amNp.getD m 0) o ret lg pc en.1 en.2.1 en.2.2.1 en.2.2.2.1 en.2.2.2.2.1 en.2.2.2.2.2.1 en.2.2.2.2.2.2 = true := by
  have hl : pc < cd.length := (List.getElem?_eq_some_iff.mp h).1
  have h1 := List.all_eq_true.mp hchk pc (List.mem_range.mpr hl)
  have hg : cd.getD pc none = some en := by rw [List.getD_eq_getElem?_getD, h]; rfl
  rw [hg] at h1
  have h2 : amChk1 cc o ret lg pc en = true := h1
  unfold amChk1 at h2
  split at h2
  · rename_i i' len hdec
    simp only [Bool.and_eq_true, decide_eq_true_eq] at h2
    obtain ⟨rfl, h3, h4⟩ := h2
    refine ⟨len, hdec, fun hne => ?_, h4⟩
    split at h3
    · rename_i d lo hi of heq
      exact absurd heq (hne d lo hi of)
    · simpa using h3
  · cases h2
theorem am_body {v : AmV} {M' : AmM} {lo d : Nat} (hStr : amStrOk Z) (hA : amAll l Z lo d cal) (hMid : ∀ mid, mid < 245 → amMidOk mid) (hMt : amMtLt) (S : CallFix p m c cc nL s args amT0 (amR o)) (hK : amKS Z s) (hX : amXS Z s s.heap) (hfx : amFx Z) (hlo : lo ≤ s.heap.size)
    (hR : d + 11 ≤ R.frames ∧ 2031 + 200 * d ≤ R.locals ∧ cells ≤ R.cells ∧ slots ≤ R.slots)
    (hEnd : ∀ (i : Jvm.ClassFile.Instr) (len pc nx a b q : Nat) (z : Int) (ts : List Nat) (L st : List AmV) (M : AmM) (ls : Array Slot) (H : Heap) (locs : List Loc), decode cc pc = .ok (i, len) → ((∀ d lo hi of, i ≠ .tableswitch d lo hi of) → len = amLenI i ∧ nx = pc + amLenI i) → amChkI amConT amConL amStrT amFldT amMthT (fun m => amNp.getD m 0) o ret lg pc i nx a b q z ts = true → amEx (zG Z) cal i nx a b q z ts L st M = .inr (some (v, M')) → amRel Z s.heap nL lg L st M ls H locs → W p l e R s m args below meth c H locs cells slots Q (F0 m pc ls (st.map (amV (zAd Z))))) (hchk : amChkC cc o ret lg cd = true) :
    ∀ (n pc : Nat) (L st : List AmV) (M : AmM) (ls : Array Slot) (H : Heap) (locs : List Loc), amN (amStep (zG Z) cal cd) n (pc, L, st, M) = some (v, M') → amRel Z s.heap nL lg L st M ls H locs →
      W p l e R s m args below meth c H locs cells slots Q (F0 m pc ls (st.map (amV (zAd Z)))) := by
  intro n
  induction n with
  | zero => intro pc L st M ls H locs h; cases h
  | succ n ih =>
    intro pc L st M ls H locs h hr
    unfold amN at h
    cases hcd : cd[pc]? with
    | none =>
      have : amStep (zG Z) cal cd (pc, L, st, M) = amNo := by
        unfold amStep
        simp only [hcd]
      rw [this] at h
      cases h
    | some oe =>
      cases oe with
      | none =>
        have : amStep (zG Z) cal cd (pc, L, st, M) = amNo := by
          unfold amStep
          simp only [hcd]
        rw [this] at h
        cases h
      | some en =>
        obtain ⟨len, hdec, hn, hc⟩ := am_chk hchk hcd
        have hst : amStep (zG Z) cal cd (pc, L, st, M) = amEx (zG Z) cal en.1 en.2.1 en.2.2.1 en.2.2.2.1 en.2.2.2.2.1 en.2.2.2.2.2.1 en.2.2.2.2.2.2 L st M := by
          unfold amStep
          simp only [hcd]
        rw [hst] at h
        cases hex : amEx (zG Z) cal en.1 en.2.1 en.2.2.1 en.2.2.2.1 en.2.2.2.2.1 en.2.2.2.2.2.1 en.2.2.2.2.2.2 L st M with
        | inr r =>
          rw [hex] at h
          have h1 : r = some (v, M') := h
          subst h1
          exact hEnd _ _ _ _ _ _ _ _ _ _ _ _ _ _ _ hdec hn hc hex hr
        | inl c' =>
          rw [hex] at h
          obtain ⟨pc', L', st', M1⟩ := c'
          have h1 : amN (amStep (zG Z) cal cd) n (pc', L', st', M1) = some (v, M') := h
          exact am_sim hStr hA hMid hMt S hK hX hfx hlo hR hdec hn hc hex hr fun ls' H' locs' hr' => ih pc' L' st' M1 ls' H' locs' h1 hr'
theorem amLay_at {ad : Nat → Nat → Nat} : ∀ (as : List AmV), (∀ w ∈ as, amSet w) → ∀ (i : Nat) (v : AmV), (amLay as)[i]? = some v → amSet v → (lg_sl (as.map (amV ad)))[i]? = some (.val (amV ad v))
  | [], _, i, v, h, _ => by simp [amLay] at h
  | .inr (.inr (.inl x)) :: r, hs, i, v, h, hv => by
    have e : lg_sl ((.inr (.inr (.inl x)) :: r : List AmV).map (amV ad)) = .val (.long (Int64.ofInt x)) :: .second :: lg_sl (r.map (amV ad)) := rfl
    rw [e]
    have e2 : amLay (.inr (.inr (.inl x)) :: r) = vL x :: vU :: amLay r := rfl
    rw [e2] at h
    match i, h with
    | 0, h => cases h; rfl
    | 1, h => cases h; exact absurd hv (fun q => q)
    | i + 2, h => exact amLay_at r (fun w hw => hs w (List.mem_cons_of_mem _ hw)) i v h hv
  | .inr (.inl x) :: r, hs, i, v, h, hv => by
    have e : lg_sl ((.inr (.inl x) :: r : List AmV).map (amV ad)) = .val (.int (Int32.ofInt x)) :: lg_sl (r.map (amV ad)) := rfl
    rw [e]
    have e2 : amLay (.inr (.inl x) :: r) = vI x :: amLay r := rfl
    rw [e2] at h
    match i, h with
    | 0, h => cases h; rfl
    | i + 1, h => exact amLay_at r (fun w hw => hs w (List.mem_cons_of_mem _ hw)) i v h hv
  | .inl q :: r, hs, i, v, h, hv => by
    have e : lg_sl ((.inl q :: r : List AmV).map (amV ad)) = .val (amV ad (.inl q)) :: lg_sl (r.map (amV ad)) := by
      rcases q with _ | ⟨k, c, s⟩ <;> rfl
    rw [e]
    have e2 : amLay (.inl q :: r) = .inl q :: amLay r := rfl
    rw [e2] at h
    match i, h with
    | 0, h => cases h; rfl
    | i + 1, h => exact amLay_at r (fun w hw => hs w (List.mem_cons_of_mem _ hw)) i v h hv
  | .inr (.inr (.inr x)) :: r, hs, i, v, h, hv => absurd (hs _ List.mem_cons_self) (fun q => q)
theorem amLay_len {ad : Nat → Nat → Nat} : ∀ (as : List AmV), (∀ w ∈ as, amSet w) → (lg_sl (as.map (amV ad))).length = (amLay as).length
  | [], _ => rfl
  | .inr (.inr (.inl x)) :: r, hs => by
    show (Slot.val _ :: Slot.second :: lg_sl (r.map (amV ad))).length = (vL x :: vU :: amLay r).length
    simp [amLay_len r (fun w hw => hs w (List.mem_cons_of_mem _ hw))]
  | .inr (.inl x) :: r, hs => by
    show (Slot.val _ :: lg_sl (r.map (amV ad))).length = (vI x :: amLay r).length
    simp [amLay_len r (fun w hw => hs w (List.mem_cons_of_mem _ hw))]
  | .inl q :: r, hs => by
    have e : lg_sl ((.inl q :: r : List AmV).map (amV ad)) = .val (amV ad (.inl q)) :: lg_sl (r.map (amV ad)) := by
      rcases q with _ | ⟨k, c, s⟩ <;> rfl
    rw [e]
    show (Slot.val _ :: lg_sl (r.map (amV ad))).length = ((.inl q : AmV) :: amLay r).length
    simp [amLay_len r (fun w hw => hs w (List.mem_cons_of_mem _ hw))]
  | .inr (.inr (.inr x)) :: r, hs => absurd (hs _ List.mem_cons_self) (fun q => q)
theorem amLay_mem : ∀ (as : List AmV) (v : AmV), v ∈ amLay as → v = vU ∨ v ∈ as
  | [], v, h => by simp [amLay] at h
  | .inr (.inr (.inl x)) :: r, v, h => by
    have h : v ∈ vL x :: vU :: amLay r := h
    simp only [List.mem_cons] at h ⊢
    rcases h with h | h | h
    · exact Or.inr (Or.inl h)
    · exact Or.inl h
    · rcases amLay_mem r v h with h | h
      · exact Or.inl h
      · exact Or.inr (Or.inr h)
  | .inr (.inl x) :: r, v, h => by
    have h : v ∈ vI x :: amLay r := h
    simp only [List.mem_cons] at h ⊢
    rcases h with h | h
    · exact Or.inr (Or.inl h)
    · rcases amLay_mem r v h with h | h
      · exact Or.inl h
      · exact Or.inr (Or.inr h)
  | .inl q :: r, v, h => by
    have h : v ∈ (.inl q : AmV) :: amLay r := h
    simp only [List.mem_cons] at h ⊢
    rcases h with h | h
    · exact Or.inr (Or.inl h)
    · rcases amLay_mem r v h with h | h
      · exact Or.inl h
      · exact Or.inr (Or.inr h)
  | .inr (.inr (.inr x)) :: r, v, h => by
    have h : v ∈ (.inr (.inr (.inr x)) : AmV) :: amLay r := h
    simp only [List.mem_cons] at h ⊢
    rcases h with h | h
    · exact Or.inr (Or.inl h)
    · rcases amLay_mem r v h with h | h
      · exact Or.inl h
      · exact Or.inr (Or.inr h)
theorem amLgB_of {lg : List Nat} : ∀ (k : Nat) (as : List AmV), amLgB lg k as = true → ∀ (i : Nat) (x : Int), as[i]? = some (vL x) → k + i ∈ lg
  | k, [], _, i, x, h => by simp at h
  | k, .inr (.inr (.inl y)) :: r, hb, i, x, h => by
    have hb : (lg.contains k && amLgB lg (k + 1) r) = true := hb
    simp only [Bool.and_eq_true] at hb
    match i, h with
    | 0, _ => simpa using hb.1
    | i + 1, h => have := amLgB_of (k + 1) r hb.2 i x h; rwa [show k + 1 + i = k + (i + 1) by omega] at this
  | k, .inr (.inl y) :: r, hb, i, x, h => by
    have hb : amLgB lg (k + 1) r = true := hb
    match i, h with
    | 0, h => cases h
    | i + 1, h => have := amLgB_of (k + 1) r hb i x h; rwa [show k + 1 + i = k + (i + 1) by omega] at this
  | k, .inl y :: r, hb, i, x, h => by
    have hb : amLgB lg (k + 1) r = true := hb
    match i, h with
    | 0, h => cases h
    | i + 1, h => have := amLgB_of (k + 1) r hb i x h; rwa [show k + 1 + i = k + (i + 1) by omega] at this
  | k, .inr (.inr (.inr y)) :: r, hb, i, x, h => by
    have hb : amLgB lg (k + 1) r = true := hb
    match i, h with
    | 0, h => cases h
    | i + 1, h => have := amLgB_of (k + 1) r hb i x h; rwa [show k + 1 + i = k + (i + 1) by omega] at this
/-- EVERY CALL OF THE SMALL MACHINE HAS ITS CONTRACT OVER THE REAL ONE -/
theorem am_sound (l : Launch) (Z : AmZ) (lo : Nat) (hStr : amStrOk Z) (hfx : amFx Z) (hMid : ∀ mid, mid < 245 → amMidOk mid ∧ amChkC (amBy.getD mid ⟨#[]⟩) (amOwn.getD mid 99) (amRt.getD mid none) (amLg.getD mid []) (amCodes.getD mid []) = true) (hMt : amMtLt) :
    ∀ d, amAll l Z lo d (amD (zG Z) d) := by
  intro d
  induction d with
  | zero => intro mid as M v M' _ h; cases h
  | succ d ih =>
    intro mid as M v M' hmid h has hpu
    obtain ⟨hOk, hchk⟩ := hMid mid hmid
    have h1 : (bif Nat.ble (amLay as).length (amMaxL.getD mid 0) && amLgB (amLg.getD mid []) 0 (amLay as) then amRun (amStep (zG Z) (amD (zG Z) d) (amCodes.getD mid [])) (0, amEnt (amMaxL.getD mid 0) as, [], M) else none) = some (v, M') := h
    cases hb : (Nat.ble (amLay as).length (amMaxL.getD mid 0) && amLgB (amLg.getD mid []) 0 (amLay as)) with
    | false => rw [hb] at h1; cases h1
    | true =>
      rw [hb] at h1
      simp only [Bool.and_eq_true] at hb
      have hlen := Nat.le_of_ble_eq_true hb.1
      have h1 : amRun (amStep (zG Z) (amD (zG Z) d) (amCodes.getD mid [])) (0, amEnt (amMaxL.getD mid 0) as, [], M) = some (v, M') := h1
      obtain ⟨n, hn⟩ := amRun_ex h1
      have hset : ∀ w ∈ as, amSet w := fun w hw => (has w hw).2
      refine Met.ofW (cc := amBy.getD mid ⟨#[]⟩) (maxL := amMaxL.getD mid 0) (ret := amRt.getD mid none) hOk.2.2.1 rfl ?_
      intro p e s m args below meth c s₁ B hml hv
      obtain ⟨rfl, hKS, hP, hXS, hlo⟩ := hv
      have hts0 := atoms_spec (ws := amWs mid) B.pre
      have hts : ∀ w ∈ amT0, w.before ((as.map (amV (zAd Z))).toArray) s = true := fun w hw => hts0 w (List.mem_cons_of_mem _ hw)
      have hown : s.vm.findClass (amR (amOwn.getD mid 99)) = some m.cls := by rw [← hOk.2.2.2.2.1]; exact findClass_of_methodNamed B.named
      rw [lg_entry_eq]
      have hl0 := amLay_len (ad := zAd Z) as hset
      have hle := lv_entry (as.map (amV (zAd Z))) (n := amMaxL.getD mid 0) (by rw [hl0]; exact hlen)
      refine am_body hStr ih (fun k hk => (hMid k hk).1) hMt ⟨B.exec, B.bytes, hml, hown, hts⟩ hKS hXS hfx hlo (R := amRm (d + 1)) ⟨by show d + 11 ≤ d + 1 + 10; omega, by show 2031 + 200 * d ≤ 200 * (d + 1) + 2000; omega, Nat.le_refl _, Nat.le_refl _⟩ (fun _ _ _ _ _ _ _ _ _ _ _ _ _ _ _ h1 h2 h3 h4 h5 => am_ret B.exec B.bytes B.returns B.notSynchronized hfx h1 h2 h3 h4 h5) hchk n 0 _ [] M _ s.heap [] hn ?_
      refine ⟨⟨hle.1, hle.2.1, fun i w hw hws => ?_⟩, ?_, fun w hw => ?_, fun i x hx => ?_, fun w hw => (by simp at hw), hP, hpu.1, va_S.rf, hpu.2.1, hpu.2.2⟩
      · have hw : (amLay as ++ List.replicate (amMaxL.getD mid 0 - (amLay as).length) vU)[i]? = some w := hw
        by_cases hi : i < (amLay as).length
        · rw [List.getElem?_append_left hi] at hw
          have h2 := amLay_at (ad := zAd Z) as hset i w hw hws
          rw [List.getElem?_toArray, List.getElem?_append_left (by rw [hl0]; exact hi)]
          exact h2
        · rw [List.getElem?_append_right (by omega), List.getElem?_replicate] at hw
          split at hw
          · cases hw; exact absurd hws (fun q => q)
          · cases hw
      · show (amLay as ++ List.replicate (amMaxL.getD mid 0 - (amLay as).length) vU).length = _
        rw [List.length_append, List.length_replicate]; omega
      · have hw : w ∈ amLay as ++ List.replicate (amMaxL.getD mid 0 - (amLay as).length) vU := hw
        rcases List.mem_append.mp hw with hw | hw
        · rcases amLay_mem as w hw with rfl | hw
          · trivial
          · exact (has w hw).1
        · rw [(List.mem_replicate.mp hw).2]; trivial
      · have hx : (amLay as ++ List.replicate (amMaxL.getD mid 0 - (amLay as).length) vU)[i]? = some (vL x) := hx
        by_cases hi : i < (amLay as).length
        · rw [List.getElem?_append_left hi] at hx
          have := amLgB_of 0 _ hb.2 i x hx
          rwa [Nat.zero_add] at this
        · rw [List.getElem?_append_right (by omega), List.getElem?_replicate] at hx
          split at hx
          · cases hx
          · cases hx
end AmSM
end
section
/-- one place of a method's code -/
def amChkP (cc : ByteArray) (o : Nat) (ret : Option FieldType) (lg : List Nat) (cd : List (Option AmE)) (pc : Nat) : Bool := match cd.getD pc none with
  | none => true
  | some e => amChk1 cc o ret lg pc e
theorem amChk_app {f : Nat → Bool} {a b : Nat} (h1 : (List.range a).all f = true) (h2 : (List.range b).all (fun k => f (a + k)) = true) : (List.range (a + b)).all f = true := by
  rw [List.range_add, List.all_append, List.all_map, h1]
  exact h2
set_option maxRecDepth 100000 in
theorem amLawC_0 : (List.range 48).all (fun k => amChkP code 13 (some .boolean) [] cdL_law (0 + k)) = true := by decide +kernel
set_option maxRecDepth 100000 in
theorem amLawC_48 : (List.range 48).all (fun k => amChkP code 13 (some .boolean) [] cdL_law (48 + k)) = true := by decide +kernel
set_option maxRecDepth 100000 in
theorem amLawC_96 : (List.range 48).all (fun k => amChkP code 13 (some .boolean) [] cdL_law (96 + k)) = true := by decide +kernel
set_option maxRecDepth 100000 in
theorem amLawC_144 : (List.range 48).all (fun k => amChkP code 13 (some .boolean) [] cdL_law (144 + k)) = true := by decide +kernel
set_option maxRecDepth 100000 in
theorem amLawC_192 : (List.range 48).all (fun k => amChkP code 13 (some .boolean) [] cdL_law (192 + k)) = true := by decide +kernel
set_option maxRecDepth 100000 in
theorem amLawC_240 : (List.range 48).all (fun k => amChkP code 13 (some .boolean) [] cdL_law (240 + k)) = true := by decide +kernel
set_option maxRecDepth 100000 in
theorem amLawC_288 : (List.range 48).all (fun k => amChkP code 13 (some .boolean) [] cdL_law (288 + k)) = true := by decide +kernel
set_option maxRecDepth 100000 in
theorem amLawC_336 : (List.range 48).all (fun k => amChkP code 13 (some .boolean) [] cdL_law (336 + k)) = true := by decide +kernel
set_option maxRecDepth 100000 in
theorem amLawC_384 : (List.range 48).all (fun k => amChkP code 13 (some .boolean) [] cdL_law (384 + k)) = true := by decide +kernel
set_option maxRecDepth 100000 in
theorem amLawC_432 : (List.range 48).all (fun k => amChkP code 13 (some .boolean) [] cdL_law (432 + k)) = true := by decide +kernel
set_option maxRecDepth 100000 in
theorem amLawC_480 : (List.range 48).all (fun k => amChkP code 13 (some .boolean) [] cdL_law (480 + k)) = true := by decide +kernel
set_option maxRecDepth 100000 in
theorem amLawC_528 : (List.range 48).all (fun k => amChkP code 13 (some .boolean) [] cdL_law (528 + k)) = true := by decide +kernel
set_option maxRecDepth 100000 in
theorem amLawC_576 : (List.range 48).all (fun k => amChkP code 13 (some .boolean) [] cdL_law (576 + k)) = true := by decide +kernel
set_option maxRecDepth 100000 in
theorem amLawC_624 : (List.range 48).all (fun k => amChkP code 13 (some .boolean) [] cdL_law (624 + k)) = true := by decide +kernel
set_option maxRecDepth 100000 in
theorem amLawC_672 : (List.range 48).all (fun k => amChkP code 13 (some .boolean) [] cdL_law (672 + k)) = true := by decide +kernel
set_option maxRecDepth 100000 in
theorem amLawC_720 : (List.range 48).all (fun k => amChkP code 13 (some .boolean) [] cdL_law (720 + k)) = true := by decide +kernel
set_option maxRecDepth 100000 in
theorem amLawC_768 : (List.range 48).all (fun k => amChkP code 13 (some .boolean) [] cdL_law (768 + k)) = true := by decide +kernel
set_option maxRecDepth 100000 in
theorem amLawC_816 : (List.range 48).all (fun k => amChkP code 13 (some .boolean) [] cdL_law (816 + k)) = true := by decide +kernel
set_option maxRecDepth 100000 in
theorem amLawC_864 : (List.range 48).all (fun k => amChkP code 13 (some .boolean) [] cdL_law (864 + k)) = true := by decide +kernel
set_option maxRecDepth 100000 in
theorem amLawC_912 : (List.range 48).all (fun k => amChkP code 13 (some .boolean) [] cdL_law (912 + k)) = true := by decide +kernel
set_option maxRecDepth 100000 in
theorem amLawC_960 : (List.range 48).all (fun k => amChkP code 13 (some .boolean) [] cdL_law (960 + k)) = true := by decide +kernel
set_option maxRecDepth 100000 in
theorem amLawC_1008 : (List.range 24).all (fun k => amChkP code 13 (some .boolean) [] cdL_law (1008 + k)) = true := by decide +kernel
theorem amLawD_0 : (List.range 0).all (amChkP code 13 (some .boolean) [] cdL_law) = true := rfl
theorem amLawD_48 : (List.range 48).all (amChkP code 13 (some .boolean) [] cdL_law) = true := amChk_app (a := 0) (b := 48) amLawD_0 amLawC_0
theorem amLawD_96 : (List.range 96).all (amChkP code 13 (some .boolean) [] cdL_law) = true := amChk_app (a := 48) (b := 48) amLawD_48 amLawC_48
theorem amLawD_144 : (List.range 144).all (amChkP code 13 (some .boolean) [] cdL_law) = true := amChk_app (a := 96) (b := 48) amLawD_96 amLawC_96
theorem amLawD_192 : (List.range 192).all (amChkP code 13 (some .boolean) [] cdL_law) = true := amChk_app (a := 144) (b := 48) amLawD_144 amLawC_144
theorem amLawD_240 : (List.range 240).all (amChkP code 13 (some .boolean) [] cdL_law) = true := amChk_app (a := 192) (b := 48) amLawD_192 amLawC_192
theorem amLawD_288 : (List.range 288).all (amChkP code 13 (some .boolean) [] cdL_law) = true := amChk_app (a := 240) (b := 48) amLawD_240 amLawC_240
theorem amLawD_336 : (List.range 336).all (amChkP code 13 (some .boolean) [] cdL_law) = true := amChk_app (a := 288) (b := 48) amLawD_288 amLawC_288
theorem amLawD_384 : (List.range 384).all (amChkP code 13 (some .boolean) [] cdL_law) = true := amChk_app (a := 336) (b := 48) amLawD_336 amLawC_336
theorem amLawD_432 : (List.range 432).all (amChkP code 13 (some .boolean) [] cdL_law) = true := amChk_app (a := 384) (b := 48) amLawD_384 amLawC_384
theorem amLawD_480 : (List.range 480).all (amChkP code 13 (some .boolean) [] cdL_law) = true := amChk_app (a := 432) (b := 48) amLawD_432 amLawC_432
theorem amLawD_528 : (List.range 528).all (amChkP code 13 (some .boolean) [] cdL_law) = true := amChk_app (a := 480) (b := 48) amLawD_480 amLawC_480
theorem amLawD_576 : (List.range 576).all (amChkP code 13 (some .boolean) [] cdL_law) = true := amChk_app (a := 528) (b := 48) amLawD_528 amLawC_528
theorem amLawD_624 : (List.range 624).all (amChkP code 13 (some .boolean) [] cdL_law) = true := amChk_app (a := 576) (b := 48) amLawD_576 amLawC_576
theorem amLawD_672 : (List.range 672).all (amChkP code 13 (some .boolean) [] cdL_law) = true := amChk_app (a := 624) (b := 48) amLawD_624 amLawC_624
theorem amLawD_720 : (List.range 720).all (amChkP code 13 (some .boolean) [] cdL_law) = true := amChk_app (a := 672) (b := 48) amLawD_672 amLawC_672
theorem amLawD_768 : (List.range 768).all (amChkP code 13 (some .boolean) [] cdL_law) = true := amChk_app (a := 720) (b := 48) amLawD_720 amLawC_720
theorem amLawD_816 : (List.range 816).all (amChkP code 13 (some .boolean) [] cdL_law) = true := amChk_app (a := 768) (b := 48) amLawD_768 amLawC_768
theorem amLawD_864 : (List.range 864).all (amChkP code 13 (some .boolean) [] cdL_law) = true := amChk_app (a := 816) (b := 48) amLawD_816 amLawC_816
theorem amLawD_912 : (List.range 912).all (amChkP code 13 (some .boolean) [] cdL_law) = true := amChk_app (a := 864) (b := 48) amLawD_864 amLawC_864
theorem amLawD_960 : (List.range 960).all (amChkP code 13 (some .boolean) [] cdL_law) = true := amChk_app (a := 912) (b := 48) amLawD_912 amLawC_912
theorem amLawD_1008 : (List.range 1008).all (amChkP code 13 (some .boolean) [] cdL_law) = true := amChk_app (a := 960) (b := 48) amLawD_960 amLawC_960
theorem amLawD_1032 : (List.range 1032).all (amChkP code 13 (some .boolean) [] cdL_law) = true := amChk_app (a := 1008) (b := 24) amLawD_1008 amLawC_1008
set_option maxRecDepth 100000 in
theorem amLaw_len : cdL_law.length = 1032 := by decide +kernel
theorem amLaw_chk : amChkC code 13 (some .boolean) [] cdL_law = true := by
  unfold amChkC
  rw [amLaw_len]
  exact amLawD_1032
end
section
-- ===== end of PART A; then your names; then what follows =====
/-! THE CLAIM OUT OF ONE WALK OF THE LAW'S BODY. Your part is whole_start (and what it stands on); all else here is the same for every law, but numbers. -/
def R_law : String := "SaltStairsLaw"
def lw_P (b : Addr) (xs : List Int32) (args : Array Value) (s : State) : Prop := args = #[.ref b] ∧ s.IntsAt b xs ∧ xs.length ≤ 3072 ∧ (Jvm.Cond.and given_1 narrow_1).before args s = true
def lw_Q (_ : Array Value) (s : State) (o : Outcome) (t : State) : Prop := o = .returned (some (.int 1)) ∧ Framed s o t [] 600000 7302250
def lw_Z (below : List Frame) (a : Array Value) (s : State) : State → Prop := fun t => ∃ o, t.status = .running ∧ Ended t below o ∧ lw_Q a s o t
/-- the law's own end, with 1 on the stack, nothing written that was there before, its room as the claim has it -/
theorem lw_ret {p : Program} {l : Launch} {e : Env} {s : State} {m : MethodId} {below : List Frame} {meth : Method} {c : Code} {b : Nat} (hx : p.tables.exec = Jvm.exec) (hb : c.code = code) (hr : meth.sig.returnType = ret) (hlocks : meth.locks = false) {pc : Nat} {H : Heap} {ls : Array Slot} (hdg : decode code pc = .ok (.ireturn, 1)) : W p l e room_1 s m #[Value.ref b] below meth c H [] 600000 7302250 (lw_Z below #[Value.ref b] s) (F0 m pc ls [.int 1]) := by
  intro T hT X
  obtain ⟨fs, hret, hrun, hended, hW, hframe⟩ := X.leave (v := some (.int 1)) (hlocks := hlocks) (fun h => by rw [hr] at h; cases h)
  have hmeth' : T.vm.method? m = some meth := X.method'
  refine ⟨T.setFrames fs, ?_, .returned (some (.int 1)), hrun, hended, rfl, ⟨_, rfl⟩, hW, hframe⟩
  jvm_step X.here [X.here.top, hx, hb, hdg, hmeth', hr, ret, narrow_b1]
  (try refine ⟨rfl, ?_⟩); (try refine ⟨rfl, ?_⟩)
  first | (intro acts; rw [hret _ acts rfl rfl rfl]) | rw [hret _ _ rfl rfl rfl]
  exact Steps.refl _
/-- what holds at the law's entry: the machine, the code, the tables' words (any of lw_tbl by 'hts w (by decide +kernel)'), the script of L ints xs at the cell b, what the Statement gives of the start (any of its parts by flat_of_before) -/
def lw_At (p : Program) (s : State) (m : MethodId) (meth : Method) (c : Code) (b L : Nat) (xs : Nat → Int32) : Prop :=
  p.tables.exec = Jvm.exec ∧ c.code = code ∧ meth.sig.returnType = ret ∧ c.maxLocals = 4 ∧ s.vm.findClass R_law = some m.cls ∧ (∀ w ∈ lw_tbl, w.before #[Value.ref b] s = true) ∧ va_X b L xs s s.heap ∧ b < s.heap.size ∧ meth.locks = false ∧ (Jvm.Cond.and given_1 narrow_1).before #[Value.ref b] s = true

section AmRetI
variable {Z : AmZ} {L st : List AmV} {M : AmM} {cal : Nat → List AmV → AmM → Option (AmV × AmM)} {nx a b q : Nat} {z : Int} {ts : List Nat}
theorem am_retI {i : Jvm.ClassFile.Instr} {v : AmV} {M' : AmM} (h : amEx (zG Z) cal i nx a b q z ts L st M = .inr (some (v, M'))) : i = .ireturn ∨ i = .lreturn ∨ i = .return_ := by
  cases i
  case ireturn => exact Or.inl rfl
  case lreturn => exact Or.inr (Or.inl rfl)
  case return_ => exact Or.inr (Or.inr rfl)
  case tableswitch d lo hi2 offs =>
    exfalso
    have h2 : (match st with
      | .inr (.inl x) :: st' => (amTs x z ts (fun t => .inl (t, L, st', M)) a : AmR)
      | _ => amNo) = .inr (some (v, M')) := h
    have key : ∀ (x : Int) (st' : List AmV) (ts : List Nat) (lo : Int) (d : Nat), ∃ t, amTs x lo ts (fun t => .inl (t, L, st', M)) d = .inl (t, L, st', M) := by
      intro x st' ts
      induction ts with
      | nil => intro lo d; exact ⟨d, rfl⟩
      | cons t ts ih =>
        intro lo d
        unfold amTs
        by_cases hx : x = lo
        · rw [if_pos hx]; exact ⟨t, rfl⟩
        · rw [if_neg hx]; exact ih _ _
    split at h2
    · rename_i x st'
      obtain ⟨t, ht⟩ := key x st' ts z a
      rw [ht] at h2
      cases h2
    · cases h2
  all_goals
    exfalso
    first
    | (have h' : (amNo : AmR) = .inr (some (v, M')) := h; cases h'; done)
    | (simp only [amEx, amLoI, amLoL, amLoA, amStoI, amStoL, amStoA, amInv, amPu, amIf, Bool.cond_eq_ite] at h
       repeat' (split at h)
       all_goals first | (cases h; done) | (simp [amNo] at h; done))
end AmRetI
section AmLaw
variable {p : Program} {l : Launch} {e : Env} {s : State} {m : MethodId} {below : List Frame} {meth : Method} {c : Code} {Z : AmZ} {cells slots : Nat}
/-- the law, from where a world stands: it goes on to its end as the small machine does -/
theorem am_law {b : Nat} {args : Array Value} (hargs : args = #[Value.ref b]) {d n pc : Nat} {L st : List AmV} {M M' : AmM} {ls : Array Slot} {H : Heap} {locs : List Loc} (hStr : amStrOk Z) (hd : d ≤ 300) (hx : p.tables.exec = Jvm.exec) (hb : c.code = code) (hr0 : meth.sig.returnType = some .boolean) (hml : c.maxLocals = 4) (hown : s.vm.findClass R_law = some m.cls) (hts : ∀ w ∈ lw_tbl, w.before args s = true) (hlocks : meth.locks = false)
    (hK : amKS Z s) (hX : amXS Z s s.heap) (hfx : amFx Z) (hA : ∀ q, zA Z q → s.heap.size ≤ q) (hc : cells ≤ 600000) (hs : slots ≤ 7302250)
    (h : amN (amStep (zG Z) (amD (zG Z) d) cdL_law) n (pc, L, st, M) = some (vI 1, M')) (hr : amRel Z s.heap 4 [] L st M ls H locs) : W p l e room_1 s m args below meth c H locs cells slots (lw_Z below args s) (F0 m pc ls (st.map (amV (zAd Z)))) := by
  have hMid : ∀ mid, mid < 245 → amMidOk mid := fun mid h => (amMid_all mid h).1
  refine am_body (v := vI 1) (M' := M') (lo := 0) (ret := some .boolean) (o := 13) (d := d) hStr (am_sound l Z 0 hStr hfx amMid_all amMt_lt d) hMid amMt_lt ⟨hx, hb, hml, hown, fun w hw => hts w (List.mem_filter.mp hw).1⟩ hK hX hfx (Nat.zero_le _) ⟨by show d + 11 ≤ 2048; omega, by show 2031 + 200 * d ≤ 84000; omega, hc, hs⟩ ?_ amLaw_chk n pc L st M ls H locs h hr
  intro i len pc nx a b' q z ts L st M ls H locs hdec hn hchk hex hr
  have hS := hr.2.2.2.2.2.2.2.1
  rcases am_retI hex with rfl | rfl | rfl
  · obtain ⟨rfl, rfl⟩ := hn (fun _ _ _ _ h => by cases h)
    have h2 : (match st with
      | [.inr (.inl x)] => (match (generalizing := false) q with
        | 0 => (.inr (some (vI x, M)) : AmR)
        | _ => bif amZ x then (.inr (some (vI x, M)) : AmR) else amNo)
      | _ => (amNo : AmR)) = .inr (some (vI 1, M')) := hex
    split at h2
    · rename_i x
      have hx1 : x = 1 := by
        split at h2
        · cases h2; rfl
        · cases hz : amZ x with
          | false => rw [hz] at h2; cases h2
          | true => rw [hz] at h2; cases h2; rfl
      subst hx1
      subst hargs
      exact va_forget (fun q hq => hA _ (hS.2.2 q hq)) (W.widen hc hs (lw_ret hx hb hr0 hlocks hdec))
    · cases h2
  · exfalso
    have h2 : (match st with
      | [.inr (.inr (.inl x))] => (.inr (some (vL x, M)) : AmR)
      | _ => (amNo : AmR)) = .inr (some (vI 1, M')) := hex
    split at h2 <;> cases h2
  · exfalso
    have h2 : (match st with
      | [] => (.inr (some (vU, M)) : AmR)
      | _ => (amNo : AmR)) = .inr (some (vI 1, M')) := hex
    split at h2 <;> cases h2
end AmLaw
end
section
/-! WHAT CONSTRUCTORS DO: cells are made in the order of amFull -/
def amFx1 (Z : AmZ) : Prop := amInj (zAl Z) ∧ zL Z ≤ 3072 ∧ (∀ n ∈ zAl Z, n.1 < 13 ∨ 100 ≤ n.1) ∧ ∀ n ∈ zAl Z, ∀ j, amOk (zAl Z) (zG Z n.1 n.2 j) ∧ ∃ r, zG Z n.1 n.2 j = .inl r
theorem amFx1.fx {Z : AmZ} (h : amFx1 Z) : amFx Z := ⟨h.1, h.2.1, h.2.2.1, fun n hn j => by
  obtain ⟨h1, r, h2⟩ := h.2.2.2 n hn j
  exact ⟨fun _ _ => ⟨h1, by rw [h2]; trivial, r, h2⟩, fun _ _ => ⟨h1, r, h2⟩⟩⟩
def amZn (Z : AmZ) (ad : Nat → Nat → Nat) (al : List (Nat × Nat)) (G : AmG) : AmZ := (ad, al, G, zC Z, zD Z, zA Z, zX Z, zL Z)
def amAu (ad : Nat → Nat → Nat) (c s q : Nat) : Nat → Nat → Nat := fun c' s' => if c' = c ∧ s' = s then q else ad c' s'
def amRst (M : AmM) (c s : Nat) : AmM := fun c' s' j => bif (c' == c && s' == s) then 0 else M c' s' j
def amGst1 (G : AmG) (c s : Nat) : AmG := fun c' s' j => bif (c' == c && s' == s) then vN else G c' s' j
def amGup (G : AmG) (c s j : Nat) (v : AmV) : AmG := fun c' s' j' => bif (c' == c && (s' == s && j' == j)) then v else G c' s' j'
theorem amRst_off {M : AmM} {c s c' s' : Nat} (h : ¬ (c' = c ∧ s' = s)) : amRst M c s c' s' = M c' s' := by
  funext j
  unfold amRst
  have : (c' == c && s' == s) = false := by
    by_cases h1 : c' = c
    · by_cases h2 : s' = s
      · exact absurd ⟨h1, h2⟩ h
      · simp [h2]
    · simp [h1]
  rw [this]; rfl
theorem amRst_on {M : AmM} {c s : Nat} : amRst M c s c s = fun _ => 0 := by
  funext j; unfold amRst; simp
theorem amGst1_off {G : AmG} {c s c' s' : Nat} (h : ¬ (c' = c ∧ s' = s)) : amGst1 G c s c' s' = G c' s' := by
  funext j
  unfold amGst1
  have : (c' == c && s' == s) = false := by
    by_cases h1 : c' = c
    · by_cases h2 : s' = s
      · exact absurd ⟨h1, h2⟩ h
      · simp [h2]
    · simp [h1]
  rw [this]; rfl
theorem amGst1_on {G : AmG} {c s : Nat} : amGst1 G c s c s = fun _ => vN := by
  funext j; unfold amGst1; simp
theorem amOkN_mono {al al' : List (Nat × Nat)} (hs : ∀ n ∈ al, n ∈ al') {c s : Nat} (h : amOkN al c s) : amOkN al' c s := by
  rcases h with ⟨h1, h2⟩ | h
  · exact Or.inl ⟨hs _ h1, h2⟩
  · exact Or.inr h
theorem amOk_mono {al al' : List (Nat × Nat)} (hs : ∀ n ∈ al, n ∈ al') {v : AmV} (h : amOk al v) : amOk al' v := by
  rcases v with (_ | ⟨k, c, s⟩) | x | x | x
  · trivial
  · exact ⟨h.1, amOkN_mono hs h.2⟩
  · exact h
  · exact h
  · exact h
/-- two ways to give addresses agree on what is there -/
def amAgr (al : List (Nat × Nat)) (ad ad' : Nat → Nat → Nat) : Prop := ∀ c s, amOkN al c s → ad' c s = ad c s
theorem amAgr.v {al : List (Nat × Nat)} {ad ad' : Nat → Nat → Nat} (h : amAgr al ad ad') {v : AmV} (hv : amOk al v) : amV ad' v = amV ad v := by
  rcases v with (_ | ⟨k, c, s⟩) | x | x | x
  · rfl
  · show Value.ref (ad' c s) = Value.ref (ad c s)
    rw [h c s hv.2]
  · rfl
  · rfl
  · rfl
theorem amAgr.rf {al : List (Nat × Nat)} {ad ad' : Nat → Nat → Nat} (h : amAgr al ad ad') {v : AmV} (hv : amOk al v) : amRf ad' v = amRf ad v := by
  rcases v with (_ | ⟨k, c, s⟩) | x | x | x
  · rfl
  · show some (ad' c s) = some (ad c s)
    rw [h c s hv.2]
  · rfl
  · rfl
  · rfl
theorem amAgr.cell {al : List (Nat × Nat)} {ad ad' : Nat → Nat → Nat} (h : amAgr al ad ad') {cA : Nat → ClassId} {c : Nat} {f : Nat → Int} {g : Nat → AmV} (hg : ∀ j, amOk al (g j)) : amCell cA ad' c f g = amCell cA ad c f g := by
  unfold amCell
  split
  · have : amFv ad' c f g = amFv ad c f g := by
      funext j
      unfold amFv
      split
      · exact h.v (hg j)
      · rfl
    rw [this]
  · have : amArr ad' c f g = amArr ad c f g := by
      have e : (fun j => amRf ad' (g j)) = fun j => amRf ad (g j) := funext fun j => h.rf (hg j)
      unfold amArr
      rw [e]
    rw [this]
theorem amAu_agr {al : List (Nat × Nat)} {ad : Nat → Nat → Nat} {c s q : Nat} (hn : (c, s) ∉ al) (hc : c < 13 ∨ 100 ≤ c) : amAgr al ad (amAu ad c s q) := by
  intro c' s' h
  unfold amAu
  rw [if_neg]
  rintro ⟨rfl, rfl⟩
  rcases h with ⟨h, -⟩ | ⟨h, -⟩
  · exact hn h
  · omega
theorem amInj_app {al : List (Nat × Nat)} {n : Nat × Nat} (h : amInj al) (hn : n ∉ al) : amInj (al ++ [n]) := by
  intro i j x hi hj
  by_cases h1 : i < al.length
  · rw [List.getElem?_append_left h1] at hi
    by_cases h2 : j < al.length
    · rw [List.getElem?_append_left h2] at hj
      exact h i j x hi hj
    · rw [List.getElem?_append_right (by omega)] at hj
      have hx : x = n := by
        have := List.mem_of_getElem? hj
        simpa using this
      subst hx
      exact absurd (List.mem_of_getElem? hi) hn
  · rw [List.getElem?_append_right (by omega)] at hi
    have hx : x = n := by
      have := List.mem_of_getElem? hi
      simpa using this
    have hi1 : i - al.length < 1 := by simpa using (List.getElem?_eq_some_iff.mp hi).1
    by_cases h2 : j < al.length
    · rw [List.getElem?_append_left h2] at hj
      subst hx
      exact absurd (List.mem_of_getElem? hj) hn
    · rw [List.getElem?_append_right (by omega)] at hj
      have hj1 : j - al.length < 1 := by simpa using (List.getElem?_eq_some_iff.mp hj).1
      omega
/-- a world with one cell more -/
theorem amW_new {Z : AmZ} {M : AmM} {c s q : Nat} (hfx : amFx1 Z) (hn : (c, s) ∉ zAl Z) (hc : c < 13 ∨ 100 ≤ c) :
    amW (amZn Z (amAu (zAd Z) c s q) (zAl Z ++ [(c, s)]) (amGst1 (zG Z) c s)) (amRst M c s) = amW Z M ++ [(q, amCell (zC Z) (zAd Z) c (fun _ => 0) (fun _ => vN))] := by
  have hag := amAu_agr (ad := zAd Z) (q := q) hn hc
  show (zAl Z ++ [(c, s)]).map (fun n => (amAu (zAd Z) c s q n.1 n.2, amCell (zC Z) (amAu (zAd Z) c s q) n.1 (amRst M c s n.1 n.2) (amGst1 (zG Z) c s n.1 n.2))) = _
  rw [List.map_append]
  congr 1
  · unfold amW
    refine List.map_congr_left fun n hn2 => ?_
    have hne : ¬ (n.1 = c ∧ n.2 = s) := by
      rintro ⟨e1, e2⟩
      apply hn
      rw [← e1, ← e2]
      exact hn2
    have hokn : amOkN (zAl Z) n.1 n.2 := Or.inl ⟨hn2, by have := hfx.2.2.1 n hn2; omega⟩
    rw [hag _ _ hokn, amRst_off hne, amGst1_off hne, hag.cell (fun j => (hfx.2.2.2 n hn2 j).1)]
  · show [(amAu (zAd Z) c s q c s, amCell (zC Z) (amAu (zAd Z) c s q) c (amRst M c s c s) (amGst1 (zG Z) c s c s))] = _
    rw [amRst_on, amGst1_on, hag.cell (g := fun _ => vN) (fun j => (trivial : amOk (zAl Z) vN))]
    unfold amAu
    rw [if_pos ⟨rfl, rfl⟩]
theorem amFx1_new {Z : AmZ} {c s q : Nat} (hfx : amFx1 Z) (hn : (c, s) ∉ zAl Z) (hc : c < 13 ∨ 100 ≤ c) : amFx1 (amZn Z (amAu (zAd Z) c s q) (zAl Z ++ [(c, s)]) (amGst1 (zG Z) c s)) := by
  have hsub : ∀ n ∈ zAl Z, n ∈ zAl Z ++ [(c, s)] := fun n h => List.mem_append_left _ h
  refine ⟨amInj_app hfx.1 hn, hfx.2.1, fun n h => ?_, fun n h j => ?_⟩
  · rcases List.mem_append.mp h with h | h
    · exact hfx.2.2.1 n h
    · rw [List.mem_singleton.mp h]; exact hc
  · show amOk (zAl Z ++ [(c, s)]) (amGst1 (zG Z) c s n.1 n.2 j) ∧ ∃ r, amGst1 (zG Z) c s n.1 n.2 j = .inl r
    by_cases hne : n.1 = c ∧ n.2 = s
    · rw [hne.1, hne.2, amGst1_on]
      exact ⟨trivial, none, rfl⟩
    · rw [amGst1_off hne]
      have hmem : n ∈ zAl Z := by
        rcases List.mem_append.mp h with h | h
        · exact h
        · rw [List.mem_singleton.mp h] at hne; exact absurd ⟨rfl, rfl⟩ hne
      exact ⟨amOk_mono hsub (hfx.2.2.2 n hmem j).1, (hfx.2.2.2 n hmem j).2⟩
/-- a frame and a world when a cell has come -/
theorem amRel.made {Z : AmZ} {H0 H H1 : Heap} {nL : Nat} {lg : List Nat} {L st st' : List AmV} {M : AmM} {ls : Array Slot} {locs locs1 : List Loc} {c s q k : Nat} (hr : amRel Z H0 nL lg L st M ls H locs) (hfx : amFx1 Z) (hn : (c, s) ∉ zAl Z) (hc : c < 13 ∨ 100 ≤ c) (hk : amKndL.getD c 99 = k) (hst : ∀ v ∈ st', v ∈ st)
    (h1 : va_P (zD Z) amClasses (amW Z M ++ [(q, amCell (zC Z) (zAd Z) c (fun _ => 0) (fun _ => vN))]) H1) (h2 : va_D (zA Z) (amW Z M ++ [(q, amCell (zC Z) (zAd Z) c (fun _ => 0) (fun _ => vN))])) (h3 : va_S (zA Z) H0 H1 locs1) :
    amRel (amZn Z (amAu (zAd Z) c s q) (zAl Z ++ [(c, s)]) (amGst1 (zG Z) c s)) H0 nL lg L (vR k c s :: st') (amRst M c s) ls H1 locs1 := by
  have hag := amAu_agr (ad := zAd Z) (q := q) hn hc
  have hsub : ∀ n ∈ zAl Z, n ∈ zAl Z ++ [(c, s)] := fun n h => List.mem_append_left _ h
  obtain ⟨⟨l1, l2, l3⟩, r2, r3, r4, r5, r6, r7, r8, r9, r10⟩ := hr
  refine ⟨⟨l1, l2, fun i v hi hs => ?_⟩, r2, fun v hv => amOk_mono hsub (r3 v hv), r4, fun v hv => ?_, by rw [amW_new hfx hn hc]; exact h1, by rw [amW_new hfx hn hc]; exact h2, h3, ?_, ?_⟩
  · rw [l3 i v hi hs]
    show some (Slot.val (amV (zAd Z) v)) = some (Slot.val (amV (amAu (zAd Z) c s q) v))
    rw [hag.v (r3 v (List.mem_of_getElem? hi))]
  · rcases List.mem_cons.mp hv with rfl | hv
    · exact ⟨⟨hk, Or.inl ⟨List.mem_append_right _ (List.mem_singleton.mpr rfl), by omega⟩⟩, trivial⟩
    · exact ⟨amOk_mono hsub (r5 v (hst v hv)).1, (r5 v (hst v hv)).2⟩
  · intro c' s' j
    by_cases hne : c' = c ∧ s' = s
    · rw [hne.1, hne.2, amRst_on]
      exact ⟨fun _ => by show i32 0; unfold i32; omega, by show i64 0; unfold i64; omega⟩
    · rw [amRst_off hne]; exact r9 c' s' j
  · refine ⟨?_, fun j hj => ?_⟩
    · show amRst M c s 90 1 0 = _
      rw [amRst_off (by omega)]; exact r10.1
    · show amRst M c s 90 0 j = _
      rw [amRst_off (by omega)]; exact r10.2 j hj
end
section
theorem amDef_ok : (List.range 13).all (fun a => (List.range (amFkL.getD a []).length).all fun j => decide ((parseFieldDescriptor (amTf a j).2.2.1).map defaultValue = some (if (amFkL.getD a []).getD j 0 = 2 then Value.null else Value.int 0))) = true := by decide +kernel
theorem amDef {a j : Nat} (ha : a < 13) (hj : j < (amFkL.getD a []).length) {ty : FieldType} (h : parseFieldDescriptor (amTf a j).2.2.1 = some ty) : defaultValue ty = if (amFkL.getD a []).getD j 0 = 2 then Value.null else Value.int 0 := by
  have h1 := List.all_eq_true.mp (List.all_eq_true.mp amDef_ok a (List.mem_range.mpr ha)) j (List.mem_range.mpr hj)
  have h2 := of_decide_eq_true h1
  rw [h] at h2
  exact Option.some.inj h2
section AmMk
variable {p : Program} {l : Launch} {e : Env} {R : Room} {s : State} {m : MethodId} {args : Array Value} {below : List Frame} {meth : Method} {c : Code} {cells slots : Nat} {Q : State → Prop}
variable {cc : ByteArray} {Z : AmZ} {nL : Nat} {lg : List Nat} {L st : List AmV} {M : AmM} {ls : Array Slot} {H : Heap} {locs : List Loc} {pc : Nat} {o : Nat}
theorem amMap_agr {al : List (Nat × Nat)} {ad ad' : Nat → Nat → Nat} (h : amAgr al ad ad') {st : List AmV} (hs : ∀ v ∈ st, amOk al v) : st.map (amV ad') = st.map (amV ad) := List.map_congr_left fun v hv => h.v (hs v hv)
theorem am_newS {x a s' : Nat} (S : CallFix p m c cc nL s args amT0 (amR o)) (hK : amKS Z s) (hfx : amFx1 Z) (hA : ∀ q, s.heap.size ≤ q → zA Z q) (ha : a < 13) (hcl : Jvm.Cond.classLink (amR o) x (amR a) ∈ amT0) (hins : Jvm.Cond.instantiable (amR a) (amFkL.getD a []).length ∈ amT0) (hini : Jvm.Cond.initialized (amR a) ∈ amT0) (hn : (a, s') ∉ zAl Z)
    (hc : cells + 1 ≤ R.cells) (hsl : slots + (amFkL.getD a []).length ≤ R.slots) (hd : decode cc pc = .ok (.new x, 3)) (hr : amRel Z s.heap nL lg L st M ls H locs)
    (kk : ∀ (q : Nat) (H1 : Heap), amFx1 (amZn Z (amAu (zAd Z) a s' q) (zAl Z ++ [(a, s')]) (amGst1 (zG Z) a s')) → amRel (amZn Z (amAu (zAd Z) a s' q) (zAl Z ++ [(a, s')]) (amGst1 (zG Z) a s')) s.heap nL lg L (vR a a s' :: st) (amRst M a s') ls H1 locs → W p l e R s m args below meth c H1 locs (cells + 1) (slots + (amFkL.getD a []).length) Q (F0 m (pc + 3) ls ((vR a a s' :: st).map (amV (amAu (zAd Z) a s' q))))) :
    W p l e R s m args below meth c H locs cells slots Q (F0 m pc ls (st.map (amV (zAd Z)))) := by
  obtain ⟨hx, hb, hml, hown, hts⟩ := S
  obtain ⟨cl1, cl2, cl3, ty, cl4⟩ := amCl_ok ha
  refine va_new (D := zD Z) (A := zA Z) (ws := amW Z M) (H0 := s.heap) (ci := a) (fs := (List.range (amFkL.getD a []).length).map (amFv (zAd Z) a (fun _ => 0) (fun _ => vN))) hx hb hts cl2 ty cl4 hown (hts _ hcl) (hts _ hins) (hts _ hini) hK.1 hr.2.2.2.2.2.1 hr.2.2.2.2.2.2.1 hr.2.2.2.2.2.2.2.1 hA cl1 (fun j hj => ?_) hc hsl hd fun q H1 g1 g2 g3 => ?_
  · rw [amDef ha hj (cl4 j hj)]
    have e1 := amRow_get (ad := zAd Z) (f := fun _ => 0) (g := fun _ => vN) hj
    have e2 : vp_V ((List.range (amFkL.getD a []).length).map (amFv (zAd Z) a (fun _ => 0) (fun _ => vN))) j = amFv (zAd Z) a (fun _ => 0) (fun _ => vN) j := by
      unfold vp_V
      rw [List.getD_eq_getElem?_getD, e1]
      rfl
    rw [e2]
    unfold amFv
    by_cases h2 : (amFkL.getD a []).getD j 0 = 2
    · rw [if_pos h2, h2]; rfl
    · rw [if_neg h2]
      split
      · rename_i h3; exact absurd h3 h2
      · rfl
  · have hcell : (.inr (a, (List.range (amFkL.getD a []).length).map (amFv (zAd Z) a (fun _ => 0) (fun _ => vN))) : va_E) = amCell (zC Z) (zAd Z) a (fun _ => 0) (fun _ => vN) := (if_pos ha).symm
    rw [hcell] at g1 g2
    have hr1 := hr.made (q := q) hfx hn (Or.inl ha) (amKnd_lo a ha) (fun v hv => hv) g1 g2 g3
    have h9 := kk q H1 (amFx1_new hfx hn (Or.inl ha)) hr1
    have hag := amAu_agr (ad := zAd Z) (q := q) hn (Or.inl ha)
    rw [List.map_cons, amMap_agr hag (fun v hv => (hr.2.2.2.2.1 v hv).1), show amV (amAu (zAd Z) a s' q) (vR a a s') = .ref q by show Value.ref (amAu (zAd Z) a s' q a s') = _; unfold amAu; rw [if_pos ⟨rfl, rfl⟩]] at h9
    exact h9
/-- an array of numbers -/
theorem am_newaS {a k s' : Nat} {at_ : ArrayType} {n : Int} (S : CallFix p m c cc nL s args amT0 (amR o)) (hK : amKS Z s) (hfx : amFx1 Z) (hA : ∀ q, s.heap.size ≤ q → zA Z q) (hk : 20 ≤ k ∧ k ≤ 23) (hty : (amTys (zC Z))[k - 20]? = some (zC Z k, newarray.typeOf at_)) (harr : Jvm.Cond.arrayClass (newarray.typeOf at_) ∈ amT0) (hkn : amKndL.getD a 99 = k) (ha : 100 ≤ a) (hlen : n = (amLenL.getD a 0 : Int)) (hn : (a, s') ∉ zAl Z)
    {st' : List AmV} (hst : st = vI n :: st') (hc : cells + 1 ≤ R.cells) (hsl : slots + amLenL.getD a 0 ≤ R.slots) (hd : decode cc pc = .ok (.newarray at_, 2)) (hr : amRel Z s.heap nL lg L st M ls H locs)
    (kk : ∀ (q : Nat) (H1 : Heap), amFx1 (amZn Z (amAu (zAd Z) a s' q) (zAl Z ++ [(a, s')]) (amGst1 (zG Z) a s')) → amRel (amZn Z (amAu (zAd Z) a s' q) (zAl Z ++ [(a, s')]) (amGst1 (zG Z) a s')) s.heap nL lg L (vR k a s' :: st') (amRst M a s') ls H1 locs → W p l e R s m args below meth c H1 locs (cells + 1) (slots + amLenL.getD a 0) Q (F0 m (pc + 2) ls ((vR k a s' :: st').map (amV (amAu (zAd Z) a s' q))))) :
    W p l e R s m args below meth c H locs cells slots Q (F0 m pc ls (st.map (amV (zAd Z)))) := by
  obtain ⟨hx, hb, hml, hown, hts⟩ := S
  subst hst
  have hsm := amLen_lt a
  have hni : i32 n := by unfold i32; omega
  have h13 : ¬ a < 13 := by omega
  have hcell : ∀ cA : ClassId, vp_cell cA (amArr (zAd Z) a (fun _ => 0) (fun _ => vN)) = arrV cA (amLenL.getD a 0) (fun _ => defaultValue (newarray.typeOf at_)) := by
    intro cA
    have hkk : k = 20 ∨ k = 21 ∨ k = 22 ∨ k = 23 := by omega
    rcases hkk with rfl | rfl | rfl | rfl
    · rw [amArr_i hkn (Or.inl rfl), vp_cell_i]
      have : newarray.typeOf at_ = .int := (Prod.mk.inj (Option.some.inj hty)).2.symm
      rw [this]; rfl
    · rw [amArr_l hkn, vp_cell_l]
      have : newarray.typeOf at_ = .long := (Prod.mk.inj (Option.some.inj hty)).2.symm
      rw [this]; rfl
    · rw [amArr_i hkn (by omega), vp_cell_i]
      have : newarray.typeOf at_ = .byte := (Prod.mk.inj (Option.some.inj hty)).2.symm
      rw [this]; rfl
    · rw [amArr_i hkn (by omega), vp_cell_i]
      have : newarray.typeOf at_ = .boolean := (Prod.mk.inj (Option.some.inj hty)).2.symm
      rw [this]; rfl
  refine va_newa (D := zD Z) (A := zA Z) (ws := amW Z M) (H0 := s.heap) (n := Int32.ofInt n) (N' := amLenL.getD a 0) (a0 := amArr (zAd Z) a (fun _ => 0) (fun _ => vN)) hx hb (hts _ harr) rfl hK.1 hr.2.2.2.2.2.1 hr.2.2.2.2.2.2.1 hr.2.2.2.2.2.2.2.1 hA hcell (fun h => by
    have := (of_lt hni (y := 0) am_0).mp h
    omega) (by rw [of_cl hni]; omega) ?_ hc hsl hd fun q cA H1 hK1 g1 g2 g3 => ?_
  · have : componentBytes (newarray.typeOf at_) ≤ 8 := by cases at_ <;> decide
    calc amLenL.getD a 0 * componentBytes (newarray.typeOf at_) ≤ 10000 * 8 := Nat.mul_le_mul (Nat.le_of_lt hsm) this
      _ ≤ 536870912 := by decide
  · have hcA : cA = zC Z k := by
      have h1 := (hK1.2 6 (cA, newarray.typeOf at_) (by rfl)).2
      have h2 := (hK1.2 (k - 20) (zC Z k, newarray.typeOf at_) (by rw [List.getElem?_append_left (show k - 20 < 6 by omega)]; exact hty)).2
      cases at_ <;> exact Option.some.inj (h1.symm.trans h2)
    subst hcA
    have hce : (.inl (zC Z k, amArr (zAd Z) a (fun _ => 0) (fun _ => vN)) : va_E) = amCell (zC Z) (zAd Z) a (fun _ => 0) (fun _ => vN) := by
      unfold amCell
      rw [if_neg h13, hkn]
    rw [hce] at g1 g2
    have hr1 := hr.made (q := q) hfx hn (Or.inr ha) hkn (st' := st') (fun v hv => by simp [hv]) g1 g2 g3
    have h9 := kk q H1 (amFx1_new hfx hn (Or.inr ha)) hr1
    have hag := amAu_agr (ad := zAd Z) (q := q) hn (Or.inr ha)
    rw [List.map_cons, amMap_agr hag (fun v hv => (hr.2.2.2.2.1 v (by simp [hv])).1), show amV (amAu (zAd Z) a s' q) (vR k a s') = .ref q by show Value.ref (amAu (zAd Z) a s' q a s') = _; unfold amAu; rw [if_pos ⟨rfl, rfl⟩]] at h9
    exact h9
end AmMk
end
section
theorem amGup_off {G : AmG} {c s j : Nat} {v : AmV} {c' s' : Nat} (h : ¬ (c' = c ∧ s' = s)) : amGup G c s j v c' s' = G c' s' := by
  funext j'
  unfold amGup
  have : (c' == c && (s' == s && j' == j)) = false := by
    by_cases h1 : c' = c
    · by_cases h2 : s' = s
      · exact absurd ⟨h1, h2⟩ h
      · simp [h2]
    · simp [h1]
  rw [this]; rfl
theorem amGup_on {G : AmG} {c s j : Nat} {v : AmV} {j' : Nat} : amGup G c s j v c s j' = if j' = j then v else G c s j' := by
  unfold amGup
  by_cases h : j' = j
  · simp [h]
  · have e : (j' == j) = false := beq_false_of_ne h
    simp [e, h]
theorem amW_setG {Z : AmZ} {M : AmM} {c s p j : Nat} {v : AmV} {x : va_E} (hn : amInj (zAl Z)) (hp : (zAl Z)[p]? = some (c, s)) (hx : x = amCell (zC Z) (zAd Z) c (M c s) (amGup (zG Z) c s j v c s)) : (amW Z M).set p (zAd Z c s, x) = amW (amZn Z (zAd Z) (zAl Z) (amGup (zG Z) c s j v)) M := by
  apply List.ext_getElem?
  intro i
  by_cases hi : i = p
  · subst hi
    have hl : i < (amW Z M).length := by unfold amW; rw [List.length_map]; exact (List.getElem?_eq_some_iff.mp hp).1
    rw [List.getElem?_set_self hl]
    show _ = ((zAl Z).map fun n => (zAd Z n.1 n.2, amCell (zC Z) (zAd Z) n.1 (M n.1 n.2) (amGup (zG Z) c s j v n.1 n.2)))[i]?
    rw [List.getElem?_map, hp, hx]
    rfl
  · rw [List.getElem?_set_ne (Ne.symm hi)]
    show ((zAl Z).map fun n => (zAd Z n.1 n.2, amCell (zC Z) (zAd Z) n.1 (M n.1 n.2) (zG Z n.1 n.2)))[i]? = ((zAl Z).map fun n => (zAd Z n.1 n.2, amCell (zC Z) (zAd Z) n.1 (M n.1 n.2) (amGup (zG Z) c s j v n.1 n.2)))[i]?
    rw [List.getElem?_map, List.getElem?_map]
    cases ha : (zAl Z)[i]? with
    | none => rfl
    | some n =>
      have hne : ¬ (n.1 = c ∧ n.2 = s) := by
        rintro ⟨e1, e2⟩
        apply hi
        have e : n = (c, s) := by rw [← e1, ← e2]
        rw [e] at ha
        exact hn i p _ ha hp
      simp only [Option.map_some]
      rw [amGup_off hne]
theorem amFx1_gup {Z : AmZ} {c s j : Nat} {r : Option (Nat × Nat × Nat)} (hfx : amFx1 Z) (hr : amOk (zAl Z) (.inl r)) : amFx1 (amZn Z (zAd Z) (zAl Z) (amGup (zG Z) c s j (.inl r))) := by
  refine ⟨hfx.1, hfx.2.1, hfx.2.2.1, fun n h j' => ?_⟩
  show amOk (zAl Z) (amGup (zG Z) c s j (.inl r) n.1 n.2 j') ∧ ∃ r', amGup (zG Z) c s j (.inl r) n.1 n.2 j' = .inl r'
  by_cases hne : n.1 = c ∧ n.2 = s
  · rw [hne.1, hne.2, amGup_on]
    split
    · exact ⟨hr, r, rfl⟩
    · rw [← hne.1, ← hne.2]; exact hfx.2.2.2 n h j'
  · rw [amGup_off hne]; exact hfx.2.2.2 n h j'
section AmMk3
variable {p : Program} {l : Launch} {e : Env} {R : Room} {s : State} {m : MethodId} {args : Array Value} {below : List Frame} {meth : Method} {c : Code} {cells slots : Nat} {Q : State → Prop}
variable {cc : ByteArray} {Z : AmZ} {nL : Nat} {lg : List Nat} {L st : List AmV} {M : AmM} {ls : Array Slot} {H : Heap} {locs : List Loc} {pc : Nat} {o : Nat}
theorem amRow_setG {ad : Nat → Nat → Nat} {C k : Nat} {f : Nat → Int} {g g' : Nat → AmV} {v : AmV} (hk : k < (amFkL.getD C []).length) (hq : (amFkL.getD C []).getD k 0 = 2) (h1 : g' k = v) (h2 : ∀ j, j ≠ k → g' j = g j) :
    ((List.range (amFkL.getD C []).length).map (amFv ad C f g)).set k (amV ad v) = (List.range (amFkL.getD C []).length).map (amFv ad C f g') := by
  apply List.ext_getElem?
  intro i
  by_cases hi : i = k
  · subst hi
    rw [List.getElem?_set_self (by rw [amRow_len]; exact hk), amRow_get hk]
    unfold amFv
    rw [hq, h1]
    rfl
  · rw [List.getElem?_set_ne (Ne.symm hi), List.getElem?_map, List.getElem?_map]
    cases hr : (List.range (amFkL.getD C []).length)[i]? with
    | none => rfl
    | some w =>
      have : w = i := by
        obtain ⟨hl, he⟩ := List.getElem?_eq_some_iff.mp hr
        rw [List.getElem_range] at he
        exact he.symm
      subst this
      simp only [Option.map_some]
      unfold amFv
      rw [h2 w hi]
/-- a constructor lays a reference into a final field of its object -/
theorem am_putR {x b C s' kv cv sv k1 : Nat} {st' : List AmV} (S : CallFix p m c cc nL s args amT0 (amR o)) (hK : amKS Z s) (hfx : amFx1 Z) (hC : C < 13) (hb3 : b < (amFkL.getD C []).length) (hq : (amFkL.getD C []).getD b 0 = 2) (hl : Jvm.Cond.fieldLink (amR o) x (amTf C b).1 (amTf C b).2.1 (amTf C b).2.2.1 ∈ amT0) (hfin : (amTf C b).2.2.2 = true) (hin : meth.name = "<init>") (hdecl : (amTf C b).1 = amR o)
    (hty : ∃ ty, parseFieldDescriptor (amTf C b).2.2.1 = some ty ∧ narrow ty (.ref (zAd Z cv sv)) = .ref (zAd Z cv sv) ∧ fits ty (.ref (zAd Z cv sv)) = true) (hst : st = vR kv cv sv :: vR k1 C s' :: st') (hd : decode cc pc = .ok (.putfield x, 3)) (hr : amRel Z s.heap nL lg L st M ls H locs)
    (kk : ∀ (H1 : Heap) (locs1 : List Loc), amFx1 (amZn Z (zAd Z) (zAl Z) (amGup (zG Z) C s' b (vR kv cv sv))) → amRel (amZn Z (zAd Z) (zAl Z) (amGup (zG Z) C s' b (vR kv cv sv))) s.heap nL lg L st' M ls H1 locs1 → W p l e R s m args below meth c H1 locs1 cells slots Q (F0 m (pc + 3) ls (st'.map (amV (zAd Z))))) :
    W p l e R s m args below meth c H locs cells slots Q (F0 m pc ls (st.map (amV (zAd Z)))) := by
  obtain ⟨hx, hb, hml, hown, hts⟩ := S
  subst hst
  obtain ⟨cl1, cl2, cl3, ty, cl4⟩ := amCl_ok hC
  obtain ⟨ty1, t1, t2, t3⟩ := hty
  have hokv : amOk (zAl Z) (vR kv cv sv) := hr.top (by simp)
  have hok : amOk (zAl Z) (vR k1 C s') := hr.top (by simp)
  have hmem := am_okR hok (by omega) (by omega) (by omega)
  obtain ⟨pp, hp1, hp2⟩ := amW_at (M := M) hmem
  have hce : ∀ g, amCell (zC Z) (zAd Z) C (M C s') g = .inr (C, (List.range (amFkL.getD C []).length).map (amFv (zAd Z) C (M C s') g)) := fun g => if_pos hC
  rw [hce] at hp2
  refine va_putF (D := zD Z) (ci := C) hx hb hts cl2 ty cl4 cl3 hown hK.1 hr.2.2.2.2.2.1 hr.2.2.2.2.2.2.1 hr.2.2.2.2.2.2.2.1 pp hp2 cl1 b hb3 (hts _ hl) (fun _ h => h) hfin hin hdecl t1 t2 t3 (by rw [amRow_len]; exact hb3) hd fun H1 locs1 g1 g2 g3 => ?_
  have hset := amW_setG (Z := Z) (M := M) (j := b) (v := vR kv cv sv) (x := .inr (C, ((List.range (amFkL.getD C []).length).map (amFv (zAd Z) C (M C s') (zG Z C s'))).set b (amV (zAd Z) (vR kv cv sv)))) hfx.1 hp1 (by rw [hce, amRow_setG (g' := amGup (zG Z) C s' b (vR kv cv sv) C s') hb3 hq (by rw [amGup_on, if_pos rfl]) (fun j hj => by rw [amGup_on, if_neg hj])])
  rw [hset] at g1 g2
  exact kk H1 locs1 (amFx1_gup hfx hokv) ⟨hr.1, hr.2.1, hr.2.2.1, hr.2.2.2.1, fun v hv => hr.2.2.2.2.1 v (by simp [hv]), g1, g2, g3, hr.2.2.2.2.2.2.2.2.1, hr.2.2.2.2.2.2.2.2.2⟩
/-- a reference into an array of them -/
theorem am_aastS {C s' k kv cv sv : Nat} {j : Int} {st' : List AmV} (S : CallFix p m c cc nL s args amT0 (amR o)) (hK : amKS Z s) (hfx : amFx1 Z) (hk : k = 24 ∧ cv = 5 ∨ k = 25 ∧ cv = 6) (hj : 0 ≤ j ∧ j < (amLenL.getD C 0 : Int)) (hst : st = vR kv cv sv :: vI j :: vR k C s' :: st') (hd : decode cc pc = .ok (.aastore, 1)) (hr : amRel Z s.heap nL lg L st M ls H locs)
    (kk : ∀ (H1 : Heap) (locs1 : List Loc), amFx1 (amZn Z (zAd Z) (zAl Z) (amGup (zG Z) C s' j.toNat (vR kv cv sv))) → amRel (amZn Z (zAd Z) (zAl Z) (amGup (zG Z) C s' j.toNat (vR kv cv sv))) s.heap nL lg L st' M ls H1 locs1 → W p l e R s m args below meth c H1 locs1 cells slots Q (F0 m (pc + 1) ls (st'.map (amV (zAd Z))))) :
    W p l e R s m args below meth c H locs cells slots Q (F0 m pc ls (st.map (amV (zAd Z)))) := by
  obtain ⟨hx, hb, hml, hown, hts⟩ := S
  subst hst
  have hji : i32 j := hr.top (v := vI j) (by simp)
  have hokv : amOk (zAl Z) (vR kv cv sv) := hr.top (by simp)
  have hok : amOk (zAl Z) (vR k C s') := hr.top (by simp)
  have h90 : C ≠ 90 := by rintro rfl; have h9 : amKndL.getD 90 99 = k := hok.1; rw [amKnd_90.1] at h9; omega
  have hcv : cv < 13 := by omega
  have hmemv := am_okR hokv (by omega) (by omega) (by omega)
  obtain ⟨pv, hpv1, hpv2⟩ := amW_at (M := M) hmemv
  have hce : amCell (zC Z) (zAd Z) cv (M cv sv) (zG Z cv sv) = .inr (cv, (List.range (amFkL.getD cv []).length).map (amFv (zAd Z) cv (M cv sv) (zG Z cv sv))) := if_pos hcv
  rw [hce] at hpv2
  obtain ⟨clv, -⟩ := amCl_ok hcv
  obtain ⟨hmem, h13, hkn, pp, hp1, hp2⟩ := am_arr hr hfx.fx hok (by omega) h90
  rw [amArr_q hkn (by omega)] at hp2
  have eu : va_up (fun i => amRf (zAd Z) (zG Z C s' i)) j.toNat (some (zAd Z cv sv)) = fun i => amRf (zAd Z) (amGup (zG Z) C s' j.toNat (vR kv cv sv) C s' i) := by
    funext i
    rw [amGup_on]
    unfold va_up
    by_cases h : i = j.toNat
    · rw [if_pos h, if_pos h]; rfl
    · rw [if_neg h, if_neg h]
  have hset := amW_setG (Z := Z) (M := M) (j := j.toNat) (v := vR kv cv sv) (x := .inl (zC Z k, amLenL.getD C 0, .inr (.inr (.inr (.inr (va_up (fun i => amRf (zAd Z) (zG Z C s' i)) j.toNat (some (zAd Z cv sv)))))))) hfx.1 hp1 (by
    unfold amCell
    rw [if_neg h13, hkn, amArr_q hkn (by omega), eu])
  have fin : ∀ (H1 : Heap) (locs1 : List Loc), va_P (zD Z) amClasses ((amW Z M).set pp (zAd Z C s', .inl (zC Z k, amLenL.getD C 0, .inr (.inr (.inr (.inr (va_up (fun i => amRf (zAd Z) (zG Z C s' i)) j.toNat (some (zAd Z cv sv))))))))) H1 → va_D (zA Z) ((amW Z M).set pp (zAd Z C s', .inl (zC Z k, amLenL.getD C 0, .inr (.inr (.inr (.inr (va_up (fun i => amRf (zAd Z) (zG Z C s' i)) j.toNat (some (zAd Z cv sv))))))))) → va_S (zA Z) s.heap H1 locs1 → W p l e R s m args below meth c H1 locs1 cells slots Q (F0 m (pc + 1) ls (st'.map (amV (zAd Z)))) := by
    intro H1 locs1 g1 g2 g3
    rw [hset] at g1 g2
    exact kk H1 locs1 (amFx1_gup hfx hokv) ⟨hr.1, hr.2.1, hr.2.2.1, hr.2.2.2.1, fun v hv => hr.2.2.2.2.1 v (by simp [hv]), g1, g2, g3, hr.2.2.2.2.2.2.2.2.1, hr.2.2.2.2.2.2.2.2.2⟩
  rcases hk with ⟨rfl, rfl⟩ | ⟨rfl, rfl⟩
  · refine va_astq (D := zD Z) hx hb hK.1 hr.2.2.2.2.2.1 hr.2.2.2.2.2.2.1 hr.2.2.2.2.2.2.2.1 pp 4 pv 5 hp2 rfl hpv2 clv ((of_in hji).mpr hj) hd fun H1 locs1 g1 g2 g3 => ?_
    rw [of_cl hji] at g1 g2
    exact fin H1 locs1 g1 g2 g3
  · refine va_astq (D := zD Z) hx hb hK.1 hr.2.2.2.2.2.1 hr.2.2.2.2.2.2.1 hr.2.2.2.2.2.2.2.1 pp 5 pv 6 hp2 rfl hpv2 clv ((of_in hji).mpr hj) hd fun H1 locs1 g1 g2 g3 => ?_
    rw [of_cl hji] at g1 g2
    exact fin H1 locs1 g1 g2 g3
/-- an array of references -/
theorem am_newqS {x a k s' : Nat} {Cn : String} {n : Int} (S : CallFix p m c cc nL s args amT0 (amR o)) (hK : amKS Z s) (hAO : va_AO Cn s) (hfx : amFx1 Z) (hA : ∀ q, s.heap.size ≤ q → zA Z q) (hk : k = 24 ∧ Cn = "SaltStairs$Scene" ∨ k = 25 ∧ Cn = "SaltStairs$Stairs") (hcl : Jvm.Cond.classLink (amR o) x Cn ∈ amT0) (hkn : amKndL.getD a 99 = k) (ha : 100 ≤ a) (hlen : n = (amLenL.getD a 0 : Int)) (hn : (a, s') ∉ zAl Z)
    {st' : List AmV} (hst : st = vI n :: st') (hc : cells + 1 ≤ R.cells) (hsl : slots + amLenL.getD a 0 ≤ R.slots) (hd : decode cc pc = .ok (.anewarray x, 3)) (hr : amRel Z s.heap nL lg L st M ls H locs)
    (kk : ∀ (q : Nat) (H1 : Heap), amFx1 (amZn Z (amAu (zAd Z) a s' q) (zAl Z ++ [(a, s')]) (amGst1 (zG Z) a s')) → amRel (amZn Z (amAu (zAd Z) a s' q) (zAl Z ++ [(a, s')]) (amGst1 (zG Z) a s')) s.heap nL lg L (vR k a s' :: st') (amRst M a s') ls H1 locs → W p l e R s m args below meth c H1 locs (cells + 1) (slots + amLenL.getD a 0) Q (F0 m (pc + 3) ls ((vR k a s' :: st').map (amV (amAu (zAd Z) a s' q))))) :
    W p l e R s m args below meth c H locs cells slots Q (F0 m pc ls (st.map (amV (zAd Z)))) := by
  obtain ⟨hx, hb, hml, hown, hts⟩ := S
  subst hst
  have hsm := amLen_lt a
  have hni : i32 n := by unfold i32; omega
  have h13 : ¬ a < 13 := by omega
  refine va_newq (D := zD Z) (A := zA Z) (ws := amW Z M) (H0 := s.heap) (n := Int32.ofInt n) (N' := amLenL.getD a 0) hx hb hown (hts _ hcl) hAO hK.1 hr.2.2.2.2.2.1 hr.2.2.2.2.2.2.1 hr.2.2.2.2.2.2.2.1 hA (fun h => by
    have := (of_lt hni (y := 0) am_0).mp h
    omega) (by rw [of_cl hni]; omega) (by omega) hc hsl hd fun q cA H1 hK1 g1 g2 g3 => ?_
  have hcA : cA = zC Z k := by
    obtain ⟨kA, comp, -, -, -, h1⟩ := (hK1.2 6 (cA, .object Cn) (by rfl)).2
    rcases hk with ⟨rfl, rfl⟩ | ⟨rfl, rfl⟩
    · obtain ⟨kA2, comp2, -, -, -, h2⟩ := (hK1.2 4 (zC Z 24, .object "SaltStairs$Scene") (by rfl)).2
      exact Option.some.inj (h1.symm.trans h2)
    · obtain ⟨kA2, comp2, -, -, -, h2⟩ := (hK1.2 5 (zC Z 25, .object "SaltStairs$Stairs") (by rfl)).2
      exact Option.some.inj (h1.symm.trans h2)
  subst hcA
  have hce : (.inl (zC Z k, amLenL.getD a 0, .inr (.inr (.inr (.inr (fun _ => none))))) : va_E) = amCell (zC Z) (zAd Z) a (fun _ => 0) (fun _ => vN) := by
    unfold amCell
    rw [if_neg h13, hkn, amArr_q hkn (by omega)]
    rfl
  rw [hce] at g1 g2
  have hr1 := hr.made (q := q) hfx hn (Or.inr ha) hkn (st' := st') (fun v hv => by simp [hv]) g1 g2 g3
  have h9 := kk q H1 (amFx1_new hfx hn (Or.inr ha)) hr1
  have hag := amAu_agr (ad := zAd Z) (q := q) hn (Or.inr ha)
  rw [List.map_cons, amMap_agr hag (fun v hv => (hr.2.2.2.2.1 v (by simp [hv])).1), show amV (amAu (zAd Z) a s' q) (vR k a s') = .ref q by show Value.ref (amAu (zAd Z) a s' q a s') = _; unfold amAu; rw [if_pos ⟨rfl, rfl⟩]] at h9
  exact h9
end AmMk3
end

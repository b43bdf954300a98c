-- ===== PART A: goes FIRST, ahead of the names: the tables' words, and 'selects' of the private methods out of them =====
/-- a private method of a class that the tables say can be made, by its rows of tables_1 -/
def lw_okq (q : MethodName × Nat) : Prop := (q.1.cls ≠ "java/lang/invoke/MethodHandle" ∧ q.1.cls ≠ "java/lang/invoke/VarHandle") ∧ Cond.instantiable q.1.cls q.2 ∈ tables_1 ∧ Cond.privateMethod q.1 ∈ tables_1 ∧ Cond.instanceMethod q.1 ∈ tables_1
theorem lw_p0 : lw_okq (⟨"SaltStairs$Laws", "clear", "()V"⟩, 4) := ⟨⟨by decide +kernel, by decide +kernel⟩, List.mem_of_getElem? (i := 63) (by decide +kernel), List.mem_of_getElem? (i := 69) (by decide +kernel), List.mem_of_getElem? (i := 70) (by decide +kernel)⟩
theorem lw_p1 : lw_okq (⟨"SaltStairs$Tape", "add", "(IIIII)I"⟩, 5) := ⟨⟨by decide +kernel, by decide +kernel⟩, List.mem_of_getElem? (i := 31) (by decide +kernel), List.mem_of_getElem? (i := 472) (by decide +kernel), List.mem_of_getElem? (i := 473) (by decide +kernel)⟩
theorem lw_p2 : lw_okq (⟨"SaltStairs$Tape", "addFour", "(I)V"⟩, 5) := ⟨⟨by decide +kernel, by decide +kernel⟩, List.mem_of_getElem? (i := 31) (by decide +kernel), List.mem_of_getElem? (i := 476) (by decide +kernel), List.mem_of_getElem? (i := 477) (by decide +kernel)⟩
theorem lw_p3 : lw_okq (⟨"SaltStairs$Tape", "cut", "(I)I"⟩, 5) := ⟨⟨by decide +kernel, by decide +kernel⟩, List.mem_of_getElem? (i := 31) (by decide +kernel), List.mem_of_getElem? (i := 484) (by decide +kernel), List.mem_of_getElem? (i := 485) (by decide +kernel)⟩
theorem lw_p4 : lw_okq (⟨"SaltStairs$Parser", "parse", "()I"⟩, 10) := ⟨⟨by decide +kernel, by decide +kernel⟩, List.mem_of_getElem? (i := 148) (by decide +kernel), List.mem_of_getElem? (i := 492) (by decide +kernel), List.mem_of_getElem? (i := 493) (by decide +kernel)⟩
theorem lw_p5 : lw_okq (⟨"SaltStairs$Tape", "cutIntoTokens", "()V"⟩, 5) := ⟨⟨by decide +kernel, by decide +kernel⟩, List.mem_of_getElem? (i := 31) (by decide +kernel), List.mem_of_getElem? (i := 496) (by decide +kernel), List.mem_of_getElem? (i := 497) (by decide +kernel)⟩
theorem lw_p6 : lw_okq (⟨"SaltStairs$Tape", "afterBlanks", "(I)I"⟩, 5) := ⟨⟨by decide +kernel, by decide +kernel⟩, List.mem_of_getElem? (i := 31) (by decide +kernel), List.mem_of_getElem? (i := 500) (by decide +kernel), List.mem_of_getElem? (i := 501) (by decide +kernel)⟩
theorem lw_p7 : lw_okq (⟨"SaltStairs$Tape", "byteAt", "(I)I"⟩, 5) := ⟨⟨by decide +kernel, by decide +kernel⟩, List.mem_of_getElem? (i := 31) (by decide +kernel), List.mem_of_getElem? (i := 504) (by decide +kernel), List.mem_of_getElem? (i := 505) (by decide +kernel)⟩
theorem lw_p8 : lw_okq (⟨"SaltStairs$Tape", "endOf", "(I)I"⟩, 5) := ⟨⟨by decide +kernel, by decide +kernel⟩, List.mem_of_getElem? (i := 31) (by decide +kernel), List.mem_of_getElem? (i := 511) (by decide +kernel), List.mem_of_getElem? (i := 512) (by decide +kernel)⟩
theorem lw_p9 : lw_okq (⟨"SaltStairs$Tape", "kindOf", "(II)I"⟩, 5) := ⟨⟨by decide +kernel, by decide +kernel⟩, List.mem_of_getElem? (i := 31) (by decide +kernel), List.mem_of_getElem? (i := 521) (by decide +kernel), List.mem_of_getElem? (i := 522) (by decide +kernel)⟩
theorem lw_p10 : lw_okq (⟨"SaltStairs$Tape", "wordOf", "(II)I"⟩, 5) := ⟨⟨by decide +kernel, by decide +kernel⟩, List.mem_of_getElem? (i := 31) (by decide +kernel), List.mem_of_getElem? (i := 525) (by decide +kernel), List.mem_of_getElem? (i := 526) (by decide +kernel)⟩
theorem lw_p11 : lw_okq (⟨"SaltStairs$Tape", "isWord", "(III)Z"⟩, 5) := ⟨⟨by decide +kernel, by decide +kernel⟩, List.mem_of_getElem? (i := 31) (by decide +kernel), List.mem_of_getElem? (i := 529) (by decide +kernel), List.mem_of_getElem? (i := 530) (by decide +kernel)⟩
theorem lw_p12 : lw_okq (⟨"SaltStairs$Tape", "valueOf", "(II)J"⟩, 5) := ⟨⟨by decide +kernel, by decide +kernel⟩, List.mem_of_getElem? (i := 31) (by decide +kernel), List.mem_of_getElem? (i := 645) (by decide +kernel), List.mem_of_getElem? (i := 646) (by decide +kernel)⟩
theorem lw_p13 : lw_okq (⟨"SaltStairs$Tape", "kindAt", "(I)I"⟩, 5) := ⟨⟨by decide +kernel, by decide +kernel⟩, List.mem_of_getElem? (i := 31) (by decide +kernel), List.mem_of_getElem? (i := 653) (by decide +kernel), List.mem_of_getElem? (i := 654) (by decide +kernel)⟩
theorem lw_p14 : lw_okq (⟨"SaltStairs$Text", "clear", "()V"⟩, 10) := ⟨⟨by decide +kernel, by decide +kernel⟩, List.mem_of_getElem? (i := 57) (by decide +kernel), List.mem_of_getElem? (i := 657) (by decide +kernel), List.mem_of_getElem? (i := 658) (by decide +kernel)⟩
theorem lw_p15 : lw_okq (⟨"SaltStairs$Parser", "readRow", "([IIII)I"⟩, 10) := ⟨⟨by decide +kernel, by decide +kernel⟩, List.mem_of_getElem? (i := 148) (by decide +kernel), List.mem_of_getElem? (i := 662) (by decide +kernel), List.mem_of_getElem? (i := 663) (by decide +kernel)⟩
def lw_privs_1 : List (MethodName × Nat) := [(⟨"SaltStairs$Laws", "clear", "()V"⟩, 4), (⟨"SaltStairs$Tape", "add", "(IIIII)I"⟩, 5), (⟨"SaltStairs$Tape", "addFour", "(I)V"⟩, 5), (⟨"SaltStairs$Tape", "cut", "(I)I"⟩, 5), (⟨"SaltStairs$Parser", "parse", "()I"⟩, 10), (⟨"SaltStairs$Tape", "cutIntoTokens", "()V"⟩, 5), (⟨"SaltStairs$Tape", "afterBlanks", "(I)I"⟩, 5), (⟨"SaltStairs$Tape", "byteAt", "(I)I"⟩, 5), (⟨"SaltStairs$Tape", "endOf", "(I)I"⟩, 5), (⟨"SaltStairs$Tape", "kindOf", "(II)I"⟩, 5), (⟨"SaltStairs$Tape", "wordOf", "(II)I"⟩, 5), (⟨"SaltStairs$Tape", "isWord", "(III)Z"⟩, 5), (⟨"SaltStairs$Tape", "valueOf", "(II)J"⟩, 5), (⟨"SaltStairs$Tape", "kindAt", "(I)I"⟩, 5), (⟨"SaltStairs$Text", "clear", "()V"⟩, 10), (⟨"SaltStairs$Parser", "readRow", "([IIII)I"⟩, 10)]
theorem lw_r1 : ∀ q ∈ lw_privs_1, lw_okq q := List.forall_mem_cons.mpr ⟨lw_p0, List.forall_mem_cons.mpr ⟨lw_p1, List.forall_mem_cons.mpr ⟨lw_p2, List.forall_mem_cons.mpr ⟨lw_p3, List.forall_mem_cons.mpr ⟨lw_p4, List.forall_mem_cons.mpr ⟨lw_p5, List.forall_mem_cons.mpr ⟨lw_p6, List.forall_mem_cons.mpr ⟨lw_p7, List.forall_mem_cons.mpr ⟨lw_p8, List.forall_mem_cons.mpr ⟨lw_p9, List.forall_mem_cons.mpr ⟨lw_p10, List.forall_mem_cons.mpr ⟨lw_p11, List.forall_mem_cons.mpr ⟨lw_p12, List.forall_mem_cons.mpr ⟨lw_p13, List.forall_mem_cons.mpr ⟨lw_p14, List.forall_mem_cons.mpr ⟨lw_p15, fun _ h => absurd h List.not_mem_nil⟩⟩⟩⟩⟩⟩⟩⟩⟩⟩⟩⟩⟩⟩⟩⟩
theorem lw_p16 : lw_okq (⟨"SaltStairs$Parser", "take", "(I)V"⟩, 10) := ⟨⟨by decide +kernel, by decide +kernel⟩, List.mem_of_getElem? (i := 148) (by decide +kernel), List.mem_of_getElem? (i := 666) (by decide +kernel), List.mem_of_getElem? (i := 667) (by decide +kernel)⟩
theorem lw_p17 : lw_okq (⟨"SaltStairs$Parser", "fail", "(I)V"⟩, 10) := ⟨⟨by decide +kernel, by decide +kernel⟩, List.mem_of_getElem? (i := 148) (by decide +kernel), List.mem_of_getElem? (i := 670) (by decide +kernel), List.mem_of_getElem? (i := 671) (by decide +kernel)⟩
theorem lw_p18 : lw_okq (⟨"SaltStairs$Parser", "takeInt", "(II)I"⟩, 10) := ⟨⟨by decide +kernel, by decide +kernel⟩, List.mem_of_getElem? (i := 148) (by decide +kernel), List.mem_of_getElem? (i := 674) (by decide +kernel), List.mem_of_getElem? (i := 675) (by decide +kernel)⟩
theorem lw_p19 : lw_okq (⟨"SaltStairs$Tape", "valueAt", "(I)J"⟩, 5) := ⟨⟨by decide +kernel, by decide +kernel⟩, List.mem_of_getElem? (i := 31) (by decide +kernel), List.mem_of_getElem? (i := 678) (by decide +kernel), List.mem_of_getElem? (i := 679) (by decide +kernel)⟩
theorem lw_p20 : lw_okq (⟨"SaltStairs$Parser", "failLater", "(I)V"⟩, 10) := ⟨⟨by decide +kernel, by decide +kernel⟩, List.mem_of_getElem? (i := 148) (by decide +kernel), List.mem_of_getElem? (i := 682) (by decide +kernel), List.mem_of_getElem? (i := 683) (by decide +kernel)⟩
theorem lw_p21 : lw_okq (⟨"SaltStairs$Parser", "readBrine", "()V"⟩, 10) := ⟨⟨by decide +kernel, by decide +kernel⟩, List.mem_of_getElem? (i := 148) (by decide +kernel), List.mem_of_getElem? (i := 687) (by decide +kernel), List.mem_of_getElem? (i := 688) (by decide +kernel)⟩
theorem lw_p22 : lw_okq (⟨"SaltStairs$Parser", "readPilgrim", "()V"⟩, 10) := ⟨⟨by decide +kernel, by decide +kernel⟩, List.mem_of_getElem? (i := 148) (by decide +kernel), List.mem_of_getElem? (i := 691) (by decide +kernel), List.mem_of_getElem? (i := 692) (by decide +kernel)⟩
theorem lw_p23 : lw_okq (⟨"SaltStairs$Parser", "takeName", "(I)V"⟩, 10) := ⟨⟨by decide +kernel, by decide +kernel⟩, List.mem_of_getElem? (i := 148) (by decide +kernel), List.mem_of_getElem? (i := 695) (by decide +kernel), List.mem_of_getElem? (i := 696) (by decide +kernel)⟩
theorem lw_p24 : lw_okq (⟨"SaltStairs$Parser", "takeVow", "()I"⟩, 10) := ⟨⟨by decide +kernel, by decide +kernel⟩, List.mem_of_getElem? (i := 148) (by decide +kernel), List.mem_of_getElem? (i := 699) (by decide +kernel), List.mem_of_getElem? (i := 700) (by decide +kernel)⟩
theorem lw_p25 : lw_okq (⟨"SaltStairs$Parser", "readLaw", "()V"⟩, 10) := ⟨⟨by decide +kernel, by decide +kernel⟩, List.mem_of_getElem? (i := 148) (by decide +kernel), List.mem_of_getElem? (i := 703) (by decide +kernel), List.mem_of_getElem? (i := 704) (by decide +kernel)⟩
theorem lw_p26 : lw_okq (⟨"SaltStairs$Laws", "open", "(I)V"⟩, 4) := ⟨⟨by decide +kernel, by decide +kernel⟩, List.mem_of_getElem? (i := 63) (by decide +kernel), List.mem_of_getElem? (i := 707) (by decide +kernel), List.mem_of_getElem? (i := 708) (by decide +kernel)⟩
theorem lw_p27 : lw_okq (⟨"SaltStairs$Parser", "readIf", "()V"⟩, 10) := ⟨⟨by decide +kernel, by decide +kernel⟩, List.mem_of_getElem? (i := 148) (by decide +kernel), List.mem_of_getElem? (i := 712) (by decide +kernel), List.mem_of_getElem? (i := 713) (by decide +kernel)⟩
theorem lw_p28 : lw_okq (⟨"SaltStairs$Parser", "readSum", "(I)V"⟩, 10) := ⟨⟨by decide +kernel, by decide +kernel⟩, List.mem_of_getElem? (i := 148) (by decide +kernel), List.mem_of_getElem? (i := 716) (by decide +kernel), List.mem_of_getElem? (i := 717) (by decide +kernel)⟩
theorem lw_p29 : lw_okq (⟨"SaltStairs$Parser", "readUnit", "(I)V"⟩, 10) := ⟨⟨by decide +kernel, by decide +kernel⟩, List.mem_of_getElem? (i := 148) (by decide +kernel), List.mem_of_getElem? (i := 720) (by decide +kernel), List.mem_of_getElem? (i := 721) (by decide +kernel)⟩
theorem lw_p30 : lw_okq (⟨"SaltStairs$Laws", "emit", "(II)V"⟩, 4) := ⟨⟨by decide +kernel, by decide +kernel⟩, List.mem_of_getElem? (i := 63) (by decide +kernel), List.mem_of_getElem? (i := 724) (by decide +kernel), List.mem_of_getElem? (i := 725) (by decide +kernel)⟩
theorem lw_p31 : lw_okq (⟨"SaltStairs$Laws", "elseHere", "(I)V"⟩, 4) := ⟨⟨by decide +kernel, by decide +kernel⟩, List.mem_of_getElem? (i := 63) (by decide +kernel), List.mem_of_getElem? (i := 731) (by decide +kernel), List.mem_of_getElem? (i := 732) (by decide +kernel)⟩
def lw_privs_2 : List (MethodName × Nat) := [(⟨"SaltStairs$Parser", "take", "(I)V"⟩, 10), (⟨"SaltStairs$Parser", "fail", "(I)V"⟩, 10), (⟨"SaltStairs$Parser", "takeInt", "(II)I"⟩, 10), (⟨"SaltStairs$Tape", "valueAt", "(I)J"⟩, 5), (⟨"SaltStairs$Parser", "failLater", "(I)V"⟩, 10), (⟨"SaltStairs$Parser", "readBrine", "()V"⟩, 10), (⟨"SaltStairs$Parser", "readPilgrim", "()V"⟩, 10), (⟨"SaltStairs$Parser", "takeName", "(I)V"⟩, 10), (⟨"SaltStairs$Parser", "takeVow", "()I"⟩, 10), (⟨"SaltStairs$Parser", "readLaw", "()V"⟩, 10), (⟨"SaltStairs$Laws", "open", "(I)V"⟩, 4), (⟨"SaltStairs$Parser", "readIf", "()V"⟩, 10), (⟨"SaltStairs$Parser", "readSum", "(I)V"⟩, 10), (⟨"SaltStairs$Parser", "readUnit", "(I)V"⟩, 10), (⟨"SaltStairs$Laws", "emit", "(II)V"⟩, 4), (⟨"SaltStairs$Laws", "elseHere", "(I)V"⟩, 4)]
theorem lw_r2 : ∀ q ∈ lw_privs_2, lw_okq q := List.forall_mem_cons.mpr ⟨lw_p16, List.forall_mem_cons.mpr ⟨lw_p17, List.forall_mem_cons.mpr ⟨lw_p18, List.forall_mem_cons.mpr ⟨lw_p19, List.forall_mem_cons.mpr ⟨lw_p20, List.forall_mem_cons.mpr ⟨lw_p21, List.forall_mem_cons.mpr ⟨lw_p22, List.forall_mem_cons.mpr ⟨lw_p23, List.forall_mem_cons.mpr ⟨lw_p24, List.forall_mem_cons.mpr ⟨lw_p25, List.forall_mem_cons.mpr ⟨lw_p26, List.forall_mem_cons.mpr ⟨lw_p27, List.forall_mem_cons.mpr ⟨lw_p28, List.forall_mem_cons.mpr ⟨lw_p29, List.forall_mem_cons.mpr ⟨lw_p30, List.forall_mem_cons.mpr ⟨lw_p31, fun _ h => absurd h List.not_mem_nil⟩⟩⟩⟩⟩⟩⟩⟩⟩⟩⟩⟩⟩⟩⟩⟩
theorem lw_p32 : lw_okq (⟨"SaltStairs$Tape", "clear", "()V"⟩, 5) := ⟨⟨by decide +kernel, by decide +kernel⟩, List.mem_of_getElem? (i := 31) (by decide +kernel), List.mem_of_getElem? (i := 735) (by decide +kernel), List.mem_of_getElem? (i := 736) (by decide +kernel)⟩
theorem lw_p33 : lw_okq (⟨"SaltStairs$Parser", "faultPlace", "()I"⟩, 10) := ⟨⟨by decide +kernel, by decide +kernel⟩, List.mem_of_getElem? (i := 148) (by decide +kernel), List.mem_of_getElem? (i := 739) (by decide +kernel), List.mem_of_getElem? (i := 740) (by decide +kernel)⟩
theorem lw_p34 : lw_okq (⟨"SaltStairs$Tape", "startAt", "(I)I"⟩, 5) := ⟨⟨by decide +kernel, by decide +kernel⟩, List.mem_of_getElem? (i := 31) (by decide +kernel), List.mem_of_getElem? (i := 743) (by decide +kernel), List.mem_of_getElem? (i := 744) (by decide +kernel)⟩
theorem lw_p35 : lw_okq (⟨"SaltStairs", "startAnew", "()V"⟩, 16) := ⟨⟨by decide +kernel, by decide +kernel⟩, List.mem_of_getElem? (i := 23) (by decide +kernel), List.mem_of_getElem? (i := 750) (by decide +kernel), List.mem_of_getElem? (i := 751) (by decide +kernel)⟩
theorem lw_p36 : lw_okq (⟨"SaltStairs$Text", "copyFrom", "(LSaltStairs$Text;)V"⟩, 10) := ⟨⟨by decide +kernel, by decide +kernel⟩, List.mem_of_getElem? (i := 57) (by decide +kernel), List.mem_of_getElem? (i := 754) (by decide +kernel), List.mem_of_getElem? (i := 755) (by decide +kernel)⟩
theorem lw_p37 : lw_okq (⟨"SaltStairs$Laws", "copyFrom", "(LSaltStairs$Laws;)V"⟩, 4) := ⟨⟨by decide +kernel, by decide +kernel⟩, List.mem_of_getElem? (i := 63) (by decide +kernel), List.mem_of_getElem? (i := 765) (by decide +kernel), List.mem_of_getElem? (i := 766) (by decide +kernel)⟩
theorem lw_p38 : lw_okq (⟨"SaltStairs$Scene", "start", "()V"⟩, 8) := ⟨⟨by decide +kernel, by decide +kernel⟩, List.mem_of_getElem? (i := 221) (by decide +kernel), List.mem_of_getElem? (i := 770) (by decide +kernel), List.mem_of_getElem? (i := 771) (by decide +kernel)⟩
theorem lw_p39 : lw_okq (⟨"SaltStairs$Stairs", "build", "(LSaltStairs$Text;)V"⟩, 4) := ⟨⟨by decide +kernel, by decide +kernel⟩, List.mem_of_getElem? (i := 227) (by decide +kernel), List.mem_of_getElem? (i := 774) (by decide +kernel), List.mem_of_getElem? (i := 775) (by decide +kernel)⟩
theorem lw_p40 : lw_okq (⟨"SaltStairs$Told", "startAnew", "()V"⟩, 8) := ⟨⟨by decide +kernel, by decide +kernel⟩, List.mem_of_getElem? (i := 385) (by decide +kernel), List.mem_of_getElem? (i := 784) (by decide +kernel), List.mem_of_getElem? (i := 785) (by decide +kernel)⟩
theorem lw_p41 : lw_okq (⟨"SaltStairs", "dropAnswers", "()V"⟩, 16) := ⟨⟨by decide +kernel, by decide +kernel⟩, List.mem_of_getElem? (i := 23) (by decide +kernel), List.mem_of_getElem? (i := 788) (by decide +kernel), List.mem_of_getElem? (i := 789) (by decide +kernel)⟩
theorem lw_p42 : lw_okq (⟨"SaltStairs$Orders", "drop", "()V"⟩, 9) := ⟨⟨by decide +kernel, by decide +kernel⟩, List.mem_of_getElem? (i := 291) (by decide +kernel), List.mem_of_getElem? (i := 792) (by decide +kernel), List.mem_of_getElem? (i := 793) (by decide +kernel)⟩
theorem lw_p43 : lw_okq (⟨"SaltStairs$Forecast", "drop", "()V"⟩, 8) := ⟨⟨by decide +kernel, by decide +kernel⟩, List.mem_of_getElem? (i := 332) (by decide +kernel), List.mem_of_getElem? (i := 796) (by decide +kernel), List.mem_of_getElem? (i := 797) (by decide +kernel)⟩
theorem lw_p44 : lw_okq (⟨"SaltStairs$Stairs", "isStep", "(I)Z"⟩, 4) := ⟨⟨by decide +kernel, by decide +kernel⟩, List.mem_of_getElem? (i := 227) (by decide +kernel), List.mem_of_getElem? (i := 808) (by decide +kernel), List.mem_of_getElem? (i := 809) (by decide +kernel)⟩
theorem lw_p45 : lw_okq (⟨"SaltStairs$Stairs", "thickAt", "(I)I"⟩, 4) := ⟨⟨by decide +kernel, by decide +kernel⟩, List.mem_of_getElem? (i := 227) (by decide +kernel), List.mem_of_getElem? (i := 812) (by decide +kernel), List.mem_of_getElem? (i := 813) (by decide +kernel)⟩
theorem lw_p46 : lw_okq (⟨"SaltStairs$Stairs", "borneAt", "(I)I"⟩, 4) := ⟨⟨by decide +kernel, by decide +kernel⟩, List.mem_of_getElem? (i := 227) (by decide +kernel), List.mem_of_getElem? (i := 817) (by decide +kernel), List.mem_of_getElem? (i := 818) (by decide +kernel)⟩
theorem lw_p47 : lw_okq (⟨"SaltStairs$Scene", "standingOn", "(I)I"⟩, 8) := ⟨⟨by decide +kernel, by decide +kernel⟩, List.mem_of_getElem? (i := 221) (by decide +kernel), List.mem_of_getElem? (i := 821) (by decide +kernel), List.mem_of_getElem? (i := 822) (by decide +kernel)⟩
def lw_privs_3 : List (MethodName × Nat) := [(⟨"SaltStairs$Tape", "clear", "()V"⟩, 5), (⟨"SaltStairs$Parser", "faultPlace", "()I"⟩, 10), (⟨"SaltStairs$Tape", "startAt", "(I)I"⟩, 5), (⟨"SaltStairs", "startAnew", "()V"⟩, 16), (⟨"SaltStairs$Text", "copyFrom", "(LSaltStairs$Text;)V"⟩, 10), (⟨"SaltStairs$Laws", "copyFrom", "(LSaltStairs$Laws;)V"⟩, 4), (⟨"SaltStairs$Scene", "start", "()V"⟩, 8), (⟨"SaltStairs$Stairs", "build", "(LSaltStairs$Text;)V"⟩, 4), (⟨"SaltStairs$Told", "startAnew", "()V"⟩, 8), (⟨"SaltStairs", "dropAnswers", "()V"⟩, 16), (⟨"SaltStairs$Orders", "drop", "()V"⟩, 9), (⟨"SaltStairs$Forecast", "drop", "()V"⟩, 8), (⟨"SaltStairs$Stairs", "isStep", "(I)Z"⟩, 4), (⟨"SaltStairs$Stairs", "thickAt", "(I)I"⟩, 4), (⟨"SaltStairs$Stairs", "borneAt", "(I)I"⟩, 4), (⟨"SaltStairs$Scene", "standingOn", "(I)I"⟩, 8)]
theorem lw_r3 : ∀ q ∈ lw_privs_3, lw_okq q := List.forall_mem_cons.mpr ⟨lw_p32, List.forall_mem_cons.mpr ⟨lw_p33, List.forall_mem_cons.mpr ⟨lw_p34, List.forall_mem_cons.mpr ⟨lw_p35, List.forall_mem_cons.mpr ⟨lw_p36, List.forall_mem_cons.mpr ⟨lw_p37, List.forall_mem_cons.mpr ⟨lw_p38, List.forall_mem_cons.mpr ⟨lw_p39, List.forall_mem_cons.mpr ⟨lw_p40, List.forall_mem_cons.mpr ⟨lw_p41, List.forall_mem_cons.mpr ⟨lw_p42, List.forall_mem_cons.mpr ⟨lw_p43, List.forall_mem_cons.mpr ⟨lw_p44, List.forall_mem_cons.mpr ⟨lw_p45, List.forall_mem_cons.mpr ⟨lw_p46, List.forall_mem_cons.mpr ⟨lw_p47, fun _ h => absurd h List.not_mem_nil⟩⟩⟩⟩⟩⟩⟩⟩⟩⟩⟩⟩⟩⟩⟩⟩
theorem lw_p48 : lw_okq (⟨"SaltStairs$Text", "hasPilgrim", "(I)Z"⟩, 10) := ⟨⟨by decide +kernel, by decide +kernel⟩, List.mem_of_getElem? (i := 57) (by decide +kernel), List.mem_of_getElem? (i := 830) (by decide +kernel), List.mem_of_getElem? (i := 831) (by decide +kernel)⟩
theorem lw_p49 : lw_okq (⟨"SaltStairs$Walk", "begin", "(II)V"⟩, 7) := ⟨⟨by decide +kernel, by decide +kernel⟩, List.mem_of_getElem? (i := 188) (by decide +kernel), List.mem_of_getElem? (i := 838) (by decide +kernel), List.mem_of_getElem? (i := 839) (by decide +kernel)⟩
theorem lw_p50 : lw_okq (⟨"SaltStairs$Walk", "beginAs", "(III)V"⟩, 7) := ⟨⟨by decide +kernel, by decide +kernel⟩, List.mem_of_getElem? (i := 188) (by decide +kernel), List.mem_of_getElem? (i := 843) (by decide +kernel), List.mem_of_getElem? (i := 844) (by decide +kernel)⟩
theorem lw_p51 : lw_okq (⟨"SaltStairs$Text", "rainOf", "(I)I"⟩, 10) := ⟨⟨by decide +kernel, by decide +kernel⟩, List.mem_of_getElem? (i := 57) (by decide +kernel), List.mem_of_getElem? (i := 848) (by decide +kernel), List.mem_of_getElem? (i := 849) (by decide +kernel)⟩
theorem lw_p52 : lw_okq (⟨"SaltStairs$Walk", "wearOn", "(IIIZ)I"⟩, 7) := ⟨⟨by decide +kernel, by decide +kernel⟩, List.mem_of_getElem? (i := 188) (by decide +kernel), List.mem_of_getElem? (i := 853) (by decide +kernel), List.mem_of_getElem? (i := 854) (by decide +kernel)⟩
theorem lw_p53 : lw_okq (⟨"SaltStairs$Laws", "tells", "(I)Z"⟩, 4) := ⟨⟨by decide +kernel, by decide +kernel⟩, List.mem_of_getElem? (i := 63) (by decide +kernel), List.mem_of_getElem? (i := 857) (by decide +kernel), List.mem_of_getElem? (i := 858) (by decide +kernel)⟩
theorem lw_p54 : lw_okq (⟨"SaltStairs$Laws", "worth", "(I[I)I"⟩, 4) := ⟨⟨by decide +kernel, by decide +kernel⟩, List.mem_of_getElem? (i := 63) (by decide +kernel), List.mem_of_getElem? (i := 861) (by decide +kernel), List.mem_of_getElem? (i := 862) (by decide +kernel)⟩
theorem lw_p55 : lw_okq (⟨"SaltStairs$Scene", "isOnGround", "(I)Z"⟩, 8) := ⟨⟨by decide +kernel, by decide +kernel⟩, List.mem_of_getElem? (i := 221) (by decide +kernel), List.mem_of_getElem? (i := 871) (by decide +kernel), List.mem_of_getElem? (i := 872) (by decide +kernel)⟩
theorem lw_p56 : lw_okq (⟨"SaltStairs", "keepPast", "()V"⟩, 16) := ⟨⟨by decide +kernel, by decide +kernel⟩, List.mem_of_getElem? (i := 23) (by decide +kernel), List.mem_of_getElem? (i := 876) (by decide +kernel), List.mem_of_getElem? (i := 877) (by decide +kernel)⟩
theorem lw_p57 : lw_okq (⟨"SaltStairs$Scene", "copyFrom", "(LSaltStairs$Scene;)V"⟩, 8) := ⟨⟨by decide +kernel, by decide +kernel⟩, List.mem_of_getElem? (i := 221) (by decide +kernel), List.mem_of_getElem? (i := 880) (by decide +kernel), List.mem_of_getElem? (i := 881) (by decide +kernel)⟩
theorem lw_p58 : lw_okq (⟨"SaltStairs$Stairs", "copyFrom", "(LSaltStairs$Stairs;)V"⟩, 4) := ⟨⟨by decide +kernel, by decide +kernel⟩, List.mem_of_getElem? (i := 227) (by decide +kernel), List.mem_of_getElem? (i := 884) (by decide +kernel), List.mem_of_getElem? (i := 885) (by decide +kernel)⟩
theorem lw_p59 : lw_okq (⟨"SaltStairs$Walk", "through", "(LSaltStairs$Stairs;II)I"⟩, 7) := ⟨⟨by decide +kernel, by decide +kernel⟩, List.mem_of_getElem? (i := 188) (by decide +kernel), List.mem_of_getElem? (i := 889) (by decide +kernel), List.mem_of_getElem? (i := 890) (by decide +kernel)⟩
theorem lw_p60 : lw_okq (⟨"SaltStairs$Stairs", "top", "()I"⟩, 4) := ⟨⟨by decide +kernel, by decide +kernel⟩, List.mem_of_getElem? (i := 227) (by decide +kernel), List.mem_of_getElem? (i := 894) (by decide +kernel), List.mem_of_getElem? (i := 895) (by decide +kernel)⟩
theorem lw_p61 : lw_okq (⟨"SaltStairs$Walk", "advance", "(LSaltStairs$Stairs;Z)I"⟩, 7) := ⟨⟨by decide +kernel, by decide +kernel⟩, List.mem_of_getElem? (i := 188) (by decide +kernel), List.mem_of_getElem? (i := 898) (by decide +kernel), List.mem_of_getElem? (i := 899) (by decide +kernel)⟩
theorem lw_p62 : lw_okq (⟨"SaltStairs$Walk", "nextSpot", "(LSaltStairs$Stairs;Z)I"⟩, 7) := ⟨⟨by decide +kernel, by decide +kernel⟩, List.mem_of_getElem? (i := 188) (by decide +kernel), List.mem_of_getElem? (i := 902) (by decide +kernel), List.mem_of_getElem? (i := 903) (by decide +kernel)⟩
theorem lw_p63 : lw_okq (⟨"SaltStairs$Stairs", "isThere", "(I)Z"⟩, 4) := ⟨⟨by decide +kernel, by decide +kernel⟩, List.mem_of_getElem? (i := 227) (by decide +kernel), List.mem_of_getElem? (i := 906) (by decide +kernel), List.mem_of_getElem? (i := 907) (by decide +kernel)⟩
def lw_privs_4 : List (MethodName × Nat) := [(⟨"SaltStairs$Text", "hasPilgrim", "(I)Z"⟩, 10), (⟨"SaltStairs$Walk", "begin", "(II)V"⟩, 7), (⟨"SaltStairs$Walk", "beginAs", "(III)V"⟩, 7), (⟨"SaltStairs$Text", "rainOf", "(I)I"⟩, 10), (⟨"SaltStairs$Walk", "wearOn", "(IIIZ)I"⟩, 7), (⟨"SaltStairs$Laws", "tells", "(I)Z"⟩, 4), (⟨"SaltStairs$Laws", "worth", "(I[I)I"⟩, 4), (⟨"SaltStairs$Scene", "isOnGround", "(I)Z"⟩, 8), (⟨"SaltStairs", "keepPast", "()V"⟩, 16), (⟨"SaltStairs$Scene", "copyFrom", "(LSaltStairs$Scene;)V"⟩, 8), (⟨"SaltStairs$Stairs", "copyFrom", "(LSaltStairs$Stairs;)V"⟩, 4), (⟨"SaltStairs$Walk", "through", "(LSaltStairs$Stairs;II)I"⟩, 7), (⟨"SaltStairs$Stairs", "top", "()I"⟩, 4), (⟨"SaltStairs$Walk", "advance", "(LSaltStairs$Stairs;Z)I"⟩, 7), (⟨"SaltStairs$Walk", "nextSpot", "(LSaltStairs$Stairs;Z)I"⟩, 7), (⟨"SaltStairs$Stairs", "isThere", "(I)Z"⟩, 4)]
theorem lw_r4 : ∀ q ∈ lw_privs_4, lw_okq q := List.forall_mem_cons.mpr ⟨lw_p48, List.forall_mem_cons.mpr ⟨lw_p49, List.forall_mem_cons.mpr ⟨lw_p50, List.forall_mem_cons.mpr ⟨lw_p51, List.forall_mem_cons.mpr ⟨lw_p52, List.forall_mem_cons.mpr ⟨lw_p53, List.forall_mem_cons.mpr ⟨lw_p54, List.forall_mem_cons.mpr ⟨lw_p55, List.forall_mem_cons.mpr ⟨lw_p56, List.forall_mem_cons.mpr ⟨lw_p57, List.forall_mem_cons.mpr ⟨lw_p58, List.forall_mem_cons.mpr ⟨lw_p59, List.forall_mem_cons.mpr ⟨lw_p60, List.forall_mem_cons.mpr ⟨lw_p61, List.forall_mem_cons.mpr ⟨lw_p62, List.forall_mem_cons.mpr ⟨lw_p63, fun _ h => absurd h List.not_mem_nil⟩⟩⟩⟩⟩⟩⟩⟩⟩⟩⟩⟩⟩⟩⟩⟩
theorem lw_p64 : lw_okq (⟨"SaltStairs$Walk", "tread", "(LSaltStairs$Stairs;IZ)Z"⟩, 7) := ⟨⟨by decide +kernel, by decide +kernel⟩, List.mem_of_getElem? (i := 188) (by decide +kernel), List.mem_of_getElem? (i := 913) (by decide +kernel), List.mem_of_getElem? (i := 914) (by decide +kernel)⟩
theorem lw_p65 : lw_okq (⟨"SaltStairs$Walk", "wearsATread", "()I"⟩, 7) := ⟨⟨by decide +kernel, by decide +kernel⟩, List.mem_of_getElem? (i := 188) (by decide +kernel), List.mem_of_getElem? (i := 917) (by decide +kernel), List.mem_of_getElem? (i := 918) (by decide +kernel)⟩
theorem lw_p66 : lw_okq (⟨"SaltStairs$Stairs", "setThick", "(II)V"⟩, 4) := ⟨⟨by decide +kernel, by decide +kernel⟩, List.mem_of_getElem? (i := 227) (by decide +kernel), List.mem_of_getElem? (i := 923) (by decide +kernel), List.mem_of_getElem? (i := 924) (by decide +kernel)⟩
theorem lw_p67 : lw_okq (⟨"SaltStairs$Stairs", "bear", "(I)V"⟩, 4) := ⟨⟨by decide +kernel, by decide +kernel⟩, List.mem_of_getElem? (i := 227) (by decide +kernel), List.mem_of_getElem? (i := 928) (by decide +kernel), List.mem_of_getElem? (i := 929) (by decide +kernel)⟩
theorem lw_p68 : lw_okq (⟨"SaltStairs$Scene", "settle", "(IIII)V"⟩, 8) := ⟨⟨by decide +kernel, by decide +kernel⟩, List.mem_of_getElem? (i := 221) (by decide +kernel), List.mem_of_getElem? (i := 932) (by decide +kernel), List.mem_of_getElem? (i := 933) (by decide +kernel)⟩
theorem lw_p69 : lw_okq (⟨"SaltStairs$Scene", "passNight", "()V"⟩, 8) := ⟨⟨by decide +kernel, by decide +kernel⟩, List.mem_of_getElem? (i := 221) (by decide +kernel), List.mem_of_getElem? (i := 946) (by decide +kernel), List.mem_of_getElem? (i := 947) (by decide +kernel)⟩
theorem lw_p70 : lw_okq (⟨"SaltStairs$Stairs", "rainOn", "(I)I"⟩, 4) := ⟨⟨by decide +kernel, by decide +kernel⟩, List.mem_of_getElem? (i := 227) (by decide +kernel), List.mem_of_getElem? (i := 951) (by decide +kernel), List.mem_of_getElem? (i := 952) (by decide +kernel)⟩
theorem lw_p71 : lw_okq (⟨"SaltStairs", "goOnFrom", "([LSaltStairs$Scene;I)Z"⟩, 16) := ⟨⟨by decide +kernel, by decide +kernel⟩, List.mem_of_getElem? (i := 23) (by decide +kernel), List.mem_of_getElem? (i := 967) (by decide +kernel), List.mem_of_getElem? (i := 968) (by decide +kernel)⟩
theorem lw_p72 : lw_okq (⟨"SaltStairs", "areOnGround", "(I)Z"⟩, 16) := ⟨⟨by decide +kernel, by decide +kernel⟩, List.mem_of_getElem? (i := 23) (by decide +kernel), List.mem_of_getElem? (i := 975) (by decide +kernel), List.mem_of_getElem? (i := 976) (by decide +kernel)⟩
theorem lw_p73 : lw_okq (⟨"SaltStairs$Scene", "grounded", "()I"⟩, 8) := ⟨⟨by decide +kernel, by decide +kernel⟩, List.mem_of_getElem? (i := 221) (by decide +kernel), List.mem_of_getElem? (i := 979) (by decide +kernel), List.mem_of_getElem? (i := 980) (by decide +kernel)⟩
theorem lw_p74 : lw_okq (⟨"SaltStairs$Orders", "seek", "(LSaltStairs$Scene;I)V"⟩, 9) := ⟨⟨by decide +kernel, by decide +kernel⟩, List.mem_of_getElem? (i := 291) (by decide +kernel), List.mem_of_getElem? (i := 990) (by decide +kernel), List.mem_of_getElem? (i := 991) (by decide +kernel)⟩
theorem lw_p75 : lw_okq (⟨"SaltStairs$Orders", "search", "(IIII)V"⟩, 9) := ⟨⟨by decide +kernel, by decide +kernel⟩, List.mem_of_getElem? (i := 291) (by decide +kernel), List.mem_of_getElem? (i := 996) (by decide +kernel), List.mem_of_getElem? (i := 997) (by decide +kernel)⟩
theorem lw_p76 : lw_okq (⟨"SaltStairs$Mending", "allNeed", "(LSaltStairs$Scene;I)I"⟩, 3) := ⟨⟨by decide +kernel, by decide +kernel⟩, List.mem_of_getElem? (i := 369) (by decide +kernel), List.mem_of_getElem? (i := 1013) (by decide +kernel), List.mem_of_getElem? (i := 1014) (by decide +kernel)⟩
theorem lw_p77 : lw_okq (⟨"SaltStairs$Mending", "needOf", "(LSaltStairs$Scene;II)I"⟩, 3) := ⟨⟨by decide +kernel, by decide +kernel⟩, List.mem_of_getElem? (i := 369) (by decide +kernel), List.mem_of_getElem? (i := 1017) (by decide +kernel), List.mem_of_getElem? (i := 1018) (by decide +kernel)⟩
theorem lw_p78 : lw_okq (⟨"SaltStairs$Mending", "bearsSet", "(LSaltStairs$Scene;III)Z"⟩, 3) := ⟨⟨by decide +kernel, by decide +kernel⟩, List.mem_of_getElem? (i := 369) (by decide +kernel), List.mem_of_getElem? (i := 1023) (by decide +kernel), List.mem_of_getElem? (i := 1024) (by decide +kernel)⟩
theorem lw_p79 : lw_okq (⟨"SaltStairs$Mending", "treads", "(IZ)Z"⟩, 3) := ⟨⟨by decide +kernel, by decide +kernel⟩, List.mem_of_getElem? (i := 369) (by decide +kernel), List.mem_of_getElem? (i := 1029) (by decide +kernel), List.mem_of_getElem? (i := 1030) (by decide +kernel)⟩
def lw_privs_5 : List (MethodName × Nat) := [(⟨"SaltStairs$Walk", "tread", "(LSaltStairs$Stairs;IZ)Z"⟩, 7), (⟨"SaltStairs$Walk", "wearsATread", "()I"⟩, 7), (⟨"SaltStairs$Stairs", "setThick", "(II)V"⟩, 4), (⟨"SaltStairs$Stairs", "bear", "(I)V"⟩, 4), (⟨"SaltStairs$Scene", "settle", "(IIII)V"⟩, 8), (⟨"SaltStairs$Scene", "passNight", "()V"⟩, 8), (⟨"SaltStairs$Stairs", "rainOn", "(I)I"⟩, 4), (⟨"SaltStairs", "goOnFrom", "([LSaltStairs$Scene;I)Z"⟩, 16), (⟨"SaltStairs", "areOnGround", "(I)Z"⟩, 16), (⟨"SaltStairs$Scene", "grounded", "()I"⟩, 8), (⟨"SaltStairs$Orders", "seek", "(LSaltStairs$Scene;I)V"⟩, 9), (⟨"SaltStairs$Orders", "search", "(IIII)V"⟩, 9), (⟨"SaltStairs$Mending", "allNeed", "(LSaltStairs$Scene;I)I"⟩, 3), (⟨"SaltStairs$Mending", "needOf", "(LSaltStairs$Scene;II)I"⟩, 3), (⟨"SaltStairs$Mending", "bearsSet", "(LSaltStairs$Scene;III)Z"⟩, 3), (⟨"SaltStairs$Mending", "treads", "(IZ)Z"⟩, 3)]
theorem lw_r5 : ∀ q ∈ lw_privs_5, lw_okq q := List.forall_mem_cons.mpr ⟨lw_p64, List.forall_mem_cons.mpr ⟨lw_p65, List.forall_mem_cons.mpr ⟨lw_p66, List.forall_mem_cons.mpr ⟨lw_p67, List.forall_mem_cons.mpr ⟨lw_p68, List.forall_mem_cons.mpr ⟨lw_p69, List.forall_mem_cons.mpr ⟨lw_p70, List.forall_mem_cons.mpr ⟨lw_p71, List.forall_mem_cons.mpr ⟨lw_p72, List.forall_mem_cons.mpr ⟨lw_p73, List.forall_mem_cons.mpr ⟨lw_p74, List.forall_mem_cons.mpr ⟨lw_p75, List.forall_mem_cons.mpr ⟨lw_p76, List.forall_mem_cons.mpr ⟨lw_p77, List.forall_mem_cons.mpr ⟨lw_p78, List.forall_mem_cons.mpr ⟨lw_p79, fun _ h => absurd h List.not_mem_nil⟩⟩⟩⟩⟩⟩⟩⟩⟩⟩⟩⟩⟩⟩⟩⟩
theorem lw_p80 : lw_okq (⟨"SaltStairs$Walk", "leftBehind", "(IIIZ)I"⟩, 7) := ⟨⟨by decide +kernel, by decide +kernel⟩, List.mem_of_getElem? (i := 188) (by decide +kernel), List.mem_of_getElem? (i := 1033) (by decide +kernel), List.mem_of_getElem? (i := 1034) (by decide +kernel)⟩
theorem lw_p81 : lw_okq (⟨"SaltStairs$Forecast", "allCome", "(LSaltStairs$Scene;I)Z"⟩, 8) := ⟨⟨by decide +kernel, by decide +kernel⟩, List.mem_of_getElem? (i := 332) (by decide +kernel), List.mem_of_getElem? (i := 1042) (by decide +kernel), List.mem_of_getElem? (i := 1043) (by decide +kernel)⟩
theorem lw_p82 : lw_okq (⟨"SaltStairs$Forecast", "allComeOver", "(II)Z"⟩, 8) := ⟨⟨by decide +kernel, by decide +kernel⟩, List.mem_of_getElem? (i := 332) (by decide +kernel), List.mem_of_getElem? (i := 1047) (by decide +kernel), List.mem_of_getElem? (i := 1048) (by decide +kernel)⟩
theorem lw_p83 : lw_okq (⟨"SaltStairs$Forecast", "dryEnoughWays", "(LSaltStairs$Scene;IIIII)J"⟩, 8) := ⟨⟨by decide +kernel, by decide +kernel⟩, List.mem_of_getElem? (i := 332) (by decide +kernel), List.mem_of_getElem? (i := 1058) (by decide +kernel), List.mem_of_getElem? (i := 1059) (by decide +kernel)⟩
theorem lw_p84 : lw_okq (⟨"SaltStairs$Forecast", "foresee", "(LSaltStairs$Scene;I)V"⟩, 8) := ⟨⟨by decide +kernel, by decide +kernel⟩, List.mem_of_getElem? (i := 332) (by decide +kernel), List.mem_of_getElem? (i := 1073) (by decide +kernel), List.mem_of_getElem? (i := 1074) (by decide +kernel)⟩
theorem lw_p85 : lw_okq (⟨"SaltStairs$Scene", "stuckOnes", "()I"⟩, 8) := ⟨⟨by decide +kernel, by decide +kernel⟩, List.mem_of_getElem? (i := 221) (by decide +kernel), List.mem_of_getElem? (i := 1077) (by decide +kernel), List.mem_of_getElem? (i := 1078) (by decide +kernel)⟩
theorem lw_p86 : lw_okq (⟨"SaltStairs$Forecast", "groundBehindDay", "(III)I"⟩, 8) := ⟨⟨by decide +kernel, by decide +kernel⟩, List.mem_of_getElem? (i := 332) (by decide +kernel), List.mem_of_getElem? (i := 1082) (by decide +kernel), List.mem_of_getElem? (i := 1083) (by decide +kernel)⟩
theorem lw_p87 : lw_okq (⟨"SaltStairs$Forecast", "noteLost", "(III)V"⟩, 8) := ⟨⟨by decide +kernel, by decide +kernel⟩, List.mem_of_getElem? (i := 332) (by decide +kernel), List.mem_of_getElem? (i := 1086) (by decide +kernel), List.mem_of_getElem? (i := 1087) (by decide +kernel)⟩
theorem lw_p88 : lw_okq (⟨"SaltStairs$Mending", "takenOff", "(LSaltStairs$Scene;I)I"⟩, 3) := ⟨⟨by decide +kernel, by decide +kernel⟩, List.mem_of_getElem? (i := 369) (by decide +kernel), List.mem_of_getElem? (i := 1095) (by decide +kernel), List.mem_of_getElem? (i := 1096) (by decide +kernel)⟩
theorem lw_p89 : lw_okq (⟨"SaltStairs$Mending", "dearFrom", "(LSaltStairs$Stairs;I)I"⟩, 3) := ⟨⟨by decide +kernel, by decide +kernel⟩, List.mem_of_getElem? (i := 369) (by decide +kernel), List.mem_of_getElem? (i := 1100) (by decide +kernel), List.mem_of_getElem? (i := 1101) (by decide +kernel)⟩
theorem lw_p90 : lw_okq (⟨"SaltStairs$Mending", "dearOver", "(LSaltStairs$Stairs;I)I"⟩, 3) := ⟨⟨by decide +kernel, by decide +kernel⟩, List.mem_of_getElem? (i := 369) (by decide +kernel), List.mem_of_getElem? (i := 1104) (by decide +kernel), List.mem_of_getElem? (i := 1105) (by decide +kernel)⟩
theorem lw_p91 : lw_okq (⟨"SaltStairs$Forecast", "fewestHands", "(LSaltStairs$Scene;I)I"⟩, 8) := ⟨⟨by decide +kernel, by decide +kernel⟩, List.mem_of_getElem? (i := 332) (by decide +kernel), List.mem_of_getElem? (i := 1116) (by decide +kernel), List.mem_of_getElem? (i := 1117) (by decide +kernel)⟩
theorem lw_p92 : lw_okq (⟨"SaltStairs$Forecast", "isCarried", "(LSaltStairs$Scene;III)Z"⟩, 8) := ⟨⟨by decide +kernel, by decide +kernel⟩, List.mem_of_getElem? (i := 332) (by decide +kernel), List.mem_of_getElem? (i := 1121) (by decide +kernel), List.mem_of_getElem? (i := 1122) (by decide +kernel)⟩
theorem lw_p93 : lw_okq (⟨"SaltStairs$Walk", "carriesUp", "(LSaltStairs$Stairs;II)Z"⟩, 7) := ⟨⟨by decide +kernel, by decide +kernel⟩, List.mem_of_getElem? (i := 188) (by decide +kernel), List.mem_of_getElem? (i := 1126) (by decide +kernel), List.mem_of_getElem? (i := 1127) (by decide +kernel)⟩
theorem lw_p94 : lw_okq (⟨"SaltStairs$Told", "add", "(II)I"⟩, 8) := ⟨⟨by decide +kernel, by decide +kernel⟩, List.mem_of_getElem? (i := 385) (by decide +kernel), List.mem_of_getElem? (i := 1139) (by decide +kernel), List.mem_of_getElem? (i := 1140) (by decide +kernel)⟩
theorem lw_p95 : lw_okq (⟨"SaltStairs$Told", "knows", "(I)Z"⟩, 8) := ⟨⟨by decide +kernel, by decide +kernel⟩, List.mem_of_getElem? (i := 385) (by decide +kernel), List.mem_of_getElem? (i := 1152) (by decide +kernel), List.mem_of_getElem? (i := 1153) (by decide +kernel)⟩
def lw_privs_6 : List (MethodName × Nat) := [(⟨"SaltStairs$Walk", "leftBehind", "(IIIZ)I"⟩, 7), (⟨"SaltStairs$Forecast", "allCome", "(LSaltStairs$Scene;I)Z"⟩, 8), (⟨"SaltStairs$Forecast", "allComeOver", "(II)Z"⟩, 8), (⟨"SaltStairs$Forecast", "dryEnoughWays", "(LSaltStairs$Scene;IIIII)J"⟩, 8), (⟨"SaltStairs$Forecast", "foresee", "(LSaltStairs$Scene;I)V"⟩, 8), (⟨"SaltStairs$Scene", "stuckOnes", "()I"⟩, 8), (⟨"SaltStairs$Forecast", "groundBehindDay", "(III)I"⟩, 8), (⟨"SaltStairs$Forecast", "noteLost", "(III)V"⟩, 8), (⟨"SaltStairs$Mending", "takenOff", "(LSaltStairs$Scene;I)I"⟩, 3), (⟨"SaltStairs$Mending", "dearFrom", "(LSaltStairs$Stairs;I)I"⟩, 3), (⟨"SaltStairs$Mending", "dearOver", "(LSaltStairs$Stairs;I)I"⟩, 3), (⟨"SaltStairs$Forecast", "fewestHands", "(LSaltStairs$Scene;I)I"⟩, 8), (⟨"SaltStairs$Forecast", "isCarried", "(LSaltStairs$Scene;III)Z"⟩, 8), (⟨"SaltStairs$Walk", "carriesUp", "(LSaltStairs$Stairs;II)Z"⟩, 7), (⟨"SaltStairs$Told", "add", "(II)I"⟩, 8), (⟨"SaltStairs$Told", "knows", "(I)Z"⟩, 8)]
theorem lw_r6 : ∀ q ∈ lw_privs_6, lw_okq q := List.forall_mem_cons.mpr ⟨lw_p80, List.forall_mem_cons.mpr ⟨lw_p81, List.forall_mem_cons.mpr ⟨lw_p82, List.forall_mem_cons.mpr ⟨lw_p83, List.forall_mem_cons.mpr ⟨lw_p84, List.forall_mem_cons.mpr ⟨lw_p85, List.forall_mem_cons.mpr ⟨lw_p86, List.forall_mem_cons.mpr ⟨lw_p87, List.forall_mem_cons.mpr ⟨lw_p88, List.forall_mem_cons.mpr ⟨lw_p89, List.forall_mem_cons.mpr ⟨lw_p90, List.forall_mem_cons.mpr ⟨lw_p91, List.forall_mem_cons.mpr ⟨lw_p92, List.forall_mem_cons.mpr ⟨lw_p93, List.forall_mem_cons.mpr ⟨lw_p94, List.forall_mem_cons.mpr ⟨lw_p95, fun _ h => absurd h List.not_mem_nil⟩⟩⟩⟩⟩⟩⟩⟩⟩⟩⟩⟩⟩⟩⟩⟩
theorem lw_p96 : lw_okq (⟨"SaltStairs$Told", "walkAllSets", "()V"⟩, 8) := ⟨⟨by decide +kernel, by decide +kernel⟩, List.mem_of_getElem? (i := 385) (by decide +kernel), List.mem_of_getElem? (i := 1156) (by decide +kernel), List.mem_of_getElem? (i := 1157) (by decide +kernel)⟩
theorem lw_p97 : lw_okq (⟨"SaltStairs$Told", "writeRow", "(I)V"⟩, 8) := ⟨⟨by decide +kernel, by decide +kernel⟩, List.mem_of_getElem? (i := 385) (by decide +kernel), List.mem_of_getElem? (i := 1161) (by decide +kernel), List.mem_of_getElem? (i := 1162) (by decide +kernel)⟩
theorem lw_p98 : lw_okq (⟨"SaltStairs$Told", "sets", "()I"⟩, 8) := ⟨⟨by decide +kernel, by decide +kernel⟩, List.mem_of_getElem? (i := 385) (by decide +kernel), List.mem_of_getElem? (i := 1166) (by decide +kernel), List.mem_of_getElem? (i := 1167) (by decide +kernel)⟩
theorem lw_p99 : lw_okq (⟨"SaltStairs$Told", "readRow", "(I)V"⟩, 8) := ⟨⟨by decide +kernel, by decide +kernel⟩, List.mem_of_getElem? (i := 385) (by decide +kernel), List.mem_of_getElem? (i := 1174) (by decide +kernel), List.mem_of_getElem? (i := 1175) (by decide +kernel)⟩
theorem lw_p100 : lw_okq (⟨"SaltStairs$Told", "fitting", "(I)I"⟩, 8) := ⟨⟨by decide +kernel, by decide +kernel⟩, List.mem_of_getElem? (i := 385) (by decide +kernel), List.mem_of_getElem? (i := 1181) (by decide +kernel), List.mem_of_getElem? (i := 1182) (by decide +kernel)⟩
theorem lw_p101 : lw_okq (⟨"SaltStairs$Told", "isFitting", "(II)Z"⟩, 8) := ⟨⟨by decide +kernel, by decide +kernel⟩, List.mem_of_getElem? (i := 385) (by decide +kernel), List.mem_of_getElem? (i := 1185) (by decide +kernel), List.mem_of_getElem? (i := 1186) (by decide +kernel)⟩
theorem lw_p102 : lw_okq (⟨"SaltStairs$Told", "fittingAt", "(II)I"⟩, 8) := ⟨⟨by decide +kernel, by decide +kernel⟩, List.mem_of_getElem? (i := 385) (by decide +kernel), List.mem_of_getElem? (i := 1193) (by decide +kernel), List.mem_of_getElem? (i := 1194) (by decide +kernel)⟩
theorem lw_p103 : lw_okq (⟨"SaltStairs$Told", "inAll", "(I)I"⟩, 8) := ⟨⟨by decide +kernel, by decide +kernel⟩, List.mem_of_getElem? (i := 385) (by decide +kernel), List.mem_of_getElem? (i := 1201) (by decide +kernel), List.mem_of_getElem? (i := 1202) (by decide +kernel)⟩
theorem lw_p104 : lw_okq (⟨"SaltStairs$Told", "inSome", "(I)I"⟩, 8) := ⟨⟨by decide +kernel, by decide +kernel⟩, List.mem_of_getElem? (i := 385) (by decide +kernel), List.mem_of_getElem? (i := 1205) (by decide +kernel), List.mem_of_getElem? (i := 1206) (by decide +kernel)⟩
theorem lw_p105 : lw_okq (⟨"SaltStairs", "heldSlots", "()I"⟩, 16) := ⟨⟨by decide +kernel, by decide +kernel⟩, List.mem_of_getElem? (i := 23) (by decide +kernel), List.mem_of_getElem? (i := 1223) (by decide +kernel), List.mem_of_getElem? (i := 1224) (by decide +kernel)⟩
theorem lw_p106 : lw_okq (⟨"SaltStairs$Stairs", "allThick", "()I"⟩, 4) := ⟨⟨by decide +kernel, by decide +kernel⟩, List.mem_of_getElem? (i := 227) (by decide +kernel), List.mem_of_getElem? (i := 1227) (by decide +kernel), List.mem_of_getElem? (i := 1228) (by decide +kernel)⟩
theorem lw_p107 : lw_okq (⟨"SaltStairsModel", "put", "(I)V"⟩, 72) := ⟨⟨by decide +kernel, by decide +kernel⟩, List.mem_of_getElem? (i := 1231) (by decide +kernel), List.mem_of_getElem? (i := 1464) (by decide +kernel), List.mem_of_getElem? (i := 1465) (by decide +kernel)⟩
theorem lw_p108 : lw_okq (⟨"SaltStairsModel", "cut", "()V"⟩, 72) := ⟨⟨by decide +kernel, by decide +kernel⟩, List.mem_of_getElem? (i := 1231) (by decide +kernel), List.mem_of_getElem? (i := 1476) (by decide +kernel), List.mem_of_getElem? (i := 1477) (by decide +kernel)⟩
theorem lw_p109 : lw_okq (⟨"SaltStairsModel", "byteAt", "(I)I"⟩, 72) := ⟨⟨by decide +kernel, by decide +kernel⟩, List.mem_of_getElem? (i := 1231) (by decide +kernel), List.mem_of_getElem? (i := 1480) (by decide +kernel), List.mem_of_getElem? (i := 1481) (by decide +kernel)⟩
theorem lw_p110 : lw_okq (⟨"SaltStairsModel", "token", "(IIIJ)V"⟩, 72) := ⟨⟨by decide +kernel, by decide +kernel⟩, List.mem_of_getElem? (i := 1231) (by decide +kernel), List.mem_of_getElem? (i := 1484) (by decide +kernel), List.mem_of_getElem? (i := 1485) (by decide +kernel)⟩
theorem lw_p111 : lw_okq (⟨"SaltStairsModel", "sign", "(III)I"⟩, 72) := ⟨⟨by decide +kernel, by decide +kernel⟩, List.mem_of_getElem? (i := 1231) (by decide +kernel), List.mem_of_getElem? (i := 1494) (by decide +kernel), List.mem_of_getElem? (i := 1495) (by decide +kernel)⟩
def lw_privs_7 : List (MethodName × Nat) := [(⟨"SaltStairs$Told", "walkAllSets", "()V"⟩, 8), (⟨"SaltStairs$Told", "writeRow", "(I)V"⟩, 8), (⟨"SaltStairs$Told", "sets", "()I"⟩, 8), (⟨"SaltStairs$Told", "readRow", "(I)V"⟩, 8), (⟨"SaltStairs$Told", "fitting", "(I)I"⟩, 8), (⟨"SaltStairs$Told", "isFitting", "(II)Z"⟩, 8), (⟨"SaltStairs$Told", "fittingAt", "(II)I"⟩, 8), (⟨"SaltStairs$Told", "inAll", "(I)I"⟩, 8), (⟨"SaltStairs$Told", "inSome", "(I)I"⟩, 8), (⟨"SaltStairs", "heldSlots", "()I"⟩, 16), (⟨"SaltStairs$Stairs", "allThick", "()I"⟩, 4), (⟨"SaltStairsModel", "put", "(I)V"⟩, 72), (⟨"SaltStairsModel", "cut", "()V"⟩, 72), (⟨"SaltStairsModel", "byteAt", "(I)I"⟩, 72), (⟨"SaltStairsModel", "token", "(IIIJ)V"⟩, 72), (⟨"SaltStairsModel", "sign", "(III)I"⟩, 72)]
theorem lw_r7 : ∀ q ∈ lw_privs_7, lw_okq q := List.forall_mem_cons.mpr ⟨lw_p96, List.forall_mem_cons.mpr ⟨lw_p97, List.forall_mem_cons.mpr ⟨lw_p98, List.forall_mem_cons.mpr ⟨lw_p99, List.forall_mem_cons.mpr ⟨lw_p100, List.forall_mem_cons.mpr ⟨lw_p101, List.forall_mem_cons.mpr ⟨lw_p102, List.forall_mem_cons.mpr ⟨lw_p103, List.forall_mem_cons.mpr ⟨lw_p104, List.forall_mem_cons.mpr ⟨lw_p105, List.forall_mem_cons.mpr ⟨lw_p106, List.forall_mem_cons.mpr ⟨lw_p107, List.forall_mem_cons.mpr ⟨lw_p108, List.forall_mem_cons.mpr ⟨lw_p109, List.forall_mem_cons.mpr ⟨lw_p110, List.forall_mem_cons.mpr ⟨lw_p111, fun _ h => absurd h List.not_mem_nil⟩⟩⟩⟩⟩⟩⟩⟩⟩⟩⟩⟩⟩⟩⟩⟩
theorem lw_p112 : lw_okq (⟨"SaltStairsModel", "is", "(I)Z"⟩, 72) := ⟨⟨by decide +kernel, by decide +kernel⟩, List.mem_of_getElem? (i := 1231) (by decide +kernel), List.mem_of_getElem? (i := 1498) (by decide +kernel), List.mem_of_getElem? (i := 1499) (by decide +kernel)⟩
theorem lw_p113 : lw_okq (⟨"SaltStairsModel", "tell", "()V"⟩, 72) := ⟨⟨by decide +kernel, by decide +kernel⟩, List.mem_of_getElem? (i := 1231) (by decide +kernel), List.mem_of_getElem? (i := 1502) (by decide +kernel), List.mem_of_getElem? (i := 1503) (by decide +kernel)⟩
theorem lw_p114 : lw_okq (⟨"SaltStairsModel", "goesOn", "()V"⟩, 72) := ⟨⟨by decide +kernel, by decide +kernel⟩, List.mem_of_getElem? (i := 1231) (by decide +kernel), List.mem_of_getElem? (i := 1506) (by decide +kernel), List.mem_of_getElem? (i := 1507) (by decide +kernel)⟩
theorem lw_p115 : lw_okq (⟨"SaltStairsModel", "fail", "(I)V"⟩, 72) := ⟨⟨by decide +kernel, by decide +kernel⟩, List.mem_of_getElem? (i := 1231) (by decide +kernel), List.mem_of_getElem? (i := 1510) (by decide +kernel), List.mem_of_getElem? (i := 1511) (by decide +kernel)⟩
theorem lw_p116 : lw_okq (⟨"SaltStairsModel", "tellSteps", "()V"⟩, 72) := ⟨⟨by decide +kernel, by decide +kernel⟩, List.mem_of_getElem? (i := 1231) (by decide +kernel), List.mem_of_getElem? (i := 1514) (by decide +kernel), List.mem_of_getElem? (i := 1515) (by decide +kernel)⟩
theorem lw_p117 : lw_okq (⟨"SaltStairsModel", "bounded", "(II)I"⟩, 72) := ⟨⟨by decide +kernel, by decide +kernel⟩, List.mem_of_getElem? (i := 1231) (by decide +kernel), List.mem_of_getElem? (i := 1518) (by decide +kernel), List.mem_of_getElem? (i := 1519) (by decide +kernel)⟩
theorem lw_p118 : lw_okq (⟨"SaltStairsModel", "wrong", "(II)V"⟩, 72) := ⟨⟨by decide +kernel, by decide +kernel⟩, List.mem_of_getElem? (i := 1231) (by decide +kernel), List.mem_of_getElem? (i := 1522) (by decide +kernel), List.mem_of_getElem? (i := 1523) (by decide +kernel)⟩
theorem lw_p119 : lw_okq (⟨"SaltStairsModel", "must", "(I)V"⟩, 72) := ⟨⟨by decide +kernel, by decide +kernel⟩, List.mem_of_getElem? (i := 1231) (by decide +kernel), List.mem_of_getElem? (i := 1526) (by decide +kernel), List.mem_of_getElem? (i := 1527) (by decide +kernel)⟩
theorem lw_p120 : lw_okq (⟨"SaltStairsModel", "tellRain", "()V"⟩, 72) := ⟨⟨by decide +kernel, by decide +kernel⟩, List.mem_of_getElem? (i := 1231) (by decide +kernel), List.mem_of_getElem? (i := 1530) (by decide +kernel), List.mem_of_getElem? (i := 1531) (by decide +kernel)⟩
theorem lw_p121 : lw_okq (⟨"SaltStairsModel", "roomFor", "(II)V"⟩, 72) := ⟨⟨by decide +kernel, by decide +kernel⟩, List.mem_of_getElem? (i := 1231) (by decide +kernel), List.mem_of_getElem? (i := 1534) (by decide +kernel), List.mem_of_getElem? (i := 1535) (by decide +kernel)⟩
theorem lw_p122 : lw_okq (⟨"SaltStairsModel", "tellPilgrim", "()V"⟩, 72) := ⟨⟨by decide +kernel, by decide +kernel⟩, List.mem_of_getElem? (i := 1231) (by decide +kernel), List.mem_of_getElem? (i := 1538) (by decide +kernel), List.mem_of_getElem? (i := 1539) (by decide +kernel)⟩
theorem lw_p123 : lw_okq (⟨"SaltStairsModel", "tellVow", "()I"⟩, 72) := ⟨⟨by decide +kernel, by decide +kernel⟩, List.mem_of_getElem? (i := 1231) (by decide +kernel), List.mem_of_getElem? (i := 1542) (by decide +kernel), List.mem_of_getElem? (i := 1543) (by decide +kernel)⟩
theorem lw_p124 : lw_okq (⟨"SaltStairsModel", "tellLaw", "()V"⟩, 72) := ⟨⟨by decide +kernel, by decide +kernel⟩, List.mem_of_getElem? (i := 1231) (by decide +kernel), List.mem_of_getElem? (i := 1546) (by decide +kernel), List.mem_of_getElem? (i := 1547) (by decide +kernel)⟩
theorem lw_p125 : lw_okq (⟨"SaltStairsModel", "expression", "()V"⟩, 72) := ⟨⟨by decide +kernel, by decide +kernel⟩, List.mem_of_getElem? (i := 1231) (by decide +kernel), List.mem_of_getElem? (i := 1550) (by decide +kernel), List.mem_of_getElem? (i := 1551) (by decide +kernel)⟩
theorem lw_p126 : lw_okq (⟨"SaltStairsModel", "unit", "()V"⟩, 72) := ⟨⟨by decide +kernel, by decide +kernel⟩, List.mem_of_getElem? (i := 1231) (by decide +kernel), List.mem_of_getElem? (i := 1554) (by decide +kernel), List.mem_of_getElem? (i := 1555) (by decide +kernel)⟩
theorem lw_p127 : lw_okq (⟨"SaltStairsModel", "emit", "(II)V"⟩, 72) := ⟨⟨by decide +kernel, by decide +kernel⟩, List.mem_of_getElem? (i := 1231) (by decide +kernel), List.mem_of_getElem? (i := 1558) (by decide +kernel), List.mem_of_getElem? (i := 1559) (by decide +kernel)⟩
def lw_privs_8 : List (MethodName × Nat) := [(⟨"SaltStairsModel", "is", "(I)Z"⟩, 72), (⟨"SaltStairsModel", "tell", "()V"⟩, 72), (⟨"SaltStairsModel", "goesOn", "()V"⟩, 72), (⟨"SaltStairsModel", "fail", "(I)V"⟩, 72), (⟨"SaltStairsModel", "tellSteps", "()V"⟩, 72), (⟨"SaltStairsModel", "bounded", "(II)I"⟩, 72), (⟨"SaltStairsModel", "wrong", "(II)V"⟩, 72), (⟨"SaltStairsModel", "must", "(I)V"⟩, 72), (⟨"SaltStairsModel", "tellRain", "()V"⟩, 72), (⟨"SaltStairsModel", "roomFor", "(II)V"⟩, 72), (⟨"SaltStairsModel", "tellPilgrim", "()V"⟩, 72), (⟨"SaltStairsModel", "tellVow", "()I"⟩, 72), (⟨"SaltStairsModel", "tellLaw", "()V"⟩, 72), (⟨"SaltStairsModel", "expression", "()V"⟩, 72), (⟨"SaltStairsModel", "unit", "()V"⟩, 72), (⟨"SaltStairsModel", "emit", "(II)V"⟩, 72)]
theorem lw_r8 : ∀ q ∈ lw_privs_8, lw_okq q := List.forall_mem_cons.mpr ⟨lw_p112, List.forall_mem_cons.mpr ⟨lw_p113, List.forall_mem_cons.mpr ⟨lw_p114, List.forall_mem_cons.mpr ⟨lw_p115, List.forall_mem_cons.mpr ⟨lw_p116, List.forall_mem_cons.mpr ⟨lw_p117, List.forall_mem_cons.mpr ⟨lw_p118, List.forall_mem_cons.mpr ⟨lw_p119, List.forall_mem_cons.mpr ⟨lw_p120, List.forall_mem_cons.mpr ⟨lw_p121, List.forall_mem_cons.mpr ⟨lw_p122, List.forall_mem_cons.mpr ⟨lw_p123, List.forall_mem_cons.mpr ⟨lw_p124, List.forall_mem_cons.mpr ⟨lw_p125, List.forall_mem_cons.mpr ⟨lw_p126, List.forall_mem_cons.mpr ⟨lw_p127, fun _ h => absurd h List.not_mem_nil⟩⟩⟩⟩⟩⟩⟩⟩⟩⟩⟩⟩⟩⟩⟩⟩
theorem lw_p128 : lw_okq (⟨"SaltStairsModel", "comesOut", "(Z)V"⟩, 72) := ⟨⟨by decide +kernel, by decide +kernel⟩, List.mem_of_getElem? (i := 1231) (by decide +kernel), List.mem_of_getElem? (i := 1562) (by decide +kernel), List.mem_of_getElem? (i := 1563) (by decide +kernel)⟩
theorem lw_p129 : lw_okq (⟨"SaltStairsModel", "term", "()V"⟩, 72) := ⟨⟨by decide +kernel, by decide +kernel⟩, List.mem_of_getElem? (i := 1231) (by decide +kernel), List.mem_of_getElem? (i := 1566) (by decide +kernel), List.mem_of_getElem? (i := 1567) (by decide +kernel)⟩
theorem lw_p130 : lw_okq (⟨"SaltStairsModel", "begins", "()V"⟩, 72) := ⟨⟨by decide +kernel, by decide +kernel⟩, List.mem_of_getElem? (i := 1231) (by decide +kernel), List.mem_of_getElem? (i := 1570) (by decide +kernel), List.mem_of_getElem? (i := 1571) (by decide +kernel)⟩
theorem lw_p131 : lw_okq (⟨"SaltStairsModel", "isStep", "(I)Z"⟩, 72) := ⟨⟨by decide +kernel, by decide +kernel⟩, List.mem_of_getElem? (i := 1231) (by decide +kernel), List.mem_of_getElem? (i := 1582) (by decide +kernel), List.mem_of_getElem? (i := 1583) (by decide +kernel)⟩
theorem lw_p132 : lw_okq (⟨"SaltStairsModel", "many", "()I"⟩, 72) := ⟨⟨by decide +kernel, by decide +kernel⟩, List.mem_of_getElem? (i := 1231) (by decide +kernel), List.mem_of_getElem? (i := 1589) (by decide +kernel), List.mem_of_getElem? (i := 1590) (by decide +kernel)⟩
theorem lw_p133 : lw_okq (⟨"SaltStairsModel", "isPilgrim", "(I)Z"⟩, 72) := ⟨⟨by decide +kernel, by decide +kernel⟩, List.mem_of_getElem? (i := 1231) (by decide +kernel), List.mem_of_getElem? (i := 1597) (by decide +kernel), List.mem_of_getElem? (i := 1598) (by decide +kernel)⟩
theorem lw_p134 : lw_okq (⟨"SaltStairsModel", "vowOf", "(I)I"⟩, 72) := ⟨⟨by decide +kernel, by decide +kernel⟩, List.mem_of_getElem? (i := 1231) (by decide +kernel), List.mem_of_getElem? (i := 1601) (by decide +kernel), List.mem_of_getElem? (i := 1602) (by decide +kernel)⟩
theorem lw_p135 : lw_okq (⟨"SaltStairsModel", "takes", "()V"⟩, 72) := ⟨⟨by decide +kernel, by decide +kernel⟩, List.mem_of_getElem? (i := 1231) (by decide +kernel), List.mem_of_getElem? (i := 1609) (by decide +kernel), List.mem_of_getElem? (i := 1610) (by decide +kernel)⟩
theorem lw_p136 : lw_okq (⟨"SaltStairsModel", "goneNow", "()I"⟩, 72) := ⟨⟨by decide +kernel, by decide +kernel⟩, List.mem_of_getElem? (i := 1231) (by decide +kernel), List.mem_of_getElem? (i := 1613) (by decide +kernel), List.mem_of_getElem? (i := 1614) (by decide +kernel)⟩
theorem lw_p137 : lw_okq (⟨"SaltStairsModel", "wearOf", "(IIIIZI)I"⟩, 72) := ⟨⟨by decide +kernel, by decide +kernel⟩, List.mem_of_getElem? (i := 1231) (by decide +kernel), List.mem_of_getElem? (i := 1617) (by decide +kernel), List.mem_of_getElem? (i := 1618) (by decide +kernel)⟩
theorem lw_p138 : lw_okq (⟨"SaltStairsModel", "termOf", "(II)I"⟩, 72) := ⟨⟨by decide +kernel, by decide +kernel⟩, List.mem_of_getElem? (i := 1231) (by decide +kernel), List.mem_of_getElem? (i := 1621) (by decide +kernel), List.mem_of_getElem? (i := 1622) (by decide +kernel)⟩
theorem lw_p139 : lw_okq (⟨"SaltStairsModel", "onGround", "(I)Z"⟩, 72) := ⟨⟨by decide +kernel, by decide +kernel⟩, List.mem_of_getElem? (i := 1231) (by decide +kernel), List.mem_of_getElem? (i := 1629) (by decide +kernel), List.mem_of_getElem? (i := 1630) (by decide +kernel)⟩
theorem lw_p140 : lw_okq (⟨"SaltStairsModel", "sends", "(I)I"⟩, 72) := ⟨⟨by decide +kernel, by decide +kernel⟩, List.mem_of_getElem? (i := 1231) (by decide +kernel), List.mem_of_getElem? (i := 1633) (by decide +kernel), List.mem_of_getElem? (i := 1634) (by decide +kernel)⟩
theorem lw_p141 : lw_okq (⟨"SaltStairsModel", "comesOf", "(I)I"⟩, 72) := ⟨⟨by decide +kernel, by decide +kernel⟩, List.mem_of_getElem? (i := 1231) (by decide +kernel), List.mem_of_getElem? (i := 1637) (by decide +kernel), List.mem_of_getElem? (i := 1638) (by decide +kernel)⟩
theorem lw_p142 : lw_okq (⟨"SaltStairsModel", "top", "()I"⟩, 72) := ⟨⟨by decide +kernel, by decide +kernel⟩, List.mem_of_getElem? (i := 1231) (by decide +kernel), List.mem_of_getElem? (i := 1641) (by decide +kernel), List.mem_of_getElem? (i := 1642) (by decide +kernel)⟩
theorem lw_p143 : lw_okq (⟨"SaltStairsModel", "nextUp", "(IZ)I"⟩, 72) := ⟨⟨by decide +kernel, by decide +kernel⟩, List.mem_of_getElem? (i := 1231) (by decide +kernel), List.mem_of_getElem? (i := 1645) (by decide +kernel), List.mem_of_getElem? (i := 1646) (by decide +kernel)⟩
def lw_privs_9 : List (MethodName × Nat) := [(⟨"SaltStairsModel", "comesOut", "(Z)V"⟩, 72), (⟨"SaltStairsModel", "term", "()V"⟩, 72), (⟨"SaltStairsModel", "begins", "()V"⟩, 72), (⟨"SaltStairsModel", "isStep", "(I)Z"⟩, 72), (⟨"SaltStairsModel", "many", "()I"⟩, 72), (⟨"SaltStairsModel", "isPilgrim", "(I)Z"⟩, 72), (⟨"SaltStairsModel", "vowOf", "(I)I"⟩, 72), (⟨"SaltStairsModel", "takes", "()V"⟩, 72), (⟨"SaltStairsModel", "goneNow", "()I"⟩, 72), (⟨"SaltStairsModel", "wearOf", "(IIIIZI)I"⟩, 72), (⟨"SaltStairsModel", "termOf", "(II)I"⟩, 72), (⟨"SaltStairsModel", "onGround", "(I)Z"⟩, 72), (⟨"SaltStairsModel", "sends", "(I)I"⟩, 72), (⟨"SaltStairsModel", "comesOf", "(I)I"⟩, 72), (⟨"SaltStairsModel", "top", "()I"⟩, 72), (⟨"SaltStairsModel", "nextUp", "(IZ)I"⟩, 72)]
theorem lw_r9 : ∀ q ∈ lw_privs_9, lw_okq q := List.forall_mem_cons.mpr ⟨lw_p128, List.forall_mem_cons.mpr ⟨lw_p129, List.forall_mem_cons.mpr ⟨lw_p130, List.forall_mem_cons.mpr ⟨lw_p131, List.forall_mem_cons.mpr ⟨lw_p132, List.forall_mem_cons.mpr ⟨lw_p133, List.forall_mem_cons.mpr ⟨lw_p134, List.forall_mem_cons.mpr ⟨lw_p135, List.forall_mem_cons.mpr ⟨lw_p136, List.forall_mem_cons.mpr ⟨lw_p137, List.forall_mem_cons.mpr ⟨lw_p138, List.forall_mem_cons.mpr ⟨lw_p139, List.forall_mem_cons.mpr ⟨lw_p140, List.forall_mem_cons.mpr ⟨lw_p141, List.forall_mem_cons.mpr ⟨lw_p142, List.forall_mem_cons.mpr ⟨lw_p143, fun _ h => absurd h List.not_mem_nil⟩⟩⟩⟩⟩⟩⟩⟩⟩⟩⟩⟩⟩⟩⟩⟩
theorem lw_p144 : lw_okq (⟨"SaltStairsModel", "isThere", "(I)Z"⟩, 72) := ⟨⟨by decide +kernel, by decide +kernel⟩, List.mem_of_getElem? (i := 1231) (by decide +kernel), List.mem_of_getElem? (i := 1649) (by decide +kernel), List.mem_of_getElem? (i := 1650) (by decide +kernel)⟩
theorem lw_p145 : lw_okq (⟨"SaltStairsModel", "goesDown", "(II)I"⟩, 72) := ⟨⟨by decide +kernel, by decide +kernel⟩, List.mem_of_getElem? (i := 1231) (by decide +kernel), List.mem_of_getElem? (i := 1653) (by decide +kernel), List.mem_of_getElem? (i := 1654) (by decide +kernel)⟩
theorem lw_p146 : lw_okq (⟨"SaltStairsModel", "nextDown", "(IZ)I"⟩, 72) := ⟨⟨by decide +kernel, by decide +kernel⟩, List.mem_of_getElem? (i := 1231) (by decide +kernel), List.mem_of_getElem? (i := 1657) (by decide +kernel), List.mem_of_getElem? (i := 1658) (by decide +kernel)⟩
theorem lw_p147 : lw_okq (⟨"SaltStairsModel", "holds", "(IIIZ)Z"⟩, 72) := ⟨⟨by decide +kernel, by decide +kernel⟩, List.mem_of_getElem? (i := 1231) (by decide +kernel), List.mem_of_getElem? (i := 1661) (by decide +kernel), List.mem_of_getElem? (i := 1662) (by decide +kernel)⟩
theorem lw_p148 : lw_okq (⟨"SaltStairsModel", "keeps", "()V"⟩, 72) := ⟨⟨by decide +kernel, by decide +kernel⟩, List.mem_of_getElem? (i := 1231) (by decide +kernel), List.mem_of_getElem? (i := 1665) (by decide +kernel), List.mem_of_getElem? (i := 1666) (by decide +kernel)⟩
theorem lw_p149 : lw_okq (⟨"SaltStairsModel", "nightGoes", "()V"⟩, 72) := ⟨⟨by decide +kernel, by decide +kernel⟩, List.mem_of_getElem? (i := 1231) (by decide +kernel), List.mem_of_getElem? (i := 1677) (by decide +kernel), List.mem_of_getElem? (i := 1678) (by decide +kernel)⟩
theorem lw_p150 : lw_okq (⟨"SaltStairsModel", "isSet", "(I)Z"⟩, 72) := ⟨⟨by decide +kernel, by decide +kernel⟩, List.mem_of_getElem? (i := 1231) (by decide +kernel), List.mem_of_getElem? (i := 1693) (by decide +kernel), List.mem_of_getElem? (i := 1694) (by decide +kernel)⟩
theorem lw_p151 : lw_okq (⟨"SaltStairsModel", "orders", "(I)V"⟩, 72) := ⟨⟨by decide +kernel, by decide +kernel⟩, List.mem_of_getElem? (i := 1231) (by decide +kernel), List.mem_of_getElem? (i := 1700) (by decide +kernel), List.mem_of_getElem? (i := 1701) (by decide +kernel)⟩
theorem lw_p152 : lw_okq (⟨"SaltStairsModel", "fillsOrder", "(I)V"⟩, 72) := ⟨⟨by decide +kernel, by decide +kernel⟩, List.mem_of_getElem? (i := 1231) (by decide +kernel), List.mem_of_getElem? (i := 1704) (by decide +kernel), List.mem_of_getElem? (i := 1705) (by decide +kernel)⟩
theorem lw_p153 : lw_okq (⟨"SaltStairsModel", "nextOrder", "()Z"⟩, 72) := ⟨⟨by decide +kernel, by decide +kernel⟩, List.mem_of_getElem? (i := 1231) (by decide +kernel), List.mem_of_getElem? (i := 1708) (by decide +kernel), List.mem_of_getElem? (i := 1709) (by decide +kernel)⟩
theorem lw_p154 : lw_okq (⟨"SaltStairsModel", "needOf", "(II)I"⟩, 72) := ⟨⟨by decide +kernel, by decide +kernel⟩, List.mem_of_getElem? (i := 1231) (by decide +kernel), List.mem_of_getElem? (i := 1720) (by decide +kernel), List.mem_of_getElem? (i := 1721) (by decide +kernel)⟩
theorem lw_p155 : lw_okq (⟨"SaltStairsModel", "isTrodden", "(II)Z"⟩, 72) := ⟨⟨by decide +kernel, by decide +kernel⟩, List.mem_of_getElem? (i := 1231) (by decide +kernel), List.mem_of_getElem? (i := 1724) (by decide +kernel), List.mem_of_getElem? (i := 1725) (by decide +kernel)⟩
theorem lw_p156 : lw_okq (⟨"SaltStairsModel", "treads", "(IIZ)Z"⟩, 72) := ⟨⟨by decide +kernel, by decide +kernel⟩, List.mem_of_getElem? (i := 1231) (by decide +kernel), List.mem_of_getElem? (i := 1728) (by decide +kernel), List.mem_of_getElem? (i := 1729) (by decide +kernel)⟩
theorem lw_p157 : lw_okq (⟨"SaltStairsModel", "bearsAll", "(IIII)Z"⟩, 72) := ⟨⟨by decide +kernel, by decide +kernel⟩, List.mem_of_getElem? (i := 1231) (by decide +kernel), List.mem_of_getElem? (i := 1732) (by decide +kernel), List.mem_of_getElem? (i := 1733) (by decide +kernel)⟩
theorem lw_p158 : lw_okq (⟨"SaltStairsModel", "behind", "(IIIZI)I"⟩, 72) := ⟨⟨by decide +kernel, by decide +kernel⟩, List.mem_of_getElem? (i := 1231) (by decide +kernel), List.mem_of_getElem? (i := 1736) (by decide +kernel), List.mem_of_getElem? (i := 1737) (by decide +kernel)⟩
theorem lw_p159 : lw_okq (⟨"SaltStairsModel", "allThrough", "(I)Z"⟩, 72) := ⟨⟨by decide +kernel, by decide +kernel⟩, List.mem_of_getElem? (i := 1231) (by decide +kernel), List.mem_of_getElem? (i := 1744) (by decide +kernel), List.mem_of_getElem? (i := 1745) (by decide +kernel)⟩
def lw_privs_10 : List (MethodName × Nat) := [(⟨"SaltStairsModel", "isThere", "(I)Z"⟩, 72), (⟨"SaltStairsModel", "goesDown", "(II)I"⟩, 72), (⟨"SaltStairsModel", "nextDown", "(IZ)I"⟩, 72), (⟨"SaltStairsModel", "holds", "(IIIZ)Z"⟩, 72), (⟨"SaltStairsModel", "keeps", "()V"⟩, 72), (⟨"SaltStairsModel", "nightGoes", "()V"⟩, 72), (⟨"SaltStairsModel", "isSet", "(I)Z"⟩, 72), (⟨"SaltStairsModel", "orders", "(I)V"⟩, 72), (⟨"SaltStairsModel", "fillsOrder", "(I)V"⟩, 72), (⟨"SaltStairsModel", "nextOrder", "()Z"⟩, 72), (⟨"SaltStairsModel", "needOf", "(II)I"⟩, 72), (⟨"SaltStairsModel", "isTrodden", "(II)Z"⟩, 72), (⟨"SaltStairsModel", "treads", "(IIZ)Z"⟩, 72), (⟨"SaltStairsModel", "bearsAll", "(IIII)Z"⟩, 72), (⟨"SaltStairsModel", "behind", "(IIIZI)I"⟩, 72), (⟨"SaltStairsModel", "allThrough", "(I)Z"⟩, 72)]
theorem lw_r10 : ∀ q ∈ lw_privs_10, lw_okq q := List.forall_mem_cons.mpr ⟨lw_p144, List.forall_mem_cons.mpr ⟨lw_p145, List.forall_mem_cons.mpr ⟨lw_p146, List.forall_mem_cons.mpr ⟨lw_p147, List.forall_mem_cons.mpr ⟨lw_p148, List.forall_mem_cons.mpr ⟨lw_p149, List.forall_mem_cons.mpr ⟨lw_p150, List.forall_mem_cons.mpr ⟨lw_p151, List.forall_mem_cons.mpr ⟨lw_p152, List.forall_mem_cons.mpr ⟨lw_p153, List.forall_mem_cons.mpr ⟨lw_p154, List.forall_mem_cons.mpr ⟨lw_p155, List.forall_mem_cons.mpr ⟨lw_p156, List.forall_mem_cons.mpr ⟨lw_p157, List.forall_mem_cons.mpr ⟨lw_p158, List.forall_mem_cons.mpr ⟨lw_p159, fun _ h => absurd h List.not_mem_nil⟩⟩⟩⟩⟩⟩⟩⟩⟩⟩⟩⟩⟩⟩⟩⟩
theorem lw_p160 : lw_okq (⟨"SaltStairsModel", "notes", "(I)V"⟩, 72) := ⟨⟨by decide +kernel, by decide +kernel⟩, List.mem_of_getElem? (i := 1231) (by decide +kernel), List.mem_of_getElem? (i := 1760) (by decide +kernel), List.mem_of_getElem? (i := 1761) (by decide +kernel)⟩
theorem lw_p161 : lw_okq (⟨"SaltStairsModel", "marks", "()V"⟩, 72) := ⟨⟨by decide +kernel, by decide +kernel⟩, List.mem_of_getElem? (i := 1231) (by decide +kernel), List.mem_of_getElem? (i := 1764) (by decide +kernel), List.mem_of_getElem? (i := 1765) (by decide +kernel)⟩
theorem lw_p162 : lw_okq (⟨"SaltStairsModel", "stuckNow", "()I"⟩, 72) := ⟨⟨by decide +kernel, by decide +kernel⟩, List.mem_of_getElem? (i := 1231) (by decide +kernel), List.mem_of_getElem? (i := 1768) (by decide +kernel), List.mem_of_getElem? (i := 1769) (by decide +kernel)⟩
theorem lw_p163 : lw_okq (⟨"SaltStairsModel", "leastFor", "(III)I"⟩, 72) := ⟨⟨by decide +kernel, by decide +kernel⟩, List.mem_of_getElem? (i := 1231) (by decide +kernel), List.mem_of_getElem? (i := 1776) (by decide +kernel), List.mem_of_getElem? (i := 1777) (by decide +kernel)⟩
theorem lw_p164 : lw_okq (⟨"SaltStairsModel", "carries", "(I)Z"⟩, 72) := ⟨⟨by decide +kernel, by decide +kernel⟩, List.mem_of_getElem? (i := 1231) (by decide +kernel), List.mem_of_getElem? (i := 1785) (by decide +kernel), List.mem_of_getElem? (i := 1786) (by decide +kernel)⟩
theorem lw_p165 : lw_okq (⟨"SaltStairsModel", "fillsWalkers", "(I)V"⟩, 72) := ⟨⟨by decide +kernel, by decide +kernel⟩, List.mem_of_getElem? (i := 1231) (by decide +kernel), List.mem_of_getElem? (i := 1805) (by decide +kernel), List.mem_of_getElem? (i := 1806) (by decide +kernel)⟩
theorem lw_p166 : lw_okq (⟨"SaltStairsModel", "isFit", "(II)Z"⟩, 72) := ⟨⟨by decide +kernel, by decide +kernel⟩, List.mem_of_getElem? (i := 1231) (by decide +kernel), List.mem_of_getElem? (i := 1809) (by decide +kernel), List.mem_of_getElem? (i := 1810) (by decide +kernel)⟩
def lw_privs_11 : List (MethodName × Nat) := [(⟨"SaltStairsModel", "notes", "(I)V"⟩, 72), (⟨"SaltStairsModel", "marks", "()V"⟩, 72), (⟨"SaltStairsModel", "stuckNow", "()I"⟩, 72), (⟨"SaltStairsModel", "leastFor", "(III)I"⟩, 72), (⟨"SaltStairsModel", "carries", "(I)Z"⟩, 72), (⟨"SaltStairsModel", "fillsWalkers", "(I)V"⟩, 72), (⟨"SaltStairsModel", "isFit", "(II)Z"⟩, 72)]
theorem lw_r11 : ∀ q ∈ lw_privs_11, lw_okq q := List.forall_mem_cons.mpr ⟨lw_p160, List.forall_mem_cons.mpr ⟨lw_p161, List.forall_mem_cons.mpr ⟨lw_p162, List.forall_mem_cons.mpr ⟨lw_p163, List.forall_mem_cons.mpr ⟨lw_p164, List.forall_mem_cons.mpr ⟨lw_p165, List.forall_mem_cons.mpr ⟨lw_p166, fun _ h => absurd h List.not_mem_nil⟩⟩⟩⟩⟩⟩⟩
def lw_privs : List (MethodName × Nat) := lw_privs_1 ++ (lw_privs_2 ++ (lw_privs_3 ++ (lw_privs_4 ++ (lw_privs_5 ++ (lw_privs_6 ++ (lw_privs_7 ++ (lw_privs_8 ++ (lw_privs_9 ++ (lw_privs_10 ++ (lw_privs_11))))))))))
def lw_tbl : List Cond := k2_sels lw_privs ++ tables_1
theorem lw_privs_ok : ∀ q ∈ lw_privs, lw_okq q := by
  show ∀ q ∈ lw_privs_1 ++ (lw_privs_2 ++ (lw_privs_3 ++ (lw_privs_4 ++ (lw_privs_5 ++ (lw_privs_6 ++ (lw_privs_7 ++ (lw_privs_8 ++ (lw_privs_9 ++ (lw_privs_10 ++ (lw_privs_11)))))))))), lw_okq q
  exact List.forall_mem_append.mpr ⟨lw_r1, List.forall_mem_append.mpr ⟨lw_r2, List.forall_mem_append.mpr ⟨lw_r3, List.forall_mem_append.mpr ⟨lw_r4, List.forall_mem_append.mpr ⟨lw_r5, List.forall_mem_append.mpr ⟨lw_r6, List.forall_mem_append.mpr ⟨lw_r7, List.forall_mem_append.mpr ⟨lw_r8, List.forall_mem_append.mpr ⟨lw_r9, List.forall_mem_append.mpr ⟨lw_r10, lw_r11⟩⟩⟩⟩⟩⟩⟩⟩⟩⟩
def RX0 : String := "SaltStairs$Forecast"
def TX0 : u_T := fun k => match k with
  | 0 => ("SaltStairs$Forecast", "text", "LSaltStairs$Text;", true)
  | 1 => ("SaltStairs$Forecast", "walk", "LSaltStairs$Walk;", true)
  | 2 => ("SaltStairs$Forecast", "stairs", "LSaltStairs$Stairs;", true)
  | 3 => ("SaltStairs$Forecast", "foreseenDays", "I", false)
  | 4 => ("SaltStairs$Forecast", "firstDay", "I", false)
  | 5 => ("SaltStairs$Forecast", "firstStep", "I", false)
  | 6 => ("SaltStairs$Forecast", "firstBy", "I", false)
  | _ => ("SaltStairs$Forecast", "stuck", "I", false)
def tyX0 : Nat → FieldType := fun k => match k with
  | 0 => .object "SaltStairs$Text"
  | 1 => .object "SaltStairs$Walk"
  | 2 => .object "SaltStairs$Stairs"
  | 3 => .int
  | 4 => .int
  | 5 => .int
  | 6 => .int
  | _ => .int
abbrev wsX00 : List Cond := u_ws RX0 TX0 8
theorem nmX0 : ∀ a, a < 8 → ∀ b, b < 8 → a ≠ b → (TX0 a).2.1 ≠ (TX0 b).2.1 := by decide +kernel
theorem tyX0_ok : ∀ k, k < 8 → parseFieldDescriptor (TX0 k).2.2.1 = some (tyX0 k) := by decide +kernel
def RX1 : String := "SaltStairs$Laws"
def TX1 : u_T := fun k => match k with
  | 0 => ("SaltStairs$Laws", "commands", "[I", true)
  | 1 => ("SaltStairs$Laws", "length", "I", false)
  | 2 => ("SaltStairs$Laws", "starts", "[I", true)
  | _ => ("SaltStairs$Laws", "kept", "[I", true)
def tyX1 : Nat → FieldType := fun k => match k with
  | 0 => .array .int
  | 1 => .int
  | 2 => .array .int
  | _ => .array .int
abbrev wsX10 : List Cond := u_ws RX1 TX1 4
theorem nmX1 : ∀ a, a < 4 → ∀ b, b < 4 → a ≠ b → (TX1 a).2.1 ≠ (TX1 b).2.1 := by decide +kernel
theorem tyX1_ok : ∀ k, k < 4 → parseFieldDescriptor (TX1 k).2.2.1 = some (tyX1 k) := by decide +kernel
def RX2 : String := "SaltStairs$Mending"
def TX2 : u_T := fun k => match k with
  | 0 => ("SaltStairs$Mending", "text", "LSaltStairs$Text;", true)
  | 1 => ("SaltStairs$Mending", "walk", "LSaltStairs$Walk;", true)
  | _ => ("SaltStairs$Mending", "dear", "[I", true)
def tyX2 : Nat → FieldType := fun k => match k with
  | 0 => .object "SaltStairs$Text"
  | 1 => .object "SaltStairs$Walk"
  | _ => .array .int
abbrev wsX20 : List Cond := u_ws RX2 TX2 3
theorem nmX2 : ∀ a, a < 3 → ∀ b, b < 3 → a ≠ b → (TX2 a).2.1 ≠ (TX2 b).2.1 := by decide +kernel
theorem tyX2_ok : ∀ k, k < 3 → parseFieldDescriptor (TX2 k).2.2.1 = some (tyX2 k) := by decide +kernel
def RX3 : String := "SaltStairs$Orders"
def TX3 : u_T := fun k => match k with
  | 0 => ("SaltStairs$Orders", "walk", "LSaltStairs$Walk;", true)
  | 1 => ("SaltStairs$Orders", "stages", "[LSaltStairs$Stairs;", true)
  | 2 => ("SaltStairs$Orders", "path", "[I", true)
  | 3 => ("SaltStairs$Orders", "best", "[I", true)
  | 4 => ("SaltStairs$Orders", "soughtSet", "I", false)
  | 5 => ("SaltStairs$Orders", "size", "I", false)
  | 6 => ("SaltStairs$Orders", "day", "I", false)
  | 7 => ("SaltStairs$Orders", "mostCome", "I", false)
  | _ => ("SaltStairs$Orders", "fewestStuck", "I", false)
def tyX3 : Nat → FieldType := fun k => match k with
  | 0 => .object "SaltStairs$Walk"
  | 1 => .array (.object "SaltStairs$Stairs")
  | 2 => .array .int
  | 3 => .array .int
  | 4 => .int
  | 5 => .int
  | 6 => .int
  | 7 => .int
  | _ => .int
abbrev wsX30 : List Cond := u_ws RX3 TX3 9
theorem nmX3 : ∀ a, a < 9 → ∀ b, b < 9 → a ≠ b → (TX3 a).2.1 ≠ (TX3 b).2.1 := by decide +kernel
theorem tyX3_ok : ∀ k, k < 9 → parseFieldDescriptor (TX3 k).2.2.1 = some (tyX3 k) := by decide +kernel
def RX4 : String := "SaltStairs$Parser"
def TX4 : u_T := fun k => match k with
  | 0 => ("SaltStairs$Parser", "tape", "LSaltStairs$Tape;", true)
  | 1 => ("SaltStairs$Parser", "draft", "LSaltStairs$Text;", true)
  | 2 => ("SaltStairs$Parser", "names", "[J", true)
  | 3 => ("SaltStairs$Parser", "next", "I", false)
  | 4 => ("SaltStairs$Parser", "kind", "I", false)
  | 5 => ("SaltStairs$Parser", "lawsTold", "I", false)
  | 6 => ("SaltStairs$Parser", "fault", "I", false)
  | 7 => ("SaltStairs$Parser", "faultToken", "I", false)
  | 8 => ("SaltStairs$Parser", "laterFault", "I", false)
  | _ => ("SaltStairs$Parser", "laterFaultToken", "I", false)
def tyX4 : Nat → FieldType := fun k => match k with
  | 0 => .object "SaltStairs$Tape"
  | 1 => .object "SaltStairs$Text"
  | 2 => .array .long
  | 3 => .int
  | 4 => .int
  | 5 => .int
  | 6 => .int
  | 7 => .int
  | 8 => .int
  | _ => .int
abbrev wsX40 : List Cond := u_ws RX4 TX4 10
theorem nmX4 : ∀ a, a < 10 → ∀ b, b < 10 → a ≠ b → (TX4 a).2.1 ≠ (TX4 b).2.1 := by decide +kernel
theorem tyX4_ok : ∀ k, k < 10 → parseFieldDescriptor (TX4 k).2.2.1 = some (tyX4 k) := by decide +kernel
def RX5 : String := "SaltStairs$Scene"
def TX5 : u_T := fun k => match k with
  | 0 => ("SaltStairs$Scene", "text", "LSaltStairs$Text;", true)
  | 1 => ("SaltStairs$Scene", "stairs", "LSaltStairs$Stairs;", true)
  | 2 => ("SaltStairs$Scene", "spots", "[I", true)
  | 3 => ("SaltStairs$Scene", "led", "[I", true)
  | 4 => ("SaltStairs$Scene", "came", "[I", true)
  | 5 => ("SaltStairs$Scene", "stuck", "[I", true)
  | 6 => ("SaltStairs$Scene", "brine", "I", false)
  | _ => ("SaltStairs$Scene", "day", "I", false)
def tyX5 : Nat → FieldType := fun k => match k with
  | 0 => .object "SaltStairs$Text"
  | 1 => .object "SaltStairs$Stairs"
  | 2 => .array .int
  | 3 => .array .int
  | 4 => .array .int
  | 5 => .array .int
  | 6 => .int
  | _ => .int
abbrev wsX50 : List Cond := u_ws RX5 TX5 8
theorem nmX5 : ∀ a, a < 8 → ∀ b, b < 8 → a ≠ b → (TX5 a).2.1 ≠ (TX5 b).2.1 := by decide +kernel
theorem tyX5_ok : ∀ k, k < 8 → parseFieldDescriptor (TX5 k).2.2.1 = some (tyX5 k) := by decide +kernel
def RX6 : String := "SaltStairs$Stairs"
def TX6 : u_T := fun k => match k with
  | 0 => ("SaltStairs$Stairs", "thick", "[I", true)
  | 1 => ("SaltStairs$Stairs", "borne", "[I", true)
  | 2 => ("SaltStairs$Stairs", "steps", "I", false)
  | _ => ("SaltStairs$Stairs", "gone", "I", false)
def tyX6 : Nat → FieldType := fun k => match k with
  | 0 => .array .int
  | 1 => .array .int
  | 2 => .int
  | _ => .int
abbrev wsX60 : List Cond := u_ws RX6 TX6 4
theorem nmX6 : ∀ a, a < 4 → ∀ b, b < 4 → a ≠ b → (TX6 a).2.1 ≠ (TX6 b).2.1 := by decide +kernel
theorem tyX6_ok : ∀ k, k < 4 → parseFieldDescriptor (TX6 k).2.2.1 = some (tyX6 k) := by decide +kernel
def RX7 : String := "SaltStairs$Tape"
def TX7 : u_T := fun k => match k with
  | 0 => ("SaltStairs$Tape", "bytes", "[B", true)
  | 1 => ("SaltStairs$Tape", "length", "I", false)
  | 2 => ("SaltStairs$Tape", "kinds", "[I", true)
  | 3 => ("SaltStairs$Tape", "values", "[J", true)
  | _ => ("SaltStairs$Tape", "starts", "[I", true)
def tyX7 : Nat → FieldType := fun k => match k with
  | 0 => .array .byte
  | 1 => .int
  | 2 => .array .int
  | 3 => .array .long
  | _ => .array .int
abbrev wsX70 : List Cond := u_ws RX7 TX7 5
theorem nmX7 : ∀ a, a < 5 → ∀ b, b < 5 → a ≠ b → (TX7 a).2.1 ≠ (TX7 b).2.1 := by decide +kernel
theorem tyX7_ok : ∀ k, k < 5 → parseFieldDescriptor (TX7 k).2.2.1 = some (tyX7 k) := by decide +kernel
def RX8 : String := "SaltStairs$Text"
def TX8 : u_T := fun k => match k with
  | 0 => ("SaltStairs$Text", "thick", "[I", true)
  | 1 => ("SaltStairs$Text", "rain", "[I", true)
  | 2 => ("SaltStairs$Text", "weights", "[I", true)
  | 3 => ("SaltStairs$Text", "vows", "[I", true)
  | 4 => ("SaltStairs$Text", "laws", "LSaltStairs$Laws;", true)
  | 5 => ("SaltStairs$Text", "steps", "I", false)
  | 6 => ("SaltStairs$Text", "rains", "I", false)
  | 7 => ("SaltStairs$Text", "brine", "I", false)
  | 8 => ("SaltStairs$Text", "growth", "I", false)
  | _ => ("SaltStairs$Text", "pilgrims", "I", false)
def tyX8 : Nat → FieldType := fun k => match k with
  | 0 => .array .int
  | 1 => .array .int
  | 2 => .array .int
  | 3 => .array .int
  | 4 => .object "SaltStairs$Laws"
  | 5 => .int
  | 6 => .int
  | 7 => .int
  | 8 => .int
  | _ => .int
abbrev wsX80 : List Cond := u_ws RX8 TX8 10
theorem nmX8 : ∀ a, a < 10 → ∀ b, b < 10 → a ≠ b → (TX8 a).2.1 ≠ (TX8 b).2.1 := by decide +kernel
theorem tyX8_ok : ∀ k, k < 10 → parseFieldDescriptor (TX8 k).2.2.1 = some (tyX8 k) := by decide +kernel
def RX9 : String := "SaltStairs$Told"
def TX9 : u_T := fun k => match k with
  | 0 => ("SaltStairs$Told", "text", "LSaltStairs$Text;", true)
  | 1 => ("SaltStairs$Told", "walk", "LSaltStairs$Walk;", true)
  | 2 => ("SaltStairs$Told", "stairs", "LSaltStairs$Stairs;", true)
  | 3 => ("SaltStairs$Told", "steps", "[I", true)
  | 4 => ("SaltStairs$Told", "thicks", "[I", true)
  | 5 => ("SaltStairs$Told", "many", "I", false)
  | 6 => ("SaltStairs$Told", "behind", "[I", true)
  | _ => ("SaltStairs$Told", "isWalked", "Z", false)
def tyX9 : Nat → FieldType := fun k => match k with
  | 0 => .object "SaltStairs$Text"
  | 1 => .object "SaltStairs$Walk"
  | 2 => .object "SaltStairs$Stairs"
  | 3 => .array .int
  | 4 => .array .int
  | 5 => .int
  | 6 => .array .int
  | _ => .boolean
abbrev wsX90 : List Cond := u_ws RX9 TX9 8
theorem nmX9 : ∀ a, a < 8 → ∀ b, b < 8 → a ≠ b → (TX9 a).2.1 ≠ (TX9 b).2.1 := by decide +kernel
theorem tyX9_ok : ∀ k, k < 8 → parseFieldDescriptor (TX9 k).2.2.1 = some (tyX9 k) := by decide +kernel
def RX10 : String := "SaltStairs$Walk"
def TX10 : u_T := fun k => match k with
  | 0 => ("SaltStairs$Walk", "text", "LSaltStairs$Text;", true)
  | 1 => ("SaltStairs$Walk", "looks", "[I", true)
  | 2 => ("SaltStairs$Walk", "weight", "I", false)
  | 3 => ("SaltStairs$Walk", "vow", "I", false)
  | 4 => ("SaltStairs$Walk", "spot", "I", false)
  | 5 => ("SaltStairs$Walk", "led", "I", false)
  | _ => ("SaltStairs$Walk", "lost", "I", false)
def tyX10 : Nat → FieldType := fun k => match k with
  | 0 => .object "SaltStairs$Text"
  | 1 => .array .int
  | 2 => .int
  | 3 => .int
  | 4 => .int
  | 5 => .int
  | _ => .int
abbrev wsX100 : List Cond := u_ws RX10 TX10 7
theorem nmX10 : ∀ a, a < 7 → ∀ b, b < 7 → a ≠ b → (TX10 a).2.1 ≠ (TX10 b).2.1 := by decide +kernel
theorem tyX10_ok : ∀ k, k < 7 → parseFieldDescriptor (TX10 k).2.2.1 = some (tyX10 k) := by decide +kernel
def RX11 : String := "SaltStairs"
def TX11 : u_T := fun k => match k with
  | 0 => ("SaltStairs", "tape", "LSaltStairs$Tape;", true)
  | 1 => ("SaltStairs", "text", "LSaltStairs$Text;", true)
  | 2 => ("SaltStairs", "parser", "LSaltStairs$Parser;", true)
  | 3 => ("SaltStairs", "walk", "LSaltStairs$Walk;", true)
  | 4 => ("SaltStairs", "now", "LSaltStairs$Scene;", true)
  | 5 => ("SaltStairs", "past", "[LSaltStairs$Scene;", true)
  | 6 => ("SaltStairs", "slots", "[LSaltStairs$Scene;", true)
  | 7 => ("SaltStairs", "held", "[Z", true)
  | 8 => ("SaltStairs", "spare", "LSaltStairs$Stairs;", true)
  | 9 => ("SaltStairs", "orders", "LSaltStairs$Orders;", true)
  | 10 => ("SaltStairs", "forecast", "LSaltStairs$Forecast;", true)
  | 11 => ("SaltStairs", "mending", "LSaltStairs$Mending;", true)
  | 12 => ("SaltStairs", "told", "LSaltStairs$Told;", true)
  | 13 => ("SaltStairs", "pastCount", "I", false)
  | 14 => ("SaltStairs", "pastEnd", "I", false)
  | _ => ("SaltStairs", "faultPlace", "I", false)
def tyX11 : Nat → FieldType := fun k => match k with
  | 0 => .object "SaltStairs$Tape"
  | 1 => .object "SaltStairs$Text"
  | 2 => .object "SaltStairs$Parser"
  | 3 => .object "SaltStairs$Walk"
  | 4 => .object "SaltStairs$Scene"
  | 5 => .array (.object "SaltStairs$Scene")
  | 6 => .array (.object "SaltStairs$Scene")
  | 7 => .array .boolean
  | 8 => .object "SaltStairs$Stairs"
  | 9 => .object "SaltStairs$Orders"
  | 10 => .object "SaltStairs$Forecast"
  | 11 => .object "SaltStairs$Mending"
  | 12 => .object "SaltStairs$Told"
  | 13 => .int
  | 14 => .int
  | _ => .int
abbrev wsX110 : List Cond := u_ws RX11 TX11 16
theorem nmX11 : ∀ a, a < 16 → ∀ b, b < 16 → a ≠ b → (TX11 a).2.1 ≠ (TX11 b).2.1 := by decide +kernel
theorem tyX11_ok : ∀ k, k < 16 → parseFieldDescriptor (TX11 k).2.2.1 = some (tyX11 k) := by decide +kernel
def RX12 : String := "SaltStairsModel"
def TX12 : u_T := fun k => match k with
  | 0 => ("SaltStairsModel", "thrown", "I", false)
  | 1 => ("SaltStairsModel", "tape", "[B", true)
  | 2 => ("SaltStairsModel", "taped", "I", false)
  | 3 => ("SaltStairsModel", "text", "[B", true)
  | 4 => ("SaltStairsModel", "size", "I", false)
  | 5 => ("SaltStairsModel", "tKind", "[I", true)
  | 6 => ("SaltStairsModel", "tPlace", "[I", true)
  | 7 => ("SaltStairsModel", "tValue", "[I", true)
  | 8 => ("SaltStairsModel", "tName", "[J", true)
  | 9 => ("SaltStairsModel", "keys", "[J", true)
  | 10 => ("SaltStairsModel", "tokens", "I", false)
  | 11 => ("SaltStairsModel", "t", "I", false)
  | 12 => ("SaltStairsModel", "open", "I", false)
  | 13 => ("SaltStairsModel", "fault", "I", false)
  | 14 => ("SaltStairsModel", "faultPlace", "I", false)
  | 15 => ("SaltStairsModel", "worst", "I", false)
  | 16 => ("SaltStairsModel", "worstPlace", "I", false)
  | 17 => ("SaltStairsModel", "place", "I", false)
  | 18 => ("SaltStairsModel", "live", "I", false)
  | 19 => ("SaltStairsModel", "side", "I", false)
  | 20 => ("SaltStairsModel", "names", "I", false)
  | 21 => ("SaltStairsModel", "nameOf", "[J", true)
  | 22 => ("SaltStairsModel", "steps", "[I", true)
  | 23 => ("SaltStairsModel", "thickTold", "[I", true)
  | 24 => ("SaltStairsModel", "rains", "[I", true)
  | 25 => ("SaltStairsModel", "rain", "[I", true)
  | 26 => ("SaltStairsModel", "brineTold", "[I", true)
  | 27 => ("SaltStairsModel", "brineMore", "[I", true)
  | 28 => ("SaltStairsModel", "pilgrims", "[I", true)
  | 29 => ("SaltStairsModel", "weight", "[I", true)
  | 30 => ("SaltStairsModel", "vow", "[I", true)
  | 31 => ("SaltStairsModel", "laws", "[I", true)
  | 32 => ("SaltStairsModel", "lawFirst", "[I", true)
  | 33 => ("SaltStairsModel", "lawLast", "[I", true)
  | 34 => ("SaltStairsModel", "branches", "I", false)
  | 35 => ("SaltStairsModel", "hasTest", "[Z", true)
  | 36 => ("SaltStairsModel", "testFrom", "[I", true)
  | 37 => ("SaltStairsModel", "testMid", "[I", true)
  | 38 => ("SaltStairsModel", "testTo", "[I", true)
  | 39 => ("SaltStairsModel", "termTo", "[I", true)
  | 40 => ("SaltStairsModel", "codes", "I", false)
  | 41 => ("SaltStairsModel", "code", "[I", true)
  | 42 => ("SaltStairsModel", "codeInt", "[I", true)
  | 43 => ("SaltStairsModel", "waits", "[I", true)
  | 44 => ("SaltStairsModel", "waiting", "I", false)
  | 45 => ("SaltStairsModel", "variables", "[I", true)
  | 46 => ("SaltStairsModel", "pile", "[I", true)
  | 47 => ("SaltStairsModel", "isBroken", "Z", false)
  | 48 => ("SaltStairsModel", "now", "[I", true)
  | 49 => ("SaltStairsModel", "row", "[I", true)
  | 50 => ("SaltStairsModel", "made", "I", false)
  | 51 => ("SaltStairsModel", "firstGone", "I", false)
  | 52 => ("SaltStairsModel", "goneTo", "I", false)
  | 53 => ("SaltStairsModel", "undos", "I", false)
  | 54 => ("SaltStairsModel", "history", "[I", true)
  | 55 => ("SaltStairsModel", "inOrder", "I", false)
  | 56 => ("SaltStairsModel", "order", "[I", true)
  | 57 => ("SaltStairsModel", "bestOrder", "[I", true)
  | 58 => ("SaltStairsModel", "bestThrough", "I", false)
  | 59 => ("SaltStairsModel", "bestStuck", "I", false)
  | 60 => ("SaltStairsModel", "seasonDay", "I", false)
  | 61 => ("SaltStairsModel", "seasonStep", "I", false)
  | 62 => ("SaltStairsModel", "seasonBy", "I", false)
  | 63 => ("SaltStairsModel", "wasThere", "[Z", true)
  | 64 => ("SaltStairsModel", "costs", "[I", true)
  | 65 => ("SaltStairsModel", "told", "I", false)
  | 66 => ("SaltStairsModel", "toldStep", "[I", true)
  | 67 => ("SaltStairsModel", "toldThick", "[I", true)
  | 68 => ("SaltStairsModel", "walker", "[I", true)
  | 69 => ("SaltStairsModel", "walkerSets", "I", false)
  | 70 => ("SaltStairsModel", "isHeld", "[Z", true)
  | _ => ("SaltStairsModel", "held", "[I", true)
def tyX12 : Nat → FieldType := fun k => match k with
  | 0 => .int
  | 1 => .array .byte
  | 2 => .int
  | 3 => .array .byte
  | 4 => .int
  | 5 => .array .int
  | 6 => .array .int
  | 7 => .array .int
  | 8 => .array .long
  | 9 => .array .long
  | 10 => .int
  | 11 => .int
  | 12 => .int
  | 13 => .int
  | 14 => .int
  | 15 => .int
  | 16 => .int
  | 17 => .int
  | 18 => .int
  | 19 => .int
  | 20 => .int
  | 21 => .array .long
  | 22 => .array .int
  | 23 => .array .int
  | 24 => .array .int
  | 25 => .array .int
  | 26 => .array .int
  | 27 => .array .int
  | 28 => .array .int
  | 29 => .array .int
  | 30 => .array .int
  | 31 => .array .int
  | 32 => .array .int
  | 33 => .array .int
  | 34 => .int
  | 35 => .array .boolean
  | 36 => .array .int
  | 37 => .array .int
  | 38 => .array .int
  | 39 => .array .int
  | 40 => .int
  | 41 => .array .int
  | 42 => .array .int
  | 43 => .array .int
  | 44 => .int
  | 45 => .array .int
  | 46 => .array .int
  | 47 => .boolean
  | 48 => .array .int
  | 49 => .array .int
  | 50 => .int
  | 51 => .int
  | 52 => .int
  | 53 => .int
  | 54 => .array .int
  | 55 => .int
  | 56 => .array .int
  | 57 => .array .int
  | 58 => .int
  | 59 => .int
  | 60 => .int
  | 61 => .int
  | 62 => .int
  | 63 => .array .boolean
  | 64 => .array .int
  | 65 => .int
  | 66 => .array .int
  | 67 => .array .int
  | 68 => .array .int
  | 69 => .int
  | 70 => .array .boolean
  | _ => .array .int
abbrev wsX120 : List Cond := u_ws RX12 TX12 72
theorem nmX12 : ∀ a, a < 72 → ∀ b, b < 72 → a ≠ b → (TX12 a).2.1 ≠ (TX12 b).2.1 := by decide +kernel
theorem tyX12_ok : ∀ k, k < 72 → parseFieldDescriptor (TX12 k).2.2.1 = some (tyX12 k) := by decide +kernel
def RJ6 : String := "java/lang/Integer"
def RJ0 : String := "java/lang/String"
def RJ1 : String := "java/lang/StringLatin1"
def RJ2 : String := "java/lang/StringUTF16"
def RL : String := "SaltStairsLaw"
abbrev cX0_init : ByteArray := prog_2_method_1_code
def yX0_init : MethodName := ⟨RX0, "<init>", "(LSaltStairs$Text;LSaltStairs$Walk;)V"⟩
abbrev cX0_drop : ByteArray := prog_2_method_2_code
def yX0_drop : MethodName := ⟨RX0, "drop", "()V"⟩
abbrev cX0_allCome : ByteArray := prog_2_method_3_code
def yX0_allCome : MethodName := ⟨RX0, "allCome", "(LSaltStairs$Scene;I)Z"⟩
abbrev cX0_allComeOver : ByteArray := prog_2_method_4_code
def yX0_allComeOver : MethodName := ⟨RX0, "allComeOver", "(II)Z"⟩
abbrev cX0_dryEnoughWays : ByteArray := prog_2_method_5_code
def yX0_dryEnoughWays : MethodName := ⟨RX0, "dryEnoughWays", "(LSaltStairs$Scene;IIIII)J"⟩
abbrev cX0_choices : ByteArray := prog_2_method_6_code
def yX0_choices : MethodName := ⟨RX0, "choices", "(II)J"⟩
abbrev cX0_power : ByteArray := prog_2_method_7_code
def yX0_power : MethodName := ⟨RX0, "power", "(II)J"⟩
abbrev cX0_foresee : ByteArray := prog_2_method_8_code
def yX0_foresee : MethodName := ⟨RX0, "foresee", "(LSaltStairs$Scene;I)V"⟩
abbrev cX0_groundBehindDay : ByteArray := prog_2_method_9_code
def yX0_groundBehindDay : MethodName := ⟨RX0, "groundBehindDay", "(III)I"⟩
abbrev cX0_noteLost : ByteArray := prog_2_method_10_code
def yX0_noteLost : MethodName := ⟨RX0, "noteLost", "(III)V"⟩
abbrev cX0_fewestHands : ByteArray := prog_2_method_11_code
def yX0_fewestHands : MethodName := ⟨RX0, "fewestHands", "(LSaltStairs$Scene;I)I"⟩
abbrev cX0_isCarried : ByteArray := prog_2_method_12_code
def yX0_isCarried : MethodName := ⟨RX0, "isCarried", "(LSaltStairs$Scene;III)Z"⟩
abbrev cX1_init : ByteArray := prog_3_method_1_code
def yX1_init : MethodName := ⟨RX1, "<init>", "()V"⟩
abbrev cX1_clear : ByteArray := prog_3_method_2_code
def yX1_clear : MethodName := ⟨RX1, "clear", "()V"⟩
abbrev cX1_copyFrom : ByteArray := prog_3_method_3_code
def yX1_copyFrom : MethodName := ⟨RX1, "copyFrom", "(LSaltStairs$Laws;)V"⟩
abbrev cX1_open : ByteArray := prog_3_method_4_code
def yX1_open : MethodName := ⟨RX1, "open", "(I)V"⟩
abbrev cX1_emit : ByteArray := prog_3_method_5_code
def yX1_emit : MethodName := ⟨RX1, "emit", "(II)V"⟩
abbrev cX1_elseHere : ByteArray := prog_3_method_6_code
def yX1_elseHere : MethodName := ⟨RX1, "elseHere", "(I)V"⟩
abbrev cX1_tells : ByteArray := prog_3_method_7_code
def yX1_tells : MethodName := ⟨RX1, "tells", "(I)Z"⟩
abbrev cX1_worth : ByteArray := prog_3_method_8_code
def yX1_worth : MethodName := ⟨RX1, "worth", "(I[I)I"⟩
abbrev cX2_init : ByteArray := prog_4_method_1_code
def yX2_init : MethodName := ⟨RX2, "<init>", "(LSaltStairs$Text;LSaltStairs$Walk;)V"⟩
abbrev cX2_allNeed : ByteArray := prog_4_method_2_code
def yX2_allNeed : MethodName := ⟨RX2, "allNeed", "(LSaltStairs$Scene;I)I"⟩
abbrev cX2_needOf : ByteArray := prog_4_method_3_code
def yX2_needOf : MethodName := ⟨RX2, "needOf", "(LSaltStairs$Scene;II)I"⟩
abbrev cX2_bearsSet : ByteArray := prog_4_method_4_code
def yX2_bearsSet : MethodName := ⟨RX2, "bearsSet", "(LSaltStairs$Scene;III)Z"⟩
abbrev cX2_treads : ByteArray := prog_4_method_5_code
def yX2_treads : MethodName := ⟨RX2, "treads", "(IZ)Z"⟩
abbrev cX2_takenOff : ByteArray := prog_4_method_6_code
def yX2_takenOff : MethodName := ⟨RX2, "takenOff", "(LSaltStairs$Scene;I)I"⟩
abbrev cX2_dearFrom : ByteArray := prog_4_method_7_code
def yX2_dearFrom : MethodName := ⟨RX2, "dearFrom", "(LSaltStairs$Stairs;I)I"⟩
abbrev cX2_dearOver : ByteArray := prog_4_method_8_code
def yX2_dearOver : MethodName := ⟨RX2, "dearOver", "(LSaltStairs$Stairs;I)I"⟩
abbrev cX3_init : ByteArray := prog_5_method_1_code
def yX3_init : MethodName := ⟨RX3, "<init>", "(LSaltStairs$Walk;)V"⟩
abbrev cX3_drop : ByteArray := prog_5_method_2_code
def yX3_drop : MethodName := ⟨RX3, "drop", "()V"⟩
abbrev cX3_seek : ByteArray := prog_5_method_3_code
def yX3_seek : MethodName := ⟨RX3, "seek", "(LSaltStairs$Scene;I)V"⟩
abbrev cX3_search : ByteArray := prog_5_method_4_code
def yX3_search : MethodName := ⟨RX3, "search", "(IIII)V"⟩
abbrev cX4_init : ByteArray := prog_6_method_1_code
def yX4_init : MethodName := ⟨RX4, "<init>", "(LSaltStairs$Tape;)V"⟩
abbrev cX4_parse : ByteArray := prog_6_method_2_code
def yX4_parse : MethodName := ⟨RX4, "parse", "()I"⟩
abbrev cX4_faultPlace : ByteArray := prog_6_method_3_code
def yX4_faultPlace : MethodName := ⟨RX4, "faultPlace", "()I"⟩
abbrev cX4_readRow : ByteArray := prog_6_method_4_code
def yX4_readRow : MethodName := ⟨RX4, "readRow", "([IIII)I"⟩
abbrev cX4_readBrine : ByteArray := prog_6_method_5_code
def yX4_readBrine : MethodName := ⟨RX4, "readBrine", "()V"⟩
abbrev cX4_readPilgrim : ByteArray := prog_6_method_6_code
def yX4_readPilgrim : MethodName := ⟨RX4, "readPilgrim", "()V"⟩
abbrev cX4_takeName : ByteArray := prog_6_method_7_code
def yX4_takeName : MethodName := ⟨RX4, "takeName", "(I)V"⟩
abbrev cX4_readLaw : ByteArray := prog_6_method_8_code
def yX4_readLaw : MethodName := ⟨RX4, "readLaw", "()V"⟩
abbrev cX4_readIf : ByteArray := prog_6_method_9_code
def yX4_readIf : MethodName := ⟨RX4, "readIf", "()V"⟩
abbrev cX4_readSum : ByteArray := prog_6_method_10_code
def yX4_readSum : MethodName := ⟨RX4, "readSum", "(I)V"⟩
abbrev cX4_isSign : ByteArray := prog_6_method_11_code
def yX4_isSign : MethodName := ⟨RX4, "isSign", "(I)Z"⟩
abbrev cX4_readUnit : ByteArray := prog_6_method_12_code
def yX4_readUnit : MethodName := ⟨RX4, "readUnit", "(I)V"⟩
abbrev cX4_take : ByteArray := prog_6_method_13_code
def yX4_take : MethodName := ⟨RX4, "take", "(I)V"⟩
abbrev cX4_takeInt : ByteArray := prog_6_method_14_code
def yX4_takeInt : MethodName := ⟨RX4, "takeInt", "(II)I"⟩
abbrev cX4_takeVow : ByteArray := prog_6_method_15_code
def yX4_takeVow : MethodName := ⟨RX4, "takeVow", "()I"⟩
abbrev cX4_fail : ByteArray := prog_6_method_16_code
def yX4_fail : MethodName := ⟨RX4, "fail", "(I)V"⟩
abbrev cX4_failLater : ByteArray := prog_6_method_17_code
def yX4_failLater : MethodName := ⟨RX4, "failLater", "(I)V"⟩
abbrev cX5_init : ByteArray := prog_7_method_1_code
def yX5_init : MethodName := ⟨RX5, "<init>", "(LSaltStairs$Text;)V"⟩
abbrev cX5_start : ByteArray := prog_7_method_2_code
def yX5_start : MethodName := ⟨RX5, "start", "()V"⟩
abbrev cX5_copyFrom : ByteArray := prog_7_method_3_code
def yX5_copyFrom : MethodName := ⟨RX5, "copyFrom", "(LSaltStairs$Scene;)V"⟩
abbrev cX5_settle : ByteArray := prog_7_method_4_code
def yX5_settle : MethodName := ⟨RX5, "settle", "(IIII)V"⟩
abbrev cX5_passNight : ByteArray := prog_7_method_5_code
def yX5_passNight : MethodName := ⟨RX5, "passNight", "()V"⟩
abbrev cX5_isOnGround : ByteArray := prog_7_method_6_code
def yX5_isOnGround : MethodName := ⟨RX5, "isOnGround", "(I)Z"⟩
abbrev cX5_grounded : ByteArray := prog_7_method_7_code
def yX5_grounded : MethodName := ⟨RX5, "grounded", "()I"⟩
abbrev cX5_standingOn : ByteArray := prog_7_method_8_code
def yX5_standingOn : MethodName := ⟨RX5, "standingOn", "(I)I"⟩
abbrev cX5_stuckOnes : ByteArray := prog_7_method_9_code
def yX5_stuckOnes : MethodName := ⟨RX5, "stuckOnes", "()I"⟩
abbrev cX6_init : ByteArray := prog_8_method_1_code
def yX6_init : MethodName := ⟨RX6, "<init>", "()V"⟩
abbrev cX6_build : ByteArray := prog_8_method_2_code
def yX6_build : MethodName := ⟨RX6, "build", "(LSaltStairs$Text;)V"⟩
abbrev cX6_copyFrom : ByteArray := prog_8_method_3_code
def yX6_copyFrom : MethodName := ⟨RX6, "copyFrom", "(LSaltStairs$Stairs;)V"⟩
abbrev cX6_top : ByteArray := prog_8_method_4_code
def yX6_top : MethodName := ⟨RX6, "top", "()I"⟩
abbrev cX6_isStep : ByteArray := prog_8_method_5_code
def yX6_isStep : MethodName := ⟨RX6, "isStep", "(I)Z"⟩
abbrev cX6_isThere : ByteArray := prog_8_method_6_code
def yX6_isThere : MethodName := ⟨RX6, "isThere", "(I)Z"⟩
abbrev cX6_thickAt : ByteArray := prog_8_method_7_code
def yX6_thickAt : MethodName := ⟨RX6, "thickAt", "(I)I"⟩
abbrev cX6_borneAt : ByteArray := prog_8_method_8_code
def yX6_borneAt : MethodName := ⟨RX6, "borneAt", "(I)I"⟩
abbrev cX6_bear : ByteArray := prog_8_method_9_code
def yX6_bear : MethodName := ⟨RX6, "bear", "(I)V"⟩
abbrev cX6_setThick : ByteArray := prog_8_method_10_code
def yX6_setThick : MethodName := ⟨RX6, "setThick", "(II)V"⟩
abbrev cX6_rainOn : ByteArray := prog_8_method_11_code
def yX6_rainOn : MethodName := ⟨RX6, "rainOn", "(I)I"⟩
abbrev cX6_allThick : ByteArray := prog_8_method_12_code
def yX6_allThick : MethodName := ⟨RX6, "allThick", "()I"⟩
abbrev cX7_init : ByteArray := prog_9_method_1_code
def yX7_init : MethodName := ⟨RX7, "<init>", "()V"⟩
abbrev cX7_add : ByteArray := prog_9_method_2_code
def yX7_add : MethodName := ⟨RX7, "add", "(IIIII)I"⟩
abbrev cX7_addFour : ByteArray := prog_9_method_3_code
def yX7_addFour : MethodName := ⟨RX7, "addFour", "(I)V"⟩
abbrev cX7_cut : ByteArray := prog_9_method_4_code
def yX7_cut : MethodName := ⟨RX7, "cut", "(I)I"⟩
abbrev cX7_clear : ByteArray := prog_9_method_5_code
def yX7_clear : MethodName := ⟨RX7, "clear", "()V"⟩
abbrev cX7_kindAt : ByteArray := prog_9_method_6_code
def yX7_kindAt : MethodName := ⟨RX7, "kindAt", "(I)I"⟩
abbrev cX7_valueAt : ByteArray := prog_9_method_7_code
def yX7_valueAt : MethodName := ⟨RX7, "valueAt", "(I)J"⟩
abbrev cX7_startAt : ByteArray := prog_9_method_8_code
def yX7_startAt : MethodName := ⟨RX7, "startAt", "(I)I"⟩
abbrev cX7_cutIntoTokens : ByteArray := prog_9_method_9_code
def yX7_cutIntoTokens : MethodName := ⟨RX7, "cutIntoTokens", "()V"⟩
abbrev cX7_afterBlanks : ByteArray := prog_9_method_10_code
def yX7_afterBlanks : MethodName := ⟨RX7, "afterBlanks", "(I)I"⟩
abbrev cX7_endOf : ByteArray := prog_9_method_11_code
def yX7_endOf : MethodName := ⟨RX7, "endOf", "(I)I"⟩
abbrev cX7_kindOf : ByteArray := prog_9_method_12_code
def yX7_kindOf : MethodName := ⟨RX7, "kindOf", "(II)I"⟩
abbrev cX7_wordOf : ByteArray := prog_9_method_13_code
def yX7_wordOf : MethodName := ⟨RX7, "wordOf", "(II)I"⟩
abbrev cX7_isWord : ByteArray := prog_9_method_14_code
def yX7_isWord : MethodName := ⟨RX7, "isWord", "(III)Z"⟩
abbrev cX7_valueOf : ByteArray := prog_9_method_15_code
def yX7_valueOf : MethodName := ⟨RX7, "valueOf", "(II)J"⟩
abbrev cX7_byteAt : ByteArray := prog_9_method_16_code
def yX7_byteAt : MethodName := ⟨RX7, "byteAt", "(I)I"⟩
abbrev cX7_isBlank : ByteArray := prog_9_method_17_code
def yX7_isBlank : MethodName := ⟨RX7, "isBlank", "(I)Z"⟩
abbrev cX7_isLetter : ByteArray := prog_9_method_18_code
def yX7_isLetter : MethodName := ⟨RX7, "isLetter", "(I)Z"⟩
abbrev cX7_isDigit : ByteArray := prog_9_method_19_code
def yX7_isDigit : MethodName := ⟨RX7, "isDigit", "(I)Z"⟩
abbrev cX8_init : ByteArray := prog_10_method_1_code
def yX8_init : MethodName := ⟨RX8, "<init>", "()V"⟩
abbrev cX8_clear : ByteArray := prog_10_method_2_code
def yX8_clear : MethodName := ⟨RX8, "clear", "()V"⟩
abbrev cX8_copyFrom : ByteArray := prog_10_method_3_code
def yX8_copyFrom : MethodName := ⟨RX8, "copyFrom", "(LSaltStairs$Text;)V"⟩
abbrev cX8_hasPilgrim : ByteArray := prog_10_method_4_code
def yX8_hasPilgrim : MethodName := ⟨RX8, "hasPilgrim", "(I)Z"⟩
abbrev cX8_rainOf : ByteArray := prog_10_method_5_code
def yX8_rainOf : MethodName := ⟨RX8, "rainOf", "(I)I"⟩
abbrev cX9_init : ByteArray := prog_11_method_1_code
def yX9_init : MethodName := ⟨RX9, "<init>", "(LSaltStairs$Text;LSaltStairs$Walk;)V"⟩
abbrev cX9_startAnew : ByteArray := prog_11_method_2_code
def yX9_startAnew : MethodName := ⟨RX9, "startAnew", "()V"⟩
abbrev cX9_add : ByteArray := prog_11_method_3_code
def yX9_add : MethodName := ⟨RX9, "add", "(II)I"⟩
abbrev cX9_knows : ByteArray := prog_11_method_4_code
def yX9_knows : MethodName := ⟨RX9, "knows", "(I)Z"⟩
abbrev cX9_fitting : ByteArray := prog_11_method_5_code
def yX9_fitting : MethodName := ⟨RX9, "fitting", "(I)I"⟩
abbrev cX9_fittingAt : ByteArray := prog_11_method_6_code
def yX9_fittingAt : MethodName := ⟨RX9, "fittingAt", "(II)I"⟩
abbrev cX9_inSome : ByteArray := prog_11_method_7_code
def yX9_inSome : MethodName := ⟨RX9, "inSome", "(I)I"⟩
abbrev cX9_inAll : ByteArray := prog_11_method_8_code
def yX9_inAll : MethodName := ⟨RX9, "inAll", "(I)I"⟩
abbrev cX9_sets : ByteArray := prog_11_method_9_code
def yX9_sets : MethodName := ⟨RX9, "sets", "()I"⟩
abbrev cX9_isFitting : ByteArray := prog_11_method_10_code
def yX9_isFitting : MethodName := ⟨RX9, "isFitting", "(II)Z"⟩
abbrev cX9_walkAllSets : ByteArray := prog_11_method_11_code
def yX9_walkAllSets : MethodName := ⟨RX9, "walkAllSets", "()V"⟩
abbrev cX9_writeRow : ByteArray := prog_11_method_12_code
def yX9_writeRow : MethodName := ⟨RX9, "writeRow", "(I)V"⟩
abbrev cX9_readRow : ByteArray := prog_11_method_13_code
def yX9_readRow : MethodName := ⟨RX9, "readRow", "(I)V"⟩
abbrev cX10_init : ByteArray := prog_12_method_1_code
def yX10_init : MethodName := ⟨RX10, "<init>", "(LSaltStairs$Text;)V"⟩
abbrev cX10_begin : ByteArray := prog_12_method_2_code
def yX10_begin : MethodName := ⟨RX10, "begin", "(II)V"⟩
abbrev cX10_beginAs : ByteArray := prog_12_method_3_code
def yX10_beginAs : MethodName := ⟨RX10, "beginAs", "(III)V"⟩
abbrev cX10_through : ByteArray := prog_12_method_4_code
def yX10_through : MethodName := ⟨RX10, "through", "(LSaltStairs$Stairs;II)I"⟩
abbrev cX10_carriesUp : ByteArray := prog_12_method_5_code
def yX10_carriesUp : MethodName := ⟨RX10, "carriesUp", "(LSaltStairs$Stairs;II)Z"⟩
abbrev cX10_advance : ByteArray := prog_12_method_6_code
def yX10_advance : MethodName := ⟨RX10, "advance", "(LSaltStairs$Stairs;Z)I"⟩
abbrev cX10_nextSpot : ByteArray := prog_12_method_7_code
def yX10_nextSpot : MethodName := ⟨RX10, "nextSpot", "(LSaltStairs$Stairs;Z)I"⟩
abbrev cX10_tread : ByteArray := prog_12_method_8_code
def yX10_tread : MethodName := ⟨RX10, "tread", "(LSaltStairs$Stairs;IZ)Z"⟩
abbrev cX10_leftBehind : ByteArray := prog_12_method_9_code
def yX10_leftBehind : MethodName := ⟨RX10, "leftBehind", "(IIIZ)I"⟩
abbrev cX10_wearsATread : ByteArray := prog_12_method_10_code
def yX10_wearsATread : MethodName := ⟨RX10, "wearsATread", "()I"⟩
abbrev cX10_wearOn : ByteArray := prog_12_method_11_code
def yX10_wearOn : MethodName := ⟨RX10, "wearOn", "(IIIZ)I"⟩
abbrev cX11_init : ByteArray := prog_1_method_1_code
def yX11_init : MethodName := ⟨RX11, "<init>", "()V"⟩
abbrev cX11_feed : ByteArray := prog_1_method_2_code
def yX11_feed : MethodName := ⟨RX11, "feed", "(IIIII)I"⟩
abbrev cX11_back : ByteArray := prog_1_method_3_code
def yX11_back : MethodName := ⟨RX11, "back", "(I)I"⟩
abbrev cX11_read : ByteArray := prog_1_method_4_code
def yX11_read : MethodName := ⟨RX11, "read", "()I"⟩
abbrev cX11_place : ByteArray := prog_1_method_5_code
def yX11_place : MethodName := ⟨RX11, "place", "()I"⟩
abbrev cX11_step : ByteArray := prog_1_method_6_code
def yX11_step : MethodName := ⟨RX11, "step", "(II)I"⟩
abbrev cX11_pilgrim : ByteArray := prog_1_method_7_code
def yX11_pilgrim : MethodName := ⟨RX11, "pilgrim", "(II)I"⟩
abbrev cX11_wear : ByteArray := prog_1_method_8_code
def yX11_wear : MethodName := ⟨RX11, "wear", "(IIZ)I"⟩
abbrev cX11_go : ByteArray := prog_1_method_9_code
def yX11_go : MethodName := ⟨RX11, "go", "(I)I"⟩
abbrev cX11_would : ByteArray := prog_1_method_10_code
def yX11_would : MethodName := ⟨RX11, "would", "(II)I"⟩
abbrev cX11_night : ByteArray := prog_1_method_11_code
def yX11_night : MethodName := ⟨RX11, "night", "(I)I"⟩
abbrev cX11_mend : ByteArray := prog_1_method_12_code
def yX11_mend : MethodName := ⟨RX11, "mend", "(II)I"⟩
abbrev cX11_undo : ByteArray := prog_1_method_13_code
def yX11_undo : MethodName := ⟨RX11, "undo", "()Z"⟩
abbrev cX11_order : ByteArray := prog_1_method_14_code
def yX11_order : MethodName := ⟨RX11, "order", "(II)I"⟩
abbrev cX11_orderAt : ByteArray := prog_1_method_15_code
def yX11_orderAt : MethodName := ⟨RX11, "orderAt", "(II)I"⟩
abbrev cX11_need : ByteArray := prog_1_method_16_code
def yX11_need : MethodName := ⟨RX11, "need", "(II)I"⟩
abbrev cX11_bears : ByteArray := prog_1_method_17_code
def yX11_bears : MethodName := ⟨RX11, "bears", "(I)I"⟩
abbrev cX11_odds : ByteArray := prog_1_method_18_code
def yX11_odds : MethodName := ⟨RX11, "odds", "(IIIII)J"⟩
abbrev cX11_season : ByteArray := prog_1_method_19_code
def yX11_season : MethodName := ⟨RX11, "season", "(II)I"⟩
abbrev cX11_rescue : ByteArray := prog_1_method_20_code
def yX11_rescue : MethodName := ⟨RX11, "rescue", "(I)I"⟩
abbrev cX11_bell : ByteArray := prog_1_method_21_code
def yX11_bell : MethodName := ⟨RX11, "bell", "(I)I"⟩
abbrev cX11_fair : ByteArray := prog_1_method_22_code
def yX11_fair : MethodName := ⟨RX11, "fair", "()I"⟩
abbrev cX11_tell : ByteArray := prog_1_method_23_code
def yX11_tell : MethodName := ⟨RX11, "tell", "(II)I"⟩
abbrev cX11_forget : ByteArray := prog_1_method_24_code
def yX11_forget : MethodName := ⟨RX11, "forget", "()I"⟩
abbrev cX11_fits : ByteArray := prog_1_method_25_code
def yX11_fits : MethodName := ⟨RX11, "fits", "(I)I"⟩
abbrev cX11_walkers : ByteArray := prog_1_method_26_code
def yX11_walkers : MethodName := ⟨RX11, "walkers", "(II)I"⟩
abbrev cX11_who : ByteArray := prog_1_method_27_code
def yX11_who : MethodName := ⟨RX11, "who", "(IZ)I"⟩
abbrev cX11_hold : ByteArray := prog_1_method_28_code
def yX11_hold : MethodName := ⟨RX11, "hold", "(I)Z"⟩
abbrev cX11_restore : ByteArray := prog_1_method_29_code
def yX11_restore : MethodName := ⟨RX11, "restore", "(I)Z"⟩
abbrev cX11_count : ByteArray := prog_1_method_30_code
def yX11_count : MethodName := ⟨RX11, "count", "(I)I"⟩
abbrev cX11_startAnew : ByteArray := prog_1_method_31_code
def yX11_startAnew : MethodName := ⟨RX11, "startAnew", "()V"⟩
abbrev cX11_keepPast : ByteArray := prog_1_method_32_code
def yX11_keepPast : MethodName := ⟨RX11, "keepPast", "()V"⟩
abbrev cX11_goOnFrom : ByteArray := prog_1_method_33_code
def yX11_goOnFrom : MethodName := ⟨RX11, "goOnFrom", "([LSaltStairs$Scene;I)Z"⟩
abbrev cX11_dropAnswers : ByteArray := prog_1_method_34_code
def yX11_dropAnswers : MethodName := ⟨RX11, "dropAnswers", "()V"⟩
abbrev cX11_areOnGround : ByteArray := prog_1_method_35_code
def yX11_areOnGround : MethodName := ⟨RX11, "areOnGround", "(I)Z"⟩
abbrev cX11_heldSlots : ByteArray := prog_1_method_36_code
def yX11_heldSlots : MethodName := ⟨RX11, "heldSlots", "()I"⟩
abbrev cX11_at : ByteArray := prog_1_method_37_code
def yX11_at : MethodName := ⟨RX11, "at", "([II)I"⟩
abbrev cX11_put : ByteArray := prog_1_method_38_code
def yX11_put : MethodName := ⟨RX11, "put", "([III)V"⟩
abbrev cX11_copy : ByteArray := prog_1_method_39_code
def yX11_copy : MethodName := ⟨RX11, "copy", "([I[I)V"⟩
abbrev cX11_wipe : ByteArray := prog_1_method_40_code
def yX11_wipe : MethodName := ⟨RX11, "wipe", "([I)V"⟩
abbrev cX11_has : ByteArray := prog_1_method_41_code
def yX11_has : MethodName := ⟨RX11, "has", "(II)Z"⟩
abbrev cX12_init : ByteArray := prog_14_method_2_code
def yX12_init : MethodName := ⟨RX12, "<init>", "()V"⟩
abbrev cX12_feed : ByteArray := prog_14_method_3_code
def yX12_feed : MethodName := ⟨RX12, "feed", "(IIIII)I"⟩
abbrev cX12_put : ByteArray := prog_14_method_4_code
def yX12_put : MethodName := ⟨RX12, "put", "(I)V"⟩
abbrev cX12_back : ByteArray := prog_14_method_5_code
def yX12_back : MethodName := ⟨RX12, "back", "(I)I"⟩
abbrev cX12_byteAt : ByteArray := prog_14_method_6_code
def yX12_byteAt : MethodName := ⟨RX12, "byteAt", "(I)I"⟩
abbrev cX12_isDigit : ByteArray := prog_14_method_7_code
def yX12_isDigit : MethodName := ⟨RX12, "isDigit", "(I)Z"⟩
abbrev cX12_isLetter : ByteArray := prog_14_method_8_code
def yX12_isLetter : MethodName := ⟨RX12, "isLetter", "(I)Z"⟩
abbrev cX12_appends : ByteArray := prog_14_method_9_code
def yX12_appends : MethodName := ⟨RX12, "appends", "(JI)J"⟩
abbrev cX12_word : ByteArray := prog_14_method_10_code
def yX12_word : MethodName := ⟨RX12, "word", "(IIIIIII)J"⟩
abbrev cX12_token : ByteArray := prog_14_method_11_code
def yX12_token : MethodName := ⟨RX12, "token", "(IIIJ)V"⟩
abbrev cX12_cut : ByteArray := prog_14_method_12_code
def yX12_cut : MethodName := ⟨RX12, "cut", "()V"⟩
abbrev cX12_sign : ByteArray := prog_14_method_13_code
def yX12_sign : MethodName := ⟨RX12, "sign", "(III)I"⟩
abbrev cX12_is : ByteArray := prog_14_method_14_code
def yX12_is : MethodName := ⟨RX12, "is", "(I)Z"⟩
abbrev cX12_fail : ByteArray := prog_14_method_15_code
def yX12_fail : MethodName := ⟨RX12, "fail", "(I)V"⟩
abbrev cX12_wrong : ByteArray := prog_14_method_16_code
def yX12_wrong : MethodName := ⟨RX12, "wrong", "(II)V"⟩
abbrev cX12_goesOn : ByteArray := prog_14_method_17_code
def yX12_goesOn : MethodName := ⟨RX12, "goesOn", "()V"⟩
abbrev cX12_must : ByteArray := prog_14_method_18_code
def yX12_must : MethodName := ⟨RX12, "must", "(I)V"⟩
abbrev cX12_read : ByteArray := prog_14_method_19_code
def yX12_read : MethodName := ⟨RX12, "read", "()I"⟩
abbrev cX12_place : ByteArray := prog_14_method_20_code
def yX12_place : MethodName := ⟨RX12, "place", "()I"⟩
abbrev cX12_roomFor : ByteArray := prog_14_method_21_code
def yX12_roomFor : MethodName := ⟨RX12, "roomFor", "(II)V"⟩
abbrev cX12_tell : ByteArray := prog_14_method_22_code
def yX12_tell : MethodName := ⟨RX12, "tell", "()V"⟩
abbrev cX12_bounded : ByteArray := prog_14_method_23_code
def yX12_bounded : MethodName := ⟨RX12, "bounded", "(II)I"⟩
abbrev cX12_tellSteps : ByteArray := prog_14_method_24_code
def yX12_tellSteps : MethodName := ⟨RX12, "tellSteps", "()V"⟩
abbrev cX12_tellRain : ByteArray := prog_14_method_25_code
def yX12_tellRain : MethodName := ⟨RX12, "tellRain", "()V"⟩
abbrev cX12_tellVow : ByteArray := prog_14_method_26_code
def yX12_tellVow : MethodName := ⟨RX12, "tellVow", "()I"⟩
abbrev cX12_tellPilgrim : ByteArray := prog_14_method_27_code
def yX12_tellPilgrim : MethodName := ⟨RX12, "tellPilgrim", "()V"⟩
abbrev cX12_tellLaw : ByteArray := prog_14_method_28_code
def yX12_tellLaw : MethodName := ⟨RX12, "tellLaw", "()V"⟩
abbrev cX12_term : ByteArray := prog_14_method_29_code
def yX12_term : MethodName := ⟨RX12, "term", "()V"⟩
abbrev cX12_emit : ByteArray := prog_14_method_30_code
def yX12_emit : MethodName := ⟨RX12, "emit", "(II)V"⟩
abbrev cX12_comesOut : ByteArray := prog_14_method_31_code
def yX12_comesOut : MethodName := ⟨RX12, "comesOut", "(Z)V"⟩
abbrev cX12_expression : ByteArray := prog_14_method_32_code
def yX12_expression : MethodName := ⟨RX12, "expression", "()V"⟩
abbrev cX12_unit : ByteArray := prog_14_method_33_code
def yX12_unit : MethodName := ⟨RX12, "unit", "()V"⟩
abbrev cX12_termOf : ByteArray := prog_14_method_34_code
def yX12_termOf : MethodName := ⟨RX12, "termOf", "(II)I"⟩
abbrev cX12_in : ByteArray := prog_14_method_35_code
def yX12_in : MethodName := ⟨RX12, "in", "(III)Z"⟩
abbrev cX12_top : ByteArray := prog_14_method_36_code
def yX12_top : MethodName := ⟨RX12, "top", "()I"⟩
abbrev cX12_many : ByteArray := prog_14_method_37_code
def yX12_many : MethodName := ⟨RX12, "many", "()I"⟩
abbrev cX12_isStep : ByteArray := prog_14_method_38_code
def yX12_isStep : MethodName := ⟨RX12, "isStep", "(I)Z"⟩
abbrev cX12_isPilgrim : ByteArray := prog_14_method_39_code
def yX12_isPilgrim : MethodName := ⟨RX12, "isPilgrim", "(I)Z"⟩
abbrev cX12_vowOf : ByteArray := prog_14_method_40_code
def yX12_vowOf : MethodName := ⟨RX12, "vowOf", "(I)I"⟩
abbrev cX12_begins : ByteArray := prog_14_method_41_code
def yX12_begins : MethodName := ⟨RX12, "begins", "()V"⟩
abbrev cX12_takes : ByteArray := prog_14_method_42_code
def yX12_takes : MethodName := ⟨RX12, "takes", "()V"⟩
abbrev cX12_goneNow : ByteArray := prog_14_method_43_code
def yX12_goneNow : MethodName := ⟨RX12, "goneNow", "()I"⟩
abbrev cX12_wearOf : ByteArray := prog_14_method_44_code
def yX12_wearOf : MethodName := ⟨RX12, "wearOf", "(IIIIZI)I"⟩
abbrev cX12_holds : ByteArray := prog_14_method_45_code
def yX12_holds : MethodName := ⟨RX12, "holds", "(IIIZ)Z"⟩
abbrev cX12_isThere : ByteArray := prog_14_method_46_code
def yX12_isThere : MethodName := ⟨RX12, "isThere", "(I)Z"⟩
abbrev cX12_nextUp : ByteArray := prog_14_method_47_code
def yX12_nextUp : MethodName := ⟨RX12, "nextUp", "(IZ)I"⟩
abbrev cX12_nextDown : ByteArray := prog_14_method_48_code
def yX12_nextDown : MethodName := ⟨RX12, "nextDown", "(IZ)I"⟩
abbrev cX12_goesDown : ByteArray := prog_14_method_49_code
def yX12_goesDown : MethodName := ⟨RX12, "goesDown", "(II)I"⟩
abbrev cX12_comesOf : ByteArray := prog_14_method_50_code
def yX12_comesOf : MethodName := ⟨RX12, "comesOf", "(I)I"⟩
abbrev cX12_sends : ByteArray := prog_14_method_51_code
def yX12_sends : MethodName := ⟨RX12, "sends", "(I)I"⟩
abbrev cX12_step : ByteArray := prog_14_method_52_code
def yX12_step : MethodName := ⟨RX12, "step", "(II)I"⟩
abbrev cX12_pilgrim : ByteArray := prog_14_method_53_code
def yX12_pilgrim : MethodName := ⟨RX12, "pilgrim", "(II)I"⟩
abbrev cX12_wear : ByteArray := prog_14_method_54_code
def yX12_wear : MethodName := ⟨RX12, "wear", "(IIZ)I"⟩
abbrev cX12_keeps : ByteArray := prog_14_method_55_code
def yX12_keeps : MethodName := ⟨RX12, "keeps", "()V"⟩
abbrev cX12_onGround : ByteArray := prog_14_method_56_code
def yX12_onGround : MethodName := ⟨RX12, "onGround", "(I)Z"⟩
abbrev cX12_go : ByteArray := prog_14_method_57_code
def yX12_go : MethodName := ⟨RX12, "go", "(I)I"⟩
abbrev cX12_would : ByteArray := prog_14_method_58_code
def yX12_would : MethodName := ⟨RX12, "would", "(II)I"⟩
abbrev cX12_nightGoes : ByteArray := prog_14_method_59_code
def yX12_nightGoes : MethodName := ⟨RX12, "nightGoes", "()V"⟩
abbrev cX12_night : ByteArray := prog_14_method_60_code
def yX12_night : MethodName := ⟨RX12, "night", "(I)I"⟩
abbrev cX12_mend : ByteArray := prog_14_method_61_code
def yX12_mend : MethodName := ⟨RX12, "mend", "(II)I"⟩
abbrev cX12_undo : ByteArray := prog_14_method_62_code
def yX12_undo : MethodName := ⟨RX12, "undo", "()Z"⟩
abbrev cX12_bits : ByteArray := prog_14_method_63_code
def yX12_bits : MethodName := ⟨RX12, "bits", "(I)I"⟩
abbrev cX12_isSet : ByteArray := prog_14_method_64_code
def yX12_isSet : MethodName := ⟨RX12, "isSet", "(I)Z"⟩
abbrev cX12_fillsOrder : ByteArray := prog_14_method_65_code
def yX12_fillsOrder : MethodName := ⟨RX12, "fillsOrder", "(I)V"⟩
abbrev cX12_nextOrder : ByteArray := prog_14_method_66_code
def yX12_nextOrder : MethodName := ⟨RX12, "nextOrder", "()Z"⟩
abbrev cX12_orders : ByteArray := prog_14_method_67_code
def yX12_orders : MethodName := ⟨RX12, "orders", "(I)V"⟩
abbrev cX12_order : ByteArray := prog_14_method_68_code
def yX12_order : MethodName := ⟨RX12, "order", "(II)I"⟩
abbrev cX12_orderAt : ByteArray := prog_14_method_69_code
def yX12_orderAt : MethodName := ⟨RX12, "orderAt", "(II)I"⟩
abbrev cX12_behind : ByteArray := prog_14_method_70_code
def yX12_behind : MethodName := ⟨RX12, "behind", "(IIIZI)I"⟩
abbrev cX12_treads : ByteArray := prog_14_method_71_code
def yX12_treads : MethodName := ⟨RX12, "treads", "(IIZ)Z"⟩
abbrev cX12_isTrodden : ByteArray := prog_14_method_72_code
def yX12_isTrodden : MethodName := ⟨RX12, "isTrodden", "(II)Z"⟩
abbrev cX12_bearsAll : ByteArray := prog_14_method_73_code
def yX12_bearsAll : MethodName := ⟨RX12, "bearsAll", "(IIII)Z"⟩
abbrev cX12_needOf : ByteArray := prog_14_method_74_code
def yX12_needOf : MethodName := ⟨RX12, "needOf", "(II)I"⟩
abbrev cX12_need : ByteArray := prog_14_method_75_code
def yX12_need : MethodName := ⟨RX12, "need", "(II)I"⟩
abbrev cX12_allThrough : ByteArray := prog_14_method_76_code
def yX12_allThrough : MethodName := ⟨RX12, "allThrough", "(I)Z"⟩
abbrev cX12_bears : ByteArray := prog_14_method_77_code
def yX12_bears : MethodName := ⟨RX12, "bears", "(I)I"⟩
abbrev cX12_choose : ByteArray := prog_14_method_78_code
def yX12_choose : MethodName := ⟨RX12, "choose", "(II)J"⟩
abbrev cX12_odds : ByteArray := prog_14_method_79_code
def yX12_odds : MethodName := ⟨RX12, "odds", "(IIIII)J"⟩
abbrev cX12_marks : ByteArray := prog_14_method_80_code
def yX12_marks : MethodName := ⟨RX12, "marks", "()V"⟩
abbrev cX12_notes : ByteArray := prog_14_method_81_code
def yX12_notes : MethodName := ⟨RX12, "notes", "(I)V"⟩
abbrev cX12_season : ByteArray := prog_14_method_82_code
def yX12_season : MethodName := ⟨RX12, "season", "(II)I"⟩
abbrev cX12_stuckNow : ByteArray := prog_14_method_83_code
def yX12_stuckNow : MethodName := ⟨RX12, "stuckNow", "()I"⟩
abbrev cX12_leastFor : ByteArray := prog_14_method_84_code
def yX12_leastFor : MethodName := ⟨RX12, "leastFor", "(III)I"⟩
abbrev cX12_rescue : ByteArray := prog_14_method_85_code
def yX12_rescue : MethodName := ⟨RX12, "rescue", "(I)I"⟩
abbrev cX12_carries : ByteArray := prog_14_method_86_code
def yX12_carries : MethodName := ⟨RX12, "carries", "(I)Z"⟩
abbrev cX12_bell : ByteArray := prog_14_method_87_code
def yX12_bell : MethodName := ⟨RX12, "bell", "(I)I"⟩
abbrev cX12_fair : ByteArray := prog_14_method_88_code
def yX12_fair : MethodName := ⟨RX12, "fair", "()I"⟩
abbrev cX12_tell_ : ByteArray := prog_14_method_89_code
def yX12_tell_ : MethodName := ⟨RX12, "tell", "(II)I"⟩
abbrev cX12_forget : ByteArray := prog_14_method_90_code
def yX12_forget : MethodName := ⟨RX12, "forget", "()I"⟩
abbrev cX12_isFit : ByteArray := prog_14_method_91_code
def yX12_isFit : MethodName := ⟨RX12, "isFit", "(II)Z"⟩
abbrev cX12_fillsWalkers : ByteArray := prog_14_method_92_code
def yX12_fillsWalkers : MethodName := ⟨RX12, "fillsWalkers", "(I)V"⟩
abbrev cX12_fits : ByteArray := prog_14_method_93_code
def yX12_fits : MethodName := ⟨RX12, "fits", "(I)I"⟩
abbrev cX12_walkers : ByteArray := prog_14_method_94_code
def yX12_walkers : MethodName := ⟨RX12, "walkers", "(II)I"⟩
abbrev cX12_who : ByteArray := prog_14_method_95_code
def yX12_who : MethodName := ⟨RX12, "who", "(IZ)I"⟩
abbrev cX12_hold : ByteArray := prog_14_method_96_code
def yX12_hold : MethodName := ⟨RX12, "hold", "(I)Z"⟩
abbrev cX12_restore : ByteArray := prog_14_method_97_code
def yX12_restore : MethodName := ⟨RX12, "restore", "(I)Z"⟩
abbrev cX12_count : ByteArray := prog_14_method_98_code
def yX12_count : MethodName := ⟨RX12, "count", "(I)I"⟩
abbrev cJ6_numberOfLeadingZeros_0f7a4 : ByteArray := prog_16_method_47_code
def yJ6_numberOfLeadingZeros_0f7a4 : MethodName := ⟨RJ6, "numberOfLeadingZeros", "(I)I"⟩
abbrev cJ6_bitCount_0f7a4 : ByteArray := prog_16_method_49_code
def yJ6_bitCount_0f7a4 : MethodName := ⟨RJ6, "bitCount", "(I)I"⟩
abbrev cJ0_length_8abf5 : ByteArray := prog_18_method_54_code
def yJ0_length_8abf5 : MethodName := ⟨RJ0, "length", "()I"⟩
abbrev cJ0_charAt_5068e : ByteArray := prog_18_method_56_code
def yJ0_charAt_5068e : MethodName := ⟨RJ0, "charAt", "(I)C"⟩
abbrev cJ0_indexOf_0f7a4 : ByteArray := prog_18_method_79_code
def yJ0_indexOf_0f7a4 : MethodName := ⟨RJ0, "indexOf", "(I)I"⟩
abbrev cJ0_indexOf_7cf53 : ByteArray := prog_18_method_80_code
def yJ0_indexOf_7cf53 : MethodName := ⟨RJ0, "indexOf", "(II)I"⟩
abbrev cJ0_coder_7d493 : ByteArray := prog_18_method_152_code
def yJ0_coder_7d493 : MethodName := ⟨RJ0, "coder", "()B"⟩
abbrev cJ0_isLatin1_aae02 : ByteArray := prog_18_method_154_code
def yJ0_isLatin1_aae02 : MethodName := ⟨RJ0, "isLatin1", "()Z"⟩
abbrev cJ0_checkIndex_df160 : ByteArray := prog_18_method_155_code
def yJ0_checkIndex_df160 : MethodName := ⟨RJ0, "checkIndex", "(II)V"⟩
abbrev cJ0_checkBoundsBeginEnd_23922 : ByteArray := prog_18_method_158_code
def yJ0_checkBoundsBeginEnd_23922 : MethodName := ⟨RJ0, "checkBoundsBeginEnd", "(III)V"⟩
abbrev cJ1_charAt_3b067 : ByteArray := prog_19_method_2_code
def yJ1_charAt_3b067 : MethodName := ⟨RJ1, "charAt", "([BI)C"⟩
abbrev cJ1_canEncode_9a6ad : ByteArray := prog_19_method_4_code
def yJ1_canEncode_9a6ad : MethodName := ⟨RJ1, "canEncode", "(I)Z"⟩
abbrev cJ1_indexOf_4cfef : ByteArray := prog_19_method_22_code
def yJ1_indexOf_4cfef : MethodName := ⟨RJ1, "indexOf", "([BIII)I"⟩
abbrev cJ1_indexOfChar_4cfef : ByteArray := prog_19_method_23_code
def yJ1_indexOfChar_4cfef : MethodName := ⟨RJ1, "indexOfChar", "([BIII)I"⟩
abbrev cL_law : ByteArray := code
def yL_law : MethodName := ⟨RL, "law", "([I)Z"⟩
abbrev amClasses : List vw_C := [(RX0, TX0, 8), (RX1, TX1, 4), (RX2, TX2, 3), (RX3, TX3, 9), (RX4, TX4, 10), (RX5, TX5, 8), (RX6, TX6, 4), (RX7, TX7, 5), (RX8, TX8, 10), (RX9, TX9, 8), (RX10, TX10, 7), (RX11, TX11, 16), (RX12, TX12, 72)]
def amLenL : List Nat := [0, 0, 0, 0, 0, 0, 0, 0, 0, 0, 0, 0, 0, 0, 0, 0, 0, 0, 0, 0, 0, 0, 0, 0, 0, 0, 0, 0, 0, 0, 0, 0, 0, 0, 0, 0, 0, 0, 0, 0, 0, 0, 0, 0, 0, 0, 0, 0, 0, 0, 0, 0, 0, 0, 0, 0, 0, 0, 0, 0, 0, 0, 0, 0, 0, 0, 0, 0, 0, 0, 0, 0, 0, 0, 0, 0, 0, 0, 0, 0, 0, 0, 0, 0, 0, 0, 0, 0, 0, 0, 0, 0, 0, 0, 0, 0, 0, 0, 0, 0, 401, 4, 24, 26, 8, 7, 7, 8, 8, 8, 8, 8, 26, 26, 2000, 401, 401, 401, 26, 14, 8, 8, 30, 30, 6656, 7, 40, 3, 3, 2000, 2000, 403, 403, 403, 403, 19, 8, 2, 50, 2, 28, 2, 2, 2, 16, 16, 2, 8, 8, 100, 100, 100, 100, 100, 840, 840, 64, 7, 400, 100, 100, 4000, 8, 8, 25, 27, 30, 30, 256, 3, 300]
def amKndL : List Nat := [0, 1, 2, 3, 4, 5, 6, 7, 8, 9, 10, 11, 12, 99, 99, 99, 99, 99, 99, 99, 99, 99, 99, 99, 99, 99, 99, 99, 99, 99, 99, 99, 99, 99, 99, 99, 99, 99, 99, 99, 99, 99, 99, 99, 99, 99, 99, 99, 99, 99, 99, 99, 99, 99, 99, 99, 99, 99, 99, 99, 99, 99, 99, 99, 99, 99, 99, 99, 99, 99, 99, 99, 99, 99, 99, 99, 99, 99, 99, 99, 99, 99, 99, 99, 99, 99, 99, 99, 99, 99, 20, 99, 99, 99, 99, 99, 99, 99, 29, 29, 20, 20, 20, 20, 25, 20, 20, 21, 20, 20, 20, 20, 20, 20, 22, 20, 21, 20, 20, 20, 20, 20, 20, 20, 20, 20, 24, 24, 23, 22, 22, 20, 20, 20, 21, 21, 21, 20, 20, 20, 20, 20, 20, 20, 20, 20, 20, 20, 20, 23, 20, 20, 20, 20, 20, 20, 20, 20, 20, 20, 20, 20, 20, 20, 23, 20, 20, 20, 20, 23, 20]
def amFkL : List (List Nat) := [[2, 2, 2, 0, 0, 0, 0, 0], [2, 0, 2, 2], [2, 2, 2], [2, 2, 2, 2, 0, 0, 0, 0, 0], [2, 2, 2, 0, 0, 0, 0, 0, 0, 0], [2, 2, 2, 2, 2, 2, 0, 0], [2, 2, 0, 0], [2, 0, 2, 2, 2], [2, 2, 2, 2, 2, 0, 0, 0, 0, 0], [2, 2, 2, 2, 2, 0, 2, 3], [2, 2, 0, 0, 0, 0, 0], [2, 2, 2, 2, 2, 2, 2, 2, 2, 2, 2, 2, 2, 0, 0, 0], [0, 2, 0, 2, 0, 2, 2, 2, 2, 2, 0, 0, 0, 0, 0, 0, 0, 0, 0, 0, 0, 2, 2, 2, 2, 2, 2, 2, 2, 2, 2, 2, 2, 2, 0, 2, 2, 2, 2, 2, 0, 2, 2, 2, 0, 2, 2, 3, 2, 2, 0, 0, 0, 0, 2, 0, 2, 2, 0, 0, 0, 0, 0, 2, 2, 0, 2, 2, 2, 0, 2, 2]]
def amOwn : List Nat := [0, 0, 0, 0, 0, 0, 0, 0, 0, 0, 0, 1, 1, 1, 1, 1, 1, 1, 2, 2, 2, 2, 2, 2, 2, 3, 3, 3, 4, 4, 4, 4, 4, 4, 4, 4, 4, 4, 4, 4, 4, 4, 4, 4, 5, 5, 5, 5, 5, 5, 5, 5, 6, 6, 6, 6, 6, 6, 6, 6, 6, 6, 6, 7, 7, 7, 7, 7, 7, 7, 7, 7, 7, 7, 7, 7, 7, 7, 7, 7, 7, 8, 8, 8, 8, 9, 9, 9, 9, 9, 9, 9, 9, 9, 9, 9, 9, 10, 10, 10, 10, 10, 10, 10, 10, 10, 10, 11, 11, 11, 11, 11, 11, 11, 11, 11, 11, 11, 11, 11, 11, 11, 11, 11, 11, 11, 11, 11, 11, 11, 11, 11, 11, 11, 11, 11, 11, 11, 11, 11, 11, 11, 11, 11, 11, 11, 11, 12, 12, 12, 12, 12, 12, 12, 12, 12, 12, 12, 12, 12, 12, 12, 12, 12, 12, 12, 12, 12, 12, 12, 12, 12, 12, 12, 12, 12, 12, 12, 12, 12, 12, 12, 12, 12, 12, 12, 12, 12, 12, 12, 12, 12, 12, 12, 12, 12, 12, 12, 12, 12, 12, 12, 12, 12, 12, 12, 12, 12, 12, 12, 12, 12, 12, 12, 12, 12, 12, 12, 12, 12, 12, 12, 12, 12, 12, 12, 12, 12, 12, 12, 12, 12, 12, 12, 12, 12, 12, 12, 12, 12, 12, 12, 12, 14, 14, 13]
def amFull : List (Nat × Nat) := [(11, 0), (7, 0), (114, 0), (115, 0), (116, 0), (117, 0), (8, 0), (118, 0), (119, 0), (120, 0), (121, 0), (1, 0), (100, 0), (101, 0), (102, 0), (4, 0), (8, 1), (118, 1), (119, 1), (120, 1), (121, 1), (1, 1), (100, 1), (101, 1), (102, 1), (107, 0), (10, 0), (125, 0), (5, 0), (6, 0), (112, 0), (113, 0), (108, 0), (109, 0), (110, 0), (111, 0), (126, 0), (127, 0), (128, 0), (6, 44), (112, 44), (113, 44), (3, 0), (104, 0), (105, 0), (106, 0), (6, 45), (112, 45), (113, 45), (6, 46), (112, 46), (113, 46), (6, 47), (112, 47), (113, 47), (6, 48), (112, 48), (113, 48), (6, 49), (112, 49), (113, 49), (6, 50), (112, 50), (113, 50), (6, 51), (112, 51), (113, 51), (6, 52), (112, 52), (113, 52), (0, 0), (6, 53), (112, 53), (113, 53), (2, 0), (103, 0), (9, 0), (6, 54), (112, 54), (113, 54), (122, 0), (123, 0), (124, 0), (5, 1), (6, 1), (112, 1), (113, 1), (108, 1), (109, 1), (110, 1), (111, 1), (5, 2), (6, 2), (112, 2), (113, 2), (108, 2), (109, 2), (110, 2), (111, 2), (5, 3), (6, 3), (112, 3), (113, 3), (108, 3), (109, 3), (110, 3), (111, 3), (5, 4), (6, 4), (112, 4), (113, 4), (108, 4), (109, 4), (110, 4), (111, 4), (5, 5), (6, 5), (112, 5), (113, 5), (108, 5), (109, 5), (110, 5), (111, 5), (5, 6), (6, 6), (112, 6), (113, 6), (108, 6), (109, 6), (110, 6), (111, 6), (5, 7), (6, 7), (112, 7), (113, 7), (108, 7), (109, 7), (110, 7), (111, 7), (5, 8), (6, 8), (112, 8), (113, 8), (108, 8), (109, 8), (110, 8), (111, 8), (5, 9), (6, 9), (112, 9), (113, 9), (108, 9), (109, 9), (110, 9), (111, 9), (5, 10), (6, 10), (112, 10), (113, 10), (108, 10), (109, 10), (110, 10), (111, 10), (5, 11), (6, 11), (112, 11), (113, 11), (108, 11), (109, 11), (110, 11), (111, 11), (5, 12), (6, 12), (112, 12), (113, 12), (108, 12), (109, 12), (110, 12), (111, 12), (5, 13), (6, 13), (112, 13), (113, 13), (108, 13), (109, 13), (110, 13), (111, 13), (5, 14), (6, 14), (112, 14), (113, 14), (108, 14), (109, 14), (110, 14), (111, 14), (5, 15), (6, 15), (112, 15), (113, 15), (108, 15), (109, 15), (110, 15), (111, 15), (5, 16), (6, 16), (112, 16), (113, 16), (108, 16), (109, 16), (110, 16), (111, 16), (5, 17), (6, 17), (112, 17), (113, 17), (108, 17), (109, 17), (110, 17), (111, 17), (5, 18), (6, 18), (112, 18), (113, 18), (108, 18), (109, 18), (110, 18), (111, 18), (5, 19), (6, 19), (112, 19), (113, 19), (108, 19), (109, 19), (110, 19), (111, 19), (5, 20), (6, 20), (112, 20), (113, 20), (108, 20), (109, 20), (110, 20), (111, 20), (5, 21), (6, 21), (112, 21), (113, 21), (108, 21), (109, 21), (110, 21), (111, 21), (5, 22), (6, 22), (112, 22), (113, 22), (108, 22), (109, 22), (110, 22), (111, 22), (5, 23), (6, 23), (112, 23), (113, 23), (108, 23), (109, 23), (110, 23), (111, 23), (5, 24), (6, 24), (112, 24), (113, 24), (108, 24), (109, 24), (110, 24), (111, 24), (5, 25), (6, 25), (112, 25), (113, 25), (108, 25), (109, 25), (110, 25), (111, 25), (5, 26), (6, 26), (112, 26), (113, 26), (108, 26), (109, 26), (110, 26), (111, 26), (5, 27), (6, 27), (112, 27), (113, 27), (108, 27), (109, 27), (110, 27), (111, 27), (5, 28), (6, 28), (112, 28), (113, 28), (108, 28), (109, 28), (110, 28), (111, 28), (5, 29), (6, 29), (112, 29), (113, 29), (108, 29), (109, 29), (110, 29), (111, 29), (5, 30), (6, 30), (112, 30), (113, 30), (108, 30), (109, 30), (110, 30), (111, 30), (5, 31), (6, 31), (112, 31), (113, 31), (108, 31), (109, 31), (110, 31), (111, 31), (5, 32), (6, 32), (112, 32), (113, 32), (108, 32), (109, 32), (110, 32), (111, 32), (5, 33), (6, 33), (112, 33), (113, 33), (108, 33), (109, 33), (110, 33), (111, 33), (5, 34), (6, 34), (112, 34), (113, 34), (108, 34), (109, 34), (110, 34), (111, 34), (5, 35), (6, 35), (112, 35), (113, 35), (108, 35), (109, 35), (110, 35), (111, 35), (5, 36), (6, 36), (112, 36), (113, 36), (108, 36), (109, 36), (110, 36), (111, 36), (5, 37), (6, 37), (112, 37), (113, 37), (108, 37), (109, 37), (110, 37), (111, 37), (5, 38), (6, 38), (112, 38), (113, 38), (108, 38), (109, 38), (110, 38), (111, 38), (5, 39), (6, 39), (112, 39), (113, 39), (108, 39), (109, 39), (110, 39), (111, 39), (5, 40), (6, 40), (112, 40), (113, 40), (108, 40), (109, 40), (110, 40), (111, 40), (5, 41), (6, 41), (112, 41), (113, 41), (108, 41), (109, 41), (110, 41), (111, 41), (5, 42), (6, 42), (112, 42), (113, 42), (108, 42), (109, 42), (110, 42), (111, 42), (5, 43), (6, 43), (112, 43), (113, 43), (108, 43), (109, 43), (110, 43), (111, 43), (12, 0), (129, 0), (130, 0), (131, 0), (132, 0), (133, 0), (134, 0), (135, 0), (136, 0), (137, 0), (138, 0), (139, 0), (140, 0), (141, 0), (142, 0), (143, 0), (144, 0), (145, 0), (146, 0), (147, 0), (148, 0), (149, 0), (150, 0), (151, 0), (152, 0), (153, 0), (154, 0), (155, 0), (156, 0), (157, 0), (158, 0), (159, 0), (160, 0), (161, 0), (162, 0), (163, 0), (164, 0), (165, 0), (166, 0), (167, 0), (168, 0), (169, 0), (170, 0)]
def amWords : List Nat := [115, 116, 101, 112, 115, 32, 32, 32, 114, 97, 105, 110, 32, 32, 32, 32, 98, 114, 105, 110, 101, 32, 32, 32, 112, 105, 108, 103, 114, 105, 109, 32, 108, 97, 119, 32, 32, 32, 32, 32, 105, 102, 32, 32, 32, 32, 32, 32, 116, 104, 101, 110, 32, 32, 32, 32, 101, 108, 115, 101, 32, 32, 32, 32, 112, 108, 97, 105, 110, 32, 32, 32, 107, 110, 101, 101, 115, 32, 32, 32, 108, 111, 110, 103, 32, 32, 32, 32, 115, 116, 97, 121, 115, 32, 32, 32, 119, 101, 105, 103, 104, 116, 32, 32, 116, 104, 105, 99, 107, 32, 32, 32, 115, 116, 101, 112, 32, 32, 32, 32, 100, 97, 121, 32, 32, 32, 32, 32, 119, 101, 116, 32, 32, 32, 32, 32, 117, 112, 32, 32, 32, 32, 32, 32, 103, 111, 110, 101, 32, 32, 32, 32]
def amSigns : List Nat := [59, 61, 43, 45, 42, 47, 60, 40, 41]

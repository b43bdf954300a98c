/-- the String methods: their words in the table -/
theorem amGoodT {w : Jvm.Cond} (h : w ∈ amT0) : w ∈ amT0 ∧ ((w.onTables && w.keeps) = true ∨ ∃ ty, w = .arrayClass ty) := ⟨h, good_of_word (List.mem_filter.mp h).2⟩
def RJ3 : String := "jdk/internal/util/Preconditions"
abbrev cJ3_checkIndex_8e157 : ByteArray := prog_22_method_11_code
def yJ3_checkIndex_8e157 : MethodName := ⟨RJ3, "checkIndex", "(IILjava/util/function/BiFunction;)I"⟩
theorem dJ0_length_8abf5_0 : decode cJ0_length_8abf5 0 = .ok (.aload_n 0, 1) := by decide +kernel
theorem dJ0_length_8abf5_1 : decode cJ0_length_8abf5 1 = .ok (.getfield 9, 3) := by decide +kernel
theorem dJ0_length_8abf5_4 : decode cJ0_length_8abf5 4 = .ok (.arraylength, 1) := by decide +kernel
theorem dJ0_length_8abf5_5 : decode cJ0_length_8abf5 5 = .ok (.aload_n 0, 1) := by decide +kernel
theorem dJ0_length_8abf5_6 : decode cJ0_length_8abf5 6 = .ok (.invokevirtual 335, 3) := by decide +kernel
theorem dJ0_length_8abf5_9 : decode cJ0_length_8abf5 9 = .ok (.ishr, 1) := by decide +kernel
theorem dJ0_length_8abf5_10 : decode cJ0_length_8abf5 10 = .ok (.ireturn, 1) := by decide +kernel
theorem dJ0_charAt_5068e_0 : decode cJ0_charAt_5068e 0 = .ok (.aload_n 0, 1) := by decide +kernel
theorem dJ0_charAt_5068e_1 : decode cJ0_charAt_5068e 1 = .ok (.invokevirtual 492, 3) := by decide +kernel
theorem dJ0_charAt_5068e_4 : decode cJ0_charAt_5068e 4 = .ok (.ifCond .eq 12, 3) := by decide +kernel
theorem dJ0_charAt_5068e_7 : decode cJ0_charAt_5068e 7 = .ok (.aload_n 0, 1) := by decide +kernel
theorem dJ0_charAt_5068e_8 : decode cJ0_charAt_5068e 8 = .ok (.getfield 9, 3) := by decide +kernel
theorem dJ0_charAt_5068e_11 : decode cJ0_charAt_5068e 11 = .ok (.iload_n 1, 1) := by decide +kernel
theorem dJ0_charAt_5068e_12 : decode cJ0_charAt_5068e 12 = .ok (.invokestatic 495, 3) := by decide +kernel
theorem dJ0_charAt_5068e_15 : decode cJ0_charAt_5068e 15 = .ok (.ireturn, 1) := by decide +kernel
theorem dJ0_charAt_5068e_16 : decode cJ0_charAt_5068e 16 = .ok (.aload_n 0, 1) := by decide +kernel
theorem dJ0_charAt_5068e_17 : decode cJ0_charAt_5068e 17 = .ok (.getfield 9, 3) := by decide +kernel
theorem dJ0_charAt_5068e_20 : decode cJ0_charAt_5068e 20 = .ok (.iload_n 1, 1) := by decide +kernel
theorem dJ0_charAt_5068e_21 : decode cJ0_charAt_5068e 21 = .ok (.invokestatic 498, 3) := by decide +kernel
theorem dJ0_charAt_5068e_24 : decode cJ0_charAt_5068e 24 = .ok (.ireturn, 1) := by decide +kernel
theorem dJ0_indexOf_0f7a4_0 : decode cJ0_indexOf_0f7a4 0 = .ok (.aload_n 0, 1) := by decide +kernel
theorem dJ0_indexOf_0f7a4_1 : decode cJ0_indexOf_0f7a4 1 = .ok (.iload_n 1, 1) := by decide +kernel
theorem dJ0_indexOf_0f7a4_2 : decode cJ0_indexOf_0f7a4 2 = .ok (.iconst 0, 1) := by decide +kernel
theorem dJ0_indexOf_0f7a4_3 : decode cJ0_indexOf_0f7a4 3 = .ok (.invokevirtual 633, 3) := by decide +kernel
theorem dJ0_indexOf_0f7a4_6 : decode cJ0_indexOf_0f7a4 6 = .ok (.ireturn, 1) := by decide +kernel
theorem dJ0_indexOf_7cf53_0 : decode cJ0_indexOf_7cf53 0 = .ok (.aload_n 0, 1) := by decide +kernel
theorem dJ0_indexOf_7cf53_1 : decode cJ0_indexOf_7cf53 1 = .ok (.invokevirtual 492, 3) := by decide +kernel
theorem dJ0_indexOf_7cf53_4 : decode cJ0_indexOf_7cf53 4 = .ok (.ifCond .eq 19, 3) := by decide +kernel
theorem dJ0_indexOf_7cf53_7 : decode cJ0_indexOf_7cf53 7 = .ok (.aload_n 0, 1) := by decide +kernel
theorem dJ0_indexOf_7cf53_8 : decode cJ0_indexOf_7cf53 8 = .ok (.getfield 9, 3) := by decide +kernel
theorem dJ0_indexOf_7cf53_11 : decode cJ0_indexOf_7cf53 11 = .ok (.iload_n 1, 1) := by decide +kernel
theorem dJ0_indexOf_7cf53_12 : decode cJ0_indexOf_7cf53 12 = .ok (.iload_n 2, 1) := by decide +kernel
theorem dJ0_indexOf_7cf53_13 : decode cJ0_indexOf_7cf53 13 = .ok (.aload_n 0, 1) := by decide +kernel
theorem dJ0_indexOf_7cf53_14 : decode cJ0_indexOf_7cf53 14 = .ok (.invokevirtual 505, 3) := by decide +kernel
theorem dJ0_indexOf_7cf53_17 : decode cJ0_indexOf_7cf53 17 = .ok (.invokestatic 637, 3) := by decide +kernel
theorem dJ0_indexOf_7cf53_20 : decode cJ0_indexOf_7cf53 20 = .ok (.goto 16, 3) := by decide +kernel
theorem dJ0_indexOf_7cf53_23 : decode cJ0_indexOf_7cf53 23 = .ok (.aload_n 0, 1) := by decide +kernel
theorem dJ0_indexOf_7cf53_24 : decode cJ0_indexOf_7cf53 24 = .ok (.getfield 9, 3) := by decide +kernel
theorem dJ0_indexOf_7cf53_27 : decode cJ0_indexOf_7cf53 27 = .ok (.iload_n 1, 1) := by decide +kernel
theorem dJ0_indexOf_7cf53_28 : decode cJ0_indexOf_7cf53 28 = .ok (.iload_n 2, 1) := by decide +kernel
theorem dJ0_indexOf_7cf53_29 : decode cJ0_indexOf_7cf53 29 = .ok (.aload_n 0, 1) := by decide +kernel
theorem dJ0_indexOf_7cf53_30 : decode cJ0_indexOf_7cf53 30 = .ok (.invokevirtual 505, 3) := by decide +kernel
theorem dJ0_indexOf_7cf53_33 : decode cJ0_indexOf_7cf53 33 = .ok (.invokestatic 640, 3) := by decide +kernel
theorem dJ0_indexOf_7cf53_36 : decode cJ0_indexOf_7cf53 36 = .ok (.ireturn, 1) := by decide +kernel
theorem dJ0_coder_7d493_0 : decode cJ0_coder_7d493 0 = .ok (.getstatic 38, 3) := by decide +kernel
theorem dJ0_coder_7d493_3 : decode cJ0_coder_7d493 3 = .ok (.ifCond .eq 10, 3) := by decide +kernel
theorem dJ0_coder_7d493_6 : decode cJ0_coder_7d493 6 = .ok (.aload_n 0, 1) := by decide +kernel
theorem dJ0_coder_7d493_7 : decode cJ0_coder_7d493 7 = .ok (.getfield 15, 3) := by decide +kernel
theorem dJ0_coder_7d493_10 : decode cJ0_coder_7d493 10 = .ok (.goto 4, 3) := by decide +kernel
theorem dJ0_coder_7d493_13 : decode cJ0_coder_7d493 13 = .ok (.iconst 1, 1) := by decide +kernel
theorem dJ0_coder_7d493_14 : decode cJ0_coder_7d493 14 = .ok (.ireturn, 1) := by decide +kernel
theorem dJ0_isLatin1_aae02_0 : decode cJ0_isLatin1_aae02 0 = .ok (.getstatic 38, 3) := by decide +kernel
theorem dJ0_isLatin1_aae02_3 : decode cJ0_isLatin1_aae02 3 = .ok (.ifCond .eq 14, 3) := by decide +kernel
theorem dJ0_isLatin1_aae02_6 : decode cJ0_isLatin1_aae02 6 = .ok (.aload_n 0, 1) := by decide +kernel
theorem dJ0_isLatin1_aae02_7 : decode cJ0_isLatin1_aae02 7 = .ok (.getfield 15, 3) := by decide +kernel
theorem dJ0_isLatin1_aae02_10 : decode cJ0_isLatin1_aae02 10 = .ok (.ifCond .ne 7, 3) := by decide +kernel
theorem dJ0_isLatin1_aae02_13 : decode cJ0_isLatin1_aae02 13 = .ok (.iconst 1, 1) := by decide +kernel
theorem dJ0_isLatin1_aae02_14 : decode cJ0_isLatin1_aae02 14 = .ok (.goto 4, 3) := by decide +kernel
theorem dJ0_isLatin1_aae02_17 : decode cJ0_isLatin1_aae02 17 = .ok (.iconst 0, 1) := by decide +kernel
theorem dJ0_isLatin1_aae02_18 : decode cJ0_isLatin1_aae02 18 = .ok (.ireturn, 1) := by decide +kernel
theorem dJ0_checkIndex_df160_0 : decode cJ0_checkIndex_df160 0 = .ok (.iload_n 0, 1) := by decide +kernel
theorem dJ0_checkIndex_df160_1 : decode cJ0_checkIndex_df160 1 = .ok (.iload_n 1, 1) := by decide +kernel
theorem dJ0_checkIndex_df160_2 : decode cJ0_checkIndex_df160 2 = .ok (.getstatic 1053, 3) := by decide +kernel
theorem dJ0_checkIndex_df160_5 : decode cJ0_checkIndex_df160 5 = .ok (.invokestatic 1059, 3) := by decide +kernel
theorem dJ0_checkIndex_df160_8 : decode cJ0_checkIndex_df160 8 = .ok (.pop, 1) := by decide +kernel
theorem dJ0_checkIndex_df160_9 : decode cJ0_checkIndex_df160 9 = .ok (.return_, 1) := by decide +kernel
theorem dJ1_charAt_3b067_0 : decode cJ1_charAt_3b067 0 = .ok (.iload_n 1, 1) := by decide +kernel
theorem dJ1_charAt_3b067_1 : decode cJ1_charAt_3b067 1 = .ok (.aload_n 0, 1) := by decide +kernel
theorem dJ1_charAt_3b067_2 : decode cJ1_charAt_3b067 2 = .ok (.arraylength, 1) := by decide +kernel
theorem dJ1_charAt_3b067_3 : decode cJ1_charAt_3b067 3 = .ok (.invokestatic 9, 3) := by decide +kernel
theorem dJ1_charAt_3b067_6 : decode cJ1_charAt_3b067 6 = .ok (.aload_n 0, 1) := by decide +kernel
theorem dJ1_charAt_3b067_7 : decode cJ1_charAt_3b067 7 = .ok (.iload_n 1, 1) := by decide +kernel
theorem dJ1_charAt_3b067_8 : decode cJ1_charAt_3b067 8 = .ok (.baload, 1) := by decide +kernel
theorem dJ1_charAt_3b067_9 : decode cJ1_charAt_3b067 9 = .ok (.sipush 255, 3) := by decide +kernel
theorem dJ1_charAt_3b067_12 : decode cJ1_charAt_3b067 12 = .ok (.iand, 1) := by decide +kernel
theorem dJ1_charAt_3b067_13 : decode cJ1_charAt_3b067 13 = .ok (.i2c, 1) := by decide +kernel
theorem dJ1_charAt_3b067_14 : decode cJ1_charAt_3b067 14 = .ok (.ireturn, 1) := by decide +kernel
theorem dJ1_canEncode_9a6ad_0 : decode cJ1_canEncode_9a6ad 0 = .ok (.iload_n 0, 1) := by decide +kernel
theorem dJ1_canEncode_9a6ad_1 : decode cJ1_canEncode_9a6ad 1 = .ok (.ifCond .lt 14, 3) := by decide +kernel
theorem dJ1_canEncode_9a6ad_4 : decode cJ1_canEncode_9a6ad 4 = .ok (.iload_n 0, 1) := by decide +kernel
theorem dJ1_canEncode_9a6ad_5 : decode cJ1_canEncode_9a6ad 5 = .ok (.sipush 255, 3) := by decide +kernel
theorem dJ1_canEncode_9a6ad_8 : decode cJ1_canEncode_9a6ad 8 = .ok (.if_icmp .gt 7, 3) := by decide +kernel
theorem dJ1_canEncode_9a6ad_11 : decode cJ1_canEncode_9a6ad 11 = .ok (.iconst 1, 1) := by decide +kernel
theorem dJ1_canEncode_9a6ad_12 : decode cJ1_canEncode_9a6ad 12 = .ok (.goto 4, 3) := by decide +kernel
theorem dJ1_canEncode_9a6ad_15 : decode cJ1_canEncode_9a6ad 15 = .ok (.iconst 0, 1) := by decide +kernel
theorem dJ1_canEncode_9a6ad_16 : decode cJ1_canEncode_9a6ad 16 = .ok (.ireturn, 1) := by decide +kernel
theorem dJ1_indexOf_4cfef_0 : decode cJ1_indexOf_4cfef 0 = .ok (.iload_n 1, 1) := by decide +kernel
theorem dJ1_indexOf_4cfef_1 : decode cJ1_indexOf_4cfef 1 = .ok (.invokestatic 88, 3) := by decide +kernel
theorem dJ1_indexOf_4cfef_4 : decode cJ1_indexOf_4cfef 4 = .ok (.ifCond .ne 5, 3) := by decide +kernel
theorem dJ1_indexOf_4cfef_7 : decode cJ1_indexOf_4cfef 7 = .ok (.iconst (-1), 1) := by decide +kernel
theorem dJ1_indexOf_4cfef_8 : decode cJ1_indexOf_4cfef 8 = .ok (.ireturn, 1) := by decide +kernel
theorem dJ1_indexOf_4cfef_9 : decode cJ1_indexOf_4cfef 9 = .ok (.iload_n 2, 1) := by decide +kernel
theorem dJ1_indexOf_4cfef_10 : decode cJ1_indexOf_4cfef 10 = .ok (.iconst 0, 1) := by decide +kernel
theorem dJ1_indexOf_4cfef_11 : decode cJ1_indexOf_4cfef 11 = .ok (.invokestatic 92, 3) := by decide +kernel
theorem dJ1_indexOf_4cfef_14 : decode cJ1_indexOf_4cfef 14 = .ok (.istore_n 2, 1) := by decide +kernel
theorem dJ1_indexOf_4cfef_15 : decode cJ1_indexOf_4cfef 15 = .ok (.iload_n 3, 1) := by decide +kernel
theorem dJ1_indexOf_4cfef_16 : decode cJ1_indexOf_4cfef 16 = .ok (.aload_n 0, 1) := by decide +kernel
theorem dJ1_indexOf_4cfef_17 : decode cJ1_indexOf_4cfef 17 = .ok (.arraylength, 1) := by decide +kernel
theorem dJ1_indexOf_4cfef_18 : decode cJ1_indexOf_4cfef 18 = .ok (.invokestatic 38, 3) := by decide +kernel
theorem dJ1_indexOf_4cfef_21 : decode cJ1_indexOf_4cfef 21 = .ok (.istore_n 3, 1) := by decide +kernel
theorem dJ1_indexOf_4cfef_22 : decode cJ1_indexOf_4cfef 22 = .ok (.iload_n 2, 1) := by decide +kernel
theorem dJ1_indexOf_4cfef_23 : decode cJ1_indexOf_4cfef 23 = .ok (.iload_n 3, 1) := by decide +kernel
theorem dJ1_indexOf_4cfef_24 : decode cJ1_indexOf_4cfef 24 = .ok (.if_icmp .lt 5, 3) := by decide +kernel
theorem dJ1_indexOf_4cfef_27 : decode cJ1_indexOf_4cfef 27 = .ok (.iconst (-1), 1) := by decide +kernel
theorem dJ1_indexOf_4cfef_28 : decode cJ1_indexOf_4cfef 28 = .ok (.ireturn, 1) := by decide +kernel
theorem dJ1_indexOf_4cfef_29 : decode cJ1_indexOf_4cfef 29 = .ok (.aload_n 0, 1) := by decide +kernel
theorem dJ1_indexOf_4cfef_30 : decode cJ1_indexOf_4cfef 30 = .ok (.iload_n 1, 1) := by decide +kernel
theorem dJ1_indexOf_4cfef_31 : decode cJ1_indexOf_4cfef 31 = .ok (.iload_n 2, 1) := by decide +kernel
theorem dJ1_indexOf_4cfef_32 : decode cJ1_indexOf_4cfef 32 = .ok (.iload_n 3, 1) := by decide +kernel
theorem dJ1_indexOf_4cfef_33 : decode cJ1_indexOf_4cfef 33 = .ok (.invokestatic 95, 3) := by decide +kernel
theorem dJ1_indexOf_4cfef_36 : decode cJ1_indexOf_4cfef 36 = .ok (.ireturn, 1) := by decide +kernel
theorem dJ1_indexOfChar_4cfef_0 : decode cJ1_indexOfChar_4cfef 0 = .ok (.iload_n 1, 1) := by decide +kernel
theorem dJ1_indexOfChar_4cfef_1 : decode cJ1_indexOfChar_4cfef 1 = .ok (.i2b, 1) := by decide +kernel
theorem dJ1_indexOfChar_4cfef_2 : decode cJ1_indexOfChar_4cfef 2 = .ok (.istore 4, 2) := by decide +kernel
theorem dJ1_indexOfChar_4cfef_4 : decode cJ1_indexOfChar_4cfef 4 = .ok (.iload_n 2, 1) := by decide +kernel
theorem dJ1_indexOfChar_4cfef_5 : decode cJ1_indexOfChar_4cfef 5 = .ok (.istore 5, 2) := by decide +kernel
theorem dJ1_indexOfChar_4cfef_7 : decode cJ1_indexOfChar_4cfef 7 = .ok (.iload 5, 2) := by decide +kernel
theorem dJ1_indexOfChar_4cfef_9 : decode cJ1_indexOfChar_4cfef 9 = .ok (.iload_n 3, 1) := by decide +kernel
theorem dJ1_indexOfChar_4cfef_10 : decode cJ1_indexOfChar_4cfef 10 = .ok (.if_icmp .ge 21, 3) := by decide +kernel
theorem dJ1_indexOfChar_4cfef_13 : decode cJ1_indexOfChar_4cfef 13 = .ok (.aload_n 0, 1) := by decide +kernel
theorem dJ1_indexOfChar_4cfef_14 : decode cJ1_indexOfChar_4cfef 14 = .ok (.iload 5, 2) := by decide +kernel
theorem dJ1_indexOfChar_4cfef_16 : decode cJ1_indexOfChar_4cfef 16 = .ok (.baload, 1) := by decide +kernel
theorem dJ1_indexOfChar_4cfef_17 : decode cJ1_indexOfChar_4cfef 17 = .ok (.iload 4, 2) := by decide +kernel
theorem dJ1_indexOfChar_4cfef_19 : decode cJ1_indexOfChar_4cfef 19 = .ok (.if_icmp .ne 6, 3) := by decide +kernel
theorem dJ1_indexOfChar_4cfef_22 : decode cJ1_indexOfChar_4cfef 22 = .ok (.iload 5, 2) := by decide +kernel
theorem dJ1_indexOfChar_4cfef_24 : decode cJ1_indexOfChar_4cfef 24 = .ok (.ireturn, 1) := by decide +kernel
theorem dJ1_indexOfChar_4cfef_25 : decode cJ1_indexOfChar_4cfef 25 = .ok (.iinc 5 1, 3) := by decide +kernel
theorem dJ1_indexOfChar_4cfef_28 : decode cJ1_indexOfChar_4cfef 28 = .ok (.goto (-21), 3) := by decide +kernel
theorem dJ1_indexOfChar_4cfef_31 : decode cJ1_indexOfChar_4cfef 31 = .ok (.iconst (-1), 1) := by decide +kernel
theorem dJ1_indexOfChar_4cfef_32 : decode cJ1_indexOfChar_4cfef 32 = .ok (.ireturn, 1) := by decide +kernel
theorem dJ3_checkIndex_8e157_0 : decode cJ3_checkIndex_8e157 0 = .ok (.iload_n 0, 1) := by decide +kernel
theorem dJ3_checkIndex_8e157_1 : decode cJ3_checkIndex_8e157 1 = .ok (.ifCond .lt 8, 3) := by decide +kernel
theorem dJ3_checkIndex_8e157_4 : decode cJ3_checkIndex_8e157 4 = .ok (.iload_n 0, 1) := by decide +kernel
theorem dJ3_checkIndex_8e157_5 : decode cJ3_checkIndex_8e157 5 = .ok (.iload_n 1, 1) := by decide +kernel
theorem dJ3_checkIndex_8e157_6 : decode cJ3_checkIndex_8e157 6 = .ok (.if_icmp .lt 10, 3) := by decide +kernel
theorem dJ3_checkIndex_8e157_9 : decode cJ3_checkIndex_8e157 9 = .ok (.aload_n 2, 1) := by decide +kernel
theorem dJ3_checkIndex_8e157_10 : decode cJ3_checkIndex_8e157 10 = .ok (.iload_n 0, 1) := by decide +kernel
theorem dJ3_checkIndex_8e157_11 : decode cJ3_checkIndex_8e157 11 = .ok (.iload_n 1, 1) := by decide +kernel
theorem dJ3_checkIndex_8e157_12 : decode cJ3_checkIndex_8e157 12 = .ok (.invokestatic 95, 3) := by decide +kernel
theorem dJ3_checkIndex_8e157_15 : decode cJ3_checkIndex_8e157 15 = .ok (.athrow, 1) := by decide +kernel
theorem dJ3_checkIndex_8e157_16 : decode cJ3_checkIndex_8e157 16 = .ok (.iload_n 0, 1) := by decide +kernel
theorem dJ3_checkIndex_8e157_17 : decode cJ3_checkIndex_8e157 17 = .ok (.ireturn, 1) := by decide +kernel
theorem jc_J0_length_8abf5 : Jvm.Cond.code yJ0_length_8abf5 cJ0_length_8abf5 1 (some .int) ∈ amT0 := amIn0 703 (by decide +kernel) (by decide +kernel)
def jw_J0_length_8abf5 : List Jvm.Cond := Jvm.Cond.code yJ0_length_8abf5 cJ0_length_8abf5 1 (some .int) :: amT0
theorem jg_J0_length_8abf5 : GoodIn amT0 jw_J0_length_8abf5 := by
  intro w hw
  rcases List.mem_cons.mp hw with rfl | hw
  · exact amGoodT jc_J0_length_8abf5
  · exact amGoodT hw
theorem jm_J0_length_8abf5 : Jvm.Cond.instanceMethod yJ0_length_8abf5 ∈ amT0 ∧ Jvm.Cond.selects yJ0_length_8abf5.cls yJ0_length_8abf5 yJ0_length_8abf5 ∈ amT0 := ⟨amIn0 701 (by decide +kernel) (by decide +kernel), amIn0 702 (by decide +kernel) (by decide +kernel)⟩
theorem jc_J0_charAt_5068e : Jvm.Cond.code yJ0_charAt_5068e cJ0_charAt_5068e 2 (some .char) ∈ amT0 := amIn0 713 (by decide +kernel) (by decide +kernel)
def jw_J0_charAt_5068e : List Jvm.Cond := Jvm.Cond.code yJ0_charAt_5068e cJ0_charAt_5068e 2 (some .char) :: amT0
theorem jg_J0_charAt_5068e : GoodIn amT0 jw_J0_charAt_5068e := by
  intro w hw
  rcases List.mem_cons.mp hw with rfl | hw
  · exact amGoodT jc_J0_charAt_5068e
  · exact amGoodT hw
theorem jm_J0_charAt_5068e : Jvm.Cond.instanceMethod yJ0_charAt_5068e ∈ amT0 ∧ Jvm.Cond.selects yJ0_charAt_5068e.cls yJ0_charAt_5068e yJ0_charAt_5068e ∈ amT0 := ⟨amIn0 711 (by decide +kernel) (by decide +kernel), amIn0 712 (by decide +kernel) (by decide +kernel)⟩
theorem jc_J0_indexOf_0f7a4 : Jvm.Cond.code yJ0_indexOf_0f7a4 cJ0_indexOf_0f7a4 2 (some .int) ∈ amT0 := amIn0 752 (by decide +kernel) (by decide +kernel)
def jw_J0_indexOf_0f7a4 : List Jvm.Cond := Jvm.Cond.code yJ0_indexOf_0f7a4 cJ0_indexOf_0f7a4 2 (some .int) :: amT0
theorem jg_J0_indexOf_0f7a4 : GoodIn amT0 jw_J0_indexOf_0f7a4 := by
  intro w hw
  rcases List.mem_cons.mp hw with rfl | hw
  · exact amGoodT jc_J0_indexOf_0f7a4
  · exact amGoodT hw
theorem jm_J0_indexOf_0f7a4 : Jvm.Cond.instanceMethod yJ0_indexOf_0f7a4 ∈ amT0 ∧ Jvm.Cond.selects yJ0_indexOf_0f7a4.cls yJ0_indexOf_0f7a4 yJ0_indexOf_0f7a4 ∈ amT0 := ⟨amIn0 750 (by decide +kernel) (by decide +kernel), amIn0 751 (by decide +kernel) (by decide +kernel)⟩
theorem jc_J0_indexOf_7cf53 : Jvm.Cond.code yJ0_indexOf_7cf53 cJ0_indexOf_7cf53 3 (some .int) ∈ amT0 := amIn0 756 (by decide +kernel) (by decide +kernel)
def jw_J0_indexOf_7cf53 : List Jvm.Cond := Jvm.Cond.code yJ0_indexOf_7cf53 cJ0_indexOf_7cf53 3 (some .int) :: amT0
theorem jg_J0_indexOf_7cf53 : GoodIn amT0 jw_J0_indexOf_7cf53 := by
  intro w hw
  rcases List.mem_cons.mp hw with rfl | hw
  · exact amGoodT jc_J0_indexOf_7cf53
  · exact amGoodT hw
theorem jm_J0_indexOf_7cf53 : Jvm.Cond.instanceMethod yJ0_indexOf_7cf53 ∈ amT0 ∧ Jvm.Cond.selects yJ0_indexOf_7cf53.cls yJ0_indexOf_7cf53 yJ0_indexOf_7cf53 ∈ amT0 := ⟨amIn0 754 (by decide +kernel) (by decide +kernel), amIn0 755 (by decide +kernel) (by decide +kernel)⟩
theorem jc_J0_coder_7d493 : Jvm.Cond.code yJ0_coder_7d493 cJ0_coder_7d493 1 (some .byte) ∈ amT0 := amIn0 707 (by decide +kernel) (by decide +kernel)
def jw_J0_coder_7d493 : List Jvm.Cond := Jvm.Cond.code yJ0_coder_7d493 cJ0_coder_7d493 1 (some .byte) :: amT0
theorem jg_J0_coder_7d493 : GoodIn amT0 jw_J0_coder_7d493 := by
  intro w hw
  rcases List.mem_cons.mp hw with rfl | hw
  · exact amGoodT jc_J0_coder_7d493
  · exact amGoodT hw
theorem jm_J0_coder_7d493 : Jvm.Cond.instanceMethod yJ0_coder_7d493 ∈ amT0 ∧ Jvm.Cond.selects yJ0_coder_7d493.cls yJ0_coder_7d493 yJ0_coder_7d493 ∈ amT0 := ⟨amIn0 705 (by decide +kernel) (by decide +kernel), amIn0 706 (by decide +kernel) (by decide +kernel)⟩
theorem jc_J0_isLatin1_aae02 : Jvm.Cond.code yJ0_isLatin1_aae02 cJ0_isLatin1_aae02 1 (some .boolean) ∈ amT0 := amIn0 717 (by decide +kernel) (by decide +kernel)
def jw_J0_isLatin1_aae02 : List Jvm.Cond := Jvm.Cond.code yJ0_isLatin1_aae02 cJ0_isLatin1_aae02 1 (some .boolean) :: amT0
theorem jg_J0_isLatin1_aae02 : GoodIn amT0 jw_J0_isLatin1_aae02 := by
  intro w hw
  rcases List.mem_cons.mp hw with rfl | hw
  · exact amGoodT jc_J0_isLatin1_aae02
  · exact amGoodT hw
theorem jm_J0_isLatin1_aae02 : Jvm.Cond.instanceMethod yJ0_isLatin1_aae02 ∈ amT0 ∧ Jvm.Cond.selects yJ0_isLatin1_aae02.cls yJ0_isLatin1_aae02 yJ0_isLatin1_aae02 ∈ amT0 := ⟨amIn0 715 (by decide +kernel) (by decide +kernel), amIn0 716 (by decide +kernel) (by decide +kernel)⟩
theorem jc_J0_checkIndex_df160 : Jvm.Cond.code yJ0_checkIndex_df160 cJ0_checkIndex_df160 2 none ∈ amT0 := amIn0 723 (by decide +kernel) (by decide +kernel)
def jw_J0_checkIndex_df160 : List Jvm.Cond := Jvm.Cond.code yJ0_checkIndex_df160 cJ0_checkIndex_df160 2 none :: amT0
theorem jg_J0_checkIndex_df160 : GoodIn amT0 jw_J0_checkIndex_df160 := by
  intro w hw
  rcases List.mem_cons.mp hw with rfl | hw
  · exact amGoodT jc_J0_checkIndex_df160
  · exact amGoodT hw
theorem jm_J0_checkIndex_df160 : Jvm.Cond.static yJ0_checkIndex_df160 ∈ amT0 := amIn0 722 (by decide +kernel) (by decide +kernel)
theorem jc_J1_charAt_3b067 : Jvm.Cond.code yJ1_charAt_3b067 cJ1_charAt_3b067 2 (some .char) ∈ amT0 := amIn0 720 (by decide +kernel) (by decide +kernel)
def jw_J1_charAt_3b067 : List Jvm.Cond := Jvm.Cond.code yJ1_charAt_3b067 cJ1_charAt_3b067 2 (some .char) :: amT0
theorem jg_J1_charAt_3b067 : GoodIn amT0 jw_J1_charAt_3b067 := by
  intro w hw
  rcases List.mem_cons.mp hw with rfl | hw
  · exact amGoodT jc_J1_charAt_3b067
  · exact amGoodT hw
theorem jm_J1_charAt_3b067 : Jvm.Cond.static yJ1_charAt_3b067 ∈ amT0 := amIn0 719 (by decide +kernel) (by decide +kernel)
theorem jc_J1_canEncode_9a6ad : Jvm.Cond.code yJ1_canEncode_9a6ad cJ1_canEncode_9a6ad 1 (some .boolean) ∈ amT0 := amIn0 763 (by decide +kernel) (by decide +kernel)
def jw_J1_canEncode_9a6ad : List Jvm.Cond := Jvm.Cond.code yJ1_canEncode_9a6ad cJ1_canEncode_9a6ad 1 (some .boolean) :: amT0
theorem jg_J1_canEncode_9a6ad : GoodIn amT0 jw_J1_canEncode_9a6ad := by
  intro w hw
  rcases List.mem_cons.mp hw with rfl | hw
  · exact amGoodT jc_J1_canEncode_9a6ad
  · exact amGoodT hw
theorem jm_J1_canEncode_9a6ad : Jvm.Cond.static yJ1_canEncode_9a6ad ∈ amT0 := amIn0 762 (by decide +kernel) (by decide +kernel)
theorem jc_J1_indexOf_4cfef : Jvm.Cond.code yJ1_indexOf_4cfef cJ1_indexOf_4cfef 4 (some .int) ∈ amT0 := amIn0 760 (by decide +kernel) (by decide +kernel)
def jw_J1_indexOf_4cfef : List Jvm.Cond := Jvm.Cond.code yJ1_indexOf_4cfef cJ1_indexOf_4cfef 4 (some .int) :: amT0
theorem jg_J1_indexOf_4cfef : GoodIn amT0 jw_J1_indexOf_4cfef := by
  intro w hw
  rcases List.mem_cons.mp hw with rfl | hw
  · exact amGoodT jc_J1_indexOf_4cfef
  · exact amGoodT hw
theorem jm_J1_indexOf_4cfef : Jvm.Cond.static yJ1_indexOf_4cfef ∈ amT0 := amIn0 759 (by decide +kernel) (by decide +kernel)
theorem jc_J1_indexOfChar_4cfef : Jvm.Cond.code yJ1_indexOfChar_4cfef cJ1_indexOfChar_4cfef 6 (some .int) ∈ amT0 := amIn0 772 (by decide +kernel) (by decide +kernel)
def jw_J1_indexOfChar_4cfef : List Jvm.Cond := Jvm.Cond.code yJ1_indexOfChar_4cfef cJ1_indexOfChar_4cfef 6 (some .int) :: amT0
theorem jg_J1_indexOfChar_4cfef : GoodIn amT0 jw_J1_indexOfChar_4cfef := by
  intro w hw
  rcases List.mem_cons.mp hw with rfl | hw
  · exact amGoodT jc_J1_indexOfChar_4cfef
  · exact amGoodT hw
theorem jm_J1_indexOfChar_4cfef : Jvm.Cond.static yJ1_indexOfChar_4cfef ∈ amT0 := amIn0 771 (by decide +kernel) (by decide +kernel)
theorem jc_J3_checkIndex_8e157 : Jvm.Cond.code yJ3_checkIndex_8e157 cJ3_checkIndex_8e157 3 (some .int) ∈ amT0 := amIn0 728 (by decide +kernel) (by decide +kernel)
def jw_J3_checkIndex_8e157 : List Jvm.Cond := Jvm.Cond.code yJ3_checkIndex_8e157 cJ3_checkIndex_8e157 3 (some .int) :: amT0
theorem jg_J3_checkIndex_8e157 : GoodIn amT0 jw_J3_checkIndex_8e157 := by
  intro w hw
  rcases List.mem_cons.mp hw with rfl | hw
  · exact amGoodT jc_J3_checkIndex_8e157
  · exact amGoodT hw
theorem jm_J3_checkIndex_8e157 : Jvm.Cond.static yJ3_checkIndex_8e157 ∈ amT0 := amIn0 727 (by decide +kernel) (by decide +kernel)
-- java/lang/String 9 ('java/lang/String', 'value', '[B')
theorem jl_J0_9 : (Jvm.Cond.fieldLink "java/lang/String" (9 : Nat) "java/lang/String" "value" "[B") ∈ amT0 := amIn0 1999 (by decide +kernel) (by decide +kernel)
-- java/lang/String 15 ('java/lang/String', 'coder', 'B')
theorem jl_J0_15 : (Jvm.Cond.fieldLink "java/lang/String" (15 : Nat) "java/lang/String" "coder" "B") ∈ amT0 := amIn0 2000 (by decide +kernel) (by decide +kernel)
-- java/lang/String 38 ('java/lang/String', 'COMPACT_STRINGS', 'Z')
theorem jl_J0_38 : (Jvm.Cond.fieldLink "java/lang/String" (38 : Nat) "java/lang/String" "COMPACT_STRINGS" "Z") ∈ amT0 := amIn0 708 (by decide +kernel) (by decide +kernel)
theorem jl_J0_335 : Jvm.Cond.methodLink RJ0 335 yJ0_coder_7d493 ∈ amT0 := amIn0 704 (by decide +kernel) (by decide +kernel)
theorem jl_J0_492 : Jvm.Cond.methodLink RJ0 492 yJ0_isLatin1_aae02 ∈ amT0 := amIn0 714 (by decide +kernel) (by decide +kernel)
theorem jl_J0_495 : Jvm.Cond.methodLink RJ0 495 yJ1_charAt_3b067 ∈ amT0 := amIn0 718 (by decide +kernel) (by decide +kernel)
theorem jl_J0_505 : Jvm.Cond.methodLink RJ0 505 yJ0_length_8abf5 ∈ amT0 := amIn0 757 (by decide +kernel) (by decide +kernel)
theorem jl_J0_633 : Jvm.Cond.methodLink RJ0 633 yJ0_indexOf_7cf53 ∈ amT0 := amIn0 753 (by decide +kernel) (by decide +kernel)
theorem jl_J0_637 : Jvm.Cond.methodLink RJ0 637 yJ1_indexOf_4cfef ∈ amT0 := amIn0 758 (by decide +kernel) (by decide +kernel)
-- java/lang/String 1053 ('jdk/internal/util/Preconditions', 'SIOOBE_FORMATTER', 'Ljava/util/function/BiFunction;')
theorem jl_J0_1053 : (Jvm.Cond.fieldLink "java/lang/String" (1053 : Nat) "jdk/internal/util/Preconditions" "SIOOBE_FORMATTER" "Ljava/util/function/BiFunction;") ∈ amT0 := amIn0 724 (by decide +kernel) (by decide +kernel)
theorem jl_J0_1059 : Jvm.Cond.methodLink RJ0 1059 yJ3_checkIndex_8e157 ∈ amT0 := amIn0 726 (by decide +kernel) (by decide +kernel)
theorem jl_J1_9 : Jvm.Cond.methodLink RJ1 9 yJ0_checkIndex_df160 ∈ amT0 := amIn0 721 (by decide +kernel) (by decide +kernel)
theorem jl_J1_38 : Jvm.Cond.methodLink RJ1 38 Lib.Math.min.name ∈ amT0 := amIn0 767 (by decide +kernel) (by decide +kernel)
theorem jl_J1_88 : Jvm.Cond.methodLink RJ1 88 yJ1_canEncode_9a6ad ∈ amT0 := amIn0 761 (by decide +kernel) (by decide +kernel)
theorem jl_J1_92 : Jvm.Cond.methodLink RJ1 92 Lib.Math.max.name ∈ amT0 := amIn0 764 (by decide +kernel) (by decide +kernel)
theorem jl_J1_95 : Jvm.Cond.methodLink RJ1 95 yJ1_indexOfChar_4cfef ∈ amT0 := amIn0 770 (by decide +kernel) (by decide +kernel)
theorem ji_J0 : Jvm.Cond.initialized RJ0 ∈ amT0 := amIn0 181 (by decide +kernel) (by decide +kernel)
theorem ji_J1 : Jvm.Cond.initialized RJ1 ∈ amT0 := amIn0 182 (by decide +kernel) (by decide +kernel)
theorem ji_J3 : Jvm.Cond.initialized RJ3 ∈ amT0 := amIn0 183 (by decide +kernel) (by decide +kernel)

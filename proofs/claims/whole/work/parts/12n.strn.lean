def ys_len : MethodName := ⟨"java/lang/String", "length", "()I"⟩
def ys_cod : MethodName := ⟨"java/lang/String", "coder", "()B"⟩
def ys_lat : MethodName := ⟨"java/lang/String", "isLatin1", "()Z"⟩
def ys_chr : MethodName := ⟨"java/lang/String", "charAt", "(I)C"⟩
def ys_lch : MethodName := ⟨"java/lang/StringLatin1", "charAt", "([BI)C"⟩
def ys_chk : MethodName := ⟨"java/lang/String", "checkIndex", "(II)V"⟩
def ys_pre : MethodName := ⟨"jdk/internal/util/Preconditions", "checkIndex", "(IILjava/util/function/BiFunction;)I"⟩
def ws_len : List Cond := Cond.code ys_len prog_17_method_54_code 1 (some FieldType.int) :: lw_g
theorem ks_len : Cond.code ys_len prog_17_method_54_code 1 (some FieldType.int) ∈ lw_g := lw_g_at (i := 575) (by decide +kernel) rfl
theorem ki_len : Cond.instanceMethod ys_len ∈ lw_g ∧ Cond.selects "java/lang/String" ys_len ys_len ∈ lw_g := ⟨lw_g_at (i := 573) (by decide +kernel) rfl, lw_g_at (i := 574) (by decide +kernel) rfl⟩
theorem ds_len_0 : decode prog_17_method_54_code 0 = .ok (.aload_n 0, 1) := by decide +kernel
theorem ds_len_1 : decode prog_17_method_54_code 1 = .ok (.getfield 9, 3) := by decide +kernel
theorem ls_len_1 : Cond.fieldLink "java/lang/String" 9 "java/lang/String" "value" "[B" ∈ lw_g := lw_g_at (i := 1708) (by decide +kernel) rfl
theorem ds_len_4 : decode prog_17_method_54_code 4 = .ok (.arraylength, 1) := by decide +kernel
theorem ds_len_5 : decode prog_17_method_54_code 5 = .ok (.aload_n 0, 1) := by decide +kernel
theorem ds_len_6 : decode prog_17_method_54_code 6 = .ok (.invokevirtual 335, 3) := by decide +kernel
theorem ls_len_6 : Cond.methodLink "java/lang/String" 335 ys_cod ∈ lw_g := lw_g_at (i := 576) (by decide +kernel) rfl
theorem ds_len_9 : decode prog_17_method_54_code 9 = .ok (.ishr, 1) := by decide +kernel
theorem ds_len_10 : decode prog_17_method_54_code 10 = .ok (.ireturn, 1) := by decide +kernel
def ws_cod : List Cond := Cond.code ys_cod prog_17_method_152_code 1 (some FieldType.byte) :: lw_g
theorem ks_cod : Cond.code ys_cod prog_17_method_152_code 1 (some FieldType.byte) ∈ lw_g := lw_g_at (i := 579) (by decide +kernel) rfl
theorem ki_cod : Cond.instanceMethod ys_cod ∈ lw_g ∧ Cond.selects "java/lang/String" ys_cod ys_cod ∈ lw_g := ⟨lw_g_at (i := 577) (by decide +kernel) rfl, lw_g_at (i := 578) (by decide +kernel) rfl⟩
theorem ds_cod_0 : decode prog_17_method_152_code 0 = .ok (.getstatic 38, 3) := by decide +kernel
theorem ls_cod_0 : Cond.fieldLink "java/lang/String" 38 "java/lang/String" "COMPACT_STRINGS" "Z" ∈ lw_g := lw_g_at (i := 580) (by decide +kernel) rfl
theorem ds_cod_3 : decode prog_17_method_152_code 3 = .ok (.ifCond .eq (10), 3) := by decide +kernel
theorem ds_cod_6 : decode prog_17_method_152_code 6 = .ok (.aload_n 0, 1) := by decide +kernel
theorem ds_cod_7 : decode prog_17_method_152_code 7 = .ok (.getfield 15, 3) := by decide +kernel
theorem ls_cod_7 : Cond.fieldLink "java/lang/String" 15 "java/lang/String" "coder" "B" ∈ lw_g := lw_g_at (i := 1709) (by decide +kernel) rfl
theorem ds_cod_10 : decode prog_17_method_152_code 10 = .ok (.goto 4, 3) := by decide +kernel
theorem ds_cod_13 : decode prog_17_method_152_code 13 = .ok (.iconst 1, 1) := by decide +kernel
theorem ds_cod_14 : decode prog_17_method_152_code 14 = .ok (.ireturn, 1) := by decide +kernel
def ws_lat : List Cond := Cond.code ys_lat prog_17_method_154_code 1 (some FieldType.boolean) :: lw_g
theorem ks_lat : Cond.code ys_lat prog_17_method_154_code 1 (some FieldType.boolean) ∈ lw_g := lw_g_at (i := 589) (by decide +kernel) rfl
theorem ki_lat : Cond.instanceMethod ys_lat ∈ lw_g ∧ Cond.selects "java/lang/String" ys_lat ys_lat ∈ lw_g := ⟨lw_g_at (i := 587) (by decide +kernel) rfl, lw_g_at (i := 588) (by decide +kernel) rfl⟩
theorem ds_lat_0 : decode prog_17_method_154_code 0 = .ok (.getstatic 38, 3) := by decide +kernel
theorem ls_lat_0 : Cond.fieldLink "java/lang/String" 38 "java/lang/String" "COMPACT_STRINGS" "Z" ∈ lw_g := lw_g_at (i := 580) (by decide +kernel) rfl
theorem ds_lat_3 : decode prog_17_method_154_code 3 = .ok (.ifCond .eq (14), 3) := by decide +kernel
theorem ds_lat_6 : decode prog_17_method_154_code 6 = .ok (.aload_n 0, 1) := by decide +kernel
theorem ds_lat_7 : decode prog_17_method_154_code 7 = .ok (.getfield 15, 3) := by decide +kernel
theorem ls_lat_7 : Cond.fieldLink "java/lang/String" 15 "java/lang/String" "coder" "B" ∈ lw_g := lw_g_at (i := 1709) (by decide +kernel) rfl
theorem ds_lat_10 : decode prog_17_method_154_code 10 = .ok (.ifCond .ne (7), 3) := by decide +kernel
theorem ds_lat_13 : decode prog_17_method_154_code 13 = .ok (.iconst 1, 1) := by decide +kernel
theorem ds_lat_14 : decode prog_17_method_154_code 14 = .ok (.goto 4, 3) := by decide +kernel
theorem ds_lat_17 : decode prog_17_method_154_code 17 = .ok (.iconst 0, 1) := by decide +kernel
theorem ds_lat_18 : decode prog_17_method_154_code 18 = .ok (.ireturn, 1) := by decide +kernel
def ws_chr : List Cond := Cond.code ys_chr prog_17_method_56_code 2 (some FieldType.char) :: lw_g
theorem ks_chr : Cond.code ys_chr prog_17_method_56_code 2 (some FieldType.char) ∈ lw_g := lw_g_at (i := 585) (by decide +kernel) rfl
theorem ki_chr : Cond.instanceMethod ys_chr ∈ lw_g ∧ Cond.selects "java/lang/String" ys_chr ys_chr ∈ lw_g := ⟨lw_g_at (i := 583) (by decide +kernel) rfl, lw_g_at (i := 584) (by decide +kernel) rfl⟩
theorem ds_chr_0 : decode prog_17_method_56_code 0 = .ok (.aload_n 0, 1) := by decide +kernel
theorem ds_chr_1 : decode prog_17_method_56_code 1 = .ok (.invokevirtual 492, 3) := by decide +kernel
theorem ls_chr_1 : Cond.methodLink "java/lang/String" 492 ys_lat ∈ lw_g := lw_g_at (i := 586) (by decide +kernel) rfl
theorem ds_chr_4 : decode prog_17_method_56_code 4 = .ok (.ifCond .eq (12), 3) := by decide +kernel
theorem ds_chr_7 : decode prog_17_method_56_code 7 = .ok (.aload_n 0, 1) := by decide +kernel
theorem ds_chr_8 : decode prog_17_method_56_code 8 = .ok (.getfield 9, 3) := by decide +kernel
theorem ls_chr_8 : Cond.fieldLink "java/lang/String" 9 "java/lang/String" "value" "[B" ∈ lw_g := lw_g_at (i := 1708) (by decide +kernel) rfl
theorem ds_chr_11 : decode prog_17_method_56_code 11 = .ok (.iload_n 1, 1) := by decide +kernel
theorem ds_chr_12 : decode prog_17_method_56_code 12 = .ok (.invokestatic 495, 3) := by decide +kernel
theorem ls_chr_12 : Cond.methodLink "java/lang/String" 495 ys_lch ∈ lw_g := lw_g_at (i := 590) (by decide +kernel) rfl
theorem ds_chr_15 : decode prog_17_method_56_code 15 = .ok (.ireturn, 1) := by decide +kernel
def ws_lch : List Cond := Cond.code ys_lch prog_18_method_2_code 2 (some FieldType.char) :: lw_g
theorem ks_lch : Cond.code ys_lch prog_18_method_2_code 2 (some FieldType.char) ∈ lw_g := lw_g_at (i := 592) (by decide +kernel) rfl
theorem ki_lch : Cond.static ys_lch ∈ lw_g := lw_g_at (i := 591) (by decide +kernel) rfl
theorem ds_lch_0 : decode prog_18_method_2_code 0 = .ok (.iload_n 1, 1) := by decide +kernel
theorem ds_lch_1 : decode prog_18_method_2_code 1 = .ok (.aload_n 0, 1) := by decide +kernel
theorem ds_lch_2 : decode prog_18_method_2_code 2 = .ok (.arraylength, 1) := by decide +kernel
theorem ds_lch_3 : decode prog_18_method_2_code 3 = .ok (.invokestatic 9, 3) := by decide +kernel
theorem ls_lch_3 : Cond.methodLink "java/lang/StringLatin1" 9 ys_chk ∈ lw_g := lw_g_at (i := 593) (by decide +kernel) rfl
theorem ds_lch_6 : decode prog_18_method_2_code 6 = .ok (.aload_n 0, 1) := by decide +kernel
theorem ds_lch_7 : decode prog_18_method_2_code 7 = .ok (.iload_n 1, 1) := by decide +kernel
theorem ds_lch_8 : decode prog_18_method_2_code 8 = .ok (.baload, 1) := by decide +kernel
theorem ds_lch_9 : decode prog_18_method_2_code 9 = .ok (.sipush 255, 3) := by decide +kernel
theorem ds_lch_12 : decode prog_18_method_2_code 12 = .ok (.iand, 1) := by decide +kernel
theorem ds_lch_13 : decode prog_18_method_2_code 13 = .ok (.i2c, 1) := by decide +kernel
theorem ds_lch_14 : decode prog_18_method_2_code 14 = .ok (.ireturn, 1) := by decide +kernel
def ws_chk : List Cond := Cond.code ys_chk prog_17_method_155_code 2 none :: lw_g
theorem ks_chk : Cond.code ys_chk prog_17_method_155_code 2 none ∈ lw_g := lw_g_at (i := 595) (by decide +kernel) rfl
theorem ki_chk : Cond.static ys_chk ∈ lw_g := lw_g_at (i := 594) (by decide +kernel) rfl
theorem ds_chk_0 : decode prog_17_method_155_code 0 = .ok (.iload_n 0, 1) := by decide +kernel
theorem ds_chk_1 : decode prog_17_method_155_code 1 = .ok (.iload_n 1, 1) := by decide +kernel
theorem ds_chk_2 : decode prog_17_method_155_code 2 = .ok (.getstatic 1053, 3) := by decide +kernel
theorem ls_chk_2 : Cond.fieldLink "java/lang/String" 1053 "jdk/internal/util/Preconditions" "SIOOBE_FORMATTER" "Ljava/util/function/BiFunction;" ∈ lw_g := lw_g_at (i := 596) (by decide +kernel) rfl
theorem ds_chk_5 : decode prog_17_method_155_code 5 = .ok (.invokestatic 1059, 3) := by decide +kernel
theorem ls_chk_5 : Cond.methodLink "java/lang/String" 1059 ys_pre ∈ lw_g := lw_g_at (i := 598) (by decide +kernel) rfl
theorem ds_chk_8 : decode prog_17_method_155_code 8 = .ok (.pop, 1) := by decide +kernel
theorem ds_chk_9 : decode prog_17_method_155_code 9 = .ok (.return_, 1) := by decide +kernel
def ws_pre : List Cond := Cond.code ys_pre prog_22_method_11_code 3 (some FieldType.int) :: lw_g
theorem ks_pre : Cond.code ys_pre prog_22_method_11_code 3 (some FieldType.int) ∈ lw_g := lw_g_at (i := 600) (by decide +kernel) rfl
theorem ki_pre : Cond.static ys_pre ∈ lw_g := lw_g_at (i := 599) (by decide +kernel) rfl
theorem ds_pre_0 : decode prog_22_method_11_code 0 = .ok (.iload_n 0, 1) := by decide +kernel
theorem ds_pre_1 : decode prog_22_method_11_code 1 = .ok (.ifCond .lt (8), 3) := by decide +kernel
theorem ds_pre_4 : decode prog_22_method_11_code 4 = .ok (.iload_n 0, 1) := by decide +kernel
theorem ds_pre_5 : decode prog_22_method_11_code 5 = .ok (.iload_n 1, 1) := by decide +kernel
theorem ds_pre_6 : decode prog_22_method_11_code 6 = .ok (.if_icmp .lt (10), 3) := by decide +kernel
theorem ds_pre_16 : decode prog_22_method_11_code 16 = .ok (.iload_n 0, 1) := by decide +kernel
theorem ds_pre_17 : decode prog_22_method_11_code 17 = .ok (.ireturn, 1) := by decide +kernel
theorem is_str : Cond.initialized "java/lang/String" ∈ lw_g := lw_g_at (i := 109) (by decide +kernel) rfl
theorem is_lat : Cond.initialized "java/lang/StringLatin1" ∈ lw_g := lw_g_at (i := 110) (by decide +kernel) rfl
theorem is_pre : Cond.initialized "jdk/internal/util/Preconditions" ∈ lw_g := lw_g_at (i := 111) (by decide +kernel) rfl

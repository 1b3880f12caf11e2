/-! the small constructors (printed by wip/gen/ctor.py) -/
theorem jl_Coat_3 : Cond.methodLink "CoatsFitTheMood$Coat" 3 ⟨"java/lang/Object", "<init>", "()V"⟩ ∈ lw_good := ab_at_in (k := 147) (by decide +kernel)
theorem jl_Day_3 : Cond.methodLink "CoatsFitTheMood$Day" 3 ⟨"java/lang/Object", "<init>", "()V"⟩ ∈ lw_good := ab_at_in (k := 219) (by decide +kernel)
theorem jf_Day_9 : Cond.fieldLink "CoatsFitTheMood$Day" 9 "CoatsFitTheMood$Day" "fines" "[I" ∈ lw_good := ab_at_in (k := 220) (by decide +kernel)
theorem jf_Day_15 : Cond.fieldLink "CoatsFitTheMood$Day" 15 "CoatsFitTheMood$Day" "costs" "[I" ∈ lw_good := ab_at_in (k := 221) (by decide +kernel)
theorem jf_Day_18 : Cond.fieldLink "CoatsFitTheMood$Day" 18 "CoatsFitTheMood$Day" "keeping" "[I" ∈ lw_good := ab_at_in (k := 222) (by decide +kernel)
theorem jf_Day_21 : Cond.fieldLink "CoatsFitTheMood$Day" 21 "CoatsFitTheMood$Day" "least" "[I" ∈ lw_good := ab_at_in (k := 223) (by decide +kernel)
theorem jf_Day_24 : Cond.fieldLink "CoatsFitTheMood$Day" 24 "CoatsFitTheMood$Day" "many" "I" ∈ lw_good := ab_at_in (k := 224) (by decide +kernel)
theorem jl_Sheet_3 : Cond.methodLink "CoatsFitTheMood$Sheet" 3 ⟨"java/lang/Object", "<init>", "()V"⟩ ∈ lw_good := ab_at_in (k := 287) (by decide +kernel)
theorem jf_Sheet_9 : Cond.fieldLink "CoatsFitTheMood$Sheet" 9 "CoatsFitTheMood$Sheet" "items" "[I" ∈ lw_good := ab_at_in (k := 288) (by decide +kernel)
theorem jf_Sheet_15 : Cond.fieldLink "CoatsFitTheMood$Sheet" 15 "CoatsFitTheMood$Sheet" "sort" "I" ∈ lw_good := ab_at_in (k := 290) (by decide +kernel)
theorem jf_Sheet_19 : Cond.fieldLink "CoatsFitTheMood$Sheet" 19 "CoatsFitTheMood$Sheet" "size" "I" ∈ lw_good := ab_at_in (k := 292) (by decide +kernel)
theorem jl_Tape_3 : Cond.methodLink "CoatsFitTheMood$Tape" 3 ⟨"java/lang/Object", "<init>", "()V"⟩ ∈ lw_good := ab_at_in (k := 175) (by decide +kernel)
theorem jf_Tape_9 : Cond.fieldLink "CoatsFitTheMood$Tape" 9 "CoatsFitTheMood$Tape" "bytes" "[I" ∈ lw_good := ab_at_in (k := 176) (by decide +kernel)
theorem jf_Tape_15 : Cond.fieldLink "CoatsFitTheMood$Tape" 15 "CoatsFitTheMood$Tape" "tokens" "[I" ∈ lw_good := ab_at_in (k := 177) (by decide +kernel)
theorem jf_Tape_18 : Cond.fieldLink "CoatsFitTheMood$Tape" 18 "CoatsFitTheMood$Tape" "places" "[I" ∈ lw_good := ab_at_in (k := 178) (by decide +kernel)
theorem jf_Tape_21 : Cond.fieldLink "CoatsFitTheMood$Tape" 21 "CoatsFitTheMood$Tape" "numbers" "[I" ∈ lw_good := ab_at_in (k := 179) (by decide +kernel)
theorem jl_Text_3 : Cond.methodLink "CoatsFitTheMood$Text" 3 ⟨"java/lang/Object", "<init>", "()V"⟩ ∈ lw_good := ab_at_in (k := 266) (by decide +kernel)
theorem jf_Text_9 : Cond.fieldLink "CoatsFitTheMood$Text" 9 "CoatsFitTheMood$Text" "steps" "[I" ∈ lw_good := ab_at_in (k := 267) (by decide +kernel)
theorem jf_Text_15 : Cond.fieldLink "CoatsFitTheMood$Text" 15 "CoatsFitTheMood$Text" "ends" "[I" ∈ lw_good := ab_at_in (k := 268) (by decide +kernel)
theorem jf_Text_18 : Cond.fieldLink "CoatsFitTheMood$Text" 18 "CoatsFitTheMood$Text" "stack" "[I" ∈ lw_good := ab_at_in (k := 269) (by decide +kernel)
theorem jl_Reader_3 : Cond.methodLink "CoatsFitTheMood$Reader" 3 ⟨"java/lang/Object", "<init>", "()V"⟩ ∈ lw_good := ab_at_in (k := 204) (by decide +kernel)
theorem jf_Reader_9 : Cond.fieldLink "CoatsFitTheMood$Reader" 9 "CoatsFitTheMood$Reader" "tape" "LCoatsFitTheMood$Tape;" ∈ lw_good := ab_at_in (k := 205) (by decide +kernel)
theorem jl_Image_3 : Cond.methodLink "CoatsFitTheMood$Image" 3 ⟨"java/lang/Object", "<init>", "()V"⟩ ∈ lw_good := ab_at_in (k := 242) (by decide +kernel)
theorem jf_Image_9 : Cond.fieldLink "CoatsFitTheMood$Image" 9 "CoatsFitTheMood$Image" "moods" "[I" ∈ lw_good := ab_at_in (k := 245) (by decide +kernel)
theorem jc_Image_15 : Cond.classLink "CoatsFitTheMood$Image" 15 "CoatsFitTheMood$Coat" ∈ lw_good := ab_at_in (k := 243) (by decide +kernel)
theorem jf_Image_17 : Cond.fieldLink "CoatsFitTheMood$Image" 17 "CoatsFitTheMood$Image" "coats" "[LCoatsFitTheMood$Coat;" ∈ lw_good := ab_at_in (k := 247) (by decide +kernel)
theorem jf_Image_21 : Cond.fieldLink "CoatsFitTheMood$Image" 21 "CoatsFitTheMood$Image" "owned" "I" ∈ lw_good := ab_at_in (k := 249) (by decide +kernel)
theorem jf_Image_25 : Cond.fieldLink "CoatsFitTheMood$Image" 25 "CoatsFitTheMood$Image" "rule" "I" ∈ lw_good := ab_at_in (k := 251) (by decide +kernel)
theorem jt_Coat : Cond.instantiable "CoatsFitTheMood$Coat" 4 ∈ lw_good := ab_at_in (k := 143) (by decide +kernel)
theorem jz_Coat : Cond.initialized "CoatsFitTheMood$Coat" ∈ lw_good := ab_at_in (k := 118) (by decide +kernel)
set_option maxRecDepth 100000 in
theorem jk_Coat_init : Cond.code ⟨"CoatsFitTheMood$Coat", "<init>", "()V"⟩ prog_2_method_1_code 1 none ∈ lw_good := List.mem_filter.mpr ⟨List.mem_of_getElem? (i := 146) (by rfl), rfl⟩
theorem ji_Coat_init : Cond.instanceMethod ⟨"CoatsFitTheMood$Coat", "<init>", "()V"⟩ ∈ lw_good := ab_at_in (k := 145) (by decide +kernel)
theorem df_0 : ∀ j, j < 4 → defaultValue (ab_ty 0 j) = vp_V [.int 0, .int 0, .int 0, .int 0] j := by
  intro j hj
  match j, hj with
  | 0, _ => exact rfl
  | 1, _ => exact rfl
  | 2, _ => exact rfl
  | 3, _ => exact rfl
  | j + 4, h => exact absurd h (by omega)
theorem df_1 : ∀ j, j < 5 → defaultValue (ab_ty 1 j) = vp_V [.null, .null, .null, .null, .int 0] j := by
  intro j hj
  match j, hj with
  | 0, _ => exact rfl
  | 1, _ => exact rfl
  | 2, _ => exact rfl
  | 3, _ => exact rfl
  | 4, _ => exact rfl
  | j + 5, h => exact absurd h (by omega)
theorem df_2 : ∀ j, j < 4 → defaultValue (ab_ty 2 j) = vp_V [.null, .null, .int 0, .int 0] j := by
  intro j hj
  match j, hj with
  | 0, _ => exact rfl
  | 1, _ => exact rfl
  | 2, _ => exact rfl
  | 3, _ => exact rfl
  | j + 4, h => exact absurd h (by omega)
theorem df_3 : ∀ j, j < 2 → defaultValue (ab_ty 3 j) = vp_V [.null, .int 0] j := by
  intro j hj
  match j, hj with
  | 0, _ => exact rfl
  | 1, _ => exact rfl
  | j + 2, h => exact absurd h (by omega)
theorem df_4 : ∀ j, j < 3 → defaultValue (ab_ty 4 j) = vp_V [.null, .int 0, .int 0] j := by
  intro j hj
  match j, hj with
  | 0, _ => exact rfl
  | 1, _ => exact rfl
  | 2, _ => exact rfl
  | j + 3, h => exact absurd h (by omega)
theorem df_5 : ∀ j, j < 7 → defaultValue (ab_ty 5 j) = vp_V [.null, .null, .null, .null, .int 0, .int 0, .int 0] j := by
  intro j hj
  match j, hj with
  | 0, _ => exact rfl
  | 1, _ => exact rfl
  | 2, _ => exact rfl
  | 3, _ => exact rfl
  | 4, _ => exact rfl
  | 5, _ => exact rfl
  | 6, _ => exact rfl
  | j + 7, h => exact absurd h (by omega)
theorem df_6 : ∀ j, j < 5 → defaultValue (ab_ty 6 j) = vp_V [.null, .null, .null, .int 0, .int 0] j := by
  intro j hj
  match j, hj with
  | 0, _ => exact rfl
  | 1, _ => exact rfl
  | 2, _ => exact rfl
  | 3, _ => exact rfl
  | 4, _ => exact rfl
  | j + 5, h => exact absurd h (by omega)
theorem df_7 : ∀ j, j < 13 → defaultValue (ab_ty 7 j) = vp_V [.null, .null, .int 0, .null, .null, .int 0, .int 0, .null, .null, .null, .null, .null, .null] j := by
  intro j hj
  match j, hj with
  | 0, _ => exact rfl
  | 1, _ => exact rfl
  | 2, _ => exact rfl
  | 3, _ => exact rfl
  | 4, _ => exact rfl
  | 5, _ => exact rfl
  | 6, _ => exact rfl
  | 7, _ => exact rfl
  | 8, _ => exact rfl
  | 9, _ => exact rfl
  | 10, _ => exact rfl
  | 11, _ => exact rfl
  | 12, _ => exact rfl
  | j + 13, h => exact absurd h (by omega)
theorem df_8 : ∀ j, j < 42 → defaultValue (ab_ty 8 j) = vp_V [.int 0, .null, .null, .int 0, .int 0, .null, .int 0, .null, .null, .null, .int 0, .int 0, .int 0, .int 0, .int 0, .int 0, .int 0, .int 0, .int 0, .int 0, .int 0, .int 0, .long 0, .int 0, .int 0, .int 0, .null, .null, .null, .null, .null, .null, .null, .null, .null, .null, .int 0, .int 0, .null, .null, .null, .null] j := by
  intro j hj
  match j, hj with
  | 0, _ => exact rfl
  | 1, _ => exact rfl
  | 2, _ => exact rfl
  | 3, _ => exact rfl
  | 4, _ => exact rfl
  | 5, _ => exact rfl
  | 6, _ => exact rfl
  | 7, _ => exact rfl
  | 8, _ => exact rfl
  | 9, _ => exact rfl
  | 10, _ => exact rfl
  | 11, _ => exact rfl
  | 12, _ => exact rfl
  | 13, _ => exact rfl
  | 14, _ => exact rfl
  | 15, _ => exact rfl
  | 16, _ => exact rfl
  | 17, _ => exact rfl
  | 18, _ => exact rfl
  | 19, _ => exact rfl
  | 20, _ => exact rfl
  | 21, _ => exact rfl
  | 22, _ => exact rfl
  | 23, _ => exact rfl
  | 24, _ => exact rfl
  | 25, _ => exact rfl
  | 26, _ => exact rfl
  | 27, _ => exact rfl
  | 28, _ => exact rfl
  | 29, _ => exact rfl
  | 30, _ => exact rfl
  | 31, _ => exact rfl
  | 32, _ => exact rfl
  | 33, _ => exact rfl
  | 34, _ => exact rfl
  | 35, _ => exact rfl
  | 36, _ => exact rfl
  | 37, _ => exact rfl
  | 38, _ => exact rfl
  | 39, _ => exact rfl
  | 40, _ => exact rfl
  | 41, _ => exact rfl
  | j + 42, h => exact absurd h (by omega)
theorem de_Coat_init_0 : decode prog_2_method_1_code 0 = .ok (.aload_n 0, 1) := by decide +kernel
theorem de_Coat_init_1 : decode prog_2_method_1_code 1 = .ok (.invokespecial 3, 3) := by decide +kernel
theorem de_Coat_init_4 : decode prog_2_method_1_code 4 = .ok (.return_, 1) := by decide +kernel
theorem de_Day_init_0 : decode prog_3_method_1_code 0 = .ok (.aload_n 0, 1) := by decide +kernel
theorem de_Day_init_1 : decode prog_3_method_1_code 1 = .ok (.invokespecial 3, 3) := by decide +kernel
theorem de_Day_init_4 : decode prog_3_method_1_code 4 = .ok (.aload_n 0, 1) := by decide +kernel
theorem de_Day_init_5 : decode prog_3_method_1_code 5 = .ok (.sipush 216, 3) := by decide +kernel
theorem de_Day_init_8 : decode prog_3_method_1_code 8 = .ok (.newarray .int, 2) := by decide +kernel
theorem de_Day_init_10 : decode prog_3_method_1_code 10 = .ok (.putfield 9, 3) := by decide +kernel
theorem de_Day_init_13 : decode prog_3_method_1_code 13 = .ok (.aload_n 0, 1) := by decide +kernel
theorem de_Day_init_14 : decode prog_3_method_1_code 14 = .ok (.sipush 216, 3) := by decide +kernel
theorem de_Day_init_17 : decode prog_3_method_1_code 17 = .ok (.newarray .int, 2) := by decide +kernel
theorem de_Day_init_19 : decode prog_3_method_1_code 19 = .ok (.putfield 15, 3) := by decide +kernel
theorem de_Day_init_22 : decode prog_3_method_1_code 22 = .ok (.aload_n 0, 1) := by decide +kernel
theorem de_Day_init_23 : decode prog_3_method_1_code 23 = .ok (.sipush 216, 3) := by decide +kernel
theorem de_Day_init_26 : decode prog_3_method_1_code 26 = .ok (.newarray .int, 2) := by decide +kernel
theorem de_Day_init_28 : decode prog_3_method_1_code 28 = .ok (.putfield 18, 3) := by decide +kernel
theorem de_Day_init_31 : decode prog_3_method_1_code 31 = .ok (.aload_n 0, 1) := by decide +kernel
theorem de_Day_init_32 : decode prog_3_method_1_code 32 = .ok (.sipush 216, 3) := by decide +kernel
theorem de_Day_init_35 : decode prog_3_method_1_code 35 = .ok (.newarray .int, 2) := by decide +kernel
theorem de_Day_init_37 : decode prog_3_method_1_code 37 = .ok (.putfield 21, 3) := by decide +kernel
theorem de_Day_init_40 : decode prog_3_method_1_code 40 = .ok (.aload_n 0, 1) := by decide +kernel
theorem de_Day_init_41 : decode prog_3_method_1_code 41 = .ok (.iconst 1, 1) := by decide +kernel
theorem de_Day_init_42 : decode prog_3_method_1_code 42 = .ok (.putfield 24, 3) := by decide +kernel
theorem de_Day_init_45 : decode prog_3_method_1_code 45 = .ok (.return_, 1) := by decide +kernel
theorem de_Sheet_init_0 : decode prog_6_method_1_code 0 = .ok (.aload_n 0, 1) := by decide +kernel
theorem de_Sheet_init_1 : decode prog_6_method_1_code 1 = .ok (.invokespecial 3, 3) := by decide +kernel
theorem de_Sheet_init_4 : decode prog_6_method_1_code 4 = .ok (.aload_n 0, 1) := by decide +kernel
theorem de_Sheet_init_5 : decode prog_6_method_1_code 5 = .ok (.bipush 40, 2) := by decide +kernel
theorem de_Sheet_init_7 : decode prog_6_method_1_code 7 = .ok (.newarray .int, 2) := by decide +kernel
theorem de_Sheet_init_9 : decode prog_6_method_1_code 9 = .ok (.putfield 9, 3) := by decide +kernel
theorem de_Sheet_init_12 : decode prog_6_method_1_code 12 = .ok (.aload_n 0, 1) := by decide +kernel
theorem de_Sheet_init_13 : decode prog_6_method_1_code 13 = .ok (.iconst (-1), 1) := by decide +kernel
theorem de_Sheet_init_14 : decode prog_6_method_1_code 14 = .ok (.putfield 15, 3) := by decide +kernel
theorem de_Sheet_init_17 : decode prog_6_method_1_code 17 = .ok (.aload_n 0, 1) := by decide +kernel
theorem de_Sheet_init_18 : decode prog_6_method_1_code 18 = .ok (.iconst 0, 1) := by decide +kernel
theorem de_Sheet_init_19 : decode prog_6_method_1_code 19 = .ok (.putfield 19, 3) := by decide +kernel
theorem de_Sheet_init_22 : decode prog_6_method_1_code 22 = .ok (.return_, 1) := by decide +kernel
theorem de_Tape_init_0 : decode prog_7_method_1_code 0 = .ok (.aload_n 0, 1) := by decide +kernel
theorem de_Tape_init_1 : decode prog_7_method_1_code 1 = .ok (.invokespecial 3, 3) := by decide +kernel
theorem de_Tape_init_4 : decode prog_7_method_1_code 4 = .ok (.aload_n 0, 1) := by decide +kernel
theorem de_Tape_init_5 : decode prog_7_method_1_code 5 = .ok (.sipush 160, 3) := by decide +kernel
theorem de_Tape_init_8 : decode prog_7_method_1_code 8 = .ok (.newarray .int, 2) := by decide +kernel
theorem de_Tape_init_10 : decode prog_7_method_1_code 10 = .ok (.putfield 9, 3) := by decide +kernel
theorem de_Tape_init_13 : decode prog_7_method_1_code 13 = .ok (.aload_n 0, 1) := by decide +kernel
theorem de_Tape_init_14 : decode prog_7_method_1_code 14 = .ok (.sipush 161, 3) := by decide +kernel
theorem de_Tape_init_17 : decode prog_7_method_1_code 17 = .ok (.newarray .int, 2) := by decide +kernel
theorem de_Tape_init_19 : decode prog_7_method_1_code 19 = .ok (.putfield 15, 3) := by decide +kernel
theorem de_Tape_init_22 : decode prog_7_method_1_code 22 = .ok (.aload_n 0, 1) := by decide +kernel
theorem de_Tape_init_23 : decode prog_7_method_1_code 23 = .ok (.sipush 161, 3) := by decide +kernel
theorem de_Tape_init_26 : decode prog_7_method_1_code 26 = .ok (.newarray .int, 2) := by decide +kernel
theorem de_Tape_init_28 : decode prog_7_method_1_code 28 = .ok (.putfield 18, 3) := by decide +kernel
theorem de_Tape_init_31 : decode prog_7_method_1_code 31 = .ok (.aload_n 0, 1) := by decide +kernel
theorem de_Tape_init_32 : decode prog_7_method_1_code 32 = .ok (.sipush 161, 3) := by decide +kernel
theorem de_Tape_init_35 : decode prog_7_method_1_code 35 = .ok (.newarray .int, 2) := by decide +kernel
theorem de_Tape_init_37 : decode prog_7_method_1_code 37 = .ok (.putfield 21, 3) := by decide +kernel
theorem de_Tape_init_40 : decode prog_7_method_1_code 40 = .ok (.return_, 1) := by decide +kernel
theorem de_Text_init_0 : decode prog_8_method_1_code 0 = .ok (.aload_n 0, 1) := by decide +kernel
theorem de_Text_init_1 : decode prog_8_method_1_code 1 = .ok (.invokespecial 3, 3) := by decide +kernel
theorem de_Text_init_4 : decode prog_8_method_1_code 4 = .ok (.aload_n 0, 1) := by decide +kernel
theorem de_Text_init_5 : decode prog_8_method_1_code 5 = .ok (.sipush 160, 3) := by decide +kernel
theorem de_Text_init_8 : decode prog_8_method_1_code 8 = .ok (.newarray .int, 2) := by decide +kernel
theorem de_Text_init_10 : decode prog_8_method_1_code 10 = .ok (.putfield 9, 3) := by decide +kernel
theorem de_Text_init_13 : decode prog_8_method_1_code 13 = .ok (.aload_n 0, 1) := by decide +kernel
theorem de_Text_init_14 : decode prog_8_method_1_code 14 = .ok (.iconst 3, 1) := by decide +kernel
theorem de_Text_init_15 : decode prog_8_method_1_code 15 = .ok (.newarray .int, 2) := by decide +kernel
theorem de_Text_init_17 : decode prog_8_method_1_code 17 = .ok (.putfield 15, 3) := by decide +kernel
theorem de_Text_init_20 : decode prog_8_method_1_code 20 = .ok (.aload_n 0, 1) := by decide +kernel
theorem de_Text_init_21 : decode prog_8_method_1_code 21 = .ok (.bipush 40, 2) := by decide +kernel
theorem de_Text_init_23 : decode prog_8_method_1_code 23 = .ok (.newarray .int, 2) := by decide +kernel
theorem de_Text_init_25 : decode prog_8_method_1_code 25 = .ok (.putfield 18, 3) := by decide +kernel
theorem de_Text_init_28 : decode prog_8_method_1_code 28 = .ok (.return_, 1) := by decide +kernel
theorem de_Reader_init_0 : decode prog_5_method_1_code 0 = .ok (.aload_n 0, 1) := by decide +kernel
theorem de_Reader_init_1 : decode prog_5_method_1_code 1 = .ok (.invokespecial 3, 3) := by decide +kernel
theorem de_Reader_init_4 : decode prog_5_method_1_code 4 = .ok (.aload_n 0, 1) := by decide +kernel
theorem de_Reader_init_5 : decode prog_5_method_1_code 5 = .ok (.aload_n 1, 1) := by decide +kernel
theorem de_Reader_init_6 : decode prog_5_method_1_code 6 = .ok (.putfield 9, 3) := by decide +kernel
theorem de_Reader_init_9 : decode prog_5_method_1_code 9 = .ok (.return_, 1) := by decide +kernel
theorem de_Image_init_0 : decode prog_4_method_1_code 0 = .ok (.aload_n 0, 1) := by decide +kernel
theorem de_Image_init_1 : decode prog_4_method_1_code 1 = .ok (.invokespecial 3, 3) := by decide +kernel
theorem de_Image_init_4 : decode prog_4_method_1_code 4 = .ok (.aload_n 0, 1) := by decide +kernel
theorem de_Image_init_5 : decode prog_4_method_1_code 5 = .ok (.bipush 72, 2) := by decide +kernel
theorem de_Image_init_7 : decode prog_4_method_1_code 7 = .ok (.newarray .int, 2) := by decide +kernel
theorem de_Image_init_9 : decode prog_4_method_1_code 9 = .ok (.putfield 9, 3) := by decide +kernel
theorem de_Image_init_12 : decode prog_4_method_1_code 12 = .ok (.aload_n 0, 1) := by decide +kernel
theorem de_Image_init_13 : decode prog_4_method_1_code 13 = .ok (.bipush 8, 2) := by decide +kernel
theorem de_Image_init_15 : decode prog_4_method_1_code 15 = .ok (.anewarray 15, 3) := by decide +kernel
theorem de_Image_init_18 : decode prog_4_method_1_code 18 = .ok (.putfield 17, 3) := by decide +kernel
theorem de_Image_init_21 : decode prog_4_method_1_code 21 = .ok (.aload_n 0, 1) := by decide +kernel
theorem de_Image_init_22 : decode prog_4_method_1_code 22 = .ok (.iconst (-1), 1) := by decide +kernel
theorem de_Image_init_23 : decode prog_4_method_1_code 23 = .ok (.putfield 21, 3) := by decide +kernel
theorem de_Image_init_26 : decode prog_4_method_1_code 26 = .ok (.aload_n 0, 1) := by decide +kernel
theorem de_Image_init_27 : decode prog_4_method_1_code 27 = .ok (.iconst 0, 1) := by decide +kernel
theorem de_Image_init_28 : decode prog_4_method_1_code 28 = .ok (.putfield 25, 3) := by decide +kernel
theorem de_Image_init_31 : decode prog_4_method_1_code 31 = .ok (.iconst 0, 1) := by decide +kernel
theorem de_Image_init_32 : decode prog_4_method_1_code 32 = .ok (.istore_n 1, 1) := by decide +kernel
theorem de_Image_init_33 : decode prog_4_method_1_code 33 = .ok (.iload_n 1, 1) := by decide +kernel
theorem de_Image_init_34 : decode prog_4_method_1_code 34 = .ok (.bipush 8, 2) := by decide +kernel
theorem de_Image_init_36 : decode prog_4_method_1_code 36 = .ok (.if_icmp .ge 22, 3) := by decide +kernel
theorem de_Image_init_39 : decode prog_4_method_1_code 39 = .ok (.aload_n 0, 1) := by decide +kernel
theorem de_Image_init_40 : decode prog_4_method_1_code 40 = .ok (.getfield 17, 3) := by decide +kernel
theorem de_Image_init_43 : decode prog_4_method_1_code 43 = .ok (.iload_n 1, 1) := by decide +kernel
theorem de_Image_init_44 : decode prog_4_method_1_code 44 = .ok (.new 15, 3) := by decide +kernel
theorem de_Image_init_47 : decode prog_4_method_1_code 47 = .ok (.dup, 1) := by decide +kernel
theorem de_Image_init_48 : decode prog_4_method_1_code 48 = .ok (.invokespecial 28, 3) := by decide +kernel
theorem de_Image_init_51 : decode prog_4_method_1_code 51 = .ok (.aastore, 1) := by decide +kernel
theorem de_Image_init_52 : decode prog_4_method_1_code 52 = .ok (.iinc 1 1, 3) := by decide +kernel
theorem de_Image_init_55 : decode prog_4_method_1_code 55 = .ok (.goto (-22), 3) := by decide +kernel
theorem de_Image_init_58 : decode prog_4_method_1_code 58 = .ok (.return_, 1) := by decide +kernel
set_option maxHeartbeats 4000000 in
set_option maxRecDepth 100000 in
/-- cc_Coat -/
theorem cc_Coat (l : Launch) (D : va_G) (dA : Nat → ClassId) (h0 : Nat) : ct_Met l D dA ⟨"CoatsFitTheMood$Coat", "<init>", "()V"⟩ prog_2_method_1_code 1 1 12 0 0 [.ref h0] [(h0, .inr (0, [.int 0, .int 0, .int 0, .int 0]))] (fun _ => True) (fun w1 => w1 = [(h0, .inr (0, [.int 0, .int 0, .int 0, .int 0]))]) := by
  intro sz
  refine Met.ofW (cc := prog_2_method_1_code) (maxL := 1) (ret := none) (by decide) rfl ?_
  intro p e s m args below meth c s₁ B hml hv
  obtain ⟨rfl, hsz, hP, hK, hD0, hE⟩ := hv
  have hx := B.exec
  have hb := B.bytes
  have hr := B.returns
  have hts := atoms_spec (ws := jd_ws ⟨"CoatsFitTheMood$Coat", "<init>", "()V"⟩ prog_2_method_1_code 1 none) B.pre
  have hg : ∀ w ∈ lw_good, w.before _ s = true := fun w hw => hts w (List.mem_cons_of_mem _ hw)
  have hown : s.vm.findClass "CoatsFitTheMood$Coat" = some m.cls := findClass_of_methodNamed B.named
  have hlocks := B.notSynchronized
  have hin : meth.name = "<init>" := (name_of_methodNamed B.named B.method).1
  subst hsz
  have hD := hD0.self (sz := s.heap.size)
  generalize hAe : va_A [(h0, .inr (0, [.int 0, .int 0, .int 0, .int 0]))] s.heap.size = A at hD ⊢
  have hA : ∀ q : Nat, s.heap.size ≤ q → A q := fun q h => by rw [← hAe]; exact Or.inr h
  have hw : ct_W D A s [(h0, .inr (0, [.int 0, .int 0, .int 0, .int 0]))] s.heap [] := ⟨hP, hD, va_S.rf⟩
  have C0 : ct_At p s m _ c "CoatsFitTheMood$Coat" prog_2_method_1_code 1 D dA := ⟨hx, hb, hml, hown, hg, hK⟩
  have hl := lv_entry ([.ref h0]) (n := 1) (Nat.le_of_ble_eq_true rfl)
  rw [lg_entry_eq]
  generalize (lg_sl ([.ref h0]) ++ List.replicate (1 - (lg_sl ([.ref h0])).length) Slot.unset).toArray = ls at hl ⊢
  have hl : lv_has ls 1 [(0, .ref h0)] := hl
  refine lv_aload_n hx hb de_Coat_init_0 rfl (lv_at hl 0 rfl) ?_
  refine ct_obj C0 jl_Coat_3 hl.1 (Nat.le_of_ble_eq_true rfl) (Nat.le_of_ble_eq_true rfl) de_Coat_init_1 ?_
  refine W.widen (k := 0) (n := 0) (Nat.le_of_ble_eq_true rfl) (Nat.le_of_ble_eq_true rfl) ?_
  exact W.vret hx hb hr (fun t ht hW => ⟨⟨_, rfl, rfl, by rw [ht]; exact hw.1, hw.2.1⟩, hw.2.2.F ht⟩) hw.2.2.2.2 de_Coat_init_4
set_option maxHeartbeats 4000000 in
set_option maxRecDepth 100000 in
/-- cc_Day -/
theorem cc_Day (l : Launch) (D : va_G) (dA : Nat → ClassId) (h0 : Nat) : ct_Met l D dA ⟨"CoatsFitTheMood$Day", "<init>", "()V"⟩ prog_3_method_1_code 1 1 12 4 864 [.ref h0] [(h0, .inr (1, [.null, .null, .null, .null, .int 0]))] (fun _ => True) (fun w1 => ∃ q1 q2 q3 q4 : Nat, w1 = [(h0, .inr (1, [.ref q1, .ref q2, .ref q3, .ref q4, .int 1])), (q1, .inl (dA 0, 216, .inl (fun _ => 0))), (q2, .inl (dA 0, 216, .inl (fun _ => 0))), (q3, .inl (dA 0, 216, .inl (fun _ => 0))), (q4, .inl (dA 0, 216, .inl (fun _ => 0)))]) := by
  intro sz
  refine Met.ofW (cc := prog_3_method_1_code) (maxL := 1) (ret := none) (by decide) rfl ?_
  intro p e s m args below meth c s₁ B hml hv
  obtain ⟨rfl, hsz, hP, hK, hD0, hE⟩ := hv
  have hx := B.exec
  have hb := B.bytes
  have hr := B.returns
  have hts := atoms_spec (ws := jd_ws ⟨"CoatsFitTheMood$Day", "<init>", "()V"⟩ prog_3_method_1_code 1 none) B.pre
  have hg : ∀ w ∈ lw_good, w.before _ s = true := fun w hw => hts w (List.mem_cons_of_mem _ hw)
  have hown : s.vm.findClass "CoatsFitTheMood$Day" = some m.cls := findClass_of_methodNamed B.named
  have hlocks := B.notSynchronized
  have hin : meth.name = "<init>" := (name_of_methodNamed B.named B.method).1
  subst hsz
  have hD := hD0.self (sz := s.heap.size)
  generalize hAe : va_A [(h0, .inr (1, [.null, .null, .null, .null, .int 0]))] s.heap.size = A at hD ⊢
  have hA : ∀ q : Nat, s.heap.size ≤ q → A q := fun q h => by rw [← hAe]; exact Or.inr h
  have hw : ct_W D A s [(h0, .inr (1, [.null, .null, .null, .null, .int 0]))] s.heap [] := ⟨hP, hD, va_S.rf⟩
  have C0 : ct_At p s m _ c "CoatsFitTheMood$Day" prog_3_method_1_code 1 D dA := ⟨hx, hb, hml, hown, hg, hK⟩
  have hl := lv_entry ([.ref h0]) (n := 1) (Nat.le_of_ble_eq_true rfl)
  rw [lg_entry_eq]
  generalize (lg_sl ([.ref h0]) ++ List.replicate (1 - (lg_sl ([.ref h0])).length) Slot.unset).toArray = ls at hl ⊢
  have hl : lv_has ls 1 [(0, .ref h0)] := hl
  refine lv_aload_n hx hb de_Day_init_0 rfl (lv_at hl 0 rfl) ?_
  refine ct_obj C0 jl_Day_3 hl.1 (Nat.le_of_ble_eq_true rfl) (Nat.le_of_ble_eq_true rfl) de_Day_init_1 ?_
  refine lv_aload_n hx hb de_Day_init_4 rfl (lv_at hl 0 rfl) ?_
  refine lv_sipush (v := 216) hx hb de_Day_init_5 (by decide) ?_
  refine ct_newI (N := 216) C0 hA hw (by decide) (by decide) (by decide) (Nat.le_of_ble_eq_true rfl) (Nat.le_of_ble_eq_true rfl) de_Day_init_8 (fun q1 H hw => ?_)
  have hw : ct_W D A s [(h0, .inr (1, [.null, .null, .null, .null, .int 0])), (q1, .inl (dA 0, 216, .inl (fun _ => 0)))] H [] := hw
  refine ct_putF (ci := 1) C0 hw hin 0 rfl rfl 0 (by decide) jf_Day_9 rfl rfl (ab_cl_tt (c := 1) rfl 0 (by decide)) rfl rfl (Nat.le_of_ble_eq_true rfl) de_Day_init_10 (fun H locs hw => ?_)
  have hw : ct_W D A s [(h0, .inr (1, [.ref q1, .null, .null, .null, .int 0])), (q1, .inl (dA 0, 216, .inl (fun _ => 0)))] H locs := hw
  refine lv_aload_n hx hb de_Day_init_13 rfl (lv_at hl 0 rfl) ?_
  refine lv_sipush (v := 216) hx hb de_Day_init_14 (by decide) ?_
  refine ct_newI (N := 216) C0 hA hw (by decide) (by decide) (by decide) (Nat.le_of_ble_eq_true rfl) (Nat.le_of_ble_eq_true rfl) de_Day_init_17 (fun q2 H hw => ?_)
  have hw : ct_W D A s [(h0, .inr (1, [.ref q1, .null, .null, .null, .int 0])), (q1, .inl (dA 0, 216, .inl (fun _ => 0))), (q2, .inl (dA 0, 216, .inl (fun _ => 0)))] H locs := hw
  refine ct_putF (ci := 1) C0 hw hin 0 rfl rfl 1 (by decide) jf_Day_15 rfl rfl (ab_cl_tt (c := 1) rfl 1 (by decide)) rfl rfl (Nat.le_of_ble_eq_true rfl) de_Day_init_19 (fun H locs hw => ?_)
  have hw : ct_W D A s [(h0, .inr (1, [.ref q1, .ref q2, .null, .null, .int 0])), (q1, .inl (dA 0, 216, .inl (fun _ => 0))), (q2, .inl (dA 0, 216, .inl (fun _ => 0)))] H locs := hw
  refine lv_aload_n hx hb de_Day_init_22 rfl (lv_at hl 0 rfl) ?_
  refine lv_sipush (v := 216) hx hb de_Day_init_23 (by decide) ?_
  refine ct_newI (N := 216) C0 hA hw (by decide) (by decide) (by decide) (Nat.le_of_ble_eq_true rfl) (Nat.le_of_ble_eq_true rfl) de_Day_init_26 (fun q3 H hw => ?_)
  have hw : ct_W D A s [(h0, .inr (1, [.ref q1, .ref q2, .null, .null, .int 0])), (q1, .inl (dA 0, 216, .inl (fun _ => 0))), (q2, .inl (dA 0, 216, .inl (fun _ => 0))), (q3, .inl (dA 0, 216, .inl (fun _ => 0)))] H locs := hw
  refine ct_putF (ci := 1) C0 hw hin 0 rfl rfl 2 (by decide) jf_Day_18 rfl rfl (ab_cl_tt (c := 1) rfl 2 (by decide)) rfl rfl (Nat.le_of_ble_eq_true rfl) de_Day_init_28 (fun H locs hw => ?_)
  have hw : ct_W D A s [(h0, .inr (1, [.ref q1, .ref q2, .ref q3, .null, .int 0])), (q1, .inl (dA 0, 216, .inl (fun _ => 0))), (q2, .inl (dA 0, 216, .inl (fun _ => 0))), (q3, .inl (dA 0, 216, .inl (fun _ => 0)))] H locs := hw
  refine lv_aload_n hx hb de_Day_init_31 rfl (lv_at hl 0 rfl) ?_
  refine lv_sipush (v := 216) hx hb de_Day_init_32 (by decide) ?_
  refine ct_newI (N := 216) C0 hA hw (by decide) (by decide) (by decide) (Nat.le_of_ble_eq_true rfl) (Nat.le_of_ble_eq_true rfl) de_Day_init_35 (fun q4 H hw => ?_)
  have hw : ct_W D A s [(h0, .inr (1, [.ref q1, .ref q2, .ref q3, .null, .int 0])), (q1, .inl (dA 0, 216, .inl (fun _ => 0))), (q2, .inl (dA 0, 216, .inl (fun _ => 0))), (q3, .inl (dA 0, 216, .inl (fun _ => 0))), (q4, .inl (dA 0, 216, .inl (fun _ => 0)))] H locs := hw
  refine ct_putF (ci := 1) C0 hw hin 0 rfl rfl 3 (by decide) jf_Day_21 rfl rfl (ab_cl_tt (c := 1) rfl 3 (by decide)) rfl rfl (Nat.le_of_ble_eq_true rfl) de_Day_init_37 (fun H locs hw => ?_)
  have hw : ct_W D A s [(h0, .inr (1, [.ref q1, .ref q2, .ref q3, .ref q4, .int 0])), (q1, .inl (dA 0, 216, .inl (fun _ => 0))), (q2, .inl (dA 0, 216, .inl (fun _ => 0))), (q3, .inl (dA 0, 216, .inl (fun _ => 0))), (q4, .inl (dA 0, 216, .inl (fun _ => 0)))] H locs := hw
  refine lv_aload_n hx hb de_Day_init_40 rfl (lv_at hl 0 rfl) ?_
  refine lv_iconst (v := 1) hx hb de_Day_init_41 (by decide) ?_
  refine ct_put (ci := 1) C0 hw 0 rfl rfl 4 (by decide) jf_Day_24 rfl (ab_cl_tt (c := 1) rfl 4 (by decide)) rfl rfl (Nat.le_of_ble_eq_true rfl) de_Day_init_42 (fun H locs hw => ?_)
  have hw : ct_W D A s [(h0, .inr (1, [.ref q1, .ref q2, .ref q3, .ref q4, .int 1])), (q1, .inl (dA 0, 216, .inl (fun _ => 0))), (q2, .inl (dA 0, 216, .inl (fun _ => 0))), (q3, .inl (dA 0, 216, .inl (fun _ => 0))), (q4, .inl (dA 0, 216, .inl (fun _ => 0)))] H locs := hw
  refine W.widen (k := 4) (n := 864) (Nat.le_of_ble_eq_true rfl) (Nat.le_of_ble_eq_true rfl) ?_
  exact W.vret hx hb hr (fun t ht hW => ⟨⟨_, rfl, ⟨q1, q2, q3, q4, rfl⟩, by rw [ht]; exact hw.1, hw.2.1⟩, hw.2.2.F ht⟩) hw.2.2.2.2 de_Day_init_45
set_option maxHeartbeats 4000000 in
set_option maxRecDepth 100000 in
/-- cc_Sheet -/
theorem cc_Sheet (l : Launch) (D : va_G) (dA : Nat → ClassId) (h0 : Nat) : ct_Met l D dA ⟨"CoatsFitTheMood$Sheet", "<init>", "()V"⟩ prog_6_method_1_code 1 1 12 1 40 [.ref h0] [(h0, .inr (4, [.null, .int 0, .int 0]))] (fun _ => True) (fun w1 => ∃ q1 : Nat, w1 = [(h0, .inr (4, [.ref q1, .int (-1), .int 0])), (q1, .inl (dA 0, 40, .inl (fun _ => 0)))]) := by
  intro sz
  refine Met.ofW (cc := prog_6_method_1_code) (maxL := 1) (ret := none) (by decide) rfl ?_
  intro p e s m args below meth c s₁ B hml hv
  obtain ⟨rfl, hsz, hP, hK, hD0, hE⟩ := hv
  have hx := B.exec
  have hb := B.bytes
  have hr := B.returns
  have hts := atoms_spec (ws := jd_ws ⟨"CoatsFitTheMood$Sheet", "<init>", "()V"⟩ prog_6_method_1_code 1 none) B.pre
  have hg : ∀ w ∈ lw_good, w.before _ s = true := fun w hw => hts w (List.mem_cons_of_mem _ hw)
  have hown : s.vm.findClass "CoatsFitTheMood$Sheet" = some m.cls := findClass_of_methodNamed B.named
  have hlocks := B.notSynchronized
  have hin : meth.name = "<init>" := (name_of_methodNamed B.named B.method).1
  subst hsz
  have hD := hD0.self (sz := s.heap.size)
  generalize hAe : va_A [(h0, .inr (4, [.null, .int 0, .int 0]))] s.heap.size = A at hD ⊢
  have hA : ∀ q : Nat, s.heap.size ≤ q → A q := fun q h => by rw [← hAe]; exact Or.inr h
  have hw : ct_W D A s [(h0, .inr (4, [.null, .int 0, .int 0]))] s.heap [] := ⟨hP, hD, va_S.rf⟩
  have C0 : ct_At p s m _ c "CoatsFitTheMood$Sheet" prog_6_method_1_code 1 D dA := ⟨hx, hb, hml, hown, hg, hK⟩
  have hl := lv_entry ([.ref h0]) (n := 1) (Nat.le_of_ble_eq_true rfl)
  rw [lg_entry_eq]
  generalize (lg_sl ([.ref h0]) ++ List.replicate (1 - (lg_sl ([.ref h0])).length) Slot.unset).toArray = ls at hl ⊢
  have hl : lv_has ls 1 [(0, .ref h0)] := hl
  refine lv_aload_n hx hb de_Sheet_init_0 rfl (lv_at hl 0 rfl) ?_
  refine ct_obj C0 jl_Sheet_3 hl.1 (Nat.le_of_ble_eq_true rfl) (Nat.le_of_ble_eq_true rfl) de_Sheet_init_1 ?_
  refine lv_aload_n hx hb de_Sheet_init_4 rfl (lv_at hl 0 rfl) ?_
  refine lv_bipush (v := 40) hx hb de_Sheet_init_5 (by decide) ?_
  refine ct_newI (N := 40) C0 hA hw (by decide) (by decide) (by decide) (Nat.le_of_ble_eq_true rfl) (Nat.le_of_ble_eq_true rfl) de_Sheet_init_7 (fun q1 H hw => ?_)
  have hw : ct_W D A s [(h0, .inr (4, [.null, .int 0, .int 0])), (q1, .inl (dA 0, 40, .inl (fun _ => 0)))] H [] := hw
  refine ct_putF (ci := 4) C0 hw hin 0 rfl rfl 0 (by decide) jf_Sheet_9 rfl rfl (ab_cl_tt (c := 4) rfl 0 (by decide)) rfl rfl (Nat.le_of_ble_eq_true rfl) de_Sheet_init_9 (fun H locs hw => ?_)
  have hw : ct_W D A s [(h0, .inr (4, [.ref q1, .int 0, .int 0])), (q1, .inl (dA 0, 40, .inl (fun _ => 0)))] H locs := hw
  refine lv_aload_n hx hb de_Sheet_init_12 rfl (lv_at hl 0 rfl) ?_
  refine lv_iconst (v := (-1)) hx hb de_Sheet_init_13 (by decide) ?_
  refine ct_put (ci := 4) C0 hw 0 rfl rfl 1 (by decide) jf_Sheet_15 rfl (ab_cl_tt (c := 4) rfl 1 (by decide)) rfl rfl (Nat.le_of_ble_eq_true rfl) de_Sheet_init_14 (fun H locs hw => ?_)
  have hw : ct_W D A s [(h0, .inr (4, [.ref q1, .int (-1), .int 0])), (q1, .inl (dA 0, 40, .inl (fun _ => 0)))] H locs := hw
  refine lv_aload_n hx hb de_Sheet_init_17 rfl (lv_at hl 0 rfl) ?_
  refine lv_iconst (v := 0) hx hb de_Sheet_init_18 (by decide) ?_
  refine ct_put (ci := 4) C0 hw 0 rfl rfl 2 (by decide) jf_Sheet_19 rfl (ab_cl_tt (c := 4) rfl 2 (by decide)) rfl rfl (Nat.le_of_ble_eq_true rfl) de_Sheet_init_19 (fun H locs hw => ?_)
  have hw : ct_W D A s [(h0, .inr (4, [.ref q1, .int (-1), .int 0])), (q1, .inl (dA 0, 40, .inl (fun _ => 0)))] H locs := hw
  refine W.widen (k := 1) (n := 40) (Nat.le_of_ble_eq_true rfl) (Nat.le_of_ble_eq_true rfl) ?_
  exact W.vret hx hb hr (fun t ht hW => ⟨⟨_, rfl, ⟨q1, rfl⟩, by rw [ht]; exact hw.1, hw.2.1⟩, hw.2.2.F ht⟩) hw.2.2.2.2 de_Sheet_init_22
set_option maxHeartbeats 4000000 in
set_option maxRecDepth 100000 in
/-- cc_Tape -/
theorem cc_Tape (l : Launch) (D : va_G) (dA : Nat → ClassId) (h0 : Nat) : ct_Met l D dA ⟨"CoatsFitTheMood$Tape", "<init>", "()V"⟩ prog_7_method_1_code 1 1 12 4 643 [.ref h0] [(h0, .inr (5, [.null, .null, .null, .null, .int 0, .int 0, .int 0]))] (fun _ => True) (fun w1 => ∃ q1 q2 q3 q4 : Nat, w1 = [(h0, .inr (5, [.ref q1, .ref q2, .ref q3, .ref q4, .int 0, .int 0, .int 0])), (q1, .inl (dA 0, 160, .inl (fun _ => 0))), (q2, .inl (dA 0, 161, .inl (fun _ => 0))), (q3, .inl (dA 0, 161, .inl (fun _ => 0))), (q4, .inl (dA 0, 161, .inl (fun _ => 0)))]) := by
  intro sz
  refine Met.ofW (cc := prog_7_method_1_code) (maxL := 1) (ret := none) (by decide) rfl ?_
  intro p e s m args below meth c s₁ B hml hv
  obtain ⟨rfl, hsz, hP, hK, hD0, hE⟩ := hv
  have hx := B.exec
  have hb := B.bytes
  have hr := B.returns
  have hts := atoms_spec (ws := jd_ws ⟨"CoatsFitTheMood$Tape", "<init>", "()V"⟩ prog_7_method_1_code 1 none) B.pre
  have hg : ∀ w ∈ lw_good, w.before _ s = true := fun w hw => hts w (List.mem_cons_of_mem _ hw)
  have hown : s.vm.findClass "CoatsFitTheMood$Tape" = some m.cls := findClass_of_methodNamed B.named
  have hlocks := B.notSynchronized
  have hin : meth.name = "<init>" := (name_of_methodNamed B.named B.method).1
  subst hsz
  have hD := hD0.self (sz := s.heap.size)
  generalize hAe : va_A [(h0, .inr (5, [.null, .null, .null, .null, .int 0, .int 0, .int 0]))] s.heap.size = A at hD ⊢
  have hA : ∀ q : Nat, s.heap.size ≤ q → A q := fun q h => by rw [← hAe]; exact Or.inr h
  have hw : ct_W D A s [(h0, .inr (5, [.null, .null, .null, .null, .int 0, .int 0, .int 0]))] s.heap [] := ⟨hP, hD, va_S.rf⟩
  have C0 : ct_At p s m _ c "CoatsFitTheMood$Tape" prog_7_method_1_code 1 D dA := ⟨hx, hb, hml, hown, hg, hK⟩
  have hl := lv_entry ([.ref h0]) (n := 1) (Nat.le_of_ble_eq_true rfl)
  rw [lg_entry_eq]
  generalize (lg_sl ([.ref h0]) ++ List.replicate (1 - (lg_sl ([.ref h0])).length) Slot.unset).toArray = ls at hl ⊢
  have hl : lv_has ls 1 [(0, .ref h0)] := hl
  refine lv_aload_n hx hb de_Tape_init_0 rfl (lv_at hl 0 rfl) ?_
  refine ct_obj C0 jl_Tape_3 hl.1 (Nat.le_of_ble_eq_true rfl) (Nat.le_of_ble_eq_true rfl) de_Tape_init_1 ?_
  refine lv_aload_n hx hb de_Tape_init_4 rfl (lv_at hl 0 rfl) ?_
  refine lv_sipush (v := 160) hx hb de_Tape_init_5 (by decide) ?_
  refine ct_newI (N := 160) C0 hA hw (by decide) (by decide) (by decide) (Nat.le_of_ble_eq_true rfl) (Nat.le_of_ble_eq_true rfl) de_Tape_init_8 (fun q1 H hw => ?_)
  have hw : ct_W D A s [(h0, .inr (5, [.null, .null, .null, .null, .int 0, .int 0, .int 0])), (q1, .inl (dA 0, 160, .inl (fun _ => 0)))] H [] := hw
  refine ct_putF (ci := 5) C0 hw hin 0 rfl rfl 0 (by decide) jf_Tape_9 rfl rfl (ab_cl_tt (c := 5) rfl 0 (by decide)) rfl rfl (Nat.le_of_ble_eq_true rfl) de_Tape_init_10 (fun H locs hw => ?_)
  have hw : ct_W D A s [(h0, .inr (5, [.ref q1, .null, .null, .null, .int 0, .int 0, .int 0])), (q1, .inl (dA 0, 160, .inl (fun _ => 0)))] H locs := hw
  refine lv_aload_n hx hb de_Tape_init_13 rfl (lv_at hl 0 rfl) ?_
  refine lv_sipush (v := 161) hx hb de_Tape_init_14 (by decide) ?_
  refine ct_newI (N := 161) C0 hA hw (by decide) (by decide) (by decide) (Nat.le_of_ble_eq_true rfl) (Nat.le_of_ble_eq_true rfl) de_Tape_init_17 (fun q2 H hw => ?_)
  have hw : ct_W D A s [(h0, .inr (5, [.ref q1, .null, .null, .null, .int 0, .int 0, .int 0])), (q1, .inl (dA 0, 160, .inl (fun _ => 0))), (q2, .inl (dA 0, 161, .inl (fun _ => 0)))] H locs := hw
  refine ct_putF (ci := 5) C0 hw hin 0 rfl rfl 1 (by decide) jf_Tape_15 rfl rfl (ab_cl_tt (c := 5) rfl 1 (by decide)) rfl rfl (Nat.le_of_ble_eq_true rfl) de_Tape_init_19 (fun H locs hw => ?_)
  have hw : ct_W D A s [(h0, .inr (5, [.ref q1, .ref q2, .null, .null, .int 0, .int 0, .int 0])), (q1, .inl (dA 0, 160, .inl (fun _ => 0))), (q2, .inl (dA 0, 161, .inl (fun _ => 0)))] H locs := hw
  refine lv_aload_n hx hb de_Tape_init_22 rfl (lv_at hl 0 rfl) ?_
  refine lv_sipush (v := 161) hx hb de_Tape_init_23 (by decide) ?_
  refine ct_newI (N := 161) C0 hA hw (by decide) (by decide) (by decide) (Nat.le_of_ble_eq_true rfl) (Nat.le_of_ble_eq_true rfl) de_Tape_init_26 (fun q3 H hw => ?_)
  have hw : ct_W D A s [(h0, .inr (5, [.ref q1, .ref q2, .null, .null, .int 0, .int 0, .int 0])), (q1, .inl (dA 0, 160, .inl (fun _ => 0))), (q2, .inl (dA 0, 161, .inl (fun _ => 0))), (q3, .inl (dA 0, 161, .inl (fun _ => 0)))] H locs := hw
  refine ct_putF (ci := 5) C0 hw hin 0 rfl rfl 2 (by decide) jf_Tape_18 rfl rfl (ab_cl_tt (c := 5) rfl 2 (by decide)) rfl rfl (Nat.le_of_ble_eq_true rfl) de_Tape_init_28 (fun H locs hw => ?_)
  have hw : ct_W D A s [(h0, .inr (5, [.ref q1, .ref q2, .ref q3, .null, .int 0, .int 0, .int 0])), (q1, .inl (dA 0, 160, .inl (fun _ => 0))), (q2, .inl (dA 0, 161, .inl (fun _ => 0))), (q3, .inl (dA 0, 161, .inl (fun _ => 0)))] H locs := hw
  refine lv_aload_n hx hb de_Tape_init_31 rfl (lv_at hl 0 rfl) ?_
  refine lv_sipush (v := 161) hx hb de_Tape_init_32 (by decide) ?_
  refine ct_newI (N := 161) C0 hA hw (by decide) (by decide) (by decide) (Nat.le_of_ble_eq_true rfl) (Nat.le_of_ble_eq_true rfl) de_Tape_init_35 (fun q4 H hw => ?_)
  have hw : ct_W D A s [(h0, .inr (5, [.ref q1, .ref q2, .ref q3, .null, .int 0, .int 0, .int 0])), (q1, .inl (dA 0, 160, .inl (fun _ => 0))), (q2, .inl (dA 0, 161, .inl (fun _ => 0))), (q3, .inl (dA 0, 161, .inl (fun _ => 0))), (q4, .inl (dA 0, 161, .inl (fun _ => 0)))] H locs := hw
  refine ct_putF (ci := 5) C0 hw hin 0 rfl rfl 3 (by decide) jf_Tape_21 rfl rfl (ab_cl_tt (c := 5) rfl 3 (by decide)) rfl rfl (Nat.le_of_ble_eq_true rfl) de_Tape_init_37 (fun H locs hw => ?_)
  have hw : ct_W D A s [(h0, .inr (5, [.ref q1, .ref q2, .ref q3, .ref q4, .int 0, .int 0, .int 0])), (q1, .inl (dA 0, 160, .inl (fun _ => 0))), (q2, .inl (dA 0, 161, .inl (fun _ => 0))), (q3, .inl (dA 0, 161, .inl (fun _ => 0))), (q4, .inl (dA 0, 161, .inl (fun _ => 0)))] H locs := hw
  refine W.widen (k := 4) (n := 643) (Nat.le_of_ble_eq_true rfl) (Nat.le_of_ble_eq_true rfl) ?_
  exact W.vret hx hb hr (fun t ht hW => ⟨⟨_, rfl, ⟨q1, q2, q3, q4, rfl⟩, by rw [ht]; exact hw.1, hw.2.1⟩, hw.2.2.F ht⟩) hw.2.2.2.2 de_Tape_init_40
set_option maxHeartbeats 4000000 in
set_option maxRecDepth 100000 in
/-- cc_Text -/
theorem cc_Text (l : Launch) (D : va_G) (dA : Nat → ClassId) (h0 : Nat) : ct_Met l D dA ⟨"CoatsFitTheMood$Text", "<init>", "()V"⟩ prog_8_method_1_code 1 1 12 3 203 [.ref h0] [(h0, .inr (6, [.null, .null, .null, .int 0, .int 0]))] (fun _ => True) (fun w1 => ∃ q1 q2 q3 : Nat, w1 = [(h0, .inr (6, [.ref q1, .ref q2, .ref q3, .int 0, .int 0])), (q1, .inl (dA 0, 160, .inl (fun _ => 0))), (q2, .inl (dA 0, 3, .inl (fun _ => 0))), (q3, .inl (dA 0, 40, .inl (fun _ => 0)))]) := by
  intro sz
  refine Met.ofW (cc := prog_8_method_1_code) (maxL := 1) (ret := none) (by decide) rfl ?_
  intro p e s m args below meth c s₁ B hml hv
  obtain ⟨rfl, hsz, hP, hK, hD0, hE⟩ := hv
  have hx := B.exec
  have hb := B.bytes
  have hr := B.returns
  have hts := atoms_spec (ws := jd_ws ⟨"CoatsFitTheMood$Text", "<init>", "()V"⟩ prog_8_method_1_code 1 none) B.pre
  have hg : ∀ w ∈ lw_good, w.before _ s = true := fun w hw => hts w (List.mem_cons_of_mem _ hw)
  have hown : s.vm.findClass "CoatsFitTheMood$Text" = some m.cls := findClass_of_methodNamed B.named
  have hlocks := B.notSynchronized
  have hin : meth.name = "<init>" := (name_of_methodNamed B.named B.method).1
  subst hsz
  have hD := hD0.self (sz := s.heap.size)
  generalize hAe : va_A [(h0, .inr (6, [.null, .null, .null, .int 0, .int 0]))] s.heap.size = A at hD ⊢
  have hA : ∀ q : Nat, s.heap.size ≤ q → A q := fun q h => by rw [← hAe]; exact Or.inr h
  have hw : ct_W D A s [(h0, .inr (6, [.null, .null, .null, .int 0, .int 0]))] s.heap [] := ⟨hP, hD, va_S.rf⟩
  have C0 : ct_At p s m _ c "CoatsFitTheMood$Text" prog_8_method_1_code 1 D dA := ⟨hx, hb, hml, hown, hg, hK⟩
  have hl := lv_entry ([.ref h0]) (n := 1) (Nat.le_of_ble_eq_true rfl)
  rw [lg_entry_eq]
  generalize (lg_sl ([.ref h0]) ++ List.replicate (1 - (lg_sl ([.ref h0])).length) Slot.unset).toArray = ls at hl ⊢
  have hl : lv_has ls 1 [(0, .ref h0)] := hl
  refine lv_aload_n hx hb de_Text_init_0 rfl (lv_at hl 0 rfl) ?_
  refine ct_obj C0 jl_Text_3 hl.1 (Nat.le_of_ble_eq_true rfl) (Nat.le_of_ble_eq_true rfl) de_Text_init_1 ?_
  refine lv_aload_n hx hb de_Text_init_4 rfl (lv_at hl 0 rfl) ?_
  refine lv_sipush (v := 160) hx hb de_Text_init_5 (by decide) ?_
  refine ct_newI (N := 160) C0 hA hw (by decide) (by decide) (by decide) (Nat.le_of_ble_eq_true rfl) (Nat.le_of_ble_eq_true rfl) de_Text_init_8 (fun q1 H hw => ?_)
  have hw : ct_W D A s [(h0, .inr (6, [.null, .null, .null, .int 0, .int 0])), (q1, .inl (dA 0, 160, .inl (fun _ => 0)))] H [] := hw
  refine ct_putF (ci := 6) C0 hw hin 0 rfl rfl 0 (by decide) jf_Text_9 rfl rfl (ab_cl_tt (c := 6) rfl 0 (by decide)) rfl rfl (Nat.le_of_ble_eq_true rfl) de_Text_init_10 (fun H locs hw => ?_)
  have hw : ct_W D A s [(h0, .inr (6, [.ref q1, .null, .null, .int 0, .int 0])), (q1, .inl (dA 0, 160, .inl (fun _ => 0)))] H locs := hw
  refine lv_aload_n hx hb de_Text_init_13 rfl (lv_at hl 0 rfl) ?_
  refine lv_iconst (v := 3) hx hb de_Text_init_14 (by decide) ?_
  refine ct_newI (N := 3) C0 hA hw (by decide) (by decide) (by decide) (Nat.le_of_ble_eq_true rfl) (Nat.le_of_ble_eq_true rfl) de_Text_init_15 (fun q2 H hw => ?_)
  have hw : ct_W D A s [(h0, .inr (6, [.ref q1, .null, .null, .int 0, .int 0])), (q1, .inl (dA 0, 160, .inl (fun _ => 0))), (q2, .inl (dA 0, 3, .inl (fun _ => 0)))] H locs := hw
  refine ct_putF (ci := 6) C0 hw hin 0 rfl rfl 1 (by decide) jf_Text_15 rfl rfl (ab_cl_tt (c := 6) rfl 1 (by decide)) rfl rfl (Nat.le_of_ble_eq_true rfl) de_Text_init_17 (fun H locs hw => ?_)
  have hw : ct_W D A s [(h0, .inr (6, [.ref q1, .ref q2, .null, .int 0, .int 0])), (q1, .inl (dA 0, 160, .inl (fun _ => 0))), (q2, .inl (dA 0, 3, .inl (fun _ => 0)))] H locs := hw
  refine lv_aload_n hx hb de_Text_init_20 rfl (lv_at hl 0 rfl) ?_
  refine lv_bipush (v := 40) hx hb de_Text_init_21 (by decide) ?_
  refine ct_newI (N := 40) C0 hA hw (by decide) (by decide) (by decide) (Nat.le_of_ble_eq_true rfl) (Nat.le_of_ble_eq_true rfl) de_Text_init_23 (fun q3 H hw => ?_)
  have hw : ct_W D A s [(h0, .inr (6, [.ref q1, .ref q2, .null, .int 0, .int 0])), (q1, .inl (dA 0, 160, .inl (fun _ => 0))), (q2, .inl (dA 0, 3, .inl (fun _ => 0))), (q3, .inl (dA 0, 40, .inl (fun _ => 0)))] H locs := hw
  refine ct_putF (ci := 6) C0 hw hin 0 rfl rfl 2 (by decide) jf_Text_18 rfl rfl (ab_cl_tt (c := 6) rfl 2 (by decide)) rfl rfl (Nat.le_of_ble_eq_true rfl) de_Text_init_25 (fun H locs hw => ?_)
  have hw : ct_W D A s [(h0, .inr (6, [.ref q1, .ref q2, .ref q3, .int 0, .int 0])), (q1, .inl (dA 0, 160, .inl (fun _ => 0))), (q2, .inl (dA 0, 3, .inl (fun _ => 0))), (q3, .inl (dA 0, 40, .inl (fun _ => 0)))] H locs := hw
  refine W.widen (k := 3) (n := 203) (Nat.le_of_ble_eq_true rfl) (Nat.le_of_ble_eq_true rfl) ?_
  exact W.vret hx hb hr (fun t ht hW => ⟨⟨_, rfl, ⟨q1, q2, q3, rfl⟩, by rw [ht]; exact hw.1, hw.2.1⟩, hw.2.2.F ht⟩) hw.2.2.2.2 de_Text_init_28
set_option maxHeartbeats 4000000 in
set_option maxRecDepth 100000 in
/-- cc_Reader -/
theorem cc_Reader (l : Launch) (D : va_G) (dA : Nat → ClassId) (h0 t0 : Nat) : ct_Met l D dA ⟨"CoatsFitTheMood$Reader", "<init>", "(LCoatsFitTheMood$Tape;)V"⟩ prog_5_method_1_code 2 1 12 0 0 [.ref h0, .ref t0] [(h0, .inr (3, [.null, .int 0]))] (fun _ => True) (fun w1 => w1 = [(h0, .inr (3, [.ref t0, .int 0]))]) := by
  intro sz
  refine Met.ofW (cc := prog_5_method_1_code) (maxL := 2) (ret := none) (by decide) rfl ?_
  intro p e s m args below meth c s₁ B hml hv
  obtain ⟨rfl, hsz, hP, hK, hD0, hE⟩ := hv
  have hx := B.exec
  have hb := B.bytes
  have hr := B.returns
  have hts := atoms_spec (ws := jd_ws ⟨"CoatsFitTheMood$Reader", "<init>", "(LCoatsFitTheMood$Tape;)V"⟩ prog_5_method_1_code 2 none) B.pre
  have hg : ∀ w ∈ lw_good, w.before _ s = true := fun w hw => hts w (List.mem_cons_of_mem _ hw)
  have hown : s.vm.findClass "CoatsFitTheMood$Reader" = some m.cls := findClass_of_methodNamed B.named
  have hlocks := B.notSynchronized
  have hin : meth.name = "<init>" := (name_of_methodNamed B.named B.method).1
  subst hsz
  have hD := hD0.self (sz := s.heap.size)
  generalize hAe : va_A [(h0, .inr (3, [.null, .int 0]))] s.heap.size = A at hD ⊢
  have hA : ∀ q : Nat, s.heap.size ≤ q → A q := fun q h => by rw [← hAe]; exact Or.inr h
  have hw : ct_W D A s [(h0, .inr (3, [.null, .int 0]))] s.heap [] := ⟨hP, hD, va_S.rf⟩
  have C0 : ct_At p s m _ c "CoatsFitTheMood$Reader" prog_5_method_1_code 2 D dA := ⟨hx, hb, hml, hown, hg, hK⟩
  have hl := lv_entry ([.ref h0, .ref t0]) (n := 2) (Nat.le_of_ble_eq_true rfl)
  rw [lg_entry_eq]
  generalize (lg_sl ([.ref h0, .ref t0]) ++ List.replicate (2 - (lg_sl ([.ref h0, .ref t0])).length) Slot.unset).toArray = ls at hl ⊢
  have hl : lv_has ls 2 [(0, .ref h0), (1, .ref t0)] := hl
  refine lv_aload_n hx hb de_Reader_init_0 rfl (lv_at hl 0 rfl) ?_
  refine ct_obj C0 jl_Reader_3 hl.1 (Nat.le_of_ble_eq_true rfl) (Nat.le_of_ble_eq_true rfl) de_Reader_init_1 ?_
  refine lv_aload_n hx hb de_Reader_init_4 rfl (lv_at hl 0 rfl) ?_
  refine lv_aload_n hx hb de_Reader_init_5 rfl (lv_at hl 1 rfl) ?_
  refine ct_putF (ci := 3) C0 hw hin 0 rfl rfl 0 (by decide) jf_Reader_9 rfl rfl (ab_cl_tt (c := 3) rfl 0 (by decide)) rfl rfl (Nat.le_of_ble_eq_true rfl) de_Reader_init_6 (fun H locs hw => ?_)
  have hw : ct_W D A s [(h0, .inr (3, [.ref t0, .int 0]))] H locs := hw
  refine W.widen (k := 0) (n := 0) (Nat.le_of_ble_eq_true rfl) (Nat.le_of_ble_eq_true rfl) ?_
  exact W.vret hx hb hr (fun t ht hW => ⟨⟨_, rfl, rfl, by rw [ht]; exact hw.1, hw.2.1⟩, hw.2.2.F ht⟩) hw.2.2.2.2 de_Reader_init_9
set_option maxHeartbeats 4000000 in
set_option maxRecDepth 100000 in
/-- cc_Image -/
theorem cc_Image (l : Launch) (D : va_G) (dA : Nat → ClassId) (h0 : Nat) : ct_Met l D dA ⟨"CoatsFitTheMood$Image", "<init>", "()V"⟩ prog_4_method_1_code 2 2 32 10 112 [.ref h0] [(h0, .inr (2, [.null, .null, .int 0, .int 0]))] (fun _ => True) (fun w1 => ∃ q1 q2 q3 q4 q5 q6 q7 q8 q9 q10 : Nat, w1 = [(h0, .inr (2, [.ref q1, .ref q2, .int (-1), .int 0])), (q1, .inl (dA 0, 72, .inl (fun _ => 0))), (q2, .inl (dA 2, 8, .inr (.inr (.inr (.inr (va_up (va_up (va_up (va_up (va_up (va_up (va_up (va_up (fun _ => none) 0 (some q3)) 1 (some q4)) 2 (some q5)) 3 (some q6)) 4 (some q7)) 5 (some q8)) 6 (some q9)) 7 (some q10))))))), (q3, .inr (0, [.int 0, .int 0, .int 0, .int 0])), (q4, .inr (0, [.int 0, .int 0, .int 0, .int 0])), (q5, .inr (0, [.int 0, .int 0, .int 0, .int 0])), (q6, .inr (0, [.int 0, .int 0, .int 0, .int 0])), (q7, .inr (0, [.int 0, .int 0, .int 0, .int 0])), (q8, .inr (0, [.int 0, .int 0, .int 0, .int 0])), (q9, .inr (0, [.int 0, .int 0, .int 0, .int 0])), (q10, .inr (0, [.int 0, .int 0, .int 0, .int 0]))]) := by
  intro sz
  refine Met.ofW (cc := prog_4_method_1_code) (maxL := 2) (ret := none) (by decide) rfl ?_
  intro p e s m args below meth c s₁ B hml hv
  obtain ⟨rfl, hsz, hP, hK, hD0, hE⟩ := hv
  have hx := B.exec
  have hb := B.bytes
  have hr := B.returns
  have hts := atoms_spec (ws := jd_ws ⟨"CoatsFitTheMood$Image", "<init>", "()V"⟩ prog_4_method_1_code 2 none) B.pre
  have hg : ∀ w ∈ lw_good, w.before _ s = true := fun w hw => hts w (List.mem_cons_of_mem _ hw)
  have hown : s.vm.findClass "CoatsFitTheMood$Image" = some m.cls := findClass_of_methodNamed B.named
  have hlocks := B.notSynchronized
  have hin : meth.name = "<init>" := (name_of_methodNamed B.named B.method).1
  subst hsz
  have hD := hD0.self (sz := s.heap.size)
  generalize hAe : va_A [(h0, .inr (2, [.null, .null, .int 0, .int 0]))] s.heap.size = A at hD ⊢
  have hA : ∀ q : Nat, s.heap.size ≤ q → A q := fun q h => by rw [← hAe]; exact Or.inr h
  have hw : ct_W D A s [(h0, .inr (2, [.null, .null, .int 0, .int 0]))] s.heap [] := ⟨hP, hD, va_S.rf⟩
  have C0 : ct_At p s m _ c "CoatsFitTheMood$Image" prog_4_method_1_code 2 D dA := ⟨hx, hb, hml, hown, hg, hK⟩
  have hl := lv_entry ([.ref h0]) (n := 2) (Nat.le_of_ble_eq_true rfl)
  rw [lg_entry_eq]
  generalize (lg_sl ([.ref h0]) ++ List.replicate (2 - (lg_sl ([.ref h0])).length) Slot.unset).toArray = ls at hl ⊢
  have hl : lv_has ls 2 [(0, .ref h0)] := hl
  refine lv_aload_n hx hb de_Image_init_0 rfl (lv_at hl 0 rfl) ?_
  refine ct_obj C0 jl_Image_3 hl.1 (Nat.le_of_ble_eq_true rfl) (Nat.le_of_ble_eq_true rfl) de_Image_init_1 ?_
  refine lv_aload_n hx hb de_Image_init_4 rfl (lv_at hl 0 rfl) ?_
  refine lv_bipush (v := 72) hx hb de_Image_init_5 (by decide) ?_
  refine ct_newI (N := 72) C0 hA hw (by decide) (by decide) (by decide) (Nat.le_of_ble_eq_true rfl) (Nat.le_of_ble_eq_true rfl) de_Image_init_7 (fun q1 H hw => ?_)
  have hw : ct_W D A s [(h0, .inr (2, [.null, .null, .int 0, .int 0])), (q1, .inl (dA 0, 72, .inl (fun _ => 0)))] H [] := hw
  refine ct_putF (ci := 2) C0 hw hin 0 rfl rfl 0 (by decide) jf_Image_9 rfl rfl (ab_cl_tt (c := 2) rfl 0 (by decide)) rfl rfl (Nat.le_of_ble_eq_true rfl) de_Image_init_9 (fun H locs hw => ?_)
  have hw : ct_W D A s [(h0, .inr (2, [.ref q1, .null, .int 0, .int 0])), (q1, .inl (dA 0, 72, .inl (fun _ => 0)))] H locs := hw
  refine lv_aload_n hx hb de_Image_init_12 rfl (lv_at hl 0 rfl) ?_
  refine lv_bipush (v := 8) hx hb de_Image_init_13 (by decide) ?_
  refine ct_newQ (N := 8) C0 hA hw 2 rfl hK.2.2.1 jc_Image_15 (by decide) (by decide) (by decide) (Nat.le_of_ble_eq_true rfl) (Nat.le_of_ble_eq_true rfl) de_Image_init_15 (fun q2 H hw => ?_)
  have hw : ct_W D A s [(h0, .inr (2, [.ref q1, .null, .int 0, .int 0])), (q1, .inl (dA 0, 72, .inl (fun _ => 0))), (q2, .inl (dA 2, 8, .inr (.inr (.inr (.inr (fun _ => none))))))] H locs := hw
  refine ct_putF (ci := 2) C0 hw hin 0 rfl rfl 1 (by decide) jf_Image_17 rfl rfl (ab_cl_tt (c := 2) rfl 1 (by decide)) rfl rfl (Nat.le_of_ble_eq_true rfl) de_Image_init_18 (fun H locs hw => ?_)
  have hw : ct_W D A s [(h0, .inr (2, [.ref q1, .ref q2, .int 0, .int 0])), (q1, .inl (dA 0, 72, .inl (fun _ => 0))), (q2, .inl (dA 2, 8, .inr (.inr (.inr (.inr (fun _ => none))))))] H locs := hw
  refine lv_aload_n hx hb de_Image_init_21 rfl (lv_at hl 0 rfl) ?_
  refine lv_iconst (v := (-1)) hx hb de_Image_init_22 (by decide) ?_
  refine ct_put (ci := 2) C0 hw 0 rfl rfl 2 (by decide) jf_Image_21 rfl (ab_cl_tt (c := 2) rfl 2 (by decide)) rfl rfl (Nat.le_of_ble_eq_true rfl) de_Image_init_23 (fun H locs hw => ?_)
  have hw : ct_W D A s [(h0, .inr (2, [.ref q1, .ref q2, .int (-1), .int 0])), (q1, .inl (dA 0, 72, .inl (fun _ => 0))), (q2, .inl (dA 2, 8, .inr (.inr (.inr (.inr (fun _ => none))))))] H locs := hw
  refine lv_aload_n hx hb de_Image_init_26 rfl (lv_at hl 0 rfl) ?_
  refine lv_iconst (v := 0) hx hb de_Image_init_27 (by decide) ?_
  refine ct_put (ci := 2) C0 hw 0 rfl rfl 3 (by decide) jf_Image_25 rfl (ab_cl_tt (c := 2) rfl 3 (by decide)) rfl rfl (Nat.le_of_ble_eq_true rfl) de_Image_init_28 (fun H locs hw => ?_)
  have hw : ct_W D A s [(h0, .inr (2, [.ref q1, .ref q2, .int (-1), .int 0])), (q1, .inl (dA 0, 72, .inl (fun _ => 0))), (q2, .inl (dA 2, 8, .inr (.inr (.inr (.inr (fun _ => none))))))] H locs := hw
  refine lv_iconst (v := 0) hx hb de_Image_init_31 (by decide) ?_
  refine lv_istore_n (lv' := [(1, .int 0), (0, .ref h0)]) hx hb de_Image_init_32 rfl hl (by decide) rfl (fun ls hl => ?_)
  refine lv_iload_n hx hb de_Image_init_33 rfl (lv_at hl 0 rfl) ?_
  refine lv_bipush (v := 8) hx hb de_Image_init_34 (by decide) ?_
  refine lv_icmp_ge (tgt := 58) hx hb de_Image_init_36 (by decide) (fun q => absurd q (by decide)) (fun _ => ?_)
  refine lv_aload_n hx hb de_Image_init_39 rfl (lv_at hl 1 rfl) ?_
  refine ct_get (ci := 2) C0 hw 0 rfl rfl 1 (by decide) jf_Image_17 rfl de_Image_init_40 ?_
  refine lv_iload_n hx hb de_Image_init_43 rfl (lv_at hl 0 rfl) ?_
  refine ct_new (ci := 0) (fs := [.int 0, .int 0, .int 0, .int 0]) C0 hA hw rfl df_0 jc_Image_15 jt_Coat jz_Coat (Nat.le_of_ble_eq_true rfl) (Nat.le_of_ble_eq_true rfl) de_Image_init_44 (fun q3 H hw => ?_)
  have hw : ct_W D A s [(h0, .inr (2, [.ref q1, .ref q2, .int (-1), .int 0])), (q1, .inl (dA 0, 72, .inl (fun _ => 0))), (q2, .inl (dA 2, 8, .inr (.inr (.inr (.inr (fun _ => none)))))), (q3, .inr (0, [.int 0, .int 0, .int 0, .int 0]))] H locs := hw
  refine lv_dup hx hb de_Image_init_47 rfl ?_
  refine ct_callIN (wr := [(h0, .inr (2, [.ref q1, .ref q2, .int (-1), .int 0])), (q1, .inl (dA 0, 72, .inl (fun _ => 0))), (q2, .inl (dA 2, 8, .inr (.inr (.inr (.inr (fun _ => none))))))]) (wc := [(q3, .inr (0, [.int 0, .int 0, .int 0, .int 0]))]) (av := []) (rest := [.ref q3, .int 0, .ref q2]) C0 hA hw (cc_Coat l D dA q3) rfl jk_Coat_init jz_Coat hK.2.1.2.1 ji_Coat_init ⟨by decide, by decide, show _ = some 0 by decide +kernel⟩ ⟨(Nat.le_of_ble_eq_true rfl), (Nat.le_of_ble_eq_true rfl)⟩ (fun _ _ _ => trivial) (fun _ _ _ _ _ => trivial) hl.1 (Nat.le_of_ble_eq_true rfl) ⟨(Nat.le_of_ble_eq_true rfl), (Nat.le_of_ble_eq_true rfl)⟩ de_Image_init_48 (fun w1 H locs hp hw => ?_)
  subst hp
  have hw : ct_W D A s [(h0, .inr (2, [.ref q1, .ref q2, .int (-1), .int 0])), (q1, .inl (dA 0, 72, .inl (fun _ => 0))), (q2, .inl (dA 2, 8, .inr (.inr (.inr (.inr (fun _ => none)))))), (q3, .inr (0, [.int 0, .int 0, .int 0, .int 0]))] H locs := hw
  refine ct_aast C0 hw 2 2 3 rfl rfl rfl rfl (by unfold vp_in; decide) de_Image_init_51 (fun H locs hw => ?_)
  have hw : ct_W D A s [(h0, .inr (2, [.ref q1, .ref q2, .int (-1), .int 0])), (q1, .inl (dA 0, 72, .inl (fun _ => 0))), (q2, .inl (dA 2, 8, .inr (.inr (.inr (.inr (va_up (fun _ => none) 0 (some q3))))))), (q3, .inr (0, [.int 0, .int 0, .int 0, .int 0]))] H locs := hw
  refine lv_iinc (v := 1) (lv' := [(1, .int 1), (0, .ref h0)]) hx hb de_Image_init_52 hl (k := 0) rfl (by decide) (by decide) rfl (fun ls hl => ?_)
  refine lv_goto (tgt := 33) hx hb de_Image_init_55 (by decide) ?_
  refine lv_iload_n hx hb de_Image_init_33 rfl (lv_at hl 0 rfl) ?_
  refine lv_bipush (v := 8) hx hb de_Image_init_34 (by decide) ?_
  refine lv_icmp_ge (tgt := 58) hx hb de_Image_init_36 (by decide) (fun q => absurd q (by decide)) (fun _ => ?_)
  refine lv_aload_n hx hb de_Image_init_39 rfl (lv_at hl 1 rfl) ?_
  refine ct_get (ci := 2) C0 hw 0 rfl rfl 1 (by decide) jf_Image_17 rfl de_Image_init_40 ?_
  refine lv_iload_n hx hb de_Image_init_43 rfl (lv_at hl 0 rfl) ?_
  refine ct_new (ci := 0) (fs := [.int 0, .int 0, .int 0, .int 0]) C0 hA hw rfl df_0 jc_Image_15 jt_Coat jz_Coat (Nat.le_of_ble_eq_true rfl) (Nat.le_of_ble_eq_true rfl) de_Image_init_44 (fun q4 H hw => ?_)
  have hw : ct_W D A s [(h0, .inr (2, [.ref q1, .ref q2, .int (-1), .int 0])), (q1, .inl (dA 0, 72, .inl (fun _ => 0))), (q2, .inl (dA 2, 8, .inr (.inr (.inr (.inr (va_up (fun _ => none) 0 (some q3))))))), (q3, .inr (0, [.int 0, .int 0, .int 0, .int 0])), (q4, .inr (0, [.int 0, .int 0, .int 0, .int 0]))] H locs := hw
  refine lv_dup hx hb de_Image_init_47 rfl ?_
  refine ct_callIN (wr := [(h0, .inr (2, [.ref q1, .ref q2, .int (-1), .int 0])), (q1, .inl (dA 0, 72, .inl (fun _ => 0))), (q2, .inl (dA 2, 8, .inr (.inr (.inr (.inr (va_up (fun _ => none) 0 (some q3))))))), (q3, .inr (0, [.int 0, .int 0, .int 0, .int 0]))]) (wc := [(q4, .inr (0, [.int 0, .int 0, .int 0, .int 0]))]) (av := []) (rest := [.ref q4, .int 1, .ref q2]) C0 hA hw (cc_Coat l D dA q4) rfl jk_Coat_init jz_Coat hK.2.1.2.1 ji_Coat_init ⟨by decide, by decide, show _ = some 0 by decide +kernel⟩ ⟨(Nat.le_of_ble_eq_true rfl), (Nat.le_of_ble_eq_true rfl)⟩ (fun _ _ _ => trivial) (fun _ _ _ _ _ => trivial) hl.1 (Nat.le_of_ble_eq_true rfl) ⟨(Nat.le_of_ble_eq_true rfl), (Nat.le_of_ble_eq_true rfl)⟩ de_Image_init_48 (fun w1 H locs hp hw => ?_)
  subst hp
  have hw : ct_W D A s [(h0, .inr (2, [.ref q1, .ref q2, .int (-1), .int 0])), (q1, .inl (dA 0, 72, .inl (fun _ => 0))), (q2, .inl (dA 2, 8, .inr (.inr (.inr (.inr (va_up (fun _ => none) 0 (some q3))))))), (q3, .inr (0, [.int 0, .int 0, .int 0, .int 0])), (q4, .inr (0, [.int 0, .int 0, .int 0, .int 0]))] H locs := hw
  refine ct_aast C0 hw 2 2 4 rfl rfl rfl rfl (by unfold vp_in; decide) de_Image_init_51 (fun H locs hw => ?_)
  have hw : ct_W D A s [(h0, .inr (2, [.ref q1, .ref q2, .int (-1), .int 0])), (q1, .inl (dA 0, 72, .inl (fun _ => 0))), (q2, .inl (dA 2, 8, .inr (.inr (.inr (.inr (va_up (va_up (fun _ => none) 0 (some q3)) 1 (some q4))))))), (q3, .inr (0, [.int 0, .int 0, .int 0, .int 0])), (q4, .inr (0, [.int 0, .int 0, .int 0, .int 0]))] H locs := hw
  refine lv_iinc (v := 2) (lv' := [(1, .int 2), (0, .ref h0)]) hx hb de_Image_init_52 hl (k := 0) rfl (by decide) (by decide) rfl (fun ls hl => ?_)
  refine lv_goto (tgt := 33) hx hb de_Image_init_55 (by decide) ?_
  refine lv_iload_n hx hb de_Image_init_33 rfl (lv_at hl 0 rfl) ?_
  refine lv_bipush (v := 8) hx hb de_Image_init_34 (by decide) ?_
  refine lv_icmp_ge (tgt := 58) hx hb de_Image_init_36 (by decide) (fun q => absurd q (by decide)) (fun _ => ?_)
  refine lv_aload_n hx hb de_Image_init_39 rfl (lv_at hl 1 rfl) ?_
  refine ct_get (ci := 2) C0 hw 0 rfl rfl 1 (by decide) jf_Image_17 rfl de_Image_init_40 ?_
  refine lv_iload_n hx hb de_Image_init_43 rfl (lv_at hl 0 rfl) ?_
  refine ct_new (ci := 0) (fs := [.int 0, .int 0, .int 0, .int 0]) C0 hA hw rfl df_0 jc_Image_15 jt_Coat jz_Coat (Nat.le_of_ble_eq_true rfl) (Nat.le_of_ble_eq_true rfl) de_Image_init_44 (fun q5 H hw => ?_)
  have hw : ct_W D A s [(h0, .inr (2, [.ref q1, .ref q2, .int (-1), .int 0])), (q1, .inl (dA 0, 72, .inl (fun _ => 0))), (q2, .inl (dA 2, 8, .inr (.inr (.inr (.inr (va_up (va_up (fun _ => none) 0 (some q3)) 1 (some q4))))))), (q3, .inr (0, [.int 0, .int 0, .int 0, .int 0])), (q4, .inr (0, [.int 0, .int 0, .int 0, .int 0])), (q5, .inr (0, [.int 0, .int 0, .int 0, .int 0]))] H locs := hw
  refine lv_dup hx hb de_Image_init_47 rfl ?_
  refine ct_callIN (wr := [(h0, .inr (2, [.ref q1, .ref q2, .int (-1), .int 0])), (q1, .inl (dA 0, 72, .inl (fun _ => 0))), (q2, .inl (dA 2, 8, .inr (.inr (.inr (.inr (va_up (va_up (fun _ => none) 0 (some q3)) 1 (some q4))))))), (q3, .inr (0, [.int 0, .int 0, .int 0, .int 0])), (q4, .inr (0, [.int 0, .int 0, .int 0, .int 0]))]) (wc := [(q5, .inr (0, [.int 0, .int 0, .int 0, .int 0]))]) (av := []) (rest := [.ref q5, .int 2, .ref q2]) C0 hA hw (cc_Coat l D dA q5) rfl jk_Coat_init jz_Coat hK.2.1.2.1 ji_Coat_init ⟨by decide, by decide, show _ = some 0 by decide +kernel⟩ ⟨(Nat.le_of_ble_eq_true rfl), (Nat.le_of_ble_eq_true rfl)⟩ (fun _ _ _ => trivial) (fun _ _ _ _ _ => trivial) hl.1 (Nat.le_of_ble_eq_true rfl) ⟨(Nat.le_of_ble_eq_true rfl), (Nat.le_of_ble_eq_true rfl)⟩ de_Image_init_48 (fun w1 H locs hp hw => ?_)
  subst hp
  have hw : ct_W D A s [(h0, .inr (2, [.ref q1, .ref q2, .int (-1), .int 0])), (q1, .inl (dA 0, 72, .inl (fun _ => 0))), (q2, .inl (dA 2, 8, .inr (.inr (.inr (.inr (va_up (va_up (fun _ => none) 0 (some q3)) 1 (some q4))))))), (q3, .inr (0, [.int 0, .int 0, .int 0, .int 0])), (q4, .inr (0, [.int 0, .int 0, .int 0, .int 0])), (q5, .inr (0, [.int 0, .int 0, .int 0, .int 0]))] H locs := hw
  refine ct_aast C0 hw 2 2 5 rfl rfl rfl rfl (by unfold vp_in; decide) de_Image_init_51 (fun H locs hw => ?_)
  have hw : ct_W D A s [(h0, .inr (2, [.ref q1, .ref q2, .int (-1), .int 0])), (q1, .inl (dA 0, 72, .inl (fun _ => 0))), (q2, .inl (dA 2, 8, .inr (.inr (.inr (.inr (va_up (va_up (va_up (fun _ => none) 0 (some q3)) 1 (some q4)) 2 (some q5))))))), (q3, .inr (0, [.int 0, .int 0, .int 0, .int 0])), (q4, .inr (0, [.int 0, .int 0, .int 0, .int 0])), (q5, .inr (0, [.int 0, .int 0, .int 0, .int 0]))] H locs := hw
  refine lv_iinc (v := 3) (lv' := [(1, .int 3), (0, .ref h0)]) hx hb de_Image_init_52 hl (k := 0) rfl (by decide) (by decide) rfl (fun ls hl => ?_)
  refine lv_goto (tgt := 33) hx hb de_Image_init_55 (by decide) ?_
  refine lv_iload_n hx hb de_Image_init_33 rfl (lv_at hl 0 rfl) ?_
  refine lv_bipush (v := 8) hx hb de_Image_init_34 (by decide) ?_
  refine lv_icmp_ge (tgt := 58) hx hb de_Image_init_36 (by decide) (fun q => absurd q (by decide)) (fun _ => ?_)
  refine lv_aload_n hx hb de_Image_init_39 rfl (lv_at hl 1 rfl) ?_
  refine ct_get (ci := 2) C0 hw 0 rfl rfl 1 (by decide) jf_Image_17 rfl de_Image_init_40 ?_
  refine lv_iload_n hx hb de_Image_init_43 rfl (lv_at hl 0 rfl) ?_
  refine ct_new (ci := 0) (fs := [.int 0, .int 0, .int 0, .int 0]) C0 hA hw rfl df_0 jc_Image_15 jt_Coat jz_Coat (Nat.le_of_ble_eq_true rfl) (Nat.le_of_ble_eq_true rfl) de_Image_init_44 (fun q6 H hw => ?_)
  have hw : ct_W D A s [(h0, .inr (2, [.ref q1, .ref q2, .int (-1), .int 0])), (q1, .inl (dA 0, 72, .inl (fun _ => 0))), (q2, .inl (dA 2, 8, .inr (.inr (.inr (.inr (va_up (va_up (va_up (fun _ => none) 0 (some q3)) 1 (some q4)) 2 (some q5))))))), (q3, .inr (0, [.int 0, .int 0, .int 0, .int 0])), (q4, .inr (0, [.int 0, .int 0, .int 0, .int 0])), (q5, .inr (0, [.int 0, .int 0, .int 0, .int 0])), (q6, .inr (0, [.int 0, .int 0, .int 0, .int 0]))] H locs := hw
  refine lv_dup hx hb de_Image_init_47 rfl ?_
  refine ct_callIN (wr := [(h0, .inr (2, [.ref q1, .ref q2, .int (-1), .int 0])), (q1, .inl (dA 0, 72, .inl (fun _ => 0))), (q2, .inl (dA 2, 8, .inr (.inr (.inr (.inr (va_up (va_up (va_up (fun _ => none) 0 (some q3)) 1 (some q4)) 2 (some q5))))))), (q3, .inr (0, [.int 0, .int 0, .int 0, .int 0])), (q4, .inr (0, [.int 0, .int 0, .int 0, .int 0])), (q5, .inr (0, [.int 0, .int 0, .int 0, .int 0]))]) (wc := [(q6, .inr (0, [.int 0, .int 0, .int 0, .int 0]))]) (av := []) (rest := [.ref q6, .int 3, .ref q2]) C0 hA hw (cc_Coat l D dA q6) rfl jk_Coat_init jz_Coat hK.2.1.2.1 ji_Coat_init ⟨by decide, by decide, show _ = some 0 by decide +kernel⟩ ⟨(Nat.le_of_ble_eq_true rfl), (Nat.le_of_ble_eq_true rfl)⟩ (fun _ _ _ => trivial) (fun _ _ _ _ _ => trivial) hl.1 (Nat.le_of_ble_eq_true rfl) ⟨(Nat.le_of_ble_eq_true rfl), (Nat.le_of_ble_eq_true rfl)⟩ de_Image_init_48 (fun w1 H locs hp hw => ?_)
  subst hp
  have hw : ct_W D A s [(h0, .inr (2, [.ref q1, .ref q2, .int (-1), .int 0])), (q1, .inl (dA 0, 72, .inl (fun _ => 0))), (q2, .inl (dA 2, 8, .inr (.inr (.inr (.inr (va_up (va_up (va_up (fun _ => none) 0 (some q3)) 1 (some q4)) 2 (some q5))))))), (q3, .inr (0, [.int 0, .int 0, .int 0, .int 0])), (q4, .inr (0, [.int 0, .int 0, .int 0, .int 0])), (q5, .inr (0, [.int 0, .int 0, .int 0, .int 0])), (q6, .inr (0, [.int 0, .int 0, .int 0, .int 0]))] H locs := hw
  refine ct_aast C0 hw 2 2 6 rfl rfl rfl rfl (by unfold vp_in; decide) de_Image_init_51 (fun H locs hw => ?_)
  have hw : ct_W D A s [(h0, .inr (2, [.ref q1, .ref q2, .int (-1), .int 0])), (q1, .inl (dA 0, 72, .inl (fun _ => 0))), (q2, .inl (dA 2, 8, .inr (.inr (.inr (.inr (va_up (va_up (va_up (va_up (fun _ => none) 0 (some q3)) 1 (some q4)) 2 (some q5)) 3 (some q6))))))), (q3, .inr (0, [.int 0, .int 0, .int 0, .int 0])), (q4, .inr (0, [.int 0, .int 0, .int 0, .int 0])), (q5, .inr (0, [.int 0, .int 0, .int 0, .int 0])), (q6, .inr (0, [.int 0, .int 0, .int 0, .int 0]))] H locs := hw
  refine lv_iinc (v := 4) (lv' := [(1, .int 4), (0, .ref h0)]) hx hb de_Image_init_52 hl (k := 0) rfl (by decide) (by decide) rfl (fun ls hl => ?_)
  refine lv_goto (tgt := 33) hx hb de_Image_init_55 (by decide) ?_
  refine lv_iload_n hx hb de_Image_init_33 rfl (lv_at hl 0 rfl) ?_
  refine lv_bipush (v := 8) hx hb de_Image_init_34 (by decide) ?_
  refine lv_icmp_ge (tgt := 58) hx hb de_Image_init_36 (by decide) (fun q => absurd q (by decide)) (fun _ => ?_)
  refine lv_aload_n hx hb de_Image_init_39 rfl (lv_at hl 1 rfl) ?_
  refine ct_get (ci := 2) C0 hw 0 rfl rfl 1 (by decide) jf_Image_17 rfl de_Image_init_40 ?_
  refine lv_iload_n hx hb de_Image_init_43 rfl (lv_at hl 0 rfl) ?_
  refine ct_new (ci := 0) (fs := [.int 0, .int 0, .int 0, .int 0]) C0 hA hw rfl df_0 jc_Image_15 jt_Coat jz_Coat (Nat.le_of_ble_eq_true rfl) (Nat.le_of_ble_eq_true rfl) de_Image_init_44 (fun q7 H hw => ?_)
  have hw : ct_W D A s [(h0, .inr (2, [.ref q1, .ref q2, .int (-1), .int 0])), (q1, .inl (dA 0, 72, .inl (fun _ => 0))), (q2, .inl (dA 2, 8, .inr (.inr (.inr (.inr (va_up (va_up (va_up (va_up (fun _ => none) 0 (some q3)) 1 (some q4)) 2 (some q5)) 3 (some q6))))))), (q3, .inr (0, [.int 0, .int 0, .int 0, .int 0])), (q4, .inr (0, [.int 0, .int 0, .int 0, .int 0])), (q5, .inr (0, [.int 0, .int 0, .int 0, .int 0])), (q6, .inr (0, [.int 0, .int 0, .int 0, .int 0])), (q7, .inr (0, [.int 0, .int 0, .int 0, .int 0]))] H locs := hw
  refine lv_dup hx hb de_Image_init_47 rfl ?_
  refine ct_callIN (wr := [(h0, .inr (2, [.ref q1, .ref q2, .int (-1), .int 0])), (q1, .inl (dA 0, 72, .inl (fun _ => 0))), (q2, .inl (dA 2, 8, .inr (.inr (.inr (.inr (va_up (va_up (va_up (va_up (fun _ => none) 0 (some q3)) 1 (some q4)) 2 (some q5)) 3 (some q6))))))), (q3, .inr (0, [.int 0, .int 0, .int 0, .int 0])), (q4, .inr (0, [.int 0, .int 0, .int 0, .int 0])), (q5, .inr (0, [.int 0, .int 0, .int 0, .int 0])), (q6, .inr (0, [.int 0, .int 0, .int 0, .int 0]))]) (wc := [(q7, .inr (0, [.int 0, .int 0, .int 0, .int 0]))]) (av := []) (rest := [.ref q7, .int 4, .ref q2]) C0 hA hw (cc_Coat l D dA q7) rfl jk_Coat_init jz_Coat hK.2.1.2.1 ji_Coat_init ⟨by decide, by decide, show _ = some 0 by decide +kernel⟩ ⟨(Nat.le_of_ble_eq_true rfl), (Nat.le_of_ble_eq_true rfl)⟩ (fun _ _ _ => trivial) (fun _ _ _ _ _ => trivial) hl.1 (Nat.le_of_ble_eq_true rfl) ⟨(Nat.le_of_ble_eq_true rfl), (Nat.le_of_ble_eq_true rfl)⟩ de_Image_init_48 (fun w1 H locs hp hw => ?_)
  subst hp
  have hw : ct_W D A s [(h0, .inr (2, [.ref q1, .ref q2, .int (-1), .int 0])), (q1, .inl (dA 0, 72, .inl (fun _ => 0))), (q2, .inl (dA 2, 8, .inr (.inr (.inr (.inr (va_up (va_up (va_up (va_up (fun _ => none) 0 (some q3)) 1 (some q4)) 2 (some q5)) 3 (some q6))))))), (q3, .inr (0, [.int 0, .int 0, .int 0, .int 0])), (q4, .inr (0, [.int 0, .int 0, .int 0, .int 0])), (q5, .inr (0, [.int 0, .int 0, .int 0, .int 0])), (q6, .inr (0, [.int 0, .int 0, .int 0, .int 0])), (q7, .inr (0, [.int 0, .int 0, .int 0, .int 0]))] H locs := hw
  refine ct_aast C0 hw 2 2 7 rfl rfl rfl rfl (by unfold vp_in; decide) de_Image_init_51 (fun H locs hw => ?_)
  have hw : ct_W D A s [(h0, .inr (2, [.ref q1, .ref q2, .int (-1), .int 0])), (q1, .inl (dA 0, 72, .inl (fun _ => 0))), (q2, .inl (dA 2, 8, .inr (.inr (.inr (.inr (va_up (va_up (va_up (va_up (va_up (fun _ => none) 0 (some q3)) 1 (some q4)) 2 (some q5)) 3 (some q6)) 4 (some q7))))))), (q3, .inr (0, [.int 0, .int 0, .int 0, .int 0])), (q4, .inr (0, [.int 0, .int 0, .int 0, .int 0])), (q5, .inr (0, [.int 0, .int 0, .int 0, .int 0])), (q6, .inr (0, [.int 0, .int 0, .int 0, .int 0])), (q7, .inr (0, [.int 0, .int 0, .int 0, .int 0]))] H locs := hw
  refine lv_iinc (v := 5) (lv' := [(1, .int 5), (0, .ref h0)]) hx hb de_Image_init_52 hl (k := 0) rfl (by decide) (by decide) rfl (fun ls hl => ?_)
  refine lv_goto (tgt := 33) hx hb de_Image_init_55 (by decide) ?_
  refine lv_iload_n hx hb de_Image_init_33 rfl (lv_at hl 0 rfl) ?_
  refine lv_bipush (v := 8) hx hb de_Image_init_34 (by decide) ?_
  refine lv_icmp_ge (tgt := 58) hx hb de_Image_init_36 (by decide) (fun q => absurd q (by decide)) (fun _ => ?_)
  refine lv_aload_n hx hb de_Image_init_39 rfl (lv_at hl 1 rfl) ?_
  refine ct_get (ci := 2) C0 hw 0 rfl rfl 1 (by decide) jf_Image_17 rfl de_Image_init_40 ?_
  refine lv_iload_n hx hb de_Image_init_43 rfl (lv_at hl 0 rfl) ?_
  refine ct_new (ci := 0) (fs := [.int 0, .int 0, .int 0, .int 0]) C0 hA hw rfl df_0 jc_Image_15 jt_Coat jz_Coat (Nat.le_of_ble_eq_true rfl) (Nat.le_of_ble_eq_true rfl) de_Image_init_44 (fun q8 H hw => ?_)
  have hw : ct_W D A s [(h0, .inr (2, [.ref q1, .ref q2, .int (-1), .int 0])), (q1, .inl (dA 0, 72, .inl (fun _ => 0))), (q2, .inl (dA 2, 8, .inr (.inr (.inr (.inr (va_up (va_up (va_up (va_up (va_up (fun _ => none) 0 (some q3)) 1 (some q4)) 2 (some q5)) 3 (some q6)) 4 (some q7))))))), (q3, .inr (0, [.int 0, .int 0, .int 0, .int 0])), (q4, .inr (0, [.int 0, .int 0, .int 0, .int 0])), (q5, .inr (0, [.int 0, .int 0, .int 0, .int 0])), (q6, .inr (0, [.int 0, .int 0, .int 0, .int 0])), (q7, .inr (0, [.int 0, .int 0, .int 0, .int 0])), (q8, .inr (0, [.int 0, .int 0, .int 0, .int 0]))] H locs := hw
  refine lv_dup hx hb de_Image_init_47 rfl ?_
  refine ct_callIN (wr := [(h0, .inr (2, [.ref q1, .ref q2, .int (-1), .int 0])), (q1, .inl (dA 0, 72, .inl (fun _ => 0))), (q2, .inl (dA 2, 8, .inr (.inr (.inr (.inr (va_up (va_up (va_up (va_up (va_up (fun _ => none) 0 (some q3)) 1 (some q4)) 2 (some q5)) 3 (some q6)) 4 (some q7))))))), (q3, .inr (0, [.int 0, .int 0, .int 0, .int 0])), (q4, .inr (0, [.int 0, .int 0, .int 0, .int 0])), (q5, .inr (0, [.int 0, .int 0, .int 0, .int 0])), (q6, .inr (0, [.int 0, .int 0, .int 0, .int 0])), (q7, .inr (0, [.int 0, .int 0, .int 0, .int 0]))]) (wc := [(q8, .inr (0, [.int 0, .int 0, .int 0, .int 0]))]) (av := []) (rest := [.ref q8, .int 5, .ref q2]) C0 hA hw (cc_Coat l D dA q8) rfl jk_Coat_init jz_Coat hK.2.1.2.1 ji_Coat_init ⟨by decide, by decide, show _ = some 0 by decide +kernel⟩ ⟨(Nat.le_of_ble_eq_true rfl), (Nat.le_of_ble_eq_true rfl)⟩ (fun _ _ _ => trivial) (fun _ _ _ _ _ => trivial) hl.1 (Nat.le_of_ble_eq_true rfl) ⟨(Nat.le_of_ble_eq_true rfl), (Nat.le_of_ble_eq_true rfl)⟩ de_Image_init_48 (fun w1 H locs hp hw => ?_)
  subst hp
  have hw : ct_W D A s [(h0, .inr (2, [.ref q1, .ref q2, .int (-1), .int 0])), (q1, .inl (dA 0, 72, .inl (fun _ => 0))), (q2, .inl (dA 2, 8, .inr (.inr (.inr (.inr (va_up (va_up (va_up (va_up (va_up (fun _ => none) 0 (some q3)) 1 (some q4)) 2 (some q5)) 3 (some q6)) 4 (some q7))))))), (q3, .inr (0, [.int 0, .int 0, .int 0, .int 0])), (q4, .inr (0, [.int 0, .int 0, .int 0, .int 0])), (q5, .inr (0, [.int 0, .int 0, .int 0, .int 0])), (q6, .inr (0, [.int 0, .int 0, .int 0, .int 0])), (q7, .inr (0, [.int 0, .int 0, .int 0, .int 0])), (q8, .inr (0, [.int 0, .int 0, .int 0, .int 0]))] H locs := hw
  refine ct_aast C0 hw 2 2 8 rfl rfl rfl rfl (by unfold vp_in; decide) de_Image_init_51 (fun H locs hw => ?_)
  have hw : ct_W D A s [(h0, .inr (2, [.ref q1, .ref q2, .int (-1), .int 0])), (q1, .inl (dA 0, 72, .inl (fun _ => 0))), (q2, .inl (dA 2, 8, .inr (.inr (.inr (.inr (va_up (va_up (va_up (va_up (va_up (va_up (fun _ => none) 0 (some q3)) 1 (some q4)) 2 (some q5)) 3 (some q6)) 4 (some q7)) 5 (some q8))))))), (q3, .inr (0, [.int 0, .int 0, .int 0, .int 0])), (q4, .inr (0, [.int 0, .int 0, .int 0, .int 0])), (q5, .inr (0, [.int 0, .int 0, .int 0, .int 0])), (q6, .inr (0, [.int 0, .int 0, .int 0, .int 0])), (q7, .inr (0, [.int 0, .int 0, .int 0, .int 0])), (q8, .inr (0, [.int 0, .int 0, .int 0, .int 0]))] H locs := hw
  refine lv_iinc (v := 6) (lv' := [(1, .int 6), (0, .ref h0)]) hx hb de_Image_init_52 hl (k := 0) rfl (by decide) (by decide) rfl (fun ls hl => ?_)
  refine lv_goto (tgt := 33) hx hb de_Image_init_55 (by decide) ?_
  refine lv_iload_n hx hb de_Image_init_33 rfl (lv_at hl 0 rfl) ?_
  refine lv_bipush (v := 8) hx hb de_Image_init_34 (by decide) ?_
  refine lv_icmp_ge (tgt := 58) hx hb de_Image_init_36 (by decide) (fun q => absurd q (by decide)) (fun _ => ?_)
  refine lv_aload_n hx hb de_Image_init_39 rfl (lv_at hl 1 rfl) ?_
  refine ct_get (ci := 2) C0 hw 0 rfl rfl 1 (by decide) jf_Image_17 rfl de_Image_init_40 ?_
  refine lv_iload_n hx hb de_Image_init_43 rfl (lv_at hl 0 rfl) ?_
  refine ct_new (ci := 0) (fs := [.int 0, .int 0, .int 0, .int 0]) C0 hA hw rfl df_0 jc_Image_15 jt_Coat jz_Coat (Nat.le_of_ble_eq_true rfl) (Nat.le_of_ble_eq_true rfl) de_Image_init_44 (fun q9 H hw => ?_)
  have hw : ct_W D A s [(h0, .inr (2, [.ref q1, .ref q2, .int (-1), .int 0])), (q1, .inl (dA 0, 72, .inl (fun _ => 0))), (q2, .inl (dA 2, 8, .inr (.inr (.inr (.inr (va_up (va_up (va_up (va_up (va_up (va_up (fun _ => none) 0 (some q3)) 1 (some q4)) 2 (some q5)) 3 (some q6)) 4 (some q7)) 5 (some q8))))))), (q3, .inr (0, [.int 0, .int 0, .int 0, .int 0])), (q4, .inr (0, [.int 0, .int 0, .int 0, .int 0])), (q5, .inr (0, [.int 0, .int 0, .int 0, .int 0])), (q6, .inr (0, [.int 0, .int 0, .int 0, .int 0])), (q7, .inr (0, [.int 0, .int 0, .int 0, .int 0])), (q8, .inr (0, [.int 0, .int 0, .int 0, .int 0])), (q9, .inr (0, [.int 0, .int 0, .int 0, .int 0]))] H locs := hw
  refine lv_dup hx hb de_Image_init_47 rfl ?_
  refine ct_callIN (wr := [(h0, .inr (2, [.ref q1, .ref q2, .int (-1), .int 0])), (q1, .inl (dA 0, 72, .inl (fun _ => 0))), (q2, .inl (dA 2, 8, .inr (.inr (.inr (.inr (va_up (va_up (va_up (va_up (va_up (va_up (fun _ => none) 0 (some q3)) 1 (some q4)) 2 (some q5)) 3 (some q6)) 4 (some q7)) 5 (some q8))))))), (q3, .inr (0, [.int 0, .int 0, .int 0, .int 0])), (q4, .inr (0, [.int 0, .int 0, .int 0, .int 0])), (q5, .inr (0, [.int 0, .int 0, .int 0, .int 0])), (q6, .inr (0, [.int 0, .int 0, .int 0, .int 0])), (q7, .inr (0, [.int 0, .int 0, .int 0, .int 0])), (q8, .inr (0, [.int 0, .int 0, .int 0, .int 0]))]) (wc := [(q9, .inr (0, [.int 0, .int 0, .int 0, .int 0]))]) (av := []) (rest := [.ref q9, .int 6, .ref q2]) C0 hA hw (cc_Coat l D dA q9) rfl jk_Coat_init jz_Coat hK.2.1.2.1 ji_Coat_init ⟨by decide, by decide, show _ = some 0 by decide +kernel⟩ ⟨(Nat.le_of_ble_eq_true rfl), (Nat.le_of_ble_eq_true rfl)⟩ (fun _ _ _ => trivial) (fun _ _ _ _ _ => trivial) hl.1 (Nat.le_of_ble_eq_true rfl) ⟨(Nat.le_of_ble_eq_true rfl), (Nat.le_of_ble_eq_true rfl)⟩ de_Image_init_48 (fun w1 H locs hp hw => ?_)
  subst hp
  have hw : ct_W D A s [(h0, .inr (2, [.ref q1, .ref q2, .int (-1), .int 0])), (q1, .inl (dA 0, 72, .inl (fun _ => 0))), (q2, .inl (dA 2, 8, .inr (.inr (.inr (.inr (va_up (va_up (va_up (va_up (va_up (va_up (fun _ => none) 0 (some q3)) 1 (some q4)) 2 (some q5)) 3 (some q6)) 4 (some q7)) 5 (some q8))))))), (q3, .inr (0, [.int 0, .int 0, .int 0, .int 0])), (q4, .inr (0, [.int 0, .int 0, .int 0, .int 0])), (q5, .inr (0, [.int 0, .int 0, .int 0, .int 0])), (q6, .inr (0, [.int 0, .int 0, .int 0, .int 0])), (q7, .inr (0, [.int 0, .int 0, .int 0, .int 0])), (q8, .inr (0, [.int 0, .int 0, .int 0, .int 0])), (q9, .inr (0, [.int 0, .int 0, .int 0, .int 0]))] H locs := hw
  refine ct_aast C0 hw 2 2 9 rfl rfl rfl rfl (by unfold vp_in; decide) de_Image_init_51 (fun H locs hw => ?_)
  have hw : ct_W D A s [(h0, .inr (2, [.ref q1, .ref q2, .int (-1), .int 0])), (q1, .inl (dA 0, 72, .inl (fun _ => 0))), (q2, .inl (dA 2, 8, .inr (.inr (.inr (.inr (va_up (va_up (va_up (va_up (va_up (va_up (va_up (fun _ => none) 0 (some q3)) 1 (some q4)) 2 (some q5)) 3 (some q6)) 4 (some q7)) 5 (some q8)) 6 (some q9))))))), (q3, .inr (0, [.int 0, .int 0, .int 0, .int 0])), (q4, .inr (0, [.int 0, .int 0, .int 0, .int 0])), (q5, .inr (0, [.int 0, .int 0, .int 0, .int 0])), (q6, .inr (0, [.int 0, .int 0, .int 0, .int 0])), (q7, .inr (0, [.int 0, .int 0, .int 0, .int 0])), (q8, .inr (0, [.int 0, .int 0, .int 0, .int 0])), (q9, .inr (0, [.int 0, .int 0, .int 0, .int 0]))] H locs := hw
  refine lv_iinc (v := 7) (lv' := [(1, .int 7), (0, .ref h0)]) hx hb de_Image_init_52 hl (k := 0) rfl (by decide) (by decide) rfl (fun ls hl => ?_)
  refine lv_goto (tgt := 33) hx hb de_Image_init_55 (by decide) ?_
  refine lv_iload_n hx hb de_Image_init_33 rfl (lv_at hl 0 rfl) ?_
  refine lv_bipush (v := 8) hx hb de_Image_init_34 (by decide) ?_
  refine lv_icmp_ge (tgt := 58) hx hb de_Image_init_36 (by decide) (fun q => absurd q (by decide)) (fun _ => ?_)
  refine lv_aload_n hx hb de_Image_init_39 rfl (lv_at hl 1 rfl) ?_
  refine ct_get (ci := 2) C0 hw 0 rfl rfl 1 (by decide) jf_Image_17 rfl de_Image_init_40 ?_
  refine lv_iload_n hx hb de_Image_init_43 rfl (lv_at hl 0 rfl) ?_
  refine ct_new (ci := 0) (fs := [.int 0, .int 0, .int 0, .int 0]) C0 hA hw rfl df_0 jc_Image_15 jt_Coat jz_Coat (Nat.le_of_ble_eq_true rfl) (Nat.le_of_ble_eq_true rfl) de_Image_init_44 (fun q10 H hw => ?_)
  have hw : ct_W D A s [(h0, .inr (2, [.ref q1, .ref q2, .int (-1), .int 0])), (q1, .inl (dA 0, 72, .inl (fun _ => 0))), (q2, .inl (dA 2, 8, .inr (.inr (.inr (.inr (va_up (va_up (va_up (va_up (va_up (va_up (va_up (fun _ => none) 0 (some q3)) 1 (some q4)) 2 (some q5)) 3 (some q6)) 4 (some q7)) 5 (some q8)) 6 (some q9))))))), (q3, .inr (0, [.int 0, .int 0, .int 0, .int 0])), (q4, .inr (0, [.int 0, .int 0, .int 0, .int 0])), (q5, .inr (0, [.int 0, .int 0, .int 0, .int 0])), (q6, .inr (0, [.int 0, .int 0, .int 0, .int 0])), (q7, .inr (0, [.int 0, .int 0, .int 0, .int 0])), (q8, .inr (0, [.int 0, .int 0, .int 0, .int 0])), (q9, .inr (0, [.int 0, .int 0, .int 0, .int 0])), (q10, .inr (0, [.int 0, .int 0, .int 0, .int 0]))] H locs := hw
  refine lv_dup hx hb de_Image_init_47 rfl ?_
  refine ct_callIN (wr := [(h0, .inr (2, [.ref q1, .ref q2, .int (-1), .int 0])), (q1, .inl (dA 0, 72, .inl (fun _ => 0))), (q2, .inl (dA 2, 8, .inr (.inr (.inr (.inr (va_up (va_up (va_up (va_up (va_up (va_up (va_up (fun _ => none) 0 (some q3)) 1 (some q4)) 2 (some q5)) 3 (some q6)) 4 (some q7)) 5 (some q8)) 6 (some q9))))))), (q3, .inr (0, [.int 0, .int 0, .int 0, .int 0])), (q4, .inr (0, [.int 0, .int 0, .int 0, .int 0])), (q5, .inr (0, [.int 0, .int 0, .int 0, .int 0])), (q6, .inr (0, [.int 0, .int 0, .int 0, .int 0])), (q7, .inr (0, [.int 0, .int 0, .int 0, .int 0])), (q8, .inr (0, [.int 0, .int 0, .int 0, .int 0])), (q9, .inr (0, [.int 0, .int 0, .int 0, .int 0]))]) (wc := [(q10, .inr (0, [.int 0, .int 0, .int 0, .int 0]))]) (av := []) (rest := [.ref q10, .int 7, .ref q2]) C0 hA hw (cc_Coat l D dA q10) rfl jk_Coat_init jz_Coat hK.2.1.2.1 ji_Coat_init ⟨by decide, by decide, show _ = some 0 by decide +kernel⟩ ⟨(Nat.le_of_ble_eq_true rfl), (Nat.le_of_ble_eq_true rfl)⟩ (fun _ _ _ => trivial) (fun _ _ _ _ _ => trivial) hl.1 (Nat.le_of_ble_eq_true rfl) ⟨(Nat.le_of_ble_eq_true rfl), (Nat.le_of_ble_eq_true rfl)⟩ de_Image_init_48 (fun w1 H locs hp hw => ?_)
  subst hp
  have hw : ct_W D A s [(h0, .inr (2, [.ref q1, .ref q2, .int (-1), .int 0])), (q1, .inl (dA 0, 72, .inl (fun _ => 0))), (q2, .inl (dA 2, 8, .inr (.inr (.inr (.inr (va_up (va_up (va_up (va_up (va_up (va_up (va_up (fun _ => none) 0 (some q3)) 1 (some q4)) 2 (some q5)) 3 (some q6)) 4 (some q7)) 5 (some q8)) 6 (some q9))))))), (q3, .inr (0, [.int 0, .int 0, .int 0, .int 0])), (q4, .inr (0, [.int 0, .int 0, .int 0, .int 0])), (q5, .inr (0, [.int 0, .int 0, .int 0, .int 0])), (q6, .inr (0, [.int 0, .int 0, .int 0, .int 0])), (q7, .inr (0, [.int 0, .int 0, .int 0, .int 0])), (q8, .inr (0, [.int 0, .int 0, .int 0, .int 0])), (q9, .inr (0, [.int 0, .int 0, .int 0, .int 0])), (q10, .inr (0, [.int 0, .int 0, .int 0, .int 0]))] H locs := hw
  refine ct_aast C0 hw 2 2 10 rfl rfl rfl rfl (by unfold vp_in; decide) de_Image_init_51 (fun H locs hw => ?_)
  have hw : ct_W D A s [(h0, .inr (2, [.ref q1, .ref q2, .int (-1), .int 0])), (q1, .inl (dA 0, 72, .inl (fun _ => 0))), (q2, .inl (dA 2, 8, .inr (.inr (.inr (.inr (va_up (va_up (va_up (va_up (va_up (va_up (va_up (va_up (fun _ => none) 0 (some q3)) 1 (some q4)) 2 (some q5)) 3 (some q6)) 4 (some q7)) 5 (some q8)) 6 (some q9)) 7 (some q10))))))), (q3, .inr (0, [.int 0, .int 0, .int 0, .int 0])), (q4, .inr (0, [.int 0, .int 0, .int 0, .int 0])), (q5, .inr (0, [.int 0, .int 0, .int 0, .int 0])), (q6, .inr (0, [.int 0, .int 0, .int 0, .int 0])), (q7, .inr (0, [.int 0, .int 0, .int 0, .int 0])), (q8, .inr (0, [.int 0, .int 0, .int 0, .int 0])), (q9, .inr (0, [.int 0, .int 0, .int 0, .int 0])), (q10, .inr (0, [.int 0, .int 0, .int 0, .int 0]))] H locs := hw
  refine lv_iinc (v := 8) (lv' := [(1, .int 8), (0, .ref h0)]) hx hb de_Image_init_52 hl (k := 0) rfl (by decide) (by decide) rfl (fun ls hl => ?_)
  refine lv_goto (tgt := 33) hx hb de_Image_init_55 (by decide) ?_
  refine lv_iload_n hx hb de_Image_init_33 rfl (lv_at hl 0 rfl) ?_
  refine lv_bipush (v := 8) hx hb de_Image_init_34 (by decide) ?_
  refine lv_icmp_ge (tgt := 58) hx hb de_Image_init_36 (by decide) (fun _ => ?_) (fun q => absurd (by decide) q)
  refine W.widen (k := 10) (n := 112) (Nat.le_of_ble_eq_true rfl) (Nat.le_of_ble_eq_true rfl) ?_
  exact W.vret hx hb hr (fun t ht hW => ⟨⟨_, rfl, ⟨q1, q2, q3, q4, q5, q6, q7, q8, q9, q10, rfl⟩, by rw [ht]; exact hw.1, hw.2.1⟩, hw.2.2.F ht⟩) hw.2.2.2.2 de_Image_init_58

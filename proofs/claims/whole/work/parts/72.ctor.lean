/-! Constructors: printed by ctor.py. -/
def cy_Bits : MethodName := ⟨"SevenPassImage$Bits", "<init>", "()V"⟩
abbrev cb_Bits : ByteArray := prog_2_method_1_code
def cy_Bytes : MethodName := ⟨"SevenPassImage$Bytes", "<init>", "(I)V"⟩
abbrev cb_Bytes : ByteArray := prog_3_method_1_code
def cy_File : MethodName := ⟨"SevenPassImage$ChunkFile", "<init>", "()V"⟩
abbrev cb_File : ByteArray := prog_4_method_1_code
def cy_Pack : MethodName := ⟨"SevenPassImage$Packing", "<init>", "()V"⟩
abbrev cb_Pack : ByteArray := prog_6_method_1_code
def cy_Pict : MethodName := ⟨"SevenPassImage$Picture", "<init>", "()V"⟩
abbrev cb_Pict : ByteArray := prog_7_method_1_code
def cy_Row : MethodName := ⟨"SevenPassImage$Row", "<init>", "()V"⟩
abbrev cb_Row : ByteArray := prog_8_method_1_code
def cy_Coder : MethodName := ⟨"SevenPassImage$RowCoder", "<init>", "()V"⟩
abbrev cb_Coder : ByteArray := prog_9_method_1_code
def cy_Img : MethodName := ⟨"SevenPassImage", "<init>", "()V"⟩
abbrev cb_Img : ByteArray := prog_1_method_1_code
def cy_Mod : MethodName := ⟨"SevenPassImageModel", "<init>", "()V"⟩
abbrev cb_Mod : ByteArray := prog_11_method_1_code
def cw_x : List Cond := [.instanceMethod objectInit, .code objectInit ⟨#[0xb1]⟩ 1 none, .arrayClass .int, .code cy_Bits cb_Bits 1 none, .instanceMethod cy_Bits, .initialized "SevenPassImage$Bits", .instantiable "SevenPassImage$Bits" 3, .code cy_Bytes cb_Bytes 2 none, .instanceMethod cy_Bytes, .initialized "SevenPassImage$Bytes", .instantiable "SevenPassImage$Bytes" 2, .code cy_File cb_File 1 none, .instanceMethod cy_File, .initialized "SevenPassImage$ChunkFile", .instantiable "SevenPassImage$ChunkFile" 2, .code cy_Pack cb_Pack 1 none, .instanceMethod cy_Pack, .initialized "SevenPassImage$Packing", .instantiable "SevenPassImage$Packing" 6, .code cy_Pict cb_Pict 1 none, .instanceMethod cy_Pict, .initialized "SevenPassImage$Picture", .instantiable "SevenPassImage$Picture" 5, .code cy_Row cb_Row 1 none, .instanceMethod cy_Row, .initialized "SevenPassImage$Row", .instantiable "SevenPassImage$Row" 4, .code cy_Coder cb_Coder 1 none, .instanceMethod cy_Coder, .initialized "SevenPassImage$RowCoder", .instantiable "SevenPassImage$RowCoder" 2, .code cy_Img cb_Img 1 none, .instanceMethod cy_Img, .initialized "SevenPassImage", .instantiable "SevenPassImage" 6, .code cy_Mod cb_Mod 1 none, .instanceMethod cy_Mod, .initialized "SevenPassImageModel", .instantiable "SevenPassImageModel" 26, .methodLink "SevenPassImage$Bits" 3 objectInit, .classLink "SevenPassImage$Bits" 9 "SevenPassImage$Bytes", .fieldLink "SevenPassImage$Bits" 14 "SevenPassImage$Bits" "bytes" "LSevenPassImage$Bytes;", .fieldLink "SevenPassImage$Bits" 20 "SevenPassImage$Bits" "place" "I", .fieldLink "SevenPassImage$Bits" 24 "SevenPassImage$Bits" "overrun" "Z", .methodLink "SevenPassImage$Bytes" 3 objectInit, .fieldLink "SevenPassImage$Bytes" 9 "SevenPassImage$Bytes" "room" "[I", .fieldLink "SevenPassImage$Bytes" 15 "SevenPassImage$Bytes" "count" "I", .methodLink "SevenPassImage$ChunkFile" 5 objectInit, .classLink "SevenPassImage$ChunkFile" 11 "SevenPassImage$Bytes", .fieldLink "SevenPassImage$ChunkFile" 16 "SevenPassImage$ChunkFile" "bytes" "LSevenPassImage$Bytes;", .fieldLink "SevenPassImage$ChunkFile" 20 "SevenPassImage$ChunkFile" "lastStart" "I", .methodLink "SevenPassImage$Packing" 3 objectInit, .classLink "SevenPassImage$Packing" 9 "SevenPassImage$Bytes", .fieldLink "SevenPassImage$Packing" 14 "SevenPassImage$Packing" "data" "LSevenPassImage$Bytes;", .classLink "SevenPassImage$Packing" 20 "SevenPassImage$Bits", .fieldLink "SevenPassImage$Packing" 23 "SevenPassImage$Packing" "bits" "LSevenPassImage$Bits;", .fieldLink "SevenPassImage$Packing" 27 "SevenPassImage$Packing" "copyCount" "I", .fieldLink "SevenPassImage$Packing" 31 "SevenPassImage$Packing" "refused" "Z", .fieldLink "SevenPassImage$Packing" 35 "SevenPassImage$Packing" "copyLength" "I", .fieldLink "SevenPassImage$Packing" 38 "SevenPassImage$Packing" "copyDistance" "I", .methodLink "SevenPassImage$Picture" 3 objectInit, .fieldLink "SevenPassImage$Picture" 9 "SevenPassImage$Picture" "samples" "[I", .fieldLink "SevenPassImage$Picture" 15 "SevenPassImage$Picture" "kind" "I", .fieldLink "SevenPassImage$Picture" 19 "SevenPassImage$Picture" "depth" "I", .fieldLink "SevenPassImage$Picture" 22 "SevenPassImage$Picture" "w" "I", .fieldLink "SevenPassImage$Picture" 25 "SevenPassImage$Picture" "h" "I", .methodLink "SevenPassImage$Row" 3 objectInit, .fieldLink "SevenPassImage$Row" 9 "SevenPassImage$Row" "bytes" "[I", .fieldLink "SevenPassImage$Row" 15 "SevenPassImage$Row" "above" "[I", .fieldLink "SevenPassImage$Row" 18 "SevenPassImage$Row" "size" "I", .fieldLink "SevenPassImage$Row" 22 "SevenPassImage$Row" "unit" "I", .methodLink "SevenPassImage$RowCoder" 3 objectInit, .fieldLink "SevenPassImage$RowCoder" 9 "SevenPassImage$RowCoder" "rowCounts" "[I", .classLink "SevenPassImage$RowCoder" 15 "SevenPassImage$Row", .fieldLink "SevenPassImage$RowCoder" 18 "SevenPassImage$RowCoder" "row" "LSevenPassImage$Row;", .methodLink "SevenPassImage" 3 objectInit, .classLink "SevenPassImage" 9 "SevenPassImage$ChunkFile", .fieldLink "SevenPassImage" 12 "SevenPassImage" "file" "LSevenPassImage$ChunkFile;", .classLink "SevenPassImage" 16 "SevenPassImage$Packing", .fieldLink "SevenPassImage" 19 "SevenPassImage" "packing" "LSevenPassImage$Packing;", .classLink "SevenPassImage" 23 "SevenPassImage$RowCoder", .fieldLink "SevenPassImage" 26 "SevenPassImage" "coder" "LSevenPassImage$RowCoder;", .classLink "SevenPassImage" 30 "SevenPassImage$Picture", .fieldLink "SevenPassImage" 33 "SevenPassImage" "picture" "LSevenPassImage$Picture;", .fieldLink "SevenPassImage" 37 "SevenPassImage" "spare" "LSevenPassImage$Picture;", .fieldLink "SevenPassImage" 40 "SevenPassImage" "copyCount" "I", .methodLink "SevenPassImageModel" 1 objectInit, .fieldLink "SevenPassImageModel" 7 "SevenPassImageModel" "depth" "I", .fieldLink "SevenPassImageModel" 13 "SevenPassImageModel" "w" "I", .fieldLink "SevenPassImageModel" 16 "SevenPassImageModel" "h" "I", .fieldLink "SevenPassImageModel" 19 "SevenPassImageModel" "sample" "[I", .fieldLink "SevenPassImageModel" 23 "SevenPassImageModel" "fresh" "[I", .fieldLink "SevenPassImageModel" 26 "SevenPassImageModel" "file" "[I", .fieldLink "SevenPassImageModel" 29 "SevenPassImageModel" "used" "[I", .fieldLink "SevenPassImageModel" 32 "SevenPassImageModel" "using" "[I", .fieldLink "SevenPassImageModel" 35 "SevenPassImageModel" "data" "[I", .classLink "SevenPassImageLaw" 7 "SevenPassImage", .methodLink "SevenPassImageLaw" 9 cy_Img, .classLink "SevenPassImageLaw" 10 "SevenPassImageModel", .methodLink "SevenPassImageLaw" 12 cy_Mod]
def cw_nM : List (String × Nat × MethodName) := [("SevenPassImage$Bits", 11, cy_Bytes), ("SevenPassImage$ChunkFile", 13, cy_Bytes), ("SevenPassImage$Packing", 11, cy_Bytes), ("SevenPassImage$Packing", 22, cy_Bits), ("SevenPassImage$RowCoder", 17, cy_Row), ("SevenPassImage", 11, cy_File), ("SevenPassImage", 18, cy_Pack), ("SevenPassImage", 25, cy_Coder), ("SevenPassImage", 32, cy_Pict)]
def cw_ws : List Cond := cw_x ++ (pm_uw ++ pm_jw)
def cw_W (y : MethodName) (b : ByteArray) (n : Nat) : List Cond := .code y b n none :: cw_ws
theorem cw_m {i : Nat} {w : Cond} (h : cw_x[i]? = some w) : w ∈ cw_ws := List.mem_append_left _ (List.mem_of_getElem? h)
theorem cw_u {a : Nat} (h : a < 9) : ∀ w ∈ u_ws (pm_q a).1 (pm_q a).2.1 (pm_q a).2.2, w ∈ cw_ws := fun w hw => List.mem_append_right _ (List.mem_append_left _ (List.mem_flatMap.mpr ⟨a, List.mem_range.mpr h, hw⟩))
theorem cw_good_x : cw_x.all goodWord = true := by decide +kernel
theorem cw_good {w : Cond} (h : w ∈ cw_ws) : goodWord w = true := by
  rcases List.mem_append.mp h with h | h
  · exact List.all_eq_true.mp cw_good_x w h
  · exact List.all_eq_true.mp pm_good_u w h
theorem cw_goodIn {y : MethodName} {b : ByteArray} {n : Nat} (hc : Cond.code y b n none ∈ cw_ws) : GoodIn cw_ws (cw_W y b n) := by
  intro w hw
  rcases List.mem_cons.mp hw with h | h
  · subst h
    exact ⟨hc, good_of_word (cw_good hc)⟩
  · exact ⟨h, good_of_word (cw_good h)⟩
def cw_N (U : State) : Prop := ∀ q ∈ cw_nM, va_Nw (.methodLinkNest q.1 q.2.1 q.2.2 pm_host) U
theorem cw_A {D : va_G} {cA cB : ClassId} {U : State} (h : va_K D pm_cls ([(cA, .int)] ++ [(cB, .int)]) U) : cB = cA := by
  have h1 : U.vm.findClass ("[" ++ FieldType.int.toString) = some cA := (h.2 0 (cA, .int) rfl).2
  have h2 : U.vm.findClass ("[" ++ FieldType.int.toString) = some cB := (h.2 1 (cB, .int) rfl).2
  exact Option.some.inj (h2.symm.trans h1)
theorem cd_Bits_0 : decode cb_Bits 0 = .ok (.aload_n 0, 1) := by decide +kernel
theorem cd_Bits_1 : decode cb_Bits 1 = .ok (.invokespecial 3, 3) := by decide +kernel
theorem cd_Bits_4 : decode cb_Bits 4 = .ok (.aload_n 0, 1) := by decide +kernel
theorem cd_Bits_5 : decode cb_Bits 5 = .ok (.new 9, 3) := by decide +kernel
theorem cd_Bits_8 : decode cb_Bits 8 = .ok (.dup, 1) := by decide +kernel
theorem cd_Bits_9 : decode cb_Bits 9 = .ok (.sipush 700, 3) := by decide +kernel
theorem cd_Bits_12 : decode cb_Bits 12 = .ok (.invokespecial 11, 3) := by decide +kernel
theorem cd_Bits_15 : decode cb_Bits 15 = .ok (.putfield 14, 3) := by decide +kernel
theorem cd_Bits_18 : decode cb_Bits 18 = .ok (.aload_n 0, 1) := by decide +kernel
theorem cd_Bits_19 : decode cb_Bits 19 = .ok (.iconst 0, 1) := by decide +kernel
theorem cd_Bits_20 : decode cb_Bits 20 = .ok (.putfield 20, 3) := by decide +kernel
theorem cd_Bits_23 : decode cb_Bits 23 = .ok (.aload_n 0, 1) := by decide +kernel
theorem cd_Bits_24 : decode cb_Bits 24 = .ok (.iconst 0, 1) := by decide +kernel
theorem cd_Bits_25 : decode cb_Bits 25 = .ok (.putfield 24, 3) := by decide +kernel
theorem cd_Bits_28 : decode cb_Bits 28 = .ok (.return_, 1) := by decide +kernel
theorem cd_Bytes_0 : decode cb_Bytes 0 = .ok (.aload_n 0, 1) := by decide +kernel
theorem cd_Bytes_1 : decode cb_Bytes 1 = .ok (.invokespecial 3, 3) := by decide +kernel
theorem cd_Bytes_4 : decode cb_Bytes 4 = .ok (.aload_n 0, 1) := by decide +kernel
theorem cd_Bytes_5 : decode cb_Bytes 5 = .ok (.iload_n 1, 1) := by decide +kernel
theorem cd_Bytes_6 : decode cb_Bytes 6 = .ok (.newarray .int, 2) := by decide +kernel
theorem cd_Bytes_8 : decode cb_Bytes 8 = .ok (.putfield 9, 3) := by decide +kernel
theorem cd_Bytes_11 : decode cb_Bytes 11 = .ok (.aload_n 0, 1) := by decide +kernel
theorem cd_Bytes_12 : decode cb_Bytes 12 = .ok (.iconst 0, 1) := by decide +kernel
theorem cd_Bytes_13 : decode cb_Bytes 13 = .ok (.putfield 15, 3) := by decide +kernel
theorem cd_Bytes_16 : decode cb_Bytes 16 = .ok (.return_, 1) := by decide +kernel
theorem cd_File_0 : decode cb_File 0 = .ok (.aload_n 0, 1) := by decide +kernel
theorem cd_File_1 : decode cb_File 1 = .ok (.invokespecial 5, 3) := by decide +kernel
theorem cd_File_4 : decode cb_File 4 = .ok (.aload_n 0, 1) := by decide +kernel
theorem cd_File_5 : decode cb_File 5 = .ok (.new 11, 3) := by decide +kernel
theorem cd_File_8 : decode cb_File 8 = .ok (.dup, 1) := by decide +kernel
theorem cd_File_9 : decode cb_File 9 = .ok (.sipush 700, 3) := by decide +kernel
theorem cd_File_12 : decode cb_File 12 = .ok (.invokespecial 13, 3) := by decide +kernel
theorem cd_File_15 : decode cb_File 15 = .ok (.putfield 16, 3) := by decide +kernel
theorem cd_File_18 : decode cb_File 18 = .ok (.aload_n 0, 1) := by decide +kernel
theorem cd_File_19 : decode cb_File 19 = .ok (.iconst 0, 1) := by decide +kernel
theorem cd_File_20 : decode cb_File 20 = .ok (.putfield 20, 3) := by decide +kernel
theorem cd_File_23 : decode cb_File 23 = .ok (.return_, 1) := by decide +kernel
theorem cd_Pack_0 : decode cb_Pack 0 = .ok (.aload_n 0, 1) := by decide +kernel
theorem cd_Pack_1 : decode cb_Pack 1 = .ok (.invokespecial 3, 3) := by decide +kernel
theorem cd_Pack_4 : decode cb_Pack 4 = .ok (.aload_n 0, 1) := by decide +kernel
theorem cd_Pack_5 : decode cb_Pack 5 = .ok (.new 9, 3) := by decide +kernel
theorem cd_Pack_8 : decode cb_Pack 8 = .ok (.dup, 1) := by decide +kernel
theorem cd_Pack_9 : decode cb_Pack 9 = .ok (.sipush 300, 3) := by decide +kernel
theorem cd_Pack_12 : decode cb_Pack 12 = .ok (.invokespecial 11, 3) := by decide +kernel
theorem cd_Pack_15 : decode cb_Pack 15 = .ok (.putfield 14, 3) := by decide +kernel
theorem cd_Pack_18 : decode cb_Pack 18 = .ok (.aload_n 0, 1) := by decide +kernel
theorem cd_Pack_19 : decode cb_Pack 19 = .ok (.new 20, 3) := by decide +kernel
theorem cd_Pack_22 : decode cb_Pack 22 = .ok (.dup, 1) := by decide +kernel
theorem cd_Pack_23 : decode cb_Pack 23 = .ok (.invokespecial 22, 3) := by decide +kernel
theorem cd_Pack_26 : decode cb_Pack 26 = .ok (.putfield 23, 3) := by decide +kernel
theorem cd_Pack_29 : decode cb_Pack 29 = .ok (.aload_n 0, 1) := by decide +kernel
theorem cd_Pack_30 : decode cb_Pack 30 = .ok (.iconst 0, 1) := by decide +kernel
theorem cd_Pack_31 : decode cb_Pack 31 = .ok (.putfield 27, 3) := by decide +kernel
theorem cd_Pack_34 : decode cb_Pack 34 = .ok (.aload_n 0, 1) := by decide +kernel
theorem cd_Pack_35 : decode cb_Pack 35 = .ok (.iconst 0, 1) := by decide +kernel
theorem cd_Pack_36 : decode cb_Pack 36 = .ok (.putfield 31, 3) := by decide +kernel
theorem cd_Pack_39 : decode cb_Pack 39 = .ok (.aload_n 0, 1) := by decide +kernel
theorem cd_Pack_40 : decode cb_Pack 40 = .ok (.iconst 0, 1) := by decide +kernel
theorem cd_Pack_41 : decode cb_Pack 41 = .ok (.putfield 35, 3) := by decide +kernel
theorem cd_Pack_44 : decode cb_Pack 44 = .ok (.aload_n 0, 1) := by decide +kernel
theorem cd_Pack_45 : decode cb_Pack 45 = .ok (.iconst 0, 1) := by decide +kernel
theorem cd_Pack_46 : decode cb_Pack 46 = .ok (.putfield 38, 3) := by decide +kernel
theorem cd_Pack_49 : decode cb_Pack 49 = .ok (.return_, 1) := by decide +kernel
theorem cd_Pict_0 : decode cb_Pict 0 = .ok (.aload_n 0, 1) := by decide +kernel
theorem cd_Pict_1 : decode cb_Pict 1 = .ok (.invokespecial 3, 3) := by decide +kernel
theorem cd_Pict_4 : decode cb_Pict 4 = .ok (.aload_n 0, 1) := by decide +kernel
theorem cd_Pict_5 : decode cb_Pict 5 = .ok (.sipush 256, 3) := by decide +kernel
theorem cd_Pict_8 : decode cb_Pict 8 = .ok (.newarray .int, 2) := by decide +kernel
theorem cd_Pict_10 : decode cb_Pict 10 = .ok (.putfield 9, 3) := by decide +kernel
theorem cd_Pict_13 : decode cb_Pict 13 = .ok (.aload_n 0, 1) := by decide +kernel
theorem cd_Pict_14 : decode cb_Pict 14 = .ok (.iconst 0, 1) := by decide +kernel
theorem cd_Pict_15 : decode cb_Pict 15 = .ok (.putfield 15, 3) := by decide +kernel
theorem cd_Pict_18 : decode cb_Pict 18 = .ok (.aload_n 0, 1) := by decide +kernel
theorem cd_Pict_19 : decode cb_Pict 19 = .ok (.iconst 1, 1) := by decide +kernel
theorem cd_Pict_20 : decode cb_Pict 20 = .ok (.putfield 19, 3) := by decide +kernel
theorem cd_Pict_23 : decode cb_Pict 23 = .ok (.aload_n 0, 1) := by decide +kernel
theorem cd_Pict_24 : decode cb_Pict 24 = .ok (.iconst 1, 1) := by decide +kernel
theorem cd_Pict_25 : decode cb_Pict 25 = .ok (.putfield 22, 3) := by decide +kernel
theorem cd_Pict_28 : decode cb_Pict 28 = .ok (.aload_n 0, 1) := by decide +kernel
theorem cd_Pict_29 : decode cb_Pict 29 = .ok (.iconst 1, 1) := by decide +kernel
theorem cd_Pict_30 : decode cb_Pict 30 = .ok (.putfield 25, 3) := by decide +kernel
theorem cd_Pict_33 : decode cb_Pict 33 = .ok (.return_, 1) := by decide +kernel
theorem cd_Row_0 : decode cb_Row 0 = .ok (.aload_n 0, 1) := by decide +kernel
theorem cd_Row_1 : decode cb_Row 1 = .ok (.invokespecial 3, 3) := by decide +kernel
theorem cd_Row_4 : decode cb_Row 4 = .ok (.aload_n 0, 1) := by decide +kernel
theorem cd_Row_5 : decode cb_Row 5 = .ok (.bipush 32, 2) := by decide +kernel
theorem cd_Row_7 : decode cb_Row 7 = .ok (.newarray .int, 2) := by decide +kernel
theorem cd_Row_9 : decode cb_Row 9 = .ok (.putfield 9, 3) := by decide +kernel
theorem cd_Row_12 : decode cb_Row 12 = .ok (.aload_n 0, 1) := by decide +kernel
theorem cd_Row_13 : decode cb_Row 13 = .ok (.bipush 32, 2) := by decide +kernel
theorem cd_Row_15 : decode cb_Row 15 = .ok (.newarray .int, 2) := by decide +kernel
theorem cd_Row_17 : decode cb_Row 17 = .ok (.putfield 15, 3) := by decide +kernel
theorem cd_Row_20 : decode cb_Row 20 = .ok (.aload_n 0, 1) := by decide +kernel
theorem cd_Row_21 : decode cb_Row 21 = .ok (.iconst 0, 1) := by decide +kernel
theorem cd_Row_22 : decode cb_Row 22 = .ok (.putfield 18, 3) := by decide +kernel
theorem cd_Row_25 : decode cb_Row 25 = .ok (.aload_n 0, 1) := by decide +kernel
theorem cd_Row_26 : decode cb_Row 26 = .ok (.iconst 1, 1) := by decide +kernel
theorem cd_Row_27 : decode cb_Row 27 = .ok (.putfield 22, 3) := by decide +kernel
theorem cd_Row_30 : decode cb_Row 30 = .ok (.return_, 1) := by decide +kernel
theorem cd_Coder_0 : decode cb_Coder 0 = .ok (.aload_n 0, 1) := by decide +kernel
theorem cd_Coder_1 : decode cb_Coder 1 = .ok (.invokespecial 3, 3) := by decide +kernel
theorem cd_Coder_4 : decode cb_Coder 4 = .ok (.aload_n 0, 1) := by decide +kernel
theorem cd_Coder_5 : decode cb_Coder 5 = .ok (.iconst 5, 1) := by decide +kernel
theorem cd_Coder_6 : decode cb_Coder 6 = .ok (.newarray .int, 2) := by decide +kernel
theorem cd_Coder_8 : decode cb_Coder 8 = .ok (.putfield 9, 3) := by decide +kernel
theorem cd_Coder_11 : decode cb_Coder 11 = .ok (.aload_n 0, 1) := by decide +kernel
theorem cd_Coder_12 : decode cb_Coder 12 = .ok (.new 15, 3) := by decide +kernel
theorem cd_Coder_15 : decode cb_Coder 15 = .ok (.dup, 1) := by decide +kernel
theorem cd_Coder_16 : decode cb_Coder 16 = .ok (.invokespecial 17, 3) := by decide +kernel
theorem cd_Coder_19 : decode cb_Coder 19 = .ok (.putfield 18, 3) := by decide +kernel
theorem cd_Coder_22 : decode cb_Coder 22 = .ok (.return_, 1) := by decide +kernel
theorem cd_Img_0 : decode cb_Img 0 = .ok (.aload_n 0, 1) := by decide +kernel
theorem cd_Img_1 : decode cb_Img 1 = .ok (.invokespecial 3, 3) := by decide +kernel
theorem cd_Img_4 : decode cb_Img 4 = .ok (.aload_n 0, 1) := by decide +kernel
theorem cd_Img_5 : decode cb_Img 5 = .ok (.new 9, 3) := by decide +kernel
theorem cd_Img_8 : decode cb_Img 8 = .ok (.dup, 1) := by decide +kernel
theorem cd_Img_9 : decode cb_Img 9 = .ok (.invokespecial 11, 3) := by decide +kernel
theorem cd_Img_12 : decode cb_Img 12 = .ok (.putfield 12, 3) := by decide +kernel
theorem cd_Img_15 : decode cb_Img 15 = .ok (.aload_n 0, 1) := by decide +kernel
theorem cd_Img_16 : decode cb_Img 16 = .ok (.new 16, 3) := by decide +kernel
theorem cd_Img_19 : decode cb_Img 19 = .ok (.dup, 1) := by decide +kernel
theorem cd_Img_20 : decode cb_Img 20 = .ok (.invokespecial 18, 3) := by decide +kernel
theorem cd_Img_23 : decode cb_Img 23 = .ok (.putfield 19, 3) := by decide +kernel
theorem cd_Img_26 : decode cb_Img 26 = .ok (.aload_n 0, 1) := by decide +kernel
theorem cd_Img_27 : decode cb_Img 27 = .ok (.new 23, 3) := by decide +kernel
theorem cd_Img_30 : decode cb_Img 30 = .ok (.dup, 1) := by decide +kernel
theorem cd_Img_31 : decode cb_Img 31 = .ok (.invokespecial 25, 3) := by decide +kernel
theorem cd_Img_34 : decode cb_Img 34 = .ok (.putfield 26, 3) := by decide +kernel
theorem cd_Img_37 : decode cb_Img 37 = .ok (.aload_n 0, 1) := by decide +kernel
theorem cd_Img_38 : decode cb_Img 38 = .ok (.new 30, 3) := by decide +kernel
theorem cd_Img_41 : decode cb_Img 41 = .ok (.dup, 1) := by decide +kernel
theorem cd_Img_42 : decode cb_Img 42 = .ok (.invokespecial 32, 3) := by decide +kernel
theorem cd_Img_45 : decode cb_Img 45 = .ok (.putfield 33, 3) := by decide +kernel
theorem cd_Img_48 : decode cb_Img 48 = .ok (.aload_n 0, 1) := by decide +kernel
theorem cd_Img_49 : decode cb_Img 49 = .ok (.new 30, 3) := by decide +kernel
theorem cd_Img_52 : decode cb_Img 52 = .ok (.dup, 1) := by decide +kernel
theorem cd_Img_53 : decode cb_Img 53 = .ok (.invokespecial 32, 3) := by decide +kernel
theorem cd_Img_56 : decode cb_Img 56 = .ok (.putfield 37, 3) := by decide +kernel
theorem cd_Img_59 : decode cb_Img 59 = .ok (.aload_n 0, 1) := by decide +kernel
theorem cd_Img_60 : decode cb_Img 60 = .ok (.iconst 0, 1) := by decide +kernel
theorem cd_Img_61 : decode cb_Img 61 = .ok (.putfield 40, 3) := by decide +kernel
theorem cd_Img_64 : decode cb_Img 64 = .ok (.return_, 1) := by decide +kernel
theorem cd_Mod_0 : decode cb_Mod 0 = .ok (.aload_n 0, 1) := by decide +kernel
theorem cd_Mod_1 : decode cb_Mod 1 = .ok (.invokespecial 1, 3) := by decide +kernel
theorem cd_Mod_4 : decode cb_Mod 4 = .ok (.aload_n 0, 1) := by decide +kernel
theorem cd_Mod_5 : decode cb_Mod 5 = .ok (.iconst 1, 1) := by decide +kernel
theorem cd_Mod_6 : decode cb_Mod 6 = .ok (.putfield 7, 3) := by decide +kernel
theorem cd_Mod_9 : decode cb_Mod 9 = .ok (.aload_n 0, 1) := by decide +kernel
theorem cd_Mod_10 : decode cb_Mod 10 = .ok (.iconst 1, 1) := by decide +kernel
theorem cd_Mod_11 : decode cb_Mod 11 = .ok (.putfield 13, 3) := by decide +kernel
theorem cd_Mod_14 : decode cb_Mod 14 = .ok (.aload_n 0, 1) := by decide +kernel
theorem cd_Mod_15 : decode cb_Mod 15 = .ok (.iconst 1, 1) := by decide +kernel
theorem cd_Mod_16 : decode cb_Mod 16 = .ok (.putfield 16, 3) := by decide +kernel
theorem cd_Mod_19 : decode cb_Mod 19 = .ok (.aload_n 0, 1) := by decide +kernel
theorem cd_Mod_20 : decode cb_Mod 20 = .ok (.sipush 256, 3) := by decide +kernel
theorem cd_Mod_23 : decode cb_Mod 23 = .ok (.newarray .int, 2) := by decide +kernel
theorem cd_Mod_25 : decode cb_Mod 25 = .ok (.putfield 19, 3) := by decide +kernel
theorem cd_Mod_28 : decode cb_Mod 28 = .ok (.aload_n 0, 1) := by decide +kernel
theorem cd_Mod_29 : decode cb_Mod 29 = .ok (.sipush 256, 3) := by decide +kernel
theorem cd_Mod_32 : decode cb_Mod 32 = .ok (.newarray .int, 2) := by decide +kernel
theorem cd_Mod_34 : decode cb_Mod 34 = .ok (.putfield 23, 3) := by decide +kernel
theorem cd_Mod_37 : decode cb_Mod 37 = .ok (.aload_n 0, 1) := by decide +kernel
theorem cd_Mod_38 : decode cb_Mod 38 = .ok (.sipush 700, 3) := by decide +kernel
theorem cd_Mod_41 : decode cb_Mod 41 = .ok (.newarray .int, 2) := by decide +kernel
theorem cd_Mod_43 : decode cb_Mod 43 = .ok (.putfield 26, 3) := by decide +kernel
theorem cd_Mod_46 : decode cb_Mod 46 = .ok (.aload_n 0, 1) := by decide +kernel
theorem cd_Mod_47 : decode cb_Mod 47 = .ok (.iconst 5, 1) := by decide +kernel
theorem cd_Mod_48 : decode cb_Mod 48 = .ok (.newarray .int, 2) := by decide +kernel
theorem cd_Mod_50 : decode cb_Mod 50 = .ok (.putfield 29, 3) := by decide +kernel
theorem cd_Mod_53 : decode cb_Mod 53 = .ok (.aload_n 0, 1) := by decide +kernel
theorem cd_Mod_54 : decode cb_Mod 54 = .ok (.iconst 5, 1) := by decide +kernel
theorem cd_Mod_55 : decode cb_Mod 55 = .ok (.newarray .int, 2) := by decide +kernel
theorem cd_Mod_57 : decode cb_Mod 57 = .ok (.putfield 32, 3) := by decide +kernel
theorem cd_Mod_60 : decode cb_Mod 60 = .ok (.aload_n 0, 1) := by decide +kernel
theorem cd_Mod_61 : decode cb_Mod 61 = .ok (.sipush 300, 3) := by decide +kernel
theorem cd_Mod_64 : decode cb_Mod 64 = .ok (.newarray .int, 2) := by decide +kernel
theorem cd_Mod_66 : decode cb_Mod 66 = .ok (.putfield 35, 3) := by decide +kernel
theorem cd_Mod_69 : decode cb_Mod 69 = .ok (.return_, 1) := by decide +kernel
set_option maxHeartbeats 4000000 in
set_option maxRecDepth 100000 in
theorem c_Bytes700 (l : Launch) (dC : Nat → ClassId) (dI : Nat → Nat → Nat) (cA : ClassId) (h0 sz : Nat) : Met l cy_Bytes (cw_W cy_Bytes cb_Bytes 2) { frames := 1, cells := 1, slots := 700, locals := 20 } (va_Pc [.ref h0, .int 700] (fun U => U.heap.size = sz ∧ va_P (dC, dI) pm_cls [(h0, .inr (1, [.null, .int 0]))] U.heap ∧ va_K (dC, dI) pm_cls [(cA, .int)] U ∧ va_D (fun _ => True) [(h0, .inr (1, [.null, .int 0]))] ∧ cw_N U)) (va_Qv (fun _ : Unit => True) (fun _ t => ∃ q1 : Nat, va_P (dC, dI) pm_cls [(h0, .inr (1, [.ref q1, .int 0])), (q1, .inl (cA, (700, .inl fun _ => 0)))] t.heap ∧ va_K (dC, dI) pm_cls [(cA, .int)] t ∧ va_D (va_A [(h0, .inr (1, [.null, .int 0]))] sz) [(h0, .inr (1, [.ref q1, .int 0])), (q1, .inl (cA, (700, .inl fun _ => 0)))]) (va_A [(h0, .inr (1, [.null, .int 0]))] sz)) 1 700 (va_A [(h0, .inr (1, [.null, .int 0]))] sz) := by
  refine Met.ofW (cc := cb_Bytes) (maxL := 2) (ret := none) (by decide) rfl ?_
  intro p e s m args below meth c s₁ B hml hv
  obtain ⟨rfl, hsz, hP, hK, hD0, hN⟩ := hv
  have hx := B.exec
  have hb := B.bytes
  have hr := B.returns
  have hts0 := atoms_spec (ws := cw_W cy_Bytes cb_Bytes 2) B.pre
  have hts : ∀ w ∈ cw_ws, w.before _ s = true := fun w hw => hts0 w (List.mem_cons_of_mem _ hw)
  have hown : s.vm.findClass "SevenPassImage$Bytes" = some m.cls := findClass_of_methodNamed B.named
  have hlocks := B.notSynchronized
  have hin : meth.name = "<init>" := (name_of_methodNamed B.named B.method).1
  subst hsz
  have hD := hD0.self (sz := s.heap.size)
  generalize hAe : va_A [(h0, .inr (1, [.null, .int 0]))] s.heap.size = A at hD ⊢
  have hA : ∀ q : Nat, s.heap.size ≤ q → A q := fun q h => by rw [← hAe]; exact Or.inr h
  have hS : va_S A s.heap s.heap [] := va_S.rf
  have hP : va_P (dC, dI) pm_cls [(h0, .inr (1, [.null, .int 0]))] s.heap := hP
  have hl := lv_entry ([.ref h0, .int 700]) (n := 2) (Nat.le_of_ble_eq_true rfl)
  rw [lg_entry_eq]
  generalize (lg_sl ([.ref h0, .int 700]) ++ List.replicate (2 - (lg_sl ([.ref h0, .int 700])).length) Slot.unset).toArray = ls at hl ⊢
  have hl : lv_has ls 2 [(0, .ref h0), (1, .int 700)] := hl
  refine lv_aload_n hx hb cd_Bytes_0 rfl (lv_at hl 0 rfl) ?_
  refine W.objInit hx hb hown (hts _ (cw_m (i := 44) rfl)) (hts _ (cw_m (i := 0) rfl)) (hts _ (cw_m (i := 1) rfl)) rfl (by rw [hml]; exact hl.1) rfl cd_Bytes_1 (Nat.le_of_ble_eq_true rfl) (Nat.le_of_ble_eq_true rfl) ?_
  refine W.eq (g2 := F0 m 4 ls []) rfl ?_
  refine lv_aload_n hx hb cd_Bytes_4 rfl (lv_at hl 0 rfl) ?_
  refine lv_iload_n hx hb cd_Bytes_5 rfl (lv_at hl 1 rfl) ?_
  refine va_newa (D := (dC, dI)) (cl := pm_cls) (N' := 700) (a0 := (700, .inl fun _ => 0)) (ty := .int) hx hb (hts _ (cw_m (i := 2) rfl)) rfl hK hP hD hS hA (fun _ => rfl) (by decide) (by decide) (by decide) (Nat.le_of_ble_eq_true rfl) (Nat.le_of_ble_eq_true rfl) cd_Bytes_6 (fun q1 cB H hK2 hP hD hS => ?_)
  rw [cw_A hK2] at hP hD
  have hP : va_P (dC, dI) pm_cls [(h0, .inr (1, [.null, .int 0])), (q1, .inl (cA, (700, .inl fun _ => 0)))] H := hP
  have hD : va_D A [(h0, .inr (1, [.null, .int 0])), (q1, .inl (cA, (700, .inl fun _ => 0)))] := hD
  refine W.widen (k := 1) (n := 700) (Nat.le_of_ble_eq_true rfl) (Nat.le_of_ble_eq_true rfl) ?_
  refine va_putF (D := (dC, dI)) (cl := pm_cls) (ci := 1) (v := .ref q1) (C := (pm_q 1).1) (T := (pm_q 1).2.1) (N := 2) hx hb hts (cw_u (a := 1) (by decide)) (pm_ty 1) (pm_cls_a 1 (by decide)) (pm_cls_b 1 (by decide)) hown hK hP hD hS 0 rfl rfl 0 (by decide) (hts _ (cw_m (i := 45) rfl)) (fun _ h9 => h9) rfl hin rfl (pm_cls_a 1 (by decide) 0 (by decide)) rfl rfl (Nat.le_of_ble_eq_true rfl) cd_Bytes_8 (fun H locs hP hD hS => ?_)
  have hP : va_P (dC, dI) pm_cls [(h0, .inr (1, [.ref q1, .int 0])), (q1, .inl (cA, (700, .inl fun _ => 0)))] H := hP
  have hD : va_D A [(h0, .inr (1, [.ref q1, .int 0])), (q1, .inl (cA, (700, .inl fun _ => 0)))] := hD
  refine lv_aload_n hx hb cd_Bytes_11 rfl (lv_at hl 0 rfl) ?_
  refine lv_iconst (v := 0) hx hb cd_Bytes_12 (by decide) ?_
  refine va_put (D := (dC, dI)) (cl := pm_cls) (ci := 1) (v := .int 0) (C := (pm_q 1).1) (T := (pm_q 1).2.1) (N := 2) hx hb hts (cw_u (a := 1) (by decide)) (pm_ty 1) (pm_cls_a 1 (by decide)) (pm_cls_b 1 (by decide)) hown hK hP hD hS 0 rfl rfl 1 (by decide) (hts _ (cw_m (i := 46) rfl)) (fun _ h9 => h9) rfl (pm_cls_a 1 (by decide) 1 (by decide)) rfl rfl (Nat.le_of_ble_eq_true rfl) cd_Bytes_13 (fun H locs hP hD hS => ?_)
  have hP : va_P (dC, dI) pm_cls [(h0, .inr (1, [.ref q1, .int 0])), (q1, .inl (cA, (700, .inl fun _ => 0)))] H := hP
  have hD : va_D A [(h0, .inr (1, [.ref q1, .int 0])), (q1, .inl (cA, (700, .inl fun _ => 0)))] := hD
  exact W.vret hx hb hr (fun t ht hW => ⟨⟨(), rfl, trivial, q1, by rw [ht]; exact hP, va_K.moved hW.alike hK, hD⟩, hS.F ht⟩) hS.2.2 cd_Bytes_16
set_option maxHeartbeats 4000000 in
set_option maxRecDepth 100000 in
theorem c_Bytes300 (l : Launch) (dC : Nat → ClassId) (dI : Nat → Nat → Nat) (cA : ClassId) (h0 sz : Nat) : Met l cy_Bytes (cw_W cy_Bytes cb_Bytes 2) { frames := 1, cells := 1, slots := 300, locals := 20 } (va_Pc [.ref h0, .int 300] (fun U => U.heap.size = sz ∧ va_P (dC, dI) pm_cls [(h0, .inr (1, [.null, .int 0]))] U.heap ∧ va_K (dC, dI) pm_cls [(cA, .int)] U ∧ va_D (fun _ => True) [(h0, .inr (1, [.null, .int 0]))] ∧ cw_N U)) (va_Qv (fun _ : Unit => True) (fun _ t => ∃ q1 : Nat, va_P (dC, dI) pm_cls [(h0, .inr (1, [.ref q1, .int 0])), (q1, .inl (cA, (300, .inl fun _ => 0)))] t.heap ∧ va_K (dC, dI) pm_cls [(cA, .int)] t ∧ va_D (va_A [(h0, .inr (1, [.null, .int 0]))] sz) [(h0, .inr (1, [.ref q1, .int 0])), (q1, .inl (cA, (300, .inl fun _ => 0)))]) (va_A [(h0, .inr (1, [.null, .int 0]))] sz)) 1 300 (va_A [(h0, .inr (1, [.null, .int 0]))] sz) := by
  refine Met.ofW (cc := cb_Bytes) (maxL := 2) (ret := none) (by decide) rfl ?_
  intro p e s m args below meth c s₁ B hml hv
  obtain ⟨rfl, hsz, hP, hK, hD0, hN⟩ := hv
  have hx := B.exec
  have hb := B.bytes
  have hr := B.returns
  have hts0 := atoms_spec (ws := cw_W cy_Bytes cb_Bytes 2) B.pre
  have hts : ∀ w ∈ cw_ws, w.before _ s = true := fun w hw => hts0 w (List.mem_cons_of_mem _ hw)
  have hown : s.vm.findClass "SevenPassImage$Bytes" = some m.cls := findClass_of_methodNamed B.named
  have hlocks := B.notSynchronized
  have hin : meth.name = "<init>" := (name_of_methodNamed B.named B.method).1
  subst hsz
  have hD := hD0.self (sz := s.heap.size)
  generalize hAe : va_A [(h0, .inr (1, [.null, .int 0]))] s.heap.size = A at hD ⊢
  have hA : ∀ q : Nat, s.heap.size ≤ q → A q := fun q h => by rw [← hAe]; exact Or.inr h
  have hS : va_S A s.heap s.heap [] := va_S.rf
  have hP : va_P (dC, dI) pm_cls [(h0, .inr (1, [.null, .int 0]))] s.heap := hP
  have hl := lv_entry ([.ref h0, .int 300]) (n := 2) (Nat.le_of_ble_eq_true rfl)
  rw [lg_entry_eq]
  generalize (lg_sl ([.ref h0, .int 300]) ++ List.replicate (2 - (lg_sl ([.ref h0, .int 300])).length) Slot.unset).toArray = ls at hl ⊢
  have hl : lv_has ls 2 [(0, .ref h0), (1, .int 300)] := hl
  refine lv_aload_n hx hb cd_Bytes_0 rfl (lv_at hl 0 rfl) ?_
  refine W.objInit hx hb hown (hts _ (cw_m (i := 44) rfl)) (hts _ (cw_m (i := 0) rfl)) (hts _ (cw_m (i := 1) rfl)) rfl (by rw [hml]; exact hl.1) rfl cd_Bytes_1 (Nat.le_of_ble_eq_true rfl) (Nat.le_of_ble_eq_true rfl) ?_
  refine W.eq (g2 := F0 m 4 ls []) rfl ?_
  refine lv_aload_n hx hb cd_Bytes_4 rfl (lv_at hl 0 rfl) ?_
  refine lv_iload_n hx hb cd_Bytes_5 rfl (lv_at hl 1 rfl) ?_
  refine va_newa (D := (dC, dI)) (cl := pm_cls) (N' := 300) (a0 := (300, .inl fun _ => 0)) (ty := .int) hx hb (hts _ (cw_m (i := 2) rfl)) rfl hK hP hD hS hA (fun _ => rfl) (by decide) (by decide) (by decide) (Nat.le_of_ble_eq_true rfl) (Nat.le_of_ble_eq_true rfl) cd_Bytes_6 (fun q1 cB H hK2 hP hD hS => ?_)
  rw [cw_A hK2] at hP hD
  have hP : va_P (dC, dI) pm_cls [(h0, .inr (1, [.null, .int 0])), (q1, .inl (cA, (300, .inl fun _ => 0)))] H := hP
  have hD : va_D A [(h0, .inr (1, [.null, .int 0])), (q1, .inl (cA, (300, .inl fun _ => 0)))] := hD
  refine W.widen (k := 1) (n := 300) (Nat.le_of_ble_eq_true rfl) (Nat.le_of_ble_eq_true rfl) ?_
  refine va_putF (D := (dC, dI)) (cl := pm_cls) (ci := 1) (v := .ref q1) (C := (pm_q 1).1) (T := (pm_q 1).2.1) (N := 2) hx hb hts (cw_u (a := 1) (by decide)) (pm_ty 1) (pm_cls_a 1 (by decide)) (pm_cls_b 1 (by decide)) hown hK hP hD hS 0 rfl rfl 0 (by decide) (hts _ (cw_m (i := 45) rfl)) (fun _ h9 => h9) rfl hin rfl (pm_cls_a 1 (by decide) 0 (by decide)) rfl rfl (Nat.le_of_ble_eq_true rfl) cd_Bytes_8 (fun H locs hP hD hS => ?_)
  have hP : va_P (dC, dI) pm_cls [(h0, .inr (1, [.ref q1, .int 0])), (q1, .inl (cA, (300, .inl fun _ => 0)))] H := hP
  have hD : va_D A [(h0, .inr (1, [.ref q1, .int 0])), (q1, .inl (cA, (300, .inl fun _ => 0)))] := hD
  refine lv_aload_n hx hb cd_Bytes_11 rfl (lv_at hl 0 rfl) ?_
  refine lv_iconst (v := 0) hx hb cd_Bytes_12 (by decide) ?_
  refine va_put (D := (dC, dI)) (cl := pm_cls) (ci := 1) (v := .int 0) (C := (pm_q 1).1) (T := (pm_q 1).2.1) (N := 2) hx hb hts (cw_u (a := 1) (by decide)) (pm_ty 1) (pm_cls_a 1 (by decide)) (pm_cls_b 1 (by decide)) hown hK hP hD hS 0 rfl rfl 1 (by decide) (hts _ (cw_m (i := 46) rfl)) (fun _ h9 => h9) rfl (pm_cls_a 1 (by decide) 1 (by decide)) rfl rfl (Nat.le_of_ble_eq_true rfl) cd_Bytes_13 (fun H locs hP hD hS => ?_)
  have hP : va_P (dC, dI) pm_cls [(h0, .inr (1, [.ref q1, .int 0])), (q1, .inl (cA, (300, .inl fun _ => 0)))] H := hP
  have hD : va_D A [(h0, .inr (1, [.ref q1, .int 0])), (q1, .inl (cA, (300, .inl fun _ => 0)))] := hD
  exact W.vret hx hb hr (fun t ht hW => ⟨⟨(), rfl, trivial, q1, by rw [ht]; exact hP, va_K.moved hW.alike hK, hD⟩, hS.F ht⟩) hS.2.2 cd_Bytes_16
set_option maxHeartbeats 4000000 in
set_option maxRecDepth 100000 in
theorem c_Bits (l : Launch) (dC : Nat → ClassId) (dI : Nat → Nat → Nat) (cA : ClassId) (h0 sz : Nat) : Met l cy_Bits (cw_W cy_Bits cb_Bits 1) { frames := 2, cells := 2, slots := 702, locals := 41 } (va_Pc [.ref h0] (fun U => U.heap.size = sz ∧ va_P (dC, dI) pm_cls [(h0, .inr (0, [.null, .int 0, .int 0]))] U.heap ∧ va_K (dC, dI) pm_cls [(cA, .int)] U ∧ va_D (fun _ => True) [(h0, .inr (0, [.null, .int 0, .int 0]))] ∧ cw_N U)) (va_Qv (fun _ : Unit => True) (fun _ t => ∃ q1 q2 : Nat, va_P (dC, dI) pm_cls [(h0, .inr (0, [.ref q1, .int 0, .int 0])), (q1, .inr (1, [.ref q2, .int 0])), (q2, .inl (cA, (700, .inl fun _ => 0)))] t.heap ∧ va_K (dC, dI) pm_cls [(cA, .int)] t ∧ va_D (va_A [(h0, .inr (0, [.null, .int 0, .int 0]))] sz) [(h0, .inr (0, [.ref q1, .int 0, .int 0])), (q1, .inr (1, [.ref q2, .int 0])), (q2, .inl (cA, (700, .inl fun _ => 0)))]) (va_A [(h0, .inr (0, [.null, .int 0, .int 0]))] sz)) 2 702 (va_A [(h0, .inr (0, [.null, .int 0, .int 0]))] sz) := by
  refine Met.ofW (cc := cb_Bits) (maxL := 1) (ret := none) (by decide) rfl ?_
  intro p e s m args below meth c s₁ B hml hv
  obtain ⟨rfl, hsz, hP, hK, hD0, hN⟩ := hv
  have hx := B.exec
  have hb := B.bytes
  have hr := B.returns
  have hts0 := atoms_spec (ws := cw_W cy_Bits cb_Bits 1) B.pre
  have hts : ∀ w ∈ cw_ws, w.before _ s = true := fun w hw => hts0 w (List.mem_cons_of_mem _ hw)
  have hown : s.vm.findClass "SevenPassImage$Bits" = some m.cls := findClass_of_methodNamed B.named
  have hlocks := B.notSynchronized
  have hin : meth.name = "<init>" := (name_of_methodNamed B.named B.method).1
  subst hsz
  have hD := hD0.self (sz := s.heap.size)
  generalize hAe : va_A [(h0, .inr (0, [.null, .int 0, .int 0]))] s.heap.size = A at hD ⊢
  have hA : ∀ q : Nat, s.heap.size ≤ q → A q := fun q h => by rw [← hAe]; exact Or.inr h
  have hS : va_S A s.heap s.heap [] := va_S.rf
  have hP : va_P (dC, dI) pm_cls [(h0, .inr (0, [.null, .int 0, .int 0]))] s.heap := hP
  have hl := lv_entry ([.ref h0]) (n := 1) (Nat.le_of_ble_eq_true rfl)
  rw [lg_entry_eq]
  generalize (lg_sl ([.ref h0]) ++ List.replicate (1 - (lg_sl ([.ref h0])).length) Slot.unset).toArray = ls at hl ⊢
  have hl : lv_has ls 1 [(0, .ref h0)] := hl
  refine lv_aload_n hx hb cd_Bits_0 rfl (lv_at hl 0 rfl) ?_
  refine W.objInit hx hb hown (hts _ (cw_m (i := 39) rfl)) (hts _ (cw_m (i := 0) rfl)) (hts _ (cw_m (i := 1) rfl)) rfl (by rw [hml]; exact hl.1) rfl cd_Bits_1 (Nat.le_of_ble_eq_true rfl) (Nat.le_of_ble_eq_true rfl) ?_
  refine W.eq (g2 := F0 m 4 ls []) rfl ?_
  refine lv_aload_n hx hb cd_Bits_4 rfl (lv_at hl 0 rfl) ?_
  refine va_new (D := (dC, dI)) (cl := pm_cls) (ci := 1) (fs := [.null, .int 0]) (C := (pm_q 1).1) (T := (pm_q 1).2.1) (N := 2) hx hb hts (cw_u (a := 1) (by decide)) (pm_ty 1) (pm_cls_a 1 (by decide)) hown (hts _ (cw_m (i := 40) rfl)) (hts _ (cw_m (i := 10) rfl)) (hts _ (cw_m (i := 9) rfl)) hK hP hD hS hA rfl (by decide +kernel) (Nat.le_of_ble_eq_true rfl) (Nat.le_of_ble_eq_true rfl) cd_Bits_5 (fun q1 H hP hD hS => ?_)
  have hP : va_P (dC, dI) pm_cls [(h0, .inr (0, [.null, .int 0, .int 0])), (q1, .inr (1, [.null, .int 0]))] H := hP
  have hD : va_D A [(h0, .inr (0, [.null, .int 0, .int 0])), (q1, .inr (1, [.null, .int 0]))] := hD
  refine W.widen (k := 1) (n := 2) (Nat.le_of_ble_eq_true rfl) (Nat.le_of_ble_eq_true rfl) ?_
  refine lv_dup hx hb cd_Bits_8 rfl ?_
  refine lv_sipush (v := 700) hx hb cd_Bits_9 (by decide) ?_
  have hPc := hP.sub (ws' := [(q1, .inr (1, [.null, .int 0]))]) [1] rfl
  have hDc := hD.sub (ws' := [(q1, .inr (1, [.null, .int 0]))]) [1] (by decide) rfl
  have hFc := va_free (wc := [(q1, .inr (1, [.null, .int 0]))]) hD hS hA [1] rfl
  refine va_callv (va_runIN (host := pm_host) (As := [.int 700]) (rest := [.ref q1, .ref h0]) ⟨hx, hb, hml, hown, hts⟩ (c_Bytes700 l dC dI cA q1 H.size) ⟨va_cnB 1 hts (cw_goodIn (cw_m (i := 7) rfl)) rfl rfl rfl (hN _ (List.mem_of_getElem? (i := 0) rfl)) (hts _ (cw_m (i := 9) rfl)) (by decide +kernel) ⟨Nat.le_of_ble_eq_true rfl, Nat.le_of_ble_eq_true rfl⟩, rfl, (hts _ (cw_m (i := 8) rfl))⟩ ⟨fun a U g mk q => by obtain ⟨z0, z1, zP, zK, zD, zN⟩ := q; exact ⟨z0, z1, zP, va_K.moved (u := U) (U := U.calling g mk a) (Vm.Alike.refl U.vm) zK, zD, fun x hx => va_Nw.same rfl rfl (zN x hx)⟩, fun U hU hW => ⟨rfl, by rw [hU], by rw [hU]; exact hPc, va_K.moved hW.alike hK, hDc.weaken (fun _ _ _ _ => trivial), fun x hx => va_Nw.warmM hW (hN x hx)⟩⟩ rfl rfl hl.1 rfl (lv_room (Nat.le_of_ble_eq_true rfl)) cd_Bits_12 ⟨Nat.le_of_ble_eq_true rfl, Nat.le_of_ble_eq_true rfl⟩) hS (fun q _ h => hFc q h) hFc (fun u t H1 locs ht hvm _ hB hz1 hk1 hS => ?_)
  obtain ⟨q2, hP1, hK1, hD1⟩ := hB
  rw [ht] at hP1
  obtain ⟨hP, hD⟩ := va_join (wr := [(h0, .inr (0, [.null, .int 0, .int 0]))]) (w1 := [(q1, .inr (1, [.ref q2, .int 0])), (q2, .inl (cA, (700, .inl fun _ => 0)))]) hP hD [1] [0] rfl rfl (by decide) (by decide) hk1 hFc hP1 hD1
  generalize H1 = H at hP hS ⊢
  have hP : va_P (dC, dI) pm_cls [(h0, .inr (0, [.null, .int 0, .int 0])), (q1, .inr (1, [.ref q2, .int 0])), (q2, .inl (cA, (700, .inl fun _ => 0)))] H := hP
  have hD : va_D A [(h0, .inr (0, [.null, .int 0, .int 0])), (q1, .inr (1, [.ref q2, .int 0])), (q2, .inl (cA, (700, .inl fun _ => 0)))] := hD
  refine W.widen (k := 2) (n := 702) (Nat.le_of_ble_eq_true rfl) (Nat.le_of_ble_eq_true rfl) ?_
  refine va_putF (D := (dC, dI)) (cl := pm_cls) (ci := 0) (v := .ref q1) (C := (pm_q 0).1) (T := (pm_q 0).2.1) (N := 3) hx hb hts (cw_u (a := 0) (by decide)) (pm_ty 0) (pm_cls_a 0 (by decide)) (pm_cls_b 0 (by decide)) hown hK hP hD hS 0 rfl rfl 0 (by decide) (hts _ (cw_m (i := 41) rfl)) (fun _ h9 => h9) rfl hin rfl (pm_cls_a 0 (by decide) 0 (by decide)) rfl rfl (Nat.le_of_ble_eq_true rfl) cd_Bits_15 (fun H locs hP hD hS => ?_)
  have hP : va_P (dC, dI) pm_cls [(h0, .inr (0, [.ref q1, .int 0, .int 0])), (q1, .inr (1, [.ref q2, .int 0])), (q2, .inl (cA, (700, .inl fun _ => 0)))] H := hP
  have hD : va_D A [(h0, .inr (0, [.ref q1, .int 0, .int 0])), (q1, .inr (1, [.ref q2, .int 0])), (q2, .inl (cA, (700, .inl fun _ => 0)))] := hD
  refine lv_aload_n hx hb cd_Bits_18 rfl (lv_at hl 0 rfl) ?_
  refine lv_iconst (v := 0) hx hb cd_Bits_19 (by decide) ?_
  refine va_put (D := (dC, dI)) (cl := pm_cls) (ci := 0) (v := .int 0) (C := (pm_q 0).1) (T := (pm_q 0).2.1) (N := 3) hx hb hts (cw_u (a := 0) (by decide)) (pm_ty 0) (pm_cls_a 0 (by decide)) (pm_cls_b 0 (by decide)) hown hK hP hD hS 0 rfl rfl 1 (by decide) (hts _ (cw_m (i := 42) rfl)) (fun _ h9 => h9) rfl (pm_cls_a 0 (by decide) 1 (by decide)) rfl rfl (Nat.le_of_ble_eq_true rfl) cd_Bits_20 (fun H locs hP hD hS => ?_)
  have hP : va_P (dC, dI) pm_cls [(h0, .inr (0, [.ref q1, .int 0, .int 0])), (q1, .inr (1, [.ref q2, .int 0])), (q2, .inl (cA, (700, .inl fun _ => 0)))] H := hP
  have hD : va_D A [(h0, .inr (0, [.ref q1, .int 0, .int 0])), (q1, .inr (1, [.ref q2, .int 0])), (q2, .inl (cA, (700, .inl fun _ => 0)))] := hD
  refine lv_aload_n hx hb cd_Bits_23 rfl (lv_at hl 0 rfl) ?_
  refine lv_iconst (v := 0) hx hb cd_Bits_24 (by decide) ?_
  refine va_put (D := (dC, dI)) (cl := pm_cls) (ci := 0) (v := .int 0) (C := (pm_q 0).1) (T := (pm_q 0).2.1) (N := 3) hx hb hts (cw_u (a := 0) (by decide)) (pm_ty 0) (pm_cls_a 0 (by decide)) (pm_cls_b 0 (by decide)) hown hK hP hD hS 0 rfl rfl 2 (by decide) (hts _ (cw_m (i := 43) rfl)) (fun _ h9 => h9) rfl (pm_cls_a 0 (by decide) 2 (by decide)) rfl rfl (Nat.le_of_ble_eq_true rfl) cd_Bits_25 (fun H locs hP hD hS => ?_)
  have hP : va_P (dC, dI) pm_cls [(h0, .inr (0, [.ref q1, .int 0, .int 0])), (q1, .inr (1, [.ref q2, .int 0])), (q2, .inl (cA, (700, .inl fun _ => 0)))] H := hP
  have hD : va_D A [(h0, .inr (0, [.ref q1, .int 0, .int 0])), (q1, .inr (1, [.ref q2, .int 0])), (q2, .inl (cA, (700, .inl fun _ => 0)))] := hD
  exact W.vret hx hb hr (fun t ht hW => ⟨⟨(), rfl, trivial, q1, q2, by rw [ht]; exact hP, va_K.moved hW.alike hK, hD⟩, hS.F ht⟩) hS.2.2 cd_Bits_28
set_option maxHeartbeats 4000000 in
set_option maxRecDepth 100000 in
theorem c_File (l : Launch) (dC : Nat → ClassId) (dI : Nat → Nat → Nat) (cA : ClassId) (h0 sz : Nat) : Met l cy_File (cw_W cy_File cb_File 1) { frames := 2, cells := 2, slots := 702, locals := 41 } (va_Pc [.ref h0] (fun U => U.heap.size = sz ∧ va_P (dC, dI) pm_cls [(h0, .inr (2, [.null, .int 0]))] U.heap ∧ va_K (dC, dI) pm_cls [(cA, .int)] U ∧ va_D (fun _ => True) [(h0, .inr (2, [.null, .int 0]))] ∧ cw_N U)) (va_Qv (fun _ : Unit => True) (fun _ t => ∃ q1 q2 : Nat, va_P (dC, dI) pm_cls [(h0, .inr (2, [.ref q1, .int 0])), (q1, .inr (1, [.ref q2, .int 0])), (q2, .inl (cA, (700, .inl fun _ => 0)))] t.heap ∧ va_K (dC, dI) pm_cls [(cA, .int)] t ∧ va_D (va_A [(h0, .inr (2, [.null, .int 0]))] sz) [(h0, .inr (2, [.ref q1, .int 0])), (q1, .inr (1, [.ref q2, .int 0])), (q2, .inl (cA, (700, .inl fun _ => 0)))]) (va_A [(h0, .inr (2, [.null, .int 0]))] sz)) 2 702 (va_A [(h0, .inr (2, [.null, .int 0]))] sz) := by
  refine Met.ofW (cc := cb_File) (maxL := 1) (ret := none) (by decide) rfl ?_
  intro p e s m args below meth c s₁ B hml hv
  obtain ⟨rfl, hsz, hP, hK, hD0, hN⟩ := hv
  have hx := B.exec
  have hb := B.bytes
  have hr := B.returns
  have hts0 := atoms_spec (ws := cw_W cy_File cb_File 1) B.pre
  have hts : ∀ w ∈ cw_ws, w.before _ s = true := fun w hw => hts0 w (List.mem_cons_of_mem _ hw)
  have hown : s.vm.findClass "SevenPassImage$ChunkFile" = some m.cls := findClass_of_methodNamed B.named
  have hlocks := B.notSynchronized
  have hin : meth.name = "<init>" := (name_of_methodNamed B.named B.method).1
  subst hsz
  have hD := hD0.self (sz := s.heap.size)
  generalize hAe : va_A [(h0, .inr (2, [.null, .int 0]))] s.heap.size = A at hD ⊢
  have hA : ∀ q : Nat, s.heap.size ≤ q → A q := fun q h => by rw [← hAe]; exact Or.inr h
  have hS : va_S A s.heap s.heap [] := va_S.rf
  have hP : va_P (dC, dI) pm_cls [(h0, .inr (2, [.null, .int 0]))] s.heap := hP
  have hl := lv_entry ([.ref h0]) (n := 1) (Nat.le_of_ble_eq_true rfl)
  rw [lg_entry_eq]
  generalize (lg_sl ([.ref h0]) ++ List.replicate (1 - (lg_sl ([.ref h0])).length) Slot.unset).toArray = ls at hl ⊢
  have hl : lv_has ls 1 [(0, .ref h0)] := hl
  refine lv_aload_n hx hb cd_File_0 rfl (lv_at hl 0 rfl) ?_
  refine W.objInit hx hb hown (hts _ (cw_m (i := 47) rfl)) (hts _ (cw_m (i := 0) rfl)) (hts _ (cw_m (i := 1) rfl)) rfl (by rw [hml]; exact hl.1) rfl cd_File_1 (Nat.le_of_ble_eq_true rfl) (Nat.le_of_ble_eq_true rfl) ?_
  refine W.eq (g2 := F0 m 4 ls []) rfl ?_
  refine lv_aload_n hx hb cd_File_4 rfl (lv_at hl 0 rfl) ?_
  refine va_new (D := (dC, dI)) (cl := pm_cls) (ci := 1) (fs := [.null, .int 0]) (C := (pm_q 1).1) (T := (pm_q 1).2.1) (N := 2) hx hb hts (cw_u (a := 1) (by decide)) (pm_ty 1) (pm_cls_a 1 (by decide)) hown (hts _ (cw_m (i := 48) rfl)) (hts _ (cw_m (i := 10) rfl)) (hts _ (cw_m (i := 9) rfl)) hK hP hD hS hA rfl (by decide +kernel) (Nat.le_of_ble_eq_true rfl) (Nat.le_of_ble_eq_true rfl) cd_File_5 (fun q1 H hP hD hS => ?_)
  have hP : va_P (dC, dI) pm_cls [(h0, .inr (2, [.null, .int 0])), (q1, .inr (1, [.null, .int 0]))] H := hP
  have hD : va_D A [(h0, .inr (2, [.null, .int 0])), (q1, .inr (1, [.null, .int 0]))] := hD
  refine W.widen (k := 1) (n := 2) (Nat.le_of_ble_eq_true rfl) (Nat.le_of_ble_eq_true rfl) ?_
  refine lv_dup hx hb cd_File_8 rfl ?_
  refine lv_sipush (v := 700) hx hb cd_File_9 (by decide) ?_
  have hPc := hP.sub (ws' := [(q1, .inr (1, [.null, .int 0]))]) [1] rfl
  have hDc := hD.sub (ws' := [(q1, .inr (1, [.null, .int 0]))]) [1] (by decide) rfl
  have hFc := va_free (wc := [(q1, .inr (1, [.null, .int 0]))]) hD hS hA [1] rfl
  refine va_callv (va_runIN (host := pm_host) (As := [.int 700]) (rest := [.ref q1, .ref h0]) ⟨hx, hb, hml, hown, hts⟩ (c_Bytes700 l dC dI cA q1 H.size) ⟨va_cnB 1 hts (cw_goodIn (cw_m (i := 7) rfl)) rfl rfl rfl (hN _ (List.mem_of_getElem? (i := 1) rfl)) (hts _ (cw_m (i := 9) rfl)) (by decide +kernel) ⟨Nat.le_of_ble_eq_true rfl, Nat.le_of_ble_eq_true rfl⟩, rfl, (hts _ (cw_m (i := 8) rfl))⟩ ⟨fun a U g mk q => by obtain ⟨z0, z1, zP, zK, zD, zN⟩ := q; exact ⟨z0, z1, zP, va_K.moved (u := U) (U := U.calling g mk a) (Vm.Alike.refl U.vm) zK, zD, fun x hx => va_Nw.same rfl rfl (zN x hx)⟩, fun U hU hW => ⟨rfl, by rw [hU], by rw [hU]; exact hPc, va_K.moved hW.alike hK, hDc.weaken (fun _ _ _ _ => trivial), fun x hx => va_Nw.warmM hW (hN x hx)⟩⟩ rfl rfl hl.1 rfl (lv_room (Nat.le_of_ble_eq_true rfl)) cd_File_12 ⟨Nat.le_of_ble_eq_true rfl, Nat.le_of_ble_eq_true rfl⟩) hS (fun q _ h => hFc q h) hFc (fun u t H1 locs ht hvm _ hB hz1 hk1 hS => ?_)
  obtain ⟨q2, hP1, hK1, hD1⟩ := hB
  rw [ht] at hP1
  obtain ⟨hP, hD⟩ := va_join (wr := [(h0, .inr (2, [.null, .int 0]))]) (w1 := [(q1, .inr (1, [.ref q2, .int 0])), (q2, .inl (cA, (700, .inl fun _ => 0)))]) hP hD [1] [0] rfl rfl (by decide) (by decide) hk1 hFc hP1 hD1
  generalize H1 = H at hP hS ⊢
  have hP : va_P (dC, dI) pm_cls [(h0, .inr (2, [.null, .int 0])), (q1, .inr (1, [.ref q2, .int 0])), (q2, .inl (cA, (700, .inl fun _ => 0)))] H := hP
  have hD : va_D A [(h0, .inr (2, [.null, .int 0])), (q1, .inr (1, [.ref q2, .int 0])), (q2, .inl (cA, (700, .inl fun _ => 0)))] := hD
  refine W.widen (k := 2) (n := 702) (Nat.le_of_ble_eq_true rfl) (Nat.le_of_ble_eq_true rfl) ?_
  refine va_putF (D := (dC, dI)) (cl := pm_cls) (ci := 2) (v := .ref q1) (C := (pm_q 2).1) (T := (pm_q 2).2.1) (N := 2) hx hb hts (cw_u (a := 2) (by decide)) (pm_ty 2) (pm_cls_a 2 (by decide)) (pm_cls_b 2 (by decide)) hown hK hP hD hS 0 rfl rfl 0 (by decide) (hts _ (cw_m (i := 49) rfl)) (fun _ h9 => h9) rfl hin rfl (pm_cls_a 2 (by decide) 0 (by decide)) rfl rfl (Nat.le_of_ble_eq_true rfl) cd_File_15 (fun H locs hP hD hS => ?_)
  have hP : va_P (dC, dI) pm_cls [(h0, .inr (2, [.ref q1, .int 0])), (q1, .inr (1, [.ref q2, .int 0])), (q2, .inl (cA, (700, .inl fun _ => 0)))] H := hP
  have hD : va_D A [(h0, .inr (2, [.ref q1, .int 0])), (q1, .inr (1, [.ref q2, .int 0])), (q2, .inl (cA, (700, .inl fun _ => 0)))] := hD
  refine lv_aload_n hx hb cd_File_18 rfl (lv_at hl 0 rfl) ?_
  refine lv_iconst (v := 0) hx hb cd_File_19 (by decide) ?_
  refine va_put (D := (dC, dI)) (cl := pm_cls) (ci := 2) (v := .int 0) (C := (pm_q 2).1) (T := (pm_q 2).2.1) (N := 2) hx hb hts (cw_u (a := 2) (by decide)) (pm_ty 2) (pm_cls_a 2 (by decide)) (pm_cls_b 2 (by decide)) hown hK hP hD hS 0 rfl rfl 1 (by decide) (hts _ (cw_m (i := 50) rfl)) (fun _ h9 => h9) rfl (pm_cls_a 2 (by decide) 1 (by decide)) rfl rfl (Nat.le_of_ble_eq_true rfl) cd_File_20 (fun H locs hP hD hS => ?_)
  have hP : va_P (dC, dI) pm_cls [(h0, .inr (2, [.ref q1, .int 0])), (q1, .inr (1, [.ref q2, .int 0])), (q2, .inl (cA, (700, .inl fun _ => 0)))] H := hP
  have hD : va_D A [(h0, .inr (2, [.ref q1, .int 0])), (q1, .inr (1, [.ref q2, .int 0])), (q2, .inl (cA, (700, .inl fun _ => 0)))] := hD
  exact W.vret hx hb hr (fun t ht hW => ⟨⟨(), rfl, trivial, q1, q2, by rw [ht]; exact hP, va_K.moved hW.alike hK, hD⟩, hS.F ht⟩) hS.2.2 cd_File_23
set_option maxHeartbeats 4000000 in
set_option maxRecDepth 100000 in
theorem c_Pack (l : Launch) (dC : Nat → ClassId) (dI : Nat → Nat → Nat) (cA : ClassId) (h0 sz : Nat) : Met l cy_Pack (cw_W cy_Pack cb_Pack 1) { frames := 3, cells := 5, slots := 1007, locals := 61 } (va_Pc [.ref h0] (fun U => U.heap.size = sz ∧ va_P (dC, dI) pm_cls [(h0, .inr (3, [.null, .null, .int 0, .int 0, .int 0, .int 0]))] U.heap ∧ va_K (dC, dI) pm_cls [(cA, .int)] U ∧ va_D (fun _ => True) [(h0, .inr (3, [.null, .null, .int 0, .int 0, .int 0, .int 0]))] ∧ cw_N U)) (va_Qv (fun _ : Unit => True) (fun _ t => ∃ q1 q2 q3 q4 q5 : Nat, va_P (dC, dI) pm_cls [(h0, .inr (3, [.ref q1, .ref q3, .int 0, .int 0, .int 0, .int 0])), (q1, .inr (1, [.ref q2, .int 0])), (q2, .inl (cA, (300, .inl fun _ => 0))), (q3, .inr (0, [.ref q4, .int 0, .int 0])), (q4, .inr (1, [.ref q5, .int 0])), (q5, .inl (cA, (700, .inl fun _ => 0)))] t.heap ∧ va_K (dC, dI) pm_cls [(cA, .int)] t ∧ va_D (va_A [(h0, .inr (3, [.null, .null, .int 0, .int 0, .int 0, .int 0]))] sz) [(h0, .inr (3, [.ref q1, .ref q3, .int 0, .int 0, .int 0, .int 0])), (q1, .inr (1, [.ref q2, .int 0])), (q2, .inl (cA, (300, .inl fun _ => 0))), (q3, .inr (0, [.ref q4, .int 0, .int 0])), (q4, .inr (1, [.ref q5, .int 0])), (q5, .inl (cA, (700, .inl fun _ => 0)))]) (va_A [(h0, .inr (3, [.null, .null, .int 0, .int 0, .int 0, .int 0]))] sz)) 5 1007 (va_A [(h0, .inr (3, [.null, .null, .int 0, .int 0, .int 0, .int 0]))] sz) := by
  refine Met.ofW (cc := cb_Pack) (maxL := 1) (ret := none) (by decide) rfl ?_
  intro p e s m args below meth c s₁ B hml hv
  obtain ⟨rfl, hsz, hP, hK, hD0, hN⟩ := hv
  have hx := B.exec
  have hb := B.bytes
  have hr := B.returns
  have hts0 := atoms_spec (ws := cw_W cy_Pack cb_Pack 1) B.pre
  have hts : ∀ w ∈ cw_ws, w.before _ s = true := fun w hw => hts0 w (List.mem_cons_of_mem _ hw)
  have hown : s.vm.findClass "SevenPassImage$Packing" = some m.cls := findClass_of_methodNamed B.named
  have hlocks := B.notSynchronized
  have hin : meth.name = "<init>" := (name_of_methodNamed B.named B.method).1
  subst hsz
  have hD := hD0.self (sz := s.heap.size)
  generalize hAe : va_A [(h0, .inr (3, [.null, .null, .int 0, .int 0, .int 0, .int 0]))] s.heap.size = A at hD ⊢
  have hA : ∀ q : Nat, s.heap.size ≤ q → A q := fun q h => by rw [← hAe]; exact Or.inr h
  have hS : va_S A s.heap s.heap [] := va_S.rf
  have hP : va_P (dC, dI) pm_cls [(h0, .inr (3, [.null, .null, .int 0, .int 0, .int 0, .int 0]))] s.heap := hP
  have hl := lv_entry ([.ref h0]) (n := 1) (Nat.le_of_ble_eq_true rfl)
  rw [lg_entry_eq]
  generalize (lg_sl ([.ref h0]) ++ List.replicate (1 - (lg_sl ([.ref h0])).length) Slot.unset).toArray = ls at hl ⊢
  have hl : lv_has ls 1 [(0, .ref h0)] := hl
  refine lv_aload_n hx hb cd_Pack_0 rfl (lv_at hl 0 rfl) ?_
  refine W.objInit hx hb hown (hts _ (cw_m (i := 51) rfl)) (hts _ (cw_m (i := 0) rfl)) (hts _ (cw_m (i := 1) rfl)) rfl (by rw [hml]; exact hl.1) rfl cd_Pack_1 (Nat.le_of_ble_eq_true rfl) (Nat.le_of_ble_eq_true rfl) ?_
  refine W.eq (g2 := F0 m 4 ls []) rfl ?_
  refine lv_aload_n hx hb cd_Pack_4 rfl (lv_at hl 0 rfl) ?_
  refine va_new (D := (dC, dI)) (cl := pm_cls) (ci := 1) (fs := [.null, .int 0]) (C := (pm_q 1).1) (T := (pm_q 1).2.1) (N := 2) hx hb hts (cw_u (a := 1) (by decide)) (pm_ty 1) (pm_cls_a 1 (by decide)) hown (hts _ (cw_m (i := 52) rfl)) (hts _ (cw_m (i := 10) rfl)) (hts _ (cw_m (i := 9) rfl)) hK hP hD hS hA rfl (by decide +kernel) (Nat.le_of_ble_eq_true rfl) (Nat.le_of_ble_eq_true rfl) cd_Pack_5 (fun q1 H hP hD hS => ?_)
  have hP : va_P (dC, dI) pm_cls [(h0, .inr (3, [.null, .null, .int 0, .int 0, .int 0, .int 0])), (q1, .inr (1, [.null, .int 0]))] H := hP
  have hD : va_D A [(h0, .inr (3, [.null, .null, .int 0, .int 0, .int 0, .int 0])), (q1, .inr (1, [.null, .int 0]))] := hD
  refine W.widen (k := 1) (n := 2) (Nat.le_of_ble_eq_true rfl) (Nat.le_of_ble_eq_true rfl) ?_
  refine lv_dup hx hb cd_Pack_8 rfl ?_
  refine lv_sipush (v := 300) hx hb cd_Pack_9 (by decide) ?_
  have hPc := hP.sub (ws' := [(q1, .inr (1, [.null, .int 0]))]) [1] rfl
  have hDc := hD.sub (ws' := [(q1, .inr (1, [.null, .int 0]))]) [1] (by decide) rfl
  have hFc := va_free (wc := [(q1, .inr (1, [.null, .int 0]))]) hD hS hA [1] rfl
  refine va_callv (va_runIN (host := pm_host) (As := [.int 300]) (rest := [.ref q1, .ref h0]) ⟨hx, hb, hml, hown, hts⟩ (c_Bytes300 l dC dI cA q1 H.size) ⟨va_cnB 1 hts (cw_goodIn (cw_m (i := 7) rfl)) rfl rfl rfl (hN _ (List.mem_of_getElem? (i := 2) rfl)) (hts _ (cw_m (i := 9) rfl)) (by decide +kernel) ⟨Nat.le_of_ble_eq_true rfl, Nat.le_of_ble_eq_true rfl⟩, rfl, (hts _ (cw_m (i := 8) rfl))⟩ ⟨fun a U g mk q => by obtain ⟨z0, z1, zP, zK, zD, zN⟩ := q; exact ⟨z0, z1, zP, va_K.moved (u := U) (U := U.calling g mk a) (Vm.Alike.refl U.vm) zK, zD, fun x hx => va_Nw.same rfl rfl (zN x hx)⟩, fun U hU hW => ⟨rfl, by rw [hU], by rw [hU]; exact hPc, va_K.moved hW.alike hK, hDc.weaken (fun _ _ _ _ => trivial), fun x hx => va_Nw.warmM hW (hN x hx)⟩⟩ rfl rfl hl.1 rfl (lv_room (Nat.le_of_ble_eq_true rfl)) cd_Pack_12 ⟨Nat.le_of_ble_eq_true rfl, Nat.le_of_ble_eq_true rfl⟩) hS (fun q _ h => hFc q h) hFc (fun u t H1 locs ht hvm _ hB hz1 hk1 hS => ?_)
  obtain ⟨q2, hP1, hK1, hD1⟩ := hB
  rw [ht] at hP1
  obtain ⟨hP, hD⟩ := va_join (wr := [(h0, .inr (3, [.null, .null, .int 0, .int 0, .int 0, .int 0]))]) (w1 := [(q1, .inr (1, [.ref q2, .int 0])), (q2, .inl (cA, (300, .inl fun _ => 0)))]) hP hD [1] [0] rfl rfl (by decide) (by decide) hk1 hFc hP1 hD1
  generalize H1 = H at hP hS ⊢
  have hP : va_P (dC, dI) pm_cls [(h0, .inr (3, [.null, .null, .int 0, .int 0, .int 0, .int 0])), (q1, .inr (1, [.ref q2, .int 0])), (q2, .inl (cA, (300, .inl fun _ => 0)))] H := hP
  have hD : va_D A [(h0, .inr (3, [.null, .null, .int 0, .int 0, .int 0, .int 0])), (q1, .inr (1, [.ref q2, .int 0])), (q2, .inl (cA, (300, .inl fun _ => 0)))] := hD
  refine W.widen (k := 2) (n := 302) (Nat.le_of_ble_eq_true rfl) (Nat.le_of_ble_eq_true rfl) ?_
  refine va_putF (D := (dC, dI)) (cl := pm_cls) (ci := 3) (v := .ref q1) (C := (pm_q 3).1) (T := (pm_q 3).2.1) (N := 6) hx hb hts (cw_u (a := 3) (by decide)) (pm_ty 3) (pm_cls_a 3 (by decide)) (pm_cls_b 3 (by decide)) hown hK hP hD hS 0 rfl rfl 0 (by decide) (hts _ (cw_m (i := 53) rfl)) (fun _ h9 => h9) rfl hin rfl (pm_cls_a 3 (by decide) 0 (by decide)) rfl rfl (Nat.le_of_ble_eq_true rfl) cd_Pack_15 (fun H locs hP hD hS => ?_)
  have hP : va_P (dC, dI) pm_cls [(h0, .inr (3, [.ref q1, .null, .int 0, .int 0, .int 0, .int 0])), (q1, .inr (1, [.ref q2, .int 0])), (q2, .inl (cA, (300, .inl fun _ => 0)))] H := hP
  have hD : va_D A [(h0, .inr (3, [.ref q1, .null, .int 0, .int 0, .int 0, .int 0])), (q1, .inr (1, [.ref q2, .int 0])), (q2, .inl (cA, (300, .inl fun _ => 0)))] := hD
  refine lv_aload_n hx hb cd_Pack_18 rfl (lv_at hl 0 rfl) ?_
  refine va_new (D := (dC, dI)) (cl := pm_cls) (ci := 0) (fs := [.null, .int 0, .int 0]) (C := (pm_q 0).1) (T := (pm_q 0).2.1) (N := 3) hx hb hts (cw_u (a := 0) (by decide)) (pm_ty 0) (pm_cls_a 0 (by decide)) hown (hts _ (cw_m (i := 54) rfl)) (hts _ (cw_m (i := 6) rfl)) (hts _ (cw_m (i := 5) rfl)) hK hP hD hS hA rfl (by decide +kernel) (Nat.le_of_ble_eq_true rfl) (Nat.le_of_ble_eq_true rfl) cd_Pack_19 (fun q3 H hP hD hS => ?_)
  have hP : va_P (dC, dI) pm_cls [(h0, .inr (3, [.ref q1, .null, .int 0, .int 0, .int 0, .int 0])), (q1, .inr (1, [.ref q2, .int 0])), (q2, .inl (cA, (300, .inl fun _ => 0))), (q3, .inr (0, [.null, .int 0, .int 0]))] H := hP
  have hD : va_D A [(h0, .inr (3, [.ref q1, .null, .int 0, .int 0, .int 0, .int 0])), (q1, .inr (1, [.ref q2, .int 0])), (q2, .inl (cA, (300, .inl fun _ => 0))), (q3, .inr (0, [.null, .int 0, .int 0]))] := hD
  refine W.widen (k := 3) (n := 305) (Nat.le_of_ble_eq_true rfl) (Nat.le_of_ble_eq_true rfl) ?_
  refine lv_dup hx hb cd_Pack_22 rfl ?_
  have hPc := hP.sub (ws' := [(q3, .inr (0, [.null, .int 0, .int 0]))]) [3] rfl
  have hDc := hD.sub (ws' := [(q3, .inr (0, [.null, .int 0, .int 0]))]) [3] (by decide) rfl
  have hFc := va_free (wc := [(q3, .inr (0, [.null, .int 0, .int 0]))]) hD hS hA [3] rfl
  refine va_callv (va_runIN (host := pm_host) (As := []) (rest := [.ref q3, .ref h0]) ⟨hx, hb, hml, hown, hts⟩ (c_Bits l dC dI cA q3 H.size) ⟨va_cnB 0 hts (cw_goodIn (cw_m (i := 3) rfl)) rfl rfl rfl (hN _ (List.mem_of_getElem? (i := 3) rfl)) (hts _ (cw_m (i := 5) rfl)) (by decide +kernel) ⟨Nat.le_of_ble_eq_true rfl, Nat.le_of_ble_eq_true rfl⟩, rfl, (hts _ (cw_m (i := 4) rfl))⟩ ⟨fun a U g mk q => by obtain ⟨z0, z1, zP, zK, zD, zN⟩ := q; exact ⟨z0, z1, zP, va_K.moved (u := U) (U := U.calling g mk a) (Vm.Alike.refl U.vm) zK, zD, fun x hx => va_Nw.same rfl rfl (zN x hx)⟩, fun U hU hW => ⟨rfl, by rw [hU], by rw [hU]; exact hPc, va_K.moved hW.alike hK, hDc.weaken (fun _ _ _ _ => trivial), fun x hx => va_Nw.warmM hW (hN x hx)⟩⟩ rfl rfl hl.1 rfl (lv_room (Nat.le_of_ble_eq_true rfl)) cd_Pack_23 ⟨Nat.le_of_ble_eq_true rfl, Nat.le_of_ble_eq_true rfl⟩) hS (fun q _ h => hFc q h) hFc (fun u t H1 locs ht hvm _ hB hz1 hk1 hS => ?_)
  obtain ⟨q4, q5, hP1, hK1, hD1⟩ := hB
  rw [ht] at hP1
  obtain ⟨hP, hD⟩ := va_join (wr := [(h0, .inr (3, [.ref q1, .null, .int 0, .int 0, .int 0, .int 0])), (q1, .inr (1, [.ref q2, .int 0])), (q2, .inl (cA, (300, .inl fun _ => 0)))]) (w1 := [(q3, .inr (0, [.ref q4, .int 0, .int 0])), (q4, .inr (1, [.ref q5, .int 0])), (q5, .inl (cA, (700, .inl fun _ => 0)))]) hP hD [3] [0, 1, 2] rfl rfl (by decide) (by decide) hk1 hFc hP1 hD1
  generalize H1 = H at hP hS ⊢
  have hP : va_P (dC, dI) pm_cls [(h0, .inr (3, [.ref q1, .null, .int 0, .int 0, .int 0, .int 0])), (q1, .inr (1, [.ref q2, .int 0])), (q2, .inl (cA, (300, .inl fun _ => 0))), (q3, .inr (0, [.ref q4, .int 0, .int 0])), (q4, .inr (1, [.ref q5, .int 0])), (q5, .inl (cA, (700, .inl fun _ => 0)))] H := hP
  have hD : va_D A [(h0, .inr (3, [.ref q1, .null, .int 0, .int 0, .int 0, .int 0])), (q1, .inr (1, [.ref q2, .int 0])), (q2, .inl (cA, (300, .inl fun _ => 0))), (q3, .inr (0, [.ref q4, .int 0, .int 0])), (q4, .inr (1, [.ref q5, .int 0])), (q5, .inl (cA, (700, .inl fun _ => 0)))] := hD
  refine W.widen (k := 5) (n := 1007) (Nat.le_of_ble_eq_true rfl) (Nat.le_of_ble_eq_true rfl) ?_
  refine va_putF (D := (dC, dI)) (cl := pm_cls) (ci := 3) (v := .ref q3) (C := (pm_q 3).1) (T := (pm_q 3).2.1) (N := 6) hx hb hts (cw_u (a := 3) (by decide)) (pm_ty 3) (pm_cls_a 3 (by decide)) (pm_cls_b 3 (by decide)) hown hK hP hD hS 0 rfl rfl 1 (by decide) (hts _ (cw_m (i := 55) rfl)) (fun _ h9 => h9) rfl hin rfl (pm_cls_a 3 (by decide) 1 (by decide)) rfl rfl (Nat.le_of_ble_eq_true rfl) cd_Pack_26 (fun H locs hP hD hS => ?_)
  have hP : va_P (dC, dI) pm_cls [(h0, .inr (3, [.ref q1, .ref q3, .int 0, .int 0, .int 0, .int 0])), (q1, .inr (1, [.ref q2, .int 0])), (q2, .inl (cA, (300, .inl fun _ => 0))), (q3, .inr (0, [.ref q4, .int 0, .int 0])), (q4, .inr (1, [.ref q5, .int 0])), (q5, .inl (cA, (700, .inl fun _ => 0)))] H := hP
  have hD : va_D A [(h0, .inr (3, [.ref q1, .ref q3, .int 0, .int 0, .int 0, .int 0])), (q1, .inr (1, [.ref q2, .int 0])), (q2, .inl (cA, (300, .inl fun _ => 0))), (q3, .inr (0, [.ref q4, .int 0, .int 0])), (q4, .inr (1, [.ref q5, .int 0])), (q5, .inl (cA, (700, .inl fun _ => 0)))] := hD
  refine lv_aload_n hx hb cd_Pack_29 rfl (lv_at hl 0 rfl) ?_
  refine lv_iconst (v := 0) hx hb cd_Pack_30 (by decide) ?_
  refine va_put (D := (dC, dI)) (cl := pm_cls) (ci := 3) (v := .int 0) (C := (pm_q 3).1) (T := (pm_q 3).2.1) (N := 6) hx hb hts (cw_u (a := 3) (by decide)) (pm_ty 3) (pm_cls_a 3 (by decide)) (pm_cls_b 3 (by decide)) hown hK hP hD hS 0 rfl rfl 2 (by decide) (hts _ (cw_m (i := 56) rfl)) (fun _ h9 => h9) rfl (pm_cls_a 3 (by decide) 2 (by decide)) rfl rfl (Nat.le_of_ble_eq_true rfl) cd_Pack_31 (fun H locs hP hD hS => ?_)
  have hP : va_P (dC, dI) pm_cls [(h0, .inr (3, [.ref q1, .ref q3, .int 0, .int 0, .int 0, .int 0])), (q1, .inr (1, [.ref q2, .int 0])), (q2, .inl (cA, (300, .inl fun _ => 0))), (q3, .inr (0, [.ref q4, .int 0, .int 0])), (q4, .inr (1, [.ref q5, .int 0])), (q5, .inl (cA, (700, .inl fun _ => 0)))] H := hP
  have hD : va_D A [(h0, .inr (3, [.ref q1, .ref q3, .int 0, .int 0, .int 0, .int 0])), (q1, .inr (1, [.ref q2, .int 0])), (q2, .inl (cA, (300, .inl fun _ => 0))), (q3, .inr (0, [.ref q4, .int 0, .int 0])), (q4, .inr (1, [.ref q5, .int 0])), (q5, .inl (cA, (700, .inl fun _ => 0)))] := hD
  refine lv_aload_n hx hb cd_Pack_34 rfl (lv_at hl 0 rfl) ?_
  refine lv_iconst (v := 0) hx hb cd_Pack_35 (by decide) ?_
  refine va_put (D := (dC, dI)) (cl := pm_cls) (ci := 3) (v := .int 0) (C := (pm_q 3).1) (T := (pm_q 3).2.1) (N := 6) hx hb hts (cw_u (a := 3) (by decide)) (pm_ty 3) (pm_cls_a 3 (by decide)) (pm_cls_b 3 (by decide)) hown hK hP hD hS 0 rfl rfl 3 (by decide) (hts _ (cw_m (i := 57) rfl)) (fun _ h9 => h9) rfl (pm_cls_a 3 (by decide) 3 (by decide)) rfl rfl (Nat.le_of_ble_eq_true rfl) cd_Pack_36 (fun H locs hP hD hS => ?_)
  have hP : va_P (dC, dI) pm_cls [(h0, .inr (3, [.ref q1, .ref q3, .int 0, .int 0, .int 0, .int 0])), (q1, .inr (1, [.ref q2, .int 0])), (q2, .inl (cA, (300, .inl fun _ => 0))), (q3, .inr (0, [.ref q4, .int 0, .int 0])), (q4, .inr (1, [.ref q5, .int 0])), (q5, .inl (cA, (700, .inl fun _ => 0)))] H := hP
  have hD : va_D A [(h0, .inr (3, [.ref q1, .ref q3, .int 0, .int 0, .int 0, .int 0])), (q1, .inr (1, [.ref q2, .int 0])), (q2, .inl (cA, (300, .inl fun _ => 0))), (q3, .inr (0, [.ref q4, .int 0, .int 0])), (q4, .inr (1, [.ref q5, .int 0])), (q5, .inl (cA, (700, .inl fun _ => 0)))] := hD
  refine lv_aload_n hx hb cd_Pack_39 rfl (lv_at hl 0 rfl) ?_
  refine lv_iconst (v := 0) hx hb cd_Pack_40 (by decide) ?_
  refine va_put (D := (dC, dI)) (cl := pm_cls) (ci := 3) (v := .int 0) (C := (pm_q 3).1) (T := (pm_q 3).2.1) (N := 6) hx hb hts (cw_u (a := 3) (by decide)) (pm_ty 3) (pm_cls_a 3 (by decide)) (pm_cls_b 3 (by decide)) hown hK hP hD hS 0 rfl rfl 4 (by decide) (hts _ (cw_m (i := 58) rfl)) (fun _ h9 => h9) rfl (pm_cls_a 3 (by decide) 4 (by decide)) rfl rfl (Nat.le_of_ble_eq_true rfl) cd_Pack_41 (fun H locs hP hD hS => ?_)
  have hP : va_P (dC, dI) pm_cls [(h0, .inr (3, [.ref q1, .ref q3, .int 0, .int 0, .int 0, .int 0])), (q1, .inr (1, [.ref q2, .int 0])), (q2, .inl (cA, (300, .inl fun _ => 0))), (q3, .inr (0, [.ref q4, .int 0, .int 0])), (q4, .inr (1, [.ref q5, .int 0])), (q5, .inl (cA, (700, .inl fun _ => 0)))] H := hP
  have hD : va_D A [(h0, .inr (3, [.ref q1, .ref q3, .int 0, .int 0, .int 0, .int 0])), (q1, .inr (1, [.ref q2, .int 0])), (q2, .inl (cA, (300, .inl fun _ => 0))), (q3, .inr (0, [.ref q4, .int 0, .int 0])), (q4, .inr (1, [.ref q5, .int 0])), (q5, .inl (cA, (700, .inl fun _ => 0)))] := hD
  refine lv_aload_n hx hb cd_Pack_44 rfl (lv_at hl 0 rfl) ?_
  refine lv_iconst (v := 0) hx hb cd_Pack_45 (by decide) ?_
  refine va_put (D := (dC, dI)) (cl := pm_cls) (ci := 3) (v := .int 0) (C := (pm_q 3).1) (T := (pm_q 3).2.1) (N := 6) hx hb hts (cw_u (a := 3) (by decide)) (pm_ty 3) (pm_cls_a 3 (by decide)) (pm_cls_b 3 (by decide)) hown hK hP hD hS 0 rfl rfl 5 (by decide) (hts _ (cw_m (i := 59) rfl)) (fun _ h9 => h9) rfl (pm_cls_a 3 (by decide) 5 (by decide)) rfl rfl (Nat.le_of_ble_eq_true rfl) cd_Pack_46 (fun H locs hP hD hS => ?_)
  have hP : va_P (dC, dI) pm_cls [(h0, .inr (3, [.ref q1, .ref q3, .int 0, .int 0, .int 0, .int 0])), (q1, .inr (1, [.ref q2, .int 0])), (q2, .inl (cA, (300, .inl fun _ => 0))), (q3, .inr (0, [.ref q4, .int 0, .int 0])), (q4, .inr (1, [.ref q5, .int 0])), (q5, .inl (cA, (700, .inl fun _ => 0)))] H := hP
  have hD : va_D A [(h0, .inr (3, [.ref q1, .ref q3, .int 0, .int 0, .int 0, .int 0])), (q1, .inr (1, [.ref q2, .int 0])), (q2, .inl (cA, (300, .inl fun _ => 0))), (q3, .inr (0, [.ref q4, .int 0, .int 0])), (q4, .inr (1, [.ref q5, .int 0])), (q5, .inl (cA, (700, .inl fun _ => 0)))] := hD
  exact W.vret hx hb hr (fun t ht hW => ⟨⟨(), rfl, trivial, q1, q2, q3, q4, q5, by rw [ht]; exact hP, va_K.moved hW.alike hK, hD⟩, hS.F ht⟩) hS.2.2 cd_Pack_49
set_option maxHeartbeats 4000000 in
set_option maxRecDepth 100000 in
theorem c_Pict (l : Launch) (dC : Nat → ClassId) (dI : Nat → Nat → Nat) (cA : ClassId) (h0 sz : Nat) : Met l cy_Pict (cw_W cy_Pict cb_Pict 1) { frames := 1, cells := 1, slots := 256, locals := 20 } (va_Pc [.ref h0] (fun U => U.heap.size = sz ∧ va_P (dC, dI) pm_cls [(h0, .inr (4, [.null, .int 0, .int 0, .int 0, .int 0]))] U.heap ∧ va_K (dC, dI) pm_cls [(cA, .int)] U ∧ va_D (fun _ => True) [(h0, .inr (4, [.null, .int 0, .int 0, .int 0, .int 0]))] ∧ cw_N U)) (va_Qv (fun _ : Unit => True) (fun _ t => ∃ q1 : Nat, va_P (dC, dI) pm_cls [(h0, .inr (4, [.ref q1, .int 0, .int 1, .int 1, .int 1])), (q1, .inl (cA, (256, .inl fun _ => 0)))] t.heap ∧ va_K (dC, dI) pm_cls [(cA, .int)] t ∧ va_D (va_A [(h0, .inr (4, [.null, .int 0, .int 0, .int 0, .int 0]))] sz) [(h0, .inr (4, [.ref q1, .int 0, .int 1, .int 1, .int 1])), (q1, .inl (cA, (256, .inl fun _ => 0)))]) (va_A [(h0, .inr (4, [.null, .int 0, .int 0, .int 0, .int 0]))] sz)) 1 256 (va_A [(h0, .inr (4, [.null, .int 0, .int 0, .int 0, .int 0]))] sz) := by
  refine Met.ofW (cc := cb_Pict) (maxL := 1) (ret := none) (by decide) rfl ?_
  intro p e s m args below meth c s₁ B hml hv
  obtain ⟨rfl, hsz, hP, hK, hD0, hN⟩ := hv
  have hx := B.exec
  have hb := B.bytes
  have hr := B.returns
  have hts0 := atoms_spec (ws := cw_W cy_Pict cb_Pict 1) B.pre
  have hts : ∀ w ∈ cw_ws, w.before _ s = true := fun w hw => hts0 w (List.mem_cons_of_mem _ hw)
  have hown : s.vm.findClass "SevenPassImage$Picture" = some m.cls := findClass_of_methodNamed B.named
  have hlocks := B.notSynchronized
  have hin : meth.name = "<init>" := (name_of_methodNamed B.named B.method).1
  subst hsz
  have hD := hD0.self (sz := s.heap.size)
  generalize hAe : va_A [(h0, .inr (4, [.null, .int 0, .int 0, .int 0, .int 0]))] s.heap.size = A at hD ⊢
  have hA : ∀ q : Nat, s.heap.size ≤ q → A q := fun q h => by rw [← hAe]; exact Or.inr h
  have hS : va_S A s.heap s.heap [] := va_S.rf
  have hP : va_P (dC, dI) pm_cls [(h0, .inr (4, [.null, .int 0, .int 0, .int 0, .int 0]))] s.heap := hP
  have hl := lv_entry ([.ref h0]) (n := 1) (Nat.le_of_ble_eq_true rfl)
  rw [lg_entry_eq]
  generalize (lg_sl ([.ref h0]) ++ List.replicate (1 - (lg_sl ([.ref h0])).length) Slot.unset).toArray = ls at hl ⊢
  have hl : lv_has ls 1 [(0, .ref h0)] := hl
  refine lv_aload_n hx hb cd_Pict_0 rfl (lv_at hl 0 rfl) ?_
  refine W.objInit hx hb hown (hts _ (cw_m (i := 60) rfl)) (hts _ (cw_m (i := 0) rfl)) (hts _ (cw_m (i := 1) rfl)) rfl (by rw [hml]; exact hl.1) rfl cd_Pict_1 (Nat.le_of_ble_eq_true rfl) (Nat.le_of_ble_eq_true rfl) ?_
  refine W.eq (g2 := F0 m 4 ls []) rfl ?_
  refine lv_aload_n hx hb cd_Pict_4 rfl (lv_at hl 0 rfl) ?_
  refine lv_sipush (v := 256) hx hb cd_Pict_5 (by decide) ?_
  refine va_newa (D := (dC, dI)) (cl := pm_cls) (N' := 256) (a0 := (256, .inl fun _ => 0)) (ty := .int) hx hb (hts _ (cw_m (i := 2) rfl)) rfl hK hP hD hS hA (fun _ => rfl) (by decide) (by decide) (by decide) (Nat.le_of_ble_eq_true rfl) (Nat.le_of_ble_eq_true rfl) cd_Pict_8 (fun q1 cB H hK2 hP hD hS => ?_)
  rw [cw_A hK2] at hP hD
  have hP : va_P (dC, dI) pm_cls [(h0, .inr (4, [.null, .int 0, .int 0, .int 0, .int 0])), (q1, .inl (cA, (256, .inl fun _ => 0)))] H := hP
  have hD : va_D A [(h0, .inr (4, [.null, .int 0, .int 0, .int 0, .int 0])), (q1, .inl (cA, (256, .inl fun _ => 0)))] := hD
  refine W.widen (k := 1) (n := 256) (Nat.le_of_ble_eq_true rfl) (Nat.le_of_ble_eq_true rfl) ?_
  refine va_putF (D := (dC, dI)) (cl := pm_cls) (ci := 4) (v := .ref q1) (C := (pm_q 4).1) (T := (pm_q 4).2.1) (N := 5) hx hb hts (cw_u (a := 4) (by decide)) (pm_ty 4) (pm_cls_a 4 (by decide)) (pm_cls_b 4 (by decide)) hown hK hP hD hS 0 rfl rfl 0 (by decide) (hts _ (cw_m (i := 61) rfl)) (fun _ h9 => h9) rfl hin rfl (pm_cls_a 4 (by decide) 0 (by decide)) rfl rfl (Nat.le_of_ble_eq_true rfl) cd_Pict_10 (fun H locs hP hD hS => ?_)
  have hP : va_P (dC, dI) pm_cls [(h0, .inr (4, [.ref q1, .int 0, .int 0, .int 0, .int 0])), (q1, .inl (cA, (256, .inl fun _ => 0)))] H := hP
  have hD : va_D A [(h0, .inr (4, [.ref q1, .int 0, .int 0, .int 0, .int 0])), (q1, .inl (cA, (256, .inl fun _ => 0)))] := hD
  refine lv_aload_n hx hb cd_Pict_13 rfl (lv_at hl 0 rfl) ?_
  refine lv_iconst (v := 0) hx hb cd_Pict_14 (by decide) ?_
  refine va_put (D := (dC, dI)) (cl := pm_cls) (ci := 4) (v := .int 0) (C := (pm_q 4).1) (T := (pm_q 4).2.1) (N := 5) hx hb hts (cw_u (a := 4) (by decide)) (pm_ty 4) (pm_cls_a 4 (by decide)) (pm_cls_b 4 (by decide)) hown hK hP hD hS 0 rfl rfl 1 (by decide) (hts _ (cw_m (i := 62) rfl)) (fun _ h9 => h9) rfl (pm_cls_a 4 (by decide) 1 (by decide)) rfl rfl (Nat.le_of_ble_eq_true rfl) cd_Pict_15 (fun H locs hP hD hS => ?_)
  have hP : va_P (dC, dI) pm_cls [(h0, .inr (4, [.ref q1, .int 0, .int 0, .int 0, .int 0])), (q1, .inl (cA, (256, .inl fun _ => 0)))] H := hP
  have hD : va_D A [(h0, .inr (4, [.ref q1, .int 0, .int 0, .int 0, .int 0])), (q1, .inl (cA, (256, .inl fun _ => 0)))] := hD
  refine lv_aload_n hx hb cd_Pict_18 rfl (lv_at hl 0 rfl) ?_
  refine lv_iconst (v := 1) hx hb cd_Pict_19 (by decide) ?_
  refine va_put (D := (dC, dI)) (cl := pm_cls) (ci := 4) (v := .int 1) (C := (pm_q 4).1) (T := (pm_q 4).2.1) (N := 5) hx hb hts (cw_u (a := 4) (by decide)) (pm_ty 4) (pm_cls_a 4 (by decide)) (pm_cls_b 4 (by decide)) hown hK hP hD hS 0 rfl rfl 2 (by decide) (hts _ (cw_m (i := 63) rfl)) (fun _ h9 => h9) rfl (pm_cls_a 4 (by decide) 2 (by decide)) rfl rfl (Nat.le_of_ble_eq_true rfl) cd_Pict_20 (fun H locs hP hD hS => ?_)
  have hP : va_P (dC, dI) pm_cls [(h0, .inr (4, [.ref q1, .int 0, .int 1, .int 0, .int 0])), (q1, .inl (cA, (256, .inl fun _ => 0)))] H := hP
  have hD : va_D A [(h0, .inr (4, [.ref q1, .int 0, .int 1, .int 0, .int 0])), (q1, .inl (cA, (256, .inl fun _ => 0)))] := hD
  refine lv_aload_n hx hb cd_Pict_23 rfl (lv_at hl 0 rfl) ?_
  refine lv_iconst (v := 1) hx hb cd_Pict_24 (by decide) ?_
  refine va_put (D := (dC, dI)) (cl := pm_cls) (ci := 4) (v := .int 1) (C := (pm_q 4).1) (T := (pm_q 4).2.1) (N := 5) hx hb hts (cw_u (a := 4) (by decide)) (pm_ty 4) (pm_cls_a 4 (by decide)) (pm_cls_b 4 (by decide)) hown hK hP hD hS 0 rfl rfl 3 (by decide) (hts _ (cw_m (i := 64) rfl)) (fun _ h9 => h9) rfl (pm_cls_a 4 (by decide) 3 (by decide)) rfl rfl (Nat.le_of_ble_eq_true rfl) cd_Pict_25 (fun H locs hP hD hS => ?_)
  have hP : va_P (dC, dI) pm_cls [(h0, .inr (4, [.ref q1, .int 0, .int 1, .int 1, .int 0])), (q1, .inl (cA, (256, .inl fun _ => 0)))] H := hP
  have hD : va_D A [(h0, .inr (4, [.ref q1, .int 0, .int 1, .int 1, .int 0])), (q1, .inl (cA, (256, .inl fun _ => 0)))] := hD
  refine lv_aload_n hx hb cd_Pict_28 rfl (lv_at hl 0 rfl) ?_
  refine lv_iconst (v := 1) hx hb cd_Pict_29 (by decide) ?_
  refine va_put (D := (dC, dI)) (cl := pm_cls) (ci := 4) (v := .int 1) (C := (pm_q 4).1) (T := (pm_q 4).2.1) (N := 5) hx hb hts (cw_u (a := 4) (by decide)) (pm_ty 4) (pm_cls_a 4 (by decide)) (pm_cls_b 4 (by decide)) hown hK hP hD hS 0 rfl rfl 4 (by decide) (hts _ (cw_m (i := 65) rfl)) (fun _ h9 => h9) rfl (pm_cls_a 4 (by decide) 4 (by decide)) rfl rfl (Nat.le_of_ble_eq_true rfl) cd_Pict_30 (fun H locs hP hD hS => ?_)
  have hP : va_P (dC, dI) pm_cls [(h0, .inr (4, [.ref q1, .int 0, .int 1, .int 1, .int 1])), (q1, .inl (cA, (256, .inl fun _ => 0)))] H := hP
  have hD : va_D A [(h0, .inr (4, [.ref q1, .int 0, .int 1, .int 1, .int 1])), (q1, .inl (cA, (256, .inl fun _ => 0)))] := hD
  exact W.vret hx hb hr (fun t ht hW => ⟨⟨(), rfl, trivial, q1, by rw [ht]; exact hP, va_K.moved hW.alike hK, hD⟩, hS.F ht⟩) hS.2.2 cd_Pict_33
set_option maxHeartbeats 4000000 in
set_option maxRecDepth 100000 in
theorem c_Row (l : Launch) (dC : Nat → ClassId) (dI : Nat → Nat → Nat) (cA : ClassId) (h0 sz : Nat) : Met l cy_Row (cw_W cy_Row cb_Row 1) { frames := 1, cells := 2, slots := 64, locals := 20 } (va_Pc [.ref h0] (fun U => U.heap.size = sz ∧ va_P (dC, dI) pm_cls [(h0, .inr (5, [.null, .null, .int 0, .int 0]))] U.heap ∧ va_K (dC, dI) pm_cls [(cA, .int)] U ∧ va_D (fun _ => True) [(h0, .inr (5, [.null, .null, .int 0, .int 0]))] ∧ cw_N U)) (va_Qv (fun _ : Unit => True) (fun _ t => ∃ q1 q2 : Nat, va_P (dC, dI) pm_cls [(h0, .inr (5, [.ref q1, .ref q2, .int 0, .int 1])), (q1, .inl (cA, (32, .inl fun _ => 0))), (q2, .inl (cA, (32, .inl fun _ => 0)))] t.heap ∧ va_K (dC, dI) pm_cls [(cA, .int)] t ∧ va_D (va_A [(h0, .inr (5, [.null, .null, .int 0, .int 0]))] sz) [(h0, .inr (5, [.ref q1, .ref q2, .int 0, .int 1])), (q1, .inl (cA, (32, .inl fun _ => 0))), (q2, .inl (cA, (32, .inl fun _ => 0)))]) (va_A [(h0, .inr (5, [.null, .null, .int 0, .int 0]))] sz)) 2 64 (va_A [(h0, .inr (5, [.null, .null, .int 0, .int 0]))] sz) := by
  refine Met.ofW (cc := cb_Row) (maxL := 1) (ret := none) (by decide) rfl ?_
  intro p e s m args below meth c s₁ B hml hv
  obtain ⟨rfl, hsz, hP, hK, hD0, hN⟩ := hv
  have hx := B.exec
  have hb := B.bytes
  have hr := B.returns
  have hts0 := atoms_spec (ws := cw_W cy_Row cb_Row 1) B.pre
  have hts : ∀ w ∈ cw_ws, w.before _ s = true := fun w hw => hts0 w (List.mem_cons_of_mem _ hw)
  have hown : s.vm.findClass "SevenPassImage$Row" = some m.cls := findClass_of_methodNamed B.named
  have hlocks := B.notSynchronized
  have hin : meth.name = "<init>" := (name_of_methodNamed B.named B.method).1
  subst hsz
  have hD := hD0.self (sz := s.heap.size)
  generalize hAe : va_A [(h0, .inr (5, [.null, .null, .int 0, .int 0]))] s.heap.size = A at hD ⊢
  have hA : ∀ q : Nat, s.heap.size ≤ q → A q := fun q h => by rw [← hAe]; exact Or.inr h
  have hS : va_S A s.heap s.heap [] := va_S.rf
  have hP : va_P (dC, dI) pm_cls [(h0, .inr (5, [.null, .null, .int 0, .int 0]))] s.heap := hP
  have hl := lv_entry ([.ref h0]) (n := 1) (Nat.le_of_ble_eq_true rfl)
  rw [lg_entry_eq]
  generalize (lg_sl ([.ref h0]) ++ List.replicate (1 - (lg_sl ([.ref h0])).length) Slot.unset).toArray = ls at hl ⊢
  have hl : lv_has ls 1 [(0, .ref h0)] := hl
  refine lv_aload_n hx hb cd_Row_0 rfl (lv_at hl 0 rfl) ?_
  refine W.objInit hx hb hown (hts _ (cw_m (i := 66) rfl)) (hts _ (cw_m (i := 0) rfl)) (hts _ (cw_m (i := 1) rfl)) rfl (by rw [hml]; exact hl.1) rfl cd_Row_1 (Nat.le_of_ble_eq_true rfl) (Nat.le_of_ble_eq_true rfl) ?_
  refine W.eq (g2 := F0 m 4 ls []) rfl ?_
  refine lv_aload_n hx hb cd_Row_4 rfl (lv_at hl 0 rfl) ?_
  refine lv_bipush (v := 32) hx hb cd_Row_5 (by decide) ?_
  refine va_newa (D := (dC, dI)) (cl := pm_cls) (N' := 32) (a0 := (32, .inl fun _ => 0)) (ty := .int) hx hb (hts _ (cw_m (i := 2) rfl)) rfl hK hP hD hS hA (fun _ => rfl) (by decide) (by decide) (by decide) (Nat.le_of_ble_eq_true rfl) (Nat.le_of_ble_eq_true rfl) cd_Row_7 (fun q1 cB H hK2 hP hD hS => ?_)
  rw [cw_A hK2] at hP hD
  have hP : va_P (dC, dI) pm_cls [(h0, .inr (5, [.null, .null, .int 0, .int 0])), (q1, .inl (cA, (32, .inl fun _ => 0)))] H := hP
  have hD : va_D A [(h0, .inr (5, [.null, .null, .int 0, .int 0])), (q1, .inl (cA, (32, .inl fun _ => 0)))] := hD
  refine W.widen (k := 1) (n := 32) (Nat.le_of_ble_eq_true rfl) (Nat.le_of_ble_eq_true rfl) ?_
  refine va_putF (D := (dC, dI)) (cl := pm_cls) (ci := 5) (v := .ref q1) (C := (pm_q 5).1) (T := (pm_q 5).2.1) (N := 4) hx hb hts (cw_u (a := 5) (by decide)) (pm_ty 5) (pm_cls_a 5 (by decide)) (pm_cls_b 5 (by decide)) hown hK hP hD hS 0 rfl rfl 0 (by decide) (hts _ (cw_m (i := 67) rfl)) (fun _ h9 => h9) rfl hin rfl (pm_cls_a 5 (by decide) 0 (by decide)) rfl rfl (Nat.le_of_ble_eq_true rfl) cd_Row_9 (fun H locs hP hD hS => ?_)
  have hP : va_P (dC, dI) pm_cls [(h0, .inr (5, [.ref q1, .null, .int 0, .int 0])), (q1, .inl (cA, (32, .inl fun _ => 0)))] H := hP
  have hD : va_D A [(h0, .inr (5, [.ref q1, .null, .int 0, .int 0])), (q1, .inl (cA, (32, .inl fun _ => 0)))] := hD
  refine lv_aload_n hx hb cd_Row_12 rfl (lv_at hl 0 rfl) ?_
  refine lv_bipush (v := 32) hx hb cd_Row_13 (by decide) ?_
  refine va_newa (D := (dC, dI)) (cl := pm_cls) (N' := 32) (a0 := (32, .inl fun _ => 0)) (ty := .int) hx hb (hts _ (cw_m (i := 2) rfl)) rfl hK hP hD hS hA (fun _ => rfl) (by decide) (by decide) (by decide) (Nat.le_of_ble_eq_true rfl) (Nat.le_of_ble_eq_true rfl) cd_Row_15 (fun q2 cB H hK2 hP hD hS => ?_)
  rw [cw_A hK2] at hP hD
  have hP : va_P (dC, dI) pm_cls [(h0, .inr (5, [.ref q1, .null, .int 0, .int 0])), (q1, .inl (cA, (32, .inl fun _ => 0))), (q2, .inl (cA, (32, .inl fun _ => 0)))] H := hP
  have hD : va_D A [(h0, .inr (5, [.ref q1, .null, .int 0, .int 0])), (q1, .inl (cA, (32, .inl fun _ => 0))), (q2, .inl (cA, (32, .inl fun _ => 0)))] := hD
  refine W.widen (k := 2) (n := 64) (Nat.le_of_ble_eq_true rfl) (Nat.le_of_ble_eq_true rfl) ?_
  refine va_putF (D := (dC, dI)) (cl := pm_cls) (ci := 5) (v := .ref q2) (C := (pm_q 5).1) (T := (pm_q 5).2.1) (N := 4) hx hb hts (cw_u (a := 5) (by decide)) (pm_ty 5) (pm_cls_a 5 (by decide)) (pm_cls_b 5 (by decide)) hown hK hP hD hS 0 rfl rfl 1 (by decide) (hts _ (cw_m (i := 68) rfl)) (fun _ h9 => h9) rfl hin rfl (pm_cls_a 5 (by decide) 1 (by decide)) rfl rfl (Nat.le_of_ble_eq_true rfl) cd_Row_17 (fun H locs hP hD hS => ?_)
  have hP : va_P (dC, dI) pm_cls [(h0, .inr (5, [.ref q1, .ref q2, .int 0, .int 0])), (q1, .inl (cA, (32, .inl fun _ => 0))), (q2, .inl (cA, (32, .inl fun _ => 0)))] H := hP
  have hD : va_D A [(h0, .inr (5, [.ref q1, .ref q2, .int 0, .int 0])), (q1, .inl (cA, (32, .inl fun _ => 0))), (q2, .inl (cA, (32, .inl fun _ => 0)))] := hD
  refine lv_aload_n hx hb cd_Row_20 rfl (lv_at hl 0 rfl) ?_
  refine lv_iconst (v := 0) hx hb cd_Row_21 (by decide) ?_
  refine va_put (D := (dC, dI)) (cl := pm_cls) (ci := 5) (v := .int 0) (C := (pm_q 5).1) (T := (pm_q 5).2.1) (N := 4) hx hb hts (cw_u (a := 5) (by decide)) (pm_ty 5) (pm_cls_a 5 (by decide)) (pm_cls_b 5 (by decide)) hown hK hP hD hS 0 rfl rfl 2 (by decide) (hts _ (cw_m (i := 69) rfl)) (fun _ h9 => h9) rfl (pm_cls_a 5 (by decide) 2 (by decide)) rfl rfl (Nat.le_of_ble_eq_true rfl) cd_Row_22 (fun H locs hP hD hS => ?_)
  have hP : va_P (dC, dI) pm_cls [(h0, .inr (5, [.ref q1, .ref q2, .int 0, .int 0])), (q1, .inl (cA, (32, .inl fun _ => 0))), (q2, .inl (cA, (32, .inl fun _ => 0)))] H := hP
  have hD : va_D A [(h0, .inr (5, [.ref q1, .ref q2, .int 0, .int 0])), (q1, .inl (cA, (32, .inl fun _ => 0))), (q2, .inl (cA, (32, .inl fun _ => 0)))] := hD
  refine lv_aload_n hx hb cd_Row_25 rfl (lv_at hl 0 rfl) ?_
  refine lv_iconst (v := 1) hx hb cd_Row_26 (by decide) ?_
  refine va_put (D := (dC, dI)) (cl := pm_cls) (ci := 5) (v := .int 1) (C := (pm_q 5).1) (T := (pm_q 5).2.1) (N := 4) hx hb hts (cw_u (a := 5) (by decide)) (pm_ty 5) (pm_cls_a 5 (by decide)) (pm_cls_b 5 (by decide)) hown hK hP hD hS 0 rfl rfl 3 (by decide) (hts _ (cw_m (i := 70) rfl)) (fun _ h9 => h9) rfl (pm_cls_a 5 (by decide) 3 (by decide)) rfl rfl (Nat.le_of_ble_eq_true rfl) cd_Row_27 (fun H locs hP hD hS => ?_)
  have hP : va_P (dC, dI) pm_cls [(h0, .inr (5, [.ref q1, .ref q2, .int 0, .int 1])), (q1, .inl (cA, (32, .inl fun _ => 0))), (q2, .inl (cA, (32, .inl fun _ => 0)))] H := hP
  have hD : va_D A [(h0, .inr (5, [.ref q1, .ref q2, .int 0, .int 1])), (q1, .inl (cA, (32, .inl fun _ => 0))), (q2, .inl (cA, (32, .inl fun _ => 0)))] := hD
  exact W.vret hx hb hr (fun t ht hW => ⟨⟨(), rfl, trivial, q1, q2, by rw [ht]; exact hP, va_K.moved hW.alike hK, hD⟩, hS.F ht⟩) hS.2.2 cd_Row_30
set_option maxHeartbeats 4000000 in
set_option maxRecDepth 100000 in
theorem c_Coder (l : Launch) (dC : Nat → ClassId) (dI : Nat → Nat → Nat) (cA : ClassId) (h0 sz : Nat) : Met l cy_Coder (cw_W cy_Coder cb_Coder 1) { frames := 2, cells := 4, slots := 73, locals := 40 } (va_Pc [.ref h0] (fun U => U.heap.size = sz ∧ va_P (dC, dI) pm_cls [(h0, .inr (6, [.null, .null]))] U.heap ∧ va_K (dC, dI) pm_cls [(cA, .int)] U ∧ va_D (fun _ => True) [(h0, .inr (6, [.null, .null]))] ∧ cw_N U)) (va_Qv (fun _ : Unit => True) (fun _ t => ∃ q1 q2 q3 q4 : Nat, va_P (dC, dI) pm_cls [(h0, .inr (6, [.ref q1, .ref q2])), (q1, .inl (cA, (5, .inl fun _ => 0))), (q2, .inr (5, [.ref q3, .ref q4, .int 0, .int 1])), (q3, .inl (cA, (32, .inl fun _ => 0))), (q4, .inl (cA, (32, .inl fun _ => 0)))] t.heap ∧ va_K (dC, dI) pm_cls [(cA, .int)] t ∧ va_D (va_A [(h0, .inr (6, [.null, .null]))] sz) [(h0, .inr (6, [.ref q1, .ref q2])), (q1, .inl (cA, (5, .inl fun _ => 0))), (q2, .inr (5, [.ref q3, .ref q4, .int 0, .int 1])), (q3, .inl (cA, (32, .inl fun _ => 0))), (q4, .inl (cA, (32, .inl fun _ => 0)))]) (va_A [(h0, .inr (6, [.null, .null]))] sz)) 4 73 (va_A [(h0, .inr (6, [.null, .null]))] sz) := by
  refine Met.ofW (cc := cb_Coder) (maxL := 1) (ret := none) (by decide) rfl ?_
  intro p e s m args below meth c s₁ B hml hv
  obtain ⟨rfl, hsz, hP, hK, hD0, hN⟩ := hv
  have hx := B.exec
  have hb := B.bytes
  have hr := B.returns
  have hts0 := atoms_spec (ws := cw_W cy_Coder cb_Coder 1) B.pre
  have hts : ∀ w ∈ cw_ws, w.before _ s = true := fun w hw => hts0 w (List.mem_cons_of_mem _ hw)
  have hown : s.vm.findClass "SevenPassImage$RowCoder" = some m.cls := findClass_of_methodNamed B.named
  have hlocks := B.notSynchronized
  have hin : meth.name = "<init>" := (name_of_methodNamed B.named B.method).1
  subst hsz
  have hD := hD0.self (sz := s.heap.size)
  generalize hAe : va_A [(h0, .inr (6, [.null, .null]))] s.heap.size = A at hD ⊢
  have hA : ∀ q : Nat, s.heap.size ≤ q → A q := fun q h => by rw [← hAe]; exact Or.inr h
  have hS : va_S A s.heap s.heap [] := va_S.rf
  have hP : va_P (dC, dI) pm_cls [(h0, .inr (6, [.null, .null]))] s.heap := hP
  have hl := lv_entry ([.ref h0]) (n := 1) (Nat.le_of_ble_eq_true rfl)
  rw [lg_entry_eq]
  generalize (lg_sl ([.ref h0]) ++ List.replicate (1 - (lg_sl ([.ref h0])).length) Slot.unset).toArray = ls at hl ⊢
  have hl : lv_has ls 1 [(0, .ref h0)] := hl
  refine lv_aload_n hx hb cd_Coder_0 rfl (lv_at hl 0 rfl) ?_
  refine W.objInit hx hb hown (hts _ (cw_m (i := 71) rfl)) (hts _ (cw_m (i := 0) rfl)) (hts _ (cw_m (i := 1) rfl)) rfl (by rw [hml]; exact hl.1) rfl cd_Coder_1 (Nat.le_of_ble_eq_true rfl) (Nat.le_of_ble_eq_true rfl) ?_
  refine W.eq (g2 := F0 m 4 ls []) rfl ?_
  refine lv_aload_n hx hb cd_Coder_4 rfl (lv_at hl 0 rfl) ?_
  refine lv_iconst (v := 5) hx hb cd_Coder_5 (by decide) ?_
  refine va_newa (D := (dC, dI)) (cl := pm_cls) (N' := 5) (a0 := (5, .inl fun _ => 0)) (ty := .int) hx hb (hts _ (cw_m (i := 2) rfl)) rfl hK hP hD hS hA (fun _ => rfl) (by decide) (by decide) (by decide) (Nat.le_of_ble_eq_true rfl) (Nat.le_of_ble_eq_true rfl) cd_Coder_6 (fun q1 cB H hK2 hP hD hS => ?_)
  rw [cw_A hK2] at hP hD
  have hP : va_P (dC, dI) pm_cls [(h0, .inr (6, [.null, .null])), (q1, .inl (cA, (5, .inl fun _ => 0)))] H := hP
  have hD : va_D A [(h0, .inr (6, [.null, .null])), (q1, .inl (cA, (5, .inl fun _ => 0)))] := hD
  refine W.widen (k := 1) (n := 5) (Nat.le_of_ble_eq_true rfl) (Nat.le_of_ble_eq_true rfl) ?_
  refine va_putF (D := (dC, dI)) (cl := pm_cls) (ci := 6) (v := .ref q1) (C := (pm_q 6).1) (T := (pm_q 6).2.1) (N := 2) hx hb hts (cw_u (a := 6) (by decide)) (pm_ty 6) (pm_cls_a 6 (by decide)) (pm_cls_b 6 (by decide)) hown hK hP hD hS 0 rfl rfl 0 (by decide) (hts _ (cw_m (i := 72) rfl)) (fun _ h9 => h9) rfl hin rfl (pm_cls_a 6 (by decide) 0 (by decide)) rfl rfl (Nat.le_of_ble_eq_true rfl) cd_Coder_8 (fun H locs hP hD hS => ?_)
  have hP : va_P (dC, dI) pm_cls [(h0, .inr (6, [.ref q1, .null])), (q1, .inl (cA, (5, .inl fun _ => 0)))] H := hP
  have hD : va_D A [(h0, .inr (6, [.ref q1, .null])), (q1, .inl (cA, (5, .inl fun _ => 0)))] := hD
  refine lv_aload_n hx hb cd_Coder_11 rfl (lv_at hl 0 rfl) ?_
  refine va_new (D := (dC, dI)) (cl := pm_cls) (ci := 5) (fs := [.null, .null, .int 0, .int 0]) (C := (pm_q 5).1) (T := (pm_q 5).2.1) (N := 4) hx hb hts (cw_u (a := 5) (by decide)) (pm_ty 5) (pm_cls_a 5 (by decide)) hown (hts _ (cw_m (i := 73) rfl)) (hts _ (cw_m (i := 26) rfl)) (hts _ (cw_m (i := 25) rfl)) hK hP hD hS hA rfl (by decide +kernel) (Nat.le_of_ble_eq_true rfl) (Nat.le_of_ble_eq_true rfl) cd_Coder_12 (fun q2 H hP hD hS => ?_)
  have hP : va_P (dC, dI) pm_cls [(h0, .inr (6, [.ref q1, .null])), (q1, .inl (cA, (5, .inl fun _ => 0))), (q2, .inr (5, [.null, .null, .int 0, .int 0]))] H := hP
  have hD : va_D A [(h0, .inr (6, [.ref q1, .null])), (q1, .inl (cA, (5, .inl fun _ => 0))), (q2, .inr (5, [.null, .null, .int 0, .int 0]))] := hD
  refine W.widen (k := 2) (n := 9) (Nat.le_of_ble_eq_true rfl) (Nat.le_of_ble_eq_true rfl) ?_
  refine lv_dup hx hb cd_Coder_15 rfl ?_
  have hPc := hP.sub (ws' := [(q2, .inr (5, [.null, .null, .int 0, .int 0]))]) [2] rfl
  have hDc := hD.sub (ws' := [(q2, .inr (5, [.null, .null, .int 0, .int 0]))]) [2] (by decide) rfl
  have hFc := va_free (wc := [(q2, .inr (5, [.null, .null, .int 0, .int 0]))]) hD hS hA [2] rfl
  refine va_callv (va_runIN (host := pm_host) (As := []) (rest := [.ref q2, .ref h0]) ⟨hx, hb, hml, hown, hts⟩ (c_Row l dC dI cA q2 H.size) ⟨va_cnB 0 hts (cw_goodIn (cw_m (i := 23) rfl)) rfl rfl rfl (hN _ (List.mem_of_getElem? (i := 4) rfl)) (hts _ (cw_m (i := 25) rfl)) (by decide +kernel) ⟨Nat.le_of_ble_eq_true rfl, Nat.le_of_ble_eq_true rfl⟩, rfl, (hts _ (cw_m (i := 24) rfl))⟩ ⟨fun a U g mk q => by obtain ⟨z0, z1, zP, zK, zD, zN⟩ := q; exact ⟨z0, z1, zP, va_K.moved (u := U) (U := U.calling g mk a) (Vm.Alike.refl U.vm) zK, zD, fun x hx => va_Nw.same rfl rfl (zN x hx)⟩, fun U hU hW => ⟨rfl, by rw [hU], by rw [hU]; exact hPc, va_K.moved hW.alike hK, hDc.weaken (fun _ _ _ _ => trivial), fun x hx => va_Nw.warmM hW (hN x hx)⟩⟩ rfl rfl hl.1 rfl (lv_room (Nat.le_of_ble_eq_true rfl)) cd_Coder_16 ⟨Nat.le_of_ble_eq_true rfl, Nat.le_of_ble_eq_true rfl⟩) hS (fun q _ h => hFc q h) hFc (fun u t H1 locs ht hvm _ hB hz1 hk1 hS => ?_)
  obtain ⟨q3, q4, hP1, hK1, hD1⟩ := hB
  rw [ht] at hP1
  obtain ⟨hP, hD⟩ := va_join (wr := [(h0, .inr (6, [.ref q1, .null])), (q1, .inl (cA, (5, .inl fun _ => 0)))]) (w1 := [(q2, .inr (5, [.ref q3, .ref q4, .int 0, .int 1])), (q3, .inl (cA, (32, .inl fun _ => 0))), (q4, .inl (cA, (32, .inl fun _ => 0)))]) hP hD [2] [0, 1] rfl rfl (by decide) (by decide) hk1 hFc hP1 hD1
  generalize H1 = H at hP hS ⊢
  have hP : va_P (dC, dI) pm_cls [(h0, .inr (6, [.ref q1, .null])), (q1, .inl (cA, (5, .inl fun _ => 0))), (q2, .inr (5, [.ref q3, .ref q4, .int 0, .int 1])), (q3, .inl (cA, (32, .inl fun _ => 0))), (q4, .inl (cA, (32, .inl fun _ => 0)))] H := hP
  have hD : va_D A [(h0, .inr (6, [.ref q1, .null])), (q1, .inl (cA, (5, .inl fun _ => 0))), (q2, .inr (5, [.ref q3, .ref q4, .int 0, .int 1])), (q3, .inl (cA, (32, .inl fun _ => 0))), (q4, .inl (cA, (32, .inl fun _ => 0)))] := hD
  refine W.widen (k := 4) (n := 73) (Nat.le_of_ble_eq_true rfl) (Nat.le_of_ble_eq_true rfl) ?_
  refine va_putF (D := (dC, dI)) (cl := pm_cls) (ci := 6) (v := .ref q2) (C := (pm_q 6).1) (T := (pm_q 6).2.1) (N := 2) hx hb hts (cw_u (a := 6) (by decide)) (pm_ty 6) (pm_cls_a 6 (by decide)) (pm_cls_b 6 (by decide)) hown hK hP hD hS 0 rfl rfl 1 (by decide) (hts _ (cw_m (i := 74) rfl)) (fun _ h9 => h9) rfl hin rfl (pm_cls_a 6 (by decide) 1 (by decide)) rfl rfl (Nat.le_of_ble_eq_true rfl) cd_Coder_19 (fun H locs hP hD hS => ?_)
  have hP : va_P (dC, dI) pm_cls [(h0, .inr (6, [.ref q1, .ref q2])), (q1, .inl (cA, (5, .inl fun _ => 0))), (q2, .inr (5, [.ref q3, .ref q4, .int 0, .int 1])), (q3, .inl (cA, (32, .inl fun _ => 0))), (q4, .inl (cA, (32, .inl fun _ => 0)))] H := hP
  have hD : va_D A [(h0, .inr (6, [.ref q1, .ref q2])), (q1, .inl (cA, (5, .inl fun _ => 0))), (q2, .inr (5, [.ref q3, .ref q4, .int 0, .int 1])), (q3, .inl (cA, (32, .inl fun _ => 0))), (q4, .inl (cA, (32, .inl fun _ => 0)))] := hD
  exact W.vret hx hb hr (fun t ht hW => ⟨⟨(), rfl, trivial, q1, q2, q3, q4, by rw [ht]; exact hP, va_K.moved hW.alike hK, hD⟩, hS.F ht⟩) hS.2.2 cd_Coder_22
set_option maxHeartbeats 4000000 in
set_option maxRecDepth 100000 in
theorem c_Img (l : Launch) (dC : Nat → ClassId) (dI : Nat → Nat → Nat) (cA : ClassId) (h0 sz : Nat) : Met l cy_Img (cw_W cy_Img cb_Img 1) { frames := 4, cells := 18, slots := 2314, locals := 81 } (va_Pc [.ref h0] (fun U => U.heap.size = sz ∧ va_P (dC, dI) pm_cls [(h0, .inr (7, [.null, .null, .null, .null, .null, .int 0]))] U.heap ∧ va_K (dC, dI) pm_cls [(cA, .int)] U ∧ va_D (fun _ => True) [(h0, .inr (7, [.null, .null, .null, .null, .null, .int 0]))] ∧ cw_N U)) (va_Qv (fun _ : Unit => True) (fun _ t => ∃ q1 q2 q3 q4 q5 q6 q7 q8 q9 q10 q11 q12 q13 q14 q15 q16 q17 q18 : Nat, va_P (dC, dI) pm_cls [(h0, .inr (7, [.ref q1, .ref q4, .ref q10, .ref q15, .ref q17, .int 0])), (q1, .inr (2, [.ref q2, .int 0])), (q2, .inr (1, [.ref q3, .int 0])), (q3, .inl (cA, (700, .inl fun _ => 0))), (q4, .inr (3, [.ref q5, .ref q7, .int 0, .int 0, .int 0, .int 0])), (q5, .inr (1, [.ref q6, .int 0])), (q6, .inl (cA, (300, .inl fun _ => 0))), (q7, .inr (0, [.ref q8, .int 0, .int 0])), (q8, .inr (1, [.ref q9, .int 0])), (q9, .inl (cA, (700, .inl fun _ => 0))), (q10, .inr (6, [.ref q11, .ref q12])), (q11, .inl (cA, (5, .inl fun _ => 0))), (q12, .inr (5, [.ref q13, .ref q14, .int 0, .int 1])), (q13, .inl (cA, (32, .inl fun _ => 0))), (q14, .inl (cA, (32, .inl fun _ => 0))), (q15, .inr (4, [.ref q16, .int 0, .int 1, .int 1, .int 1])), (q16, .inl (cA, (256, .inl fun _ => 0))), (q17, .inr (4, [.ref q18, .int 0, .int 1, .int 1, .int 1])), (q18, .inl (cA, (256, .inl fun _ => 0)))] t.heap ∧ va_K (dC, dI) pm_cls [(cA, .int)] t ∧ va_D (va_A [(h0, .inr (7, [.null, .null, .null, .null, .null, .int 0]))] sz) [(h0, .inr (7, [.ref q1, .ref q4, .ref q10, .ref q15, .ref q17, .int 0])), (q1, .inr (2, [.ref q2, .int 0])), (q2, .inr (1, [.ref q3, .int 0])), (q3, .inl (cA, (700, .inl fun _ => 0))), (q4, .inr (3, [.ref q5, .ref q7, .int 0, .int 0, .int 0, .int 0])), (q5, .inr (1, [.ref q6, .int 0])), (q6, .inl (cA, (300, .inl fun _ => 0))), (q7, .inr (0, [.ref q8, .int 0, .int 0])), (q8, .inr (1, [.ref q9, .int 0])), (q9, .inl (cA, (700, .inl fun _ => 0))), (q10, .inr (6, [.ref q11, .ref q12])), (q11, .inl (cA, (5, .inl fun _ => 0))), (q12, .inr (5, [.ref q13, .ref q14, .int 0, .int 1])), (q13, .inl (cA, (32, .inl fun _ => 0))), (q14, .inl (cA, (32, .inl fun _ => 0))), (q15, .inr (4, [.ref q16, .int 0, .int 1, .int 1, .int 1])), (q16, .inl (cA, (256, .inl fun _ => 0))), (q17, .inr (4, [.ref q18, .int 0, .int 1, .int 1, .int 1])), (q18, .inl (cA, (256, .inl fun _ => 0)))]) (va_A [(h0, .inr (7, [.null, .null, .null, .null, .null, .int 0]))] sz)) 18 2314 (va_A [(h0, .inr (7, [.null, .null, .null, .null, .null, .int 0]))] sz) := by
  refine Met.ofW (cc := cb_Img) (maxL := 1) (ret := none) (by decide) rfl ?_
  intro p e s m args below meth c s₁ B hml hv
  obtain ⟨rfl, hsz, hP, hK, hD0, hN⟩ := hv
  have hx := B.exec
  have hb := B.bytes
  have hr := B.returns
  have hts0 := atoms_spec (ws := cw_W cy_Img cb_Img 1) B.pre
  have hts : ∀ w ∈ cw_ws, w.before _ s = true := fun w hw => hts0 w (List.mem_cons_of_mem _ hw)
  have hown : s.vm.findClass "SevenPassImage" = some m.cls := findClass_of_methodNamed B.named
  have hlocks := B.notSynchronized
  have hin : meth.name = "<init>" := (name_of_methodNamed B.named B.method).1
  subst hsz
  have hD := hD0.self (sz := s.heap.size)
  generalize hAe : va_A [(h0, .inr (7, [.null, .null, .null, .null, .null, .int 0]))] s.heap.size = A at hD ⊢
  have hA : ∀ q : Nat, s.heap.size ≤ q → A q := fun q h => by rw [← hAe]; exact Or.inr h
  have hS : va_S A s.heap s.heap [] := va_S.rf
  have hP : va_P (dC, dI) pm_cls [(h0, .inr (7, [.null, .null, .null, .null, .null, .int 0]))] s.heap := hP
  have hl := lv_entry ([.ref h0]) (n := 1) (Nat.le_of_ble_eq_true rfl)
  rw [lg_entry_eq]
  generalize (lg_sl ([.ref h0]) ++ List.replicate (1 - (lg_sl ([.ref h0])).length) Slot.unset).toArray = ls at hl ⊢
  have hl : lv_has ls 1 [(0, .ref h0)] := hl
  refine lv_aload_n hx hb cd_Img_0 rfl (lv_at hl 0 rfl) ?_
  refine W.objInit hx hb hown (hts _ (cw_m (i := 75) rfl)) (hts _ (cw_m (i := 0) rfl)) (hts _ (cw_m (i := 1) rfl)) rfl (by rw [hml]; exact hl.1) rfl cd_Img_1 (Nat.le_of_ble_eq_true rfl) (Nat.le_of_ble_eq_true rfl) ?_
  refine W.eq (g2 := F0 m 4 ls []) rfl ?_
  refine lv_aload_n hx hb cd_Img_4 rfl (lv_at hl 0 rfl) ?_
  refine va_new (D := (dC, dI)) (cl := pm_cls) (ci := 2) (fs := [.null, .int 0]) (C := (pm_q 2).1) (T := (pm_q 2).2.1) (N := 2) hx hb hts (cw_u (a := 2) (by decide)) (pm_ty 2) (pm_cls_a 2 (by decide)) hown (hts _ (cw_m (i := 76) rfl)) (hts _ (cw_m (i := 14) rfl)) (hts _ (cw_m (i := 13) rfl)) hK hP hD hS hA rfl (by decide +kernel) (Nat.le_of_ble_eq_true rfl) (Nat.le_of_ble_eq_true rfl) cd_Img_5 (fun q1 H hP hD hS => ?_)
  have hP : va_P (dC, dI) pm_cls [(h0, .inr (7, [.null, .null, .null, .null, .null, .int 0])), (q1, .inr (2, [.null, .int 0]))] H := hP
  have hD : va_D A [(h0, .inr (7, [.null, .null, .null, .null, .null, .int 0])), (q1, .inr (2, [.null, .int 0]))] := hD
  refine W.widen (k := 1) (n := 2) (Nat.le_of_ble_eq_true rfl) (Nat.le_of_ble_eq_true rfl) ?_
  refine lv_dup hx hb cd_Img_8 rfl ?_
  have hPc := hP.sub (ws' := [(q1, .inr (2, [.null, .int 0]))]) [1] rfl
  have hDc := hD.sub (ws' := [(q1, .inr (2, [.null, .int 0]))]) [1] (by decide) rfl
  have hFc := va_free (wc := [(q1, .inr (2, [.null, .int 0]))]) hD hS hA [1] rfl
  refine va_callv (va_runIN (host := pm_host) (As := []) (rest := [.ref q1, .ref h0]) ⟨hx, hb, hml, hown, hts⟩ (c_File l dC dI cA q1 H.size) ⟨va_cnB 0 hts (cw_goodIn (cw_m (i := 11) rfl)) rfl rfl rfl (hN _ (List.mem_of_getElem? (i := 5) rfl)) (hts _ (cw_m (i := 13) rfl)) (by decide +kernel) ⟨Nat.le_of_ble_eq_true rfl, Nat.le_of_ble_eq_true rfl⟩, rfl, (hts _ (cw_m (i := 12) rfl))⟩ ⟨fun a U g mk q => by obtain ⟨z0, z1, zP, zK, zD, zN⟩ := q; exact ⟨z0, z1, zP, va_K.moved (u := U) (U := U.calling g mk a) (Vm.Alike.refl U.vm) zK, zD, fun x hx => va_Nw.same rfl rfl (zN x hx)⟩, fun U hU hW => ⟨rfl, by rw [hU], by rw [hU]; exact hPc, va_K.moved hW.alike hK, hDc.weaken (fun _ _ _ _ => trivial), fun x hx => va_Nw.warmM hW (hN x hx)⟩⟩ rfl rfl hl.1 rfl (lv_room (Nat.le_of_ble_eq_true rfl)) cd_Img_9 ⟨Nat.le_of_ble_eq_true rfl, Nat.le_of_ble_eq_true rfl⟩) hS (fun q _ h => hFc q h) hFc (fun u t H1 locs ht hvm _ hB hz1 hk1 hS => ?_)
  obtain ⟨q2, q3, hP1, hK1, hD1⟩ := hB
  rw [ht] at hP1
  obtain ⟨hP, hD⟩ := va_join (wr := [(h0, .inr (7, [.null, .null, .null, .null, .null, .int 0]))]) (w1 := [(q1, .inr (2, [.ref q2, .int 0])), (q2, .inr (1, [.ref q3, .int 0])), (q3, .inl (cA, (700, .inl fun _ => 0)))]) hP hD [1] [0] rfl rfl (by decide) (by decide) hk1 hFc hP1 hD1
  generalize H1 = H at hP hS ⊢
  have hP : va_P (dC, dI) pm_cls [(h0, .inr (7, [.null, .null, .null, .null, .null, .int 0])), (q1, .inr (2, [.ref q2, .int 0])), (q2, .inr (1, [.ref q3, .int 0])), (q3, .inl (cA, (700, .inl fun _ => 0)))] H := hP
  have hD : va_D A [(h0, .inr (7, [.null, .null, .null, .null, .null, .int 0])), (q1, .inr (2, [.ref q2, .int 0])), (q2, .inr (1, [.ref q3, .int 0])), (q3, .inl (cA, (700, .inl fun _ => 0)))] := hD
  refine W.widen (k := 3) (n := 704) (Nat.le_of_ble_eq_true rfl) (Nat.le_of_ble_eq_true rfl) ?_
  refine va_putF (D := (dC, dI)) (cl := pm_cls) (ci := 7) (v := .ref q1) (C := (pm_q 7).1) (T := (pm_q 7).2.1) (N := 6) hx hb hts (cw_u (a := 7) (by decide)) (pm_ty 7) (pm_cls_a 7 (by decide)) (pm_cls_b 7 (by decide)) hown hK hP hD hS 0 rfl rfl 0 (by decide) (hts _ (cw_m (i := 77) rfl)) (fun _ h9 => h9) rfl hin rfl (pm_cls_a 7 (by decide) 0 (by decide)) rfl rfl (Nat.le_of_ble_eq_true rfl) cd_Img_12 (fun H locs hP hD hS => ?_)
  have hP : va_P (dC, dI) pm_cls [(h0, .inr (7, [.ref q1, .null, .null, .null, .null, .int 0])), (q1, .inr (2, [.ref q2, .int 0])), (q2, .inr (1, [.ref q3, .int 0])), (q3, .inl (cA, (700, .inl fun _ => 0)))] H := hP
  have hD : va_D A [(h0, .inr (7, [.ref q1, .null, .null, .null, .null, .int 0])), (q1, .inr (2, [.ref q2, .int 0])), (q2, .inr (1, [.ref q3, .int 0])), (q3, .inl (cA, (700, .inl fun _ => 0)))] := hD
  refine lv_aload_n hx hb cd_Img_15 rfl (lv_at hl 0 rfl) ?_
  refine va_new (D := (dC, dI)) (cl := pm_cls) (ci := 3) (fs := [.null, .null, .int 0, .int 0, .int 0, .int 0]) (C := (pm_q 3).1) (T := (pm_q 3).2.1) (N := 6) hx hb hts (cw_u (a := 3) (by decide)) (pm_ty 3) (pm_cls_a 3 (by decide)) hown (hts _ (cw_m (i := 78) rfl)) (hts _ (cw_m (i := 18) rfl)) (hts _ (cw_m (i := 17) rfl)) hK hP hD hS hA rfl (by decide +kernel) (Nat.le_of_ble_eq_true rfl) (Nat.le_of_ble_eq_true rfl) cd_Img_16 (fun q4 H hP hD hS => ?_)
  have hP : va_P (dC, dI) pm_cls [(h0, .inr (7, [.ref q1, .null, .null, .null, .null, .int 0])), (q1, .inr (2, [.ref q2, .int 0])), (q2, .inr (1, [.ref q3, .int 0])), (q3, .inl (cA, (700, .inl fun _ => 0))), (q4, .inr (3, [.null, .null, .int 0, .int 0, .int 0, .int 0]))] H := hP
  have hD : va_D A [(h0, .inr (7, [.ref q1, .null, .null, .null, .null, .int 0])), (q1, .inr (2, [.ref q2, .int 0])), (q2, .inr (1, [.ref q3, .int 0])), (q3, .inl (cA, (700, .inl fun _ => 0))), (q4, .inr (3, [.null, .null, .int 0, .int 0, .int 0, .int 0]))] := hD
  refine W.widen (k := 4) (n := 710) (Nat.le_of_ble_eq_true rfl) (Nat.le_of_ble_eq_true rfl) ?_
  refine lv_dup hx hb cd_Img_19 rfl ?_
  have hPc := hP.sub (ws' := [(q4, .inr (3, [.null, .null, .int 0, .int 0, .int 0, .int 0]))]) [4] rfl
  have hDc := hD.sub (ws' := [(q4, .inr (3, [.null, .null, .int 0, .int 0, .int 0, .int 0]))]) [4] (by decide) rfl
  have hFc := va_free (wc := [(q4, .inr (3, [.null, .null, .int 0, .int 0, .int 0, .int 0]))]) hD hS hA [4] rfl
  refine va_callv (va_runIN (host := pm_host) (As := []) (rest := [.ref q4, .ref h0]) ⟨hx, hb, hml, hown, hts⟩ (c_Pack l dC dI cA q4 H.size) ⟨va_cnB 0 hts (cw_goodIn (cw_m (i := 15) rfl)) rfl rfl rfl (hN _ (List.mem_of_getElem? (i := 6) rfl)) (hts _ (cw_m (i := 17) rfl)) (by decide +kernel) ⟨Nat.le_of_ble_eq_true rfl, Nat.le_of_ble_eq_true rfl⟩, rfl, (hts _ (cw_m (i := 16) rfl))⟩ ⟨fun a U g mk q => by obtain ⟨z0, z1, zP, zK, zD, zN⟩ := q; exact ⟨z0, z1, zP, va_K.moved (u := U) (U := U.calling g mk a) (Vm.Alike.refl U.vm) zK, zD, fun x hx => va_Nw.same rfl rfl (zN x hx)⟩, fun U hU hW => ⟨rfl, by rw [hU], by rw [hU]; exact hPc, va_K.moved hW.alike hK, hDc.weaken (fun _ _ _ _ => trivial), fun x hx => va_Nw.warmM hW (hN x hx)⟩⟩ rfl rfl hl.1 rfl (lv_room (Nat.le_of_ble_eq_true rfl)) cd_Img_20 ⟨Nat.le_of_ble_eq_true rfl, Nat.le_of_ble_eq_true rfl⟩) hS (fun q _ h => hFc q h) hFc (fun u t H1 locs ht hvm _ hB hz1 hk1 hS => ?_)
  obtain ⟨q5, q6, q7, q8, q9, hP1, hK1, hD1⟩ := hB
  rw [ht] at hP1
  obtain ⟨hP, hD⟩ := va_join (wr := [(h0, .inr (7, [.ref q1, .null, .null, .null, .null, .int 0])), (q1, .inr (2, [.ref q2, .int 0])), (q2, .inr (1, [.ref q3, .int 0])), (q3, .inl (cA, (700, .inl fun _ => 0)))]) (w1 := [(q4, .inr (3, [.ref q5, .ref q7, .int 0, .int 0, .int 0, .int 0])), (q5, .inr (1, [.ref q6, .int 0])), (q6, .inl (cA, (300, .inl fun _ => 0))), (q7, .inr (0, [.ref q8, .int 0, .int 0])), (q8, .inr (1, [.ref q9, .int 0])), (q9, .inl (cA, (700, .inl fun _ => 0)))]) hP hD [4] [0, 1, 2, 3] rfl rfl (by decide) (by decide) hk1 hFc hP1 hD1
  generalize H1 = H at hP hS ⊢
  have hP : va_P (dC, dI) pm_cls [(h0, .inr (7, [.ref q1, .null, .null, .null, .null, .int 0])), (q1, .inr (2, [.ref q2, .int 0])), (q2, .inr (1, [.ref q3, .int 0])), (q3, .inl (cA, (700, .inl fun _ => 0))), (q4, .inr (3, [.ref q5, .ref q7, .int 0, .int 0, .int 0, .int 0])), (q5, .inr (1, [.ref q6, .int 0])), (q6, .inl (cA, (300, .inl fun _ => 0))), (q7, .inr (0, [.ref q8, .int 0, .int 0])), (q8, .inr (1, [.ref q9, .int 0])), (q9, .inl (cA, (700, .inl fun _ => 0)))] H := hP
  have hD : va_D A [(h0, .inr (7, [.ref q1, .null, .null, .null, .null, .int 0])), (q1, .inr (2, [.ref q2, .int 0])), (q2, .inr (1, [.ref q3, .int 0])), (q3, .inl (cA, (700, .inl fun _ => 0))), (q4, .inr (3, [.ref q5, .ref q7, .int 0, .int 0, .int 0, .int 0])), (q5, .inr (1, [.ref q6, .int 0])), (q6, .inl (cA, (300, .inl fun _ => 0))), (q7, .inr (0, [.ref q8, .int 0, .int 0])), (q8, .inr (1, [.ref q9, .int 0])), (q9, .inl (cA, (700, .inl fun _ => 0)))] := hD
  refine W.widen (k := 9) (n := 1717) (Nat.le_of_ble_eq_true rfl) (Nat.le_of_ble_eq_true rfl) ?_
  refine va_putF (D := (dC, dI)) (cl := pm_cls) (ci := 7) (v := .ref q4) (C := (pm_q 7).1) (T := (pm_q 7).2.1) (N := 6) hx hb hts (cw_u (a := 7) (by decide)) (pm_ty 7) (pm_cls_a 7 (by decide)) (pm_cls_b 7 (by decide)) hown hK hP hD hS 0 rfl rfl 1 (by decide) (hts _ (cw_m (i := 79) rfl)) (fun _ h9 => h9) rfl hin rfl (pm_cls_a 7 (by decide) 1 (by decide)) rfl rfl (Nat.le_of_ble_eq_true rfl) cd_Img_23 (fun H locs hP hD hS => ?_)
  have hP : va_P (dC, dI) pm_cls [(h0, .inr (7, [.ref q1, .ref q4, .null, .null, .null, .int 0])), (q1, .inr (2, [.ref q2, .int 0])), (q2, .inr (1, [.ref q3, .int 0])), (q3, .inl (cA, (700, .inl fun _ => 0))), (q4, .inr (3, [.ref q5, .ref q7, .int 0, .int 0, .int 0, .int 0])), (q5, .inr (1, [.ref q6, .int 0])), (q6, .inl (cA, (300, .inl fun _ => 0))), (q7, .inr (0, [.ref q8, .int 0, .int 0])), (q8, .inr (1, [.ref q9, .int 0])), (q9, .inl (cA, (700, .inl fun _ => 0)))] H := hP
  have hD : va_D A [(h0, .inr (7, [.ref q1, .ref q4, .null, .null, .null, .int 0])), (q1, .inr (2, [.ref q2, .int 0])), (q2, .inr (1, [.ref q3, .int 0])), (q3, .inl (cA, (700, .inl fun _ => 0))), (q4, .inr (3, [.ref q5, .ref q7, .int 0, .int 0, .int 0, .int 0])), (q5, .inr (1, [.ref q6, .int 0])), (q6, .inl (cA, (300, .inl fun _ => 0))), (q7, .inr (0, [.ref q8, .int 0, .int 0])), (q8, .inr (1, [.ref q9, .int 0])), (q9, .inl (cA, (700, .inl fun _ => 0)))] := hD
  refine lv_aload_n hx hb cd_Img_26 rfl (lv_at hl 0 rfl) ?_
  refine va_new (D := (dC, dI)) (cl := pm_cls) (ci := 6) (fs := [.null, .null]) (C := (pm_q 6).1) (T := (pm_q 6).2.1) (N := 2) hx hb hts (cw_u (a := 6) (by decide)) (pm_ty 6) (pm_cls_a 6 (by decide)) hown (hts _ (cw_m (i := 80) rfl)) (hts _ (cw_m (i := 30) rfl)) (hts _ (cw_m (i := 29) rfl)) hK hP hD hS hA rfl (by decide +kernel) (Nat.le_of_ble_eq_true rfl) (Nat.le_of_ble_eq_true rfl) cd_Img_27 (fun q10 H hP hD hS => ?_)
  have hP : va_P (dC, dI) pm_cls [(h0, .inr (7, [.ref q1, .ref q4, .null, .null, .null, .int 0])), (q1, .inr (2, [.ref q2, .int 0])), (q2, .inr (1, [.ref q3, .int 0])), (q3, .inl (cA, (700, .inl fun _ => 0))), (q4, .inr (3, [.ref q5, .ref q7, .int 0, .int 0, .int 0, .int 0])), (q5, .inr (1, [.ref q6, .int 0])), (q6, .inl (cA, (300, .inl fun _ => 0))), (q7, .inr (0, [.ref q8, .int 0, .int 0])), (q8, .inr (1, [.ref q9, .int 0])), (q9, .inl (cA, (700, .inl fun _ => 0))), (q10, .inr (6, [.null, .null]))] H := hP
  have hD : va_D A [(h0, .inr (7, [.ref q1, .ref q4, .null, .null, .null, .int 0])), (q1, .inr (2, [.ref q2, .int 0])), (q2, .inr (1, [.ref q3, .int 0])), (q3, .inl (cA, (700, .inl fun _ => 0))), (q4, .inr (3, [.ref q5, .ref q7, .int 0, .int 0, .int 0, .int 0])), (q5, .inr (1, [.ref q6, .int 0])), (q6, .inl (cA, (300, .inl fun _ => 0))), (q7, .inr (0, [.ref q8, .int 0, .int 0])), (q8, .inr (1, [.ref q9, .int 0])), (q9, .inl (cA, (700, .inl fun _ => 0))), (q10, .inr (6, [.null, .null]))] := hD
  refine W.widen (k := 10) (n := 1719) (Nat.le_of_ble_eq_true rfl) (Nat.le_of_ble_eq_true rfl) ?_
  refine lv_dup hx hb cd_Img_30 rfl ?_
  have hPc := hP.sub (ws' := [(q10, .inr (6, [.null, .null]))]) [10] rfl
  have hDc := hD.sub (ws' := [(q10, .inr (6, [.null, .null]))]) [10] (by decide) rfl
  have hFc := va_free (wc := [(q10, .inr (6, [.null, .null]))]) hD hS hA [10] rfl
  refine va_callv (va_runIN (host := pm_host) (As := []) (rest := [.ref q10, .ref h0]) ⟨hx, hb, hml, hown, hts⟩ (c_Coder l dC dI cA q10 H.size) ⟨va_cnB 0 hts (cw_goodIn (cw_m (i := 27) rfl)) rfl rfl rfl (hN _ (List.mem_of_getElem? (i := 7) rfl)) (hts _ (cw_m (i := 29) rfl)) (by decide +kernel) ⟨Nat.le_of_ble_eq_true rfl, Nat.le_of_ble_eq_true rfl⟩, rfl, (hts _ (cw_m (i := 28) rfl))⟩ ⟨fun a U g mk q => by obtain ⟨z0, z1, zP, zK, zD, zN⟩ := q; exact ⟨z0, z1, zP, va_K.moved (u := U) (U := U.calling g mk a) (Vm.Alike.refl U.vm) zK, zD, fun x hx => va_Nw.same rfl rfl (zN x hx)⟩, fun U hU hW => ⟨rfl, by rw [hU], by rw [hU]; exact hPc, va_K.moved hW.alike hK, hDc.weaken (fun _ _ _ _ => trivial), fun x hx => va_Nw.warmM hW (hN x hx)⟩⟩ rfl rfl hl.1 rfl (lv_room (Nat.le_of_ble_eq_true rfl)) cd_Img_31 ⟨Nat.le_of_ble_eq_true rfl, Nat.le_of_ble_eq_true rfl⟩) hS (fun q _ h => hFc q h) hFc (fun u t H1 locs ht hvm _ hB hz1 hk1 hS => ?_)
  obtain ⟨q11, q12, q13, q14, hP1, hK1, hD1⟩ := hB
  rw [ht] at hP1
  obtain ⟨hP, hD⟩ := va_join (wr := [(h0, .inr (7, [.ref q1, .ref q4, .null, .null, .null, .int 0])), (q1, .inr (2, [.ref q2, .int 0])), (q2, .inr (1, [.ref q3, .int 0])), (q3, .inl (cA, (700, .inl fun _ => 0))), (q4, .inr (3, [.ref q5, .ref q7, .int 0, .int 0, .int 0, .int 0])), (q5, .inr (1, [.ref q6, .int 0])), (q6, .inl (cA, (300, .inl fun _ => 0))), (q7, .inr (0, [.ref q8, .int 0, .int 0])), (q8, .inr (1, [.ref q9, .int 0])), (q9, .inl (cA, (700, .inl fun _ => 0)))]) (w1 := [(q10, .inr (6, [.ref q11, .ref q12])), (q11, .inl (cA, (5, .inl fun _ => 0))), (q12, .inr (5, [.ref q13, .ref q14, .int 0, .int 1])), (q13, .inl (cA, (32, .inl fun _ => 0))), (q14, .inl (cA, (32, .inl fun _ => 0)))]) hP hD [10] [0, 1, 2, 3, 4, 5, 6, 7, 8, 9] rfl rfl (by decide) (by decide) hk1 hFc hP1 hD1
  generalize H1 = H at hP hS ⊢
  have hP : va_P (dC, dI) pm_cls [(h0, .inr (7, [.ref q1, .ref q4, .null, .null, .null, .int 0])), (q1, .inr (2, [.ref q2, .int 0])), (q2, .inr (1, [.ref q3, .int 0])), (q3, .inl (cA, (700, .inl fun _ => 0))), (q4, .inr (3, [.ref q5, .ref q7, .int 0, .int 0, .int 0, .int 0])), (q5, .inr (1, [.ref q6, .int 0])), (q6, .inl (cA, (300, .inl fun _ => 0))), (q7, .inr (0, [.ref q8, .int 0, .int 0])), (q8, .inr (1, [.ref q9, .int 0])), (q9, .inl (cA, (700, .inl fun _ => 0))), (q10, .inr (6, [.ref q11, .ref q12])), (q11, .inl (cA, (5, .inl fun _ => 0))), (q12, .inr (5, [.ref q13, .ref q14, .int 0, .int 1])), (q13, .inl (cA, (32, .inl fun _ => 0))), (q14, .inl (cA, (32, .inl fun _ => 0)))] H := hP
  have hD : va_D A [(h0, .inr (7, [.ref q1, .ref q4, .null, .null, .null, .int 0])), (q1, .inr (2, [.ref q2, .int 0])), (q2, .inr (1, [.ref q3, .int 0])), (q3, .inl (cA, (700, .inl fun _ => 0))), (q4, .inr (3, [.ref q5, .ref q7, .int 0, .int 0, .int 0, .int 0])), (q5, .inr (1, [.ref q6, .int 0])), (q6, .inl (cA, (300, .inl fun _ => 0))), (q7, .inr (0, [.ref q8, .int 0, .int 0])), (q8, .inr (1, [.ref q9, .int 0])), (q9, .inl (cA, (700, .inl fun _ => 0))), (q10, .inr (6, [.ref q11, .ref q12])), (q11, .inl (cA, (5, .inl fun _ => 0))), (q12, .inr (5, [.ref q13, .ref q14, .int 0, .int 1])), (q13, .inl (cA, (32, .inl fun _ => 0))), (q14, .inl (cA, (32, .inl fun _ => 0)))] := hD
  refine W.widen (k := 14) (n := 1792) (Nat.le_of_ble_eq_true rfl) (Nat.le_of_ble_eq_true rfl) ?_
  refine va_putF (D := (dC, dI)) (cl := pm_cls) (ci := 7) (v := .ref q10) (C := (pm_q 7).1) (T := (pm_q 7).2.1) (N := 6) hx hb hts (cw_u (a := 7) (by decide)) (pm_ty 7) (pm_cls_a 7 (by decide)) (pm_cls_b 7 (by decide)) hown hK hP hD hS 0 rfl rfl 2 (by decide) (hts _ (cw_m (i := 81) rfl)) (fun _ h9 => h9) rfl hin rfl (pm_cls_a 7 (by decide) 2 (by decide)) rfl rfl (Nat.le_of_ble_eq_true rfl) cd_Img_34 (fun H locs hP hD hS => ?_)
  have hP : va_P (dC, dI) pm_cls [(h0, .inr (7, [.ref q1, .ref q4, .ref q10, .null, .null, .int 0])), (q1, .inr (2, [.ref q2, .int 0])), (q2, .inr (1, [.ref q3, .int 0])), (q3, .inl (cA, (700, .inl fun _ => 0))), (q4, .inr (3, [.ref q5, .ref q7, .int 0, .int 0, .int 0, .int 0])), (q5, .inr (1, [.ref q6, .int 0])), (q6, .inl (cA, (300, .inl fun _ => 0))), (q7, .inr (0, [.ref q8, .int 0, .int 0])), (q8, .inr (1, [.ref q9, .int 0])), (q9, .inl (cA, (700, .inl fun _ => 0))), (q10, .inr (6, [.ref q11, .ref q12])), (q11, .inl (cA, (5, .inl fun _ => 0))), (q12, .inr (5, [.ref q13, .ref q14, .int 0, .int 1])), (q13, .inl (cA, (32, .inl fun _ => 0))), (q14, .inl (cA, (32, .inl fun _ => 0)))] H := hP
  have hD : va_D A [(h0, .inr (7, [.ref q1, .ref q4, .ref q10, .null, .null, .int 0])), (q1, .inr (2, [.ref q2, .int 0])), (q2, .inr (1, [.ref q3, .int 0])), (q3, .inl (cA, (700, .inl fun _ => 0))), (q4, .inr (3, [.ref q5, .ref q7, .int 0, .int 0, .int 0, .int 0])), (q5, .inr (1, [.ref q6, .int 0])), (q6, .inl (cA, (300, .inl fun _ => 0))), (q7, .inr (0, [.ref q8, .int 0, .int 0])), (q8, .inr (1, [.ref q9, .int 0])), (q9, .inl (cA, (700, .inl fun _ => 0))), (q10, .inr (6, [.ref q11, .ref q12])), (q11, .inl (cA, (5, .inl fun _ => 0))), (q12, .inr (5, [.ref q13, .ref q14, .int 0, .int 1])), (q13, .inl (cA, (32, .inl fun _ => 0))), (q14, .inl (cA, (32, .inl fun _ => 0)))] := hD
  refine lv_aload_n hx hb cd_Img_37 rfl (lv_at hl 0 rfl) ?_
  refine va_new (D := (dC, dI)) (cl := pm_cls) (ci := 4) (fs := [.null, .int 0, .int 0, .int 0, .int 0]) (C := (pm_q 4).1) (T := (pm_q 4).2.1) (N := 5) hx hb hts (cw_u (a := 4) (by decide)) (pm_ty 4) (pm_cls_a 4 (by decide)) hown (hts _ (cw_m (i := 82) rfl)) (hts _ (cw_m (i := 22) rfl)) (hts _ (cw_m (i := 21) rfl)) hK hP hD hS hA rfl (by decide +kernel) (Nat.le_of_ble_eq_true rfl) (Nat.le_of_ble_eq_true rfl) cd_Img_38 (fun q15 H hP hD hS => ?_)
  have hP : va_P (dC, dI) pm_cls [(h0, .inr (7, [.ref q1, .ref q4, .ref q10, .null, .null, .int 0])), (q1, .inr (2, [.ref q2, .int 0])), (q2, .inr (1, [.ref q3, .int 0])), (q3, .inl (cA, (700, .inl fun _ => 0))), (q4, .inr (3, [.ref q5, .ref q7, .int 0, .int 0, .int 0, .int 0])), (q5, .inr (1, [.ref q6, .int 0])), (q6, .inl (cA, (300, .inl fun _ => 0))), (q7, .inr (0, [.ref q8, .int 0, .int 0])), (q8, .inr (1, [.ref q9, .int 0])), (q9, .inl (cA, (700, .inl fun _ => 0))), (q10, .inr (6, [.ref q11, .ref q12])), (q11, .inl (cA, (5, .inl fun _ => 0))), (q12, .inr (5, [.ref q13, .ref q14, .int 0, .int 1])), (q13, .inl (cA, (32, .inl fun _ => 0))), (q14, .inl (cA, (32, .inl fun _ => 0))), (q15, .inr (4, [.null, .int 0, .int 0, .int 0, .int 0]))] H := hP
  have hD : va_D A [(h0, .inr (7, [.ref q1, .ref q4, .ref q10, .null, .null, .int 0])), (q1, .inr (2, [.ref q2, .int 0])), (q2, .inr (1, [.ref q3, .int 0])), (q3, .inl (cA, (700, .inl fun _ => 0))), (q4, .inr (3, [.ref q5, .ref q7, .int 0, .int 0, .int 0, .int 0])), (q5, .inr (1, [.ref q6, .int 0])), (q6, .inl (cA, (300, .inl fun _ => 0))), (q7, .inr (0, [.ref q8, .int 0, .int 0])), (q8, .inr (1, [.ref q9, .int 0])), (q9, .inl (cA, (700, .inl fun _ => 0))), (q10, .inr (6, [.ref q11, .ref q12])), (q11, .inl (cA, (5, .inl fun _ => 0))), (q12, .inr (5, [.ref q13, .ref q14, .int 0, .int 1])), (q13, .inl (cA, (32, .inl fun _ => 0))), (q14, .inl (cA, (32, .inl fun _ => 0))), (q15, .inr (4, [.null, .int 0, .int 0, .int 0, .int 0]))] := hD
  refine W.widen (k := 15) (n := 1797) (Nat.le_of_ble_eq_true rfl) (Nat.le_of_ble_eq_true rfl) ?_
  refine lv_dup hx hb cd_Img_41 rfl ?_
  have hPc := hP.sub (ws' := [(q15, .inr (4, [.null, .int 0, .int 0, .int 0, .int 0]))]) [15] rfl
  have hDc := hD.sub (ws' := [(q15, .inr (4, [.null, .int 0, .int 0, .int 0, .int 0]))]) [15] (by decide) rfl
  have hFc := va_free (wc := [(q15, .inr (4, [.null, .int 0, .int 0, .int 0, .int 0]))]) hD hS hA [15] rfl
  refine va_callv (va_runIN (host := pm_host) (As := []) (rest := [.ref q15, .ref h0]) ⟨hx, hb, hml, hown, hts⟩ (c_Pict l dC dI cA q15 H.size) ⟨va_cnB 0 hts (cw_goodIn (cw_m (i := 19) rfl)) rfl rfl rfl (hN _ (List.mem_of_getElem? (i := 8) rfl)) (hts _ (cw_m (i := 21) rfl)) (by decide +kernel) ⟨Nat.le_of_ble_eq_true rfl, Nat.le_of_ble_eq_true rfl⟩, rfl, (hts _ (cw_m (i := 20) rfl))⟩ ⟨fun a U g mk q => by obtain ⟨z0, z1, zP, zK, zD, zN⟩ := q; exact ⟨z0, z1, zP, va_K.moved (u := U) (U := U.calling g mk a) (Vm.Alike.refl U.vm) zK, zD, fun x hx => va_Nw.same rfl rfl (zN x hx)⟩, fun U hU hW => ⟨rfl, by rw [hU], by rw [hU]; exact hPc, va_K.moved hW.alike hK, hDc.weaken (fun _ _ _ _ => trivial), fun x hx => va_Nw.warmM hW (hN x hx)⟩⟩ rfl rfl hl.1 rfl (lv_room (Nat.le_of_ble_eq_true rfl)) cd_Img_42 ⟨Nat.le_of_ble_eq_true rfl, Nat.le_of_ble_eq_true rfl⟩) hS (fun q _ h => hFc q h) hFc (fun u t H1 locs ht hvm _ hB hz1 hk1 hS => ?_)
  obtain ⟨q16, hP1, hK1, hD1⟩ := hB
  rw [ht] at hP1
  obtain ⟨hP, hD⟩ := va_join (wr := [(h0, .inr (7, [.ref q1, .ref q4, .ref q10, .null, .null, .int 0])), (q1, .inr (2, [.ref q2, .int 0])), (q2, .inr (1, [.ref q3, .int 0])), (q3, .inl (cA, (700, .inl fun _ => 0))), (q4, .inr (3, [.ref q5, .ref q7, .int 0, .int 0, .int 0, .int 0])), (q5, .inr (1, [.ref q6, .int 0])), (q6, .inl (cA, (300, .inl fun _ => 0))), (q7, .inr (0, [.ref q8, .int 0, .int 0])), (q8, .inr (1, [.ref q9, .int 0])), (q9, .inl (cA, (700, .inl fun _ => 0))), (q10, .inr (6, [.ref q11, .ref q12])), (q11, .inl (cA, (5, .inl fun _ => 0))), (q12, .inr (5, [.ref q13, .ref q14, .int 0, .int 1])), (q13, .inl (cA, (32, .inl fun _ => 0))), (q14, .inl (cA, (32, .inl fun _ => 0)))]) (w1 := [(q15, .inr (4, [.ref q16, .int 0, .int 1, .int 1, .int 1])), (q16, .inl (cA, (256, .inl fun _ => 0)))]) hP hD [15] [0, 1, 2, 3, 4, 5, 6, 7, 8, 9, 10, 11, 12, 13, 14] rfl rfl (by decide) (by decide) hk1 hFc hP1 hD1
  generalize H1 = H at hP hS ⊢
  have hP : va_P (dC, dI) pm_cls [(h0, .inr (7, [.ref q1, .ref q4, .ref q10, .null, .null, .int 0])), (q1, .inr (2, [.ref q2, .int 0])), (q2, .inr (1, [.ref q3, .int 0])), (q3, .inl (cA, (700, .inl fun _ => 0))), (q4, .inr (3, [.ref q5, .ref q7, .int 0, .int 0, .int 0, .int 0])), (q5, .inr (1, [.ref q6, .int 0])), (q6, .inl (cA, (300, .inl fun _ => 0))), (q7, .inr (0, [.ref q8, .int 0, .int 0])), (q8, .inr (1, [.ref q9, .int 0])), (q9, .inl (cA, (700, .inl fun _ => 0))), (q10, .inr (6, [.ref q11, .ref q12])), (q11, .inl (cA, (5, .inl fun _ => 0))), (q12, .inr (5, [.ref q13, .ref q14, .int 0, .int 1])), (q13, .inl (cA, (32, .inl fun _ => 0))), (q14, .inl (cA, (32, .inl fun _ => 0))), (q15, .inr (4, [.ref q16, .int 0, .int 1, .int 1, .int 1])), (q16, .inl (cA, (256, .inl fun _ => 0)))] H := hP
  have hD : va_D A [(h0, .inr (7, [.ref q1, .ref q4, .ref q10, .null, .null, .int 0])), (q1, .inr (2, [.ref q2, .int 0])), (q2, .inr (1, [.ref q3, .int 0])), (q3, .inl (cA, (700, .inl fun _ => 0))), (q4, .inr (3, [.ref q5, .ref q7, .int 0, .int 0, .int 0, .int 0])), (q5, .inr (1, [.ref q6, .int 0])), (q6, .inl (cA, (300, .inl fun _ => 0))), (q7, .inr (0, [.ref q8, .int 0, .int 0])), (q8, .inr (1, [.ref q9, .int 0])), (q9, .inl (cA, (700, .inl fun _ => 0))), (q10, .inr (6, [.ref q11, .ref q12])), (q11, .inl (cA, (5, .inl fun _ => 0))), (q12, .inr (5, [.ref q13, .ref q14, .int 0, .int 1])), (q13, .inl (cA, (32, .inl fun _ => 0))), (q14, .inl (cA, (32, .inl fun _ => 0))), (q15, .inr (4, [.ref q16, .int 0, .int 1, .int 1, .int 1])), (q16, .inl (cA, (256, .inl fun _ => 0)))] := hD
  refine W.widen (k := 16) (n := 2053) (Nat.le_of_ble_eq_true rfl) (Nat.le_of_ble_eq_true rfl) ?_
  refine va_put (D := (dC, dI)) (cl := pm_cls) (ci := 7) (v := .ref q15) (C := (pm_q 7).1) (T := (pm_q 7).2.1) (N := 6) hx hb hts (cw_u (a := 7) (by decide)) (pm_ty 7) (pm_cls_a 7 (by decide)) (pm_cls_b 7 (by decide)) hown hK hP hD hS 0 rfl rfl 3 (by decide) (hts _ (cw_m (i := 83) rfl)) (fun _ h9 => h9) rfl (pm_cls_a 7 (by decide) 3 (by decide)) rfl rfl (Nat.le_of_ble_eq_true rfl) cd_Img_45 (fun H locs hP hD hS => ?_)
  have hP : va_P (dC, dI) pm_cls [(h0, .inr (7, [.ref q1, .ref q4, .ref q10, .ref q15, .null, .int 0])), (q1, .inr (2, [.ref q2, .int 0])), (q2, .inr (1, [.ref q3, .int 0])), (q3, .inl (cA, (700, .inl fun _ => 0))), (q4, .inr (3, [.ref q5, .ref q7, .int 0, .int 0, .int 0, .int 0])), (q5, .inr (1, [.ref q6, .int 0])), (q6, .inl (cA, (300, .inl fun _ => 0))), (q7, .inr (0, [.ref q8, .int 0, .int 0])), (q8, .inr (1, [.ref q9, .int 0])), (q9, .inl (cA, (700, .inl fun _ => 0))), (q10, .inr (6, [.ref q11, .ref q12])), (q11, .inl (cA, (5, .inl fun _ => 0))), (q12, .inr (5, [.ref q13, .ref q14, .int 0, .int 1])), (q13, .inl (cA, (32, .inl fun _ => 0))), (q14, .inl (cA, (32, .inl fun _ => 0))), (q15, .inr (4, [.ref q16, .int 0, .int 1, .int 1, .int 1])), (q16, .inl (cA, (256, .inl fun _ => 0)))] H := hP
  have hD : va_D A [(h0, .inr (7, [.ref q1, .ref q4, .ref q10, .ref q15, .null, .int 0])), (q1, .inr (2, [.ref q2, .int 0])), (q2, .inr (1, [.ref q3, .int 0])), (q3, .inl (cA, (700, .inl fun _ => 0))), (q4, .inr (3, [.ref q5, .ref q7, .int 0, .int 0, .int 0, .int 0])), (q5, .inr (1, [.ref q6, .int 0])), (q6, .inl (cA, (300, .inl fun _ => 0))), (q7, .inr (0, [.ref q8, .int 0, .int 0])), (q8, .inr (1, [.ref q9, .int 0])), (q9, .inl (cA, (700, .inl fun _ => 0))), (q10, .inr (6, [.ref q11, .ref q12])), (q11, .inl (cA, (5, .inl fun _ => 0))), (q12, .inr (5, [.ref q13, .ref q14, .int 0, .int 1])), (q13, .inl (cA, (32, .inl fun _ => 0))), (q14, .inl (cA, (32, .inl fun _ => 0))), (q15, .inr (4, [.ref q16, .int 0, .int 1, .int 1, .int 1])), (q16, .inl (cA, (256, .inl fun _ => 0)))] := hD
  refine lv_aload_n hx hb cd_Img_48 rfl (lv_at hl 0 rfl) ?_
  refine va_new (D := (dC, dI)) (cl := pm_cls) (ci := 4) (fs := [.null, .int 0, .int 0, .int 0, .int 0]) (C := (pm_q 4).1) (T := (pm_q 4).2.1) (N := 5) hx hb hts (cw_u (a := 4) (by decide)) (pm_ty 4) (pm_cls_a 4 (by decide)) hown (hts _ (cw_m (i := 82) rfl)) (hts _ (cw_m (i := 22) rfl)) (hts _ (cw_m (i := 21) rfl)) hK hP hD hS hA rfl (by decide +kernel) (Nat.le_of_ble_eq_true rfl) (Nat.le_of_ble_eq_true rfl) cd_Img_49 (fun q17 H hP hD hS => ?_)
  have hP : va_P (dC, dI) pm_cls [(h0, .inr (7, [.ref q1, .ref q4, .ref q10, .ref q15, .null, .int 0])), (q1, .inr (2, [.ref q2, .int 0])), (q2, .inr (1, [.ref q3, .int 0])), (q3, .inl (cA, (700, .inl fun _ => 0))), (q4, .inr (3, [.ref q5, .ref q7, .int 0, .int 0, .int 0, .int 0])), (q5, .inr (1, [.ref q6, .int 0])), (q6, .inl (cA, (300, .inl fun _ => 0))), (q7, .inr (0, [.ref q8, .int 0, .int 0])), (q8, .inr (1, [.ref q9, .int 0])), (q9, .inl (cA, (700, .inl fun _ => 0))), (q10, .inr (6, [.ref q11, .ref q12])), (q11, .inl (cA, (5, .inl fun _ => 0))), (q12, .inr (5, [.ref q13, .ref q14, .int 0, .int 1])), (q13, .inl (cA, (32, .inl fun _ => 0))), (q14, .inl (cA, (32, .inl fun _ => 0))), (q15, .inr (4, [.ref q16, .int 0, .int 1, .int 1, .int 1])), (q16, .inl (cA, (256, .inl fun _ => 0))), (q17, .inr (4, [.null, .int 0, .int 0, .int 0, .int 0]))] H := hP
  have hD : va_D A [(h0, .inr (7, [.ref q1, .ref q4, .ref q10, .ref q15, .null, .int 0])), (q1, .inr (2, [.ref q2, .int 0])), (q2, .inr (1, [.ref q3, .int 0])), (q3, .inl (cA, (700, .inl fun _ => 0))), (q4, .inr (3, [.ref q5, .ref q7, .int 0, .int 0, .int 0, .int 0])), (q5, .inr (1, [.ref q6, .int 0])), (q6, .inl (cA, (300, .inl fun _ => 0))), (q7, .inr (0, [.ref q8, .int 0, .int 0])), (q8, .inr (1, [.ref q9, .int 0])), (q9, .inl (cA, (700, .inl fun _ => 0))), (q10, .inr (6, [.ref q11, .ref q12])), (q11, .inl (cA, (5, .inl fun _ => 0))), (q12, .inr (5, [.ref q13, .ref q14, .int 0, .int 1])), (q13, .inl (cA, (32, .inl fun _ => 0))), (q14, .inl (cA, (32, .inl fun _ => 0))), (q15, .inr (4, [.ref q16, .int 0, .int 1, .int 1, .int 1])), (q16, .inl (cA, (256, .inl fun _ => 0))), (q17, .inr (4, [.null, .int 0, .int 0, .int 0, .int 0]))] := hD
  refine W.widen (k := 17) (n := 2058) (Nat.le_of_ble_eq_true rfl) (Nat.le_of_ble_eq_true rfl) ?_
  refine lv_dup hx hb cd_Img_52 rfl ?_
  have hPc := hP.sub (ws' := [(q17, .inr (4, [.null, .int 0, .int 0, .int 0, .int 0]))]) [17] rfl
  have hDc := hD.sub (ws' := [(q17, .inr (4, [.null, .int 0, .int 0, .int 0, .int 0]))]) [17] (by decide) rfl
  have hFc := va_free (wc := [(q17, .inr (4, [.null, .int 0, .int 0, .int 0, .int 0]))]) hD hS hA [17] rfl
  refine va_callv (va_runIN (host := pm_host) (As := []) (rest := [.ref q17, .ref h0]) ⟨hx, hb, hml, hown, hts⟩ (c_Pict l dC dI cA q17 H.size) ⟨va_cnB 0 hts (cw_goodIn (cw_m (i := 19) rfl)) rfl rfl rfl (hN _ (List.mem_of_getElem? (i := 8) rfl)) (hts _ (cw_m (i := 21) rfl)) (by decide +kernel) ⟨Nat.le_of_ble_eq_true rfl, Nat.le_of_ble_eq_true rfl⟩, rfl, (hts _ (cw_m (i := 20) rfl))⟩ ⟨fun a U g mk q => by obtain ⟨z0, z1, zP, zK, zD, zN⟩ := q; exact ⟨z0, z1, zP, va_K.moved (u := U) (U := U.calling g mk a) (Vm.Alike.refl U.vm) zK, zD, fun x hx => va_Nw.same rfl rfl (zN x hx)⟩, fun U hU hW => ⟨rfl, by rw [hU], by rw [hU]; exact hPc, va_K.moved hW.alike hK, hDc.weaken (fun _ _ _ _ => trivial), fun x hx => va_Nw.warmM hW (hN x hx)⟩⟩ rfl rfl hl.1 rfl (lv_room (Nat.le_of_ble_eq_true rfl)) cd_Img_53 ⟨Nat.le_of_ble_eq_true rfl, Nat.le_of_ble_eq_true rfl⟩) hS (fun q _ h => hFc q h) hFc (fun u t H1 locs ht hvm _ hB hz1 hk1 hS => ?_)
  obtain ⟨q18, hP1, hK1, hD1⟩ := hB
  rw [ht] at hP1
  obtain ⟨hP, hD⟩ := va_join (wr := [(h0, .inr (7, [.ref q1, .ref q4, .ref q10, .ref q15, .null, .int 0])), (q1, .inr (2, [.ref q2, .int 0])), (q2, .inr (1, [.ref q3, .int 0])), (q3, .inl (cA, (700, .inl fun _ => 0))), (q4, .inr (3, [.ref q5, .ref q7, .int 0, .int 0, .int 0, .int 0])), (q5, .inr (1, [.ref q6, .int 0])), (q6, .inl (cA, (300, .inl fun _ => 0))), (q7, .inr (0, [.ref q8, .int 0, .int 0])), (q8, .inr (1, [.ref q9, .int 0])), (q9, .inl (cA, (700, .inl fun _ => 0))), (q10, .inr (6, [.ref q11, .ref q12])), (q11, .inl (cA, (5, .inl fun _ => 0))), (q12, .inr (5, [.ref q13, .ref q14, .int 0, .int 1])), (q13, .inl (cA, (32, .inl fun _ => 0))), (q14, .inl (cA, (32, .inl fun _ => 0))), (q15, .inr (4, [.ref q16, .int 0, .int 1, .int 1, .int 1])), (q16, .inl (cA, (256, .inl fun _ => 0)))]) (w1 := [(q17, .inr (4, [.ref q18, .int 0, .int 1, .int 1, .int 1])), (q18, .inl (cA, (256, .inl fun _ => 0)))]) hP hD [17] [0, 1, 2, 3, 4, 5, 6, 7, 8, 9, 10, 11, 12, 13, 14, 15, 16] rfl rfl (by decide) (by decide) hk1 hFc hP1 hD1
  generalize H1 = H at hP hS ⊢
  have hP : va_P (dC, dI) pm_cls [(h0, .inr (7, [.ref q1, .ref q4, .ref q10, .ref q15, .null, .int 0])), (q1, .inr (2, [.ref q2, .int 0])), (q2, .inr (1, [.ref q3, .int 0])), (q3, .inl (cA, (700, .inl fun _ => 0))), (q4, .inr (3, [.ref q5, .ref q7, .int 0, .int 0, .int 0, .int 0])), (q5, .inr (1, [.ref q6, .int 0])), (q6, .inl (cA, (300, .inl fun _ => 0))), (q7, .inr (0, [.ref q8, .int 0, .int 0])), (q8, .inr (1, [.ref q9, .int 0])), (q9, .inl (cA, (700, .inl fun _ => 0))), (q10, .inr (6, [.ref q11, .ref q12])), (q11, .inl (cA, (5, .inl fun _ => 0))), (q12, .inr (5, [.ref q13, .ref q14, .int 0, .int 1])), (q13, .inl (cA, (32, .inl fun _ => 0))), (q14, .inl (cA, (32, .inl fun _ => 0))), (q15, .inr (4, [.ref q16, .int 0, .int 1, .int 1, .int 1])), (q16, .inl (cA, (256, .inl fun _ => 0))), (q17, .inr (4, [.ref q18, .int 0, .int 1, .int 1, .int 1])), (q18, .inl (cA, (256, .inl fun _ => 0)))] H := hP
  have hD : va_D A [(h0, .inr (7, [.ref q1, .ref q4, .ref q10, .ref q15, .null, .int 0])), (q1, .inr (2, [.ref q2, .int 0])), (q2, .inr (1, [.ref q3, .int 0])), (q3, .inl (cA, (700, .inl fun _ => 0))), (q4, .inr (3, [.ref q5, .ref q7, .int 0, .int 0, .int 0, .int 0])), (q5, .inr (1, [.ref q6, .int 0])), (q6, .inl (cA, (300, .inl fun _ => 0))), (q7, .inr (0, [.ref q8, .int 0, .int 0])), (q8, .inr (1, [.ref q9, .int 0])), (q9, .inl (cA, (700, .inl fun _ => 0))), (q10, .inr (6, [.ref q11, .ref q12])), (q11, .inl (cA, (5, .inl fun _ => 0))), (q12, .inr (5, [.ref q13, .ref q14, .int 0, .int 1])), (q13, .inl (cA, (32, .inl fun _ => 0))), (q14, .inl (cA, (32, .inl fun _ => 0))), (q15, .inr (4, [.ref q16, .int 0, .int 1, .int 1, .int 1])), (q16, .inl (cA, (256, .inl fun _ => 0))), (q17, .inr (4, [.ref q18, .int 0, .int 1, .int 1, .int 1])), (q18, .inl (cA, (256, .inl fun _ => 0)))] := hD
  refine W.widen (k := 18) (n := 2314) (Nat.le_of_ble_eq_true rfl) (Nat.le_of_ble_eq_true rfl) ?_
  refine va_put (D := (dC, dI)) (cl := pm_cls) (ci := 7) (v := .ref q17) (C := (pm_q 7).1) (T := (pm_q 7).2.1) (N := 6) hx hb hts (cw_u (a := 7) (by decide)) (pm_ty 7) (pm_cls_a 7 (by decide)) (pm_cls_b 7 (by decide)) hown hK hP hD hS 0 rfl rfl 4 (by decide) (hts _ (cw_m (i := 84) rfl)) (fun _ h9 => h9) rfl (pm_cls_a 7 (by decide) 4 (by decide)) rfl rfl (Nat.le_of_ble_eq_true rfl) cd_Img_56 (fun H locs hP hD hS => ?_)
  have hP : va_P (dC, dI) pm_cls [(h0, .inr (7, [.ref q1, .ref q4, .ref q10, .ref q15, .ref q17, .int 0])), (q1, .inr (2, [.ref q2, .int 0])), (q2, .inr (1, [.ref q3, .int 0])), (q3, .inl (cA, (700, .inl fun _ => 0))), (q4, .inr (3, [.ref q5, .ref q7, .int 0, .int 0, .int 0, .int 0])), (q5, .inr (1, [.ref q6, .int 0])), (q6, .inl (cA, (300, .inl fun _ => 0))), (q7, .inr (0, [.ref q8, .int 0, .int 0])), (q8, .inr (1, [.ref q9, .int 0])), (q9, .inl (cA, (700, .inl fun _ => 0))), (q10, .inr (6, [.ref q11, .ref q12])), (q11, .inl (cA, (5, .inl fun _ => 0))), (q12, .inr (5, [.ref q13, .ref q14, .int 0, .int 1])), (q13, .inl (cA, (32, .inl fun _ => 0))), (q14, .inl (cA, (32, .inl fun _ => 0))), (q15, .inr (4, [.ref q16, .int 0, .int 1, .int 1, .int 1])), (q16, .inl (cA, (256, .inl fun _ => 0))), (q17, .inr (4, [.ref q18, .int 0, .int 1, .int 1, .int 1])), (q18, .inl (cA, (256, .inl fun _ => 0)))] H := hP
  have hD : va_D A [(h0, .inr (7, [.ref q1, .ref q4, .ref q10, .ref q15, .ref q17, .int 0])), (q1, .inr (2, [.ref q2, .int 0])), (q2, .inr (1, [.ref q3, .int 0])), (q3, .inl (cA, (700, .inl fun _ => 0))), (q4, .inr (3, [.ref q5, .ref q7, .int 0, .int 0, .int 0, .int 0])), (q5, .inr (1, [.ref q6, .int 0])), (q6, .inl (cA, (300, .inl fun _ => 0))), (q7, .inr (0, [.ref q8, .int 0, .int 0])), (q8, .inr (1, [.ref q9, .int 0])), (q9, .inl (cA, (700, .inl fun _ => 0))), (q10, .inr (6, [.ref q11, .ref q12])), (q11, .inl (cA, (5, .inl fun _ => 0))), (q12, .inr (5, [.ref q13, .ref q14, .int 0, .int 1])), (q13, .inl (cA, (32, .inl fun _ => 0))), (q14, .inl (cA, (32, .inl fun _ => 0))), (q15, .inr (4, [.ref q16, .int 0, .int 1, .int 1, .int 1])), (q16, .inl (cA, (256, .inl fun _ => 0))), (q17, .inr (4, [.ref q18, .int 0, .int 1, .int 1, .int 1])), (q18, .inl (cA, (256, .inl fun _ => 0)))] := hD
  refine lv_aload_n hx hb cd_Img_59 rfl (lv_at hl 0 rfl) ?_
  refine lv_iconst (v := 0) hx hb cd_Img_60 (by decide) ?_
  refine va_put (D := (dC, dI)) (cl := pm_cls) (ci := 7) (v := .int 0) (C := (pm_q 7).1) (T := (pm_q 7).2.1) (N := 6) hx hb hts (cw_u (a := 7) (by decide)) (pm_ty 7) (pm_cls_a 7 (by decide)) (pm_cls_b 7 (by decide)) hown hK hP hD hS 0 rfl rfl 5 (by decide) (hts _ (cw_m (i := 85) rfl)) (fun _ h9 => h9) rfl (pm_cls_a 7 (by decide) 5 (by decide)) rfl rfl (Nat.le_of_ble_eq_true rfl) cd_Img_61 (fun H locs hP hD hS => ?_)
  have hP : va_P (dC, dI) pm_cls [(h0, .inr (7, [.ref q1, .ref q4, .ref q10, .ref q15, .ref q17, .int 0])), (q1, .inr (2, [.ref q2, .int 0])), (q2, .inr (1, [.ref q3, .int 0])), (q3, .inl (cA, (700, .inl fun _ => 0))), (q4, .inr (3, [.ref q5, .ref q7, .int 0, .int 0, .int 0, .int 0])), (q5, .inr (1, [.ref q6, .int 0])), (q6, .inl (cA, (300, .inl fun _ => 0))), (q7, .inr (0, [.ref q8, .int 0, .int 0])), (q8, .inr (1, [.ref q9, .int 0])), (q9, .inl (cA, (700, .inl fun _ => 0))), (q10, .inr (6, [.ref q11, .ref q12])), (q11, .inl (cA, (5, .inl fun _ => 0))), (q12, .inr (5, [.ref q13, .ref q14, .int 0, .int 1])), (q13, .inl (cA, (32, .inl fun _ => 0))), (q14, .inl (cA, (32, .inl fun _ => 0))), (q15, .inr (4, [.ref q16, .int 0, .int 1, .int 1, .int 1])), (q16, .inl (cA, (256, .inl fun _ => 0))), (q17, .inr (4, [.ref q18, .int 0, .int 1, .int 1, .int 1])), (q18, .inl (cA, (256, .inl fun _ => 0)))] H := hP
  have hD : va_D A [(h0, .inr (7, [.ref q1, .ref q4, .ref q10, .ref q15, .ref q17, .int 0])), (q1, .inr (2, [.ref q2, .int 0])), (q2, .inr (1, [.ref q3, .int 0])), (q3, .inl (cA, (700, .inl fun _ => 0))), (q4, .inr (3, [.ref q5, .ref q7, .int 0, .int 0, .int 0, .int 0])), (q5, .inr (1, [.ref q6, .int 0])), (q6, .inl (cA, (300, .inl fun _ => 0))), (q7, .inr (0, [.ref q8, .int 0, .int 0])), (q8, .inr (1, [.ref q9, .int 0])), (q9, .inl (cA, (700, .inl fun _ => 0))), (q10, .inr (6, [.ref q11, .ref q12])), (q11, .inl (cA, (5, .inl fun _ => 0))), (q12, .inr (5, [.ref q13, .ref q14, .int 0, .int 1])), (q13, .inl (cA, (32, .inl fun _ => 0))), (q14, .inl (cA, (32, .inl fun _ => 0))), (q15, .inr (4, [.ref q16, .int 0, .int 1, .int 1, .int 1])), (q16, .inl (cA, (256, .inl fun _ => 0))), (q17, .inr (4, [.ref q18, .int 0, .int 1, .int 1, .int 1])), (q18, .inl (cA, (256, .inl fun _ => 0)))] := hD
  exact W.vret hx hb hr (fun t ht hW => ⟨⟨(), rfl, trivial, q1, q2, q3, q4, q5, q6, q7, q8, q9, q10, q11, q12, q13, q14, q15, q16, q17, q18, by rw [ht]; exact hP, va_K.moved hW.alike hK, hD⟩, hS.F ht⟩) hS.2.2 cd_Img_64
set_option maxHeartbeats 4000000 in
set_option maxRecDepth 100000 in
theorem c_Mod (l : Launch) (dC : Nat → ClassId) (dI : Nat → Nat → Nat) (cA : ClassId) (h0 sz : Nat) : Met l cy_Mod (cw_W cy_Mod cb_Mod 1) { frames := 1, cells := 6, slots := 1522, locals := 20 } (va_Pc [.ref h0] (fun U => U.heap.size = sz ∧ va_P (dC, dI) pm_cls [(h0, .inr (8, [.int 0, .int 0, .int 0, .int 0, .null, .null, .int 0, .null, .null, .null, .int 0, .int 0, .int 0, .null, .int 0, .int 0, .int 0, .int 0, .int 0, .int 0, .int 0, .int 0, .int 0, .int 0, .int 0, .int 0]))] U.heap ∧ va_K (dC, dI) pm_cls [(cA, .int)] U ∧ va_D (fun _ => True) [(h0, .inr (8, [.int 0, .int 0, .int 0, .int 0, .null, .null, .int 0, .null, .null, .null, .int 0, .int 0, .int 0, .null, .int 0, .int 0, .int 0, .int 0, .int 0, .int 0, .int 0, .int 0, .int 0, .int 0, .int 0, .int 0]))] ∧ cw_N U)) (va_Qv (fun _ : Unit => True) (fun _ t => ∃ q1 q2 q3 q4 q5 q6 : Nat, va_P (dC, dI) pm_cls [(h0, .inr (8, [.int 0, .int 1, .int 1, .int 1, .ref q1, .ref q2, .int 0, .ref q3, .ref q4, .ref q5, .int 0, .int 0, .int 0, .ref q6, .int 0, .int 0, .int 0, .int 0, .int 0, .int 0, .int 0, .int 0, .int 0, .int 0, .int 0, .int 0])), (q1, .inl (cA, (256, .inl fun _ => 0))), (q2, .inl (cA, (256, .inl fun _ => 0))), (q3, .inl (cA, (700, .inl fun _ => 0))), (q4, .inl (cA, (5, .inl fun _ => 0))), (q5, .inl (cA, (5, .inl fun _ => 0))), (q6, .inl (cA, (300, .inl fun _ => 0)))] t.heap ∧ va_K (dC, dI) pm_cls [(cA, .int)] t ∧ va_D (va_A [(h0, .inr (8, [.int 0, .int 0, .int 0, .int 0, .null, .null, .int 0, .null, .null, .null, .int 0, .int 0, .int 0, .null, .int 0, .int 0, .int 0, .int 0, .int 0, .int 0, .int 0, .int 0, .int 0, .int 0, .int 0, .int 0]))] sz) [(h0, .inr (8, [.int 0, .int 1, .int 1, .int 1, .ref q1, .ref q2, .int 0, .ref q3, .ref q4, .ref q5, .int 0, .int 0, .int 0, .ref q6, .int 0, .int 0, .int 0, .int 0, .int 0, .int 0, .int 0, .int 0, .int 0, .int 0, .int 0, .int 0])), (q1, .inl (cA, (256, .inl fun _ => 0))), (q2, .inl (cA, (256, .inl fun _ => 0))), (q3, .inl (cA, (700, .inl fun _ => 0))), (q4, .inl (cA, (5, .inl fun _ => 0))), (q5, .inl (cA, (5, .inl fun _ => 0))), (q6, .inl (cA, (300, .inl fun _ => 0)))]) (va_A [(h0, .inr (8, [.int 0, .int 0, .int 0, .int 0, .null, .null, .int 0, .null, .null, .null, .int 0, .int 0, .int 0, .null, .int 0, .int 0, .int 0, .int 0, .int 0, .int 0, .int 0, .int 0, .int 0, .int 0, .int 0, .int 0]))] sz)) 6 1522 (va_A [(h0, .inr (8, [.int 0, .int 0, .int 0, .int 0, .null, .null, .int 0, .null, .null, .null, .int 0, .int 0, .int 0, .null, .int 0, .int 0, .int 0, .int 0, .int 0, .int 0, .int 0, .int 0, .int 0, .int 0, .int 0, .int 0]))] sz) := by
  refine Met.ofW (cc := cb_Mod) (maxL := 1) (ret := none) (by decide) rfl ?_
  intro p e s m args below meth c s₁ B hml hv
  obtain ⟨rfl, hsz, hP, hK, hD0, hN⟩ := hv
  have hx := B.exec
  have hb := B.bytes
  have hr := B.returns
  have hts0 := atoms_spec (ws := cw_W cy_Mod cb_Mod 1) B.pre
  have hts : ∀ w ∈ cw_ws, w.before _ s = true := fun w hw => hts0 w (List.mem_cons_of_mem _ hw)
  have hown : s.vm.findClass "SevenPassImageModel" = some m.cls := findClass_of_methodNamed B.named
  have hlocks := B.notSynchronized
  have hin : meth.name = "<init>" := (name_of_methodNamed B.named B.method).1
  subst hsz
  have hD := hD0.self (sz := s.heap.size)
  generalize hAe : va_A [(h0, .inr (8, [.int 0, .int 0, .int 0, .int 0, .null, .null, .int 0, .null, .null, .null, .int 0, .int 0, .int 0, .null, .int 0, .int 0, .int 0, .int 0, .int 0, .int 0, .int 0, .int 0, .int 0, .int 0, .int 0, .int 0]))] s.heap.size = A at hD ⊢
  have hA : ∀ q : Nat, s.heap.size ≤ q → A q := fun q h => by rw [← hAe]; exact Or.inr h
  have hS : va_S A s.heap s.heap [] := va_S.rf
  have hP : va_P (dC, dI) pm_cls [(h0, .inr (8, [.int 0, .int 0, .int 0, .int 0, .null, .null, .int 0, .null, .null, .null, .int 0, .int 0, .int 0, .null, .int 0, .int 0, .int 0, .int 0, .int 0, .int 0, .int 0, .int 0, .int 0, .int 0, .int 0, .int 0]))] s.heap := hP
  have hl := lv_entry ([.ref h0]) (n := 1) (Nat.le_of_ble_eq_true rfl)
  rw [lg_entry_eq]
  generalize (lg_sl ([.ref h0]) ++ List.replicate (1 - (lg_sl ([.ref h0])).length) Slot.unset).toArray = ls at hl ⊢
  have hl : lv_has ls 1 [(0, .ref h0)] := hl
  refine lv_aload_n hx hb cd_Mod_0 rfl (lv_at hl 0 rfl) ?_
  refine W.objInit hx hb hown (hts _ (cw_m (i := 86) rfl)) (hts _ (cw_m (i := 0) rfl)) (hts _ (cw_m (i := 1) rfl)) rfl (by rw [hml]; exact hl.1) rfl cd_Mod_1 (Nat.le_of_ble_eq_true rfl) (Nat.le_of_ble_eq_true rfl) ?_
  refine W.eq (g2 := F0 m 4 ls []) rfl ?_
  refine lv_aload_n hx hb cd_Mod_4 rfl (lv_at hl 0 rfl) ?_
  refine lv_iconst (v := 1) hx hb cd_Mod_5 (by decide) ?_
  refine va_put (D := (dC, dI)) (cl := pm_cls) (ci := 8) (v := .int 1) (C := (pm_q 8).1) (T := (pm_q 8).2.1) (N := 26) hx hb hts (cw_u (a := 8) (by decide)) (pm_ty 8) (pm_cls_a 8 (by decide)) (pm_cls_b 8 (by decide)) hown hK hP hD hS 0 rfl rfl 1 (by decide) (hts _ (cw_m (i := 87) rfl)) (fun _ h9 => h9) rfl (pm_cls_a 8 (by decide) 1 (by decide)) rfl rfl (Nat.le_of_ble_eq_true rfl) cd_Mod_6 (fun H locs hP hD hS => ?_)
  have hP : va_P (dC, dI) pm_cls [(h0, .inr (8, [.int 0, .int 1, .int 0, .int 0, .null, .null, .int 0, .null, .null, .null, .int 0, .int 0, .int 0, .null, .int 0, .int 0, .int 0, .int 0, .int 0, .int 0, .int 0, .int 0, .int 0, .int 0, .int 0, .int 0]))] H := hP
  have hD : va_D A [(h0, .inr (8, [.int 0, .int 1, .int 0, .int 0, .null, .null, .int 0, .null, .null, .null, .int 0, .int 0, .int 0, .null, .int 0, .int 0, .int 0, .int 0, .int 0, .int 0, .int 0, .int 0, .int 0, .int 0, .int 0, .int 0]))] := hD
  refine lv_aload_n hx hb cd_Mod_9 rfl (lv_at hl 0 rfl) ?_
  refine lv_iconst (v := 1) hx hb cd_Mod_10 (by decide) ?_
  refine va_put (D := (dC, dI)) (cl := pm_cls) (ci := 8) (v := .int 1) (C := (pm_q 8).1) (T := (pm_q 8).2.1) (N := 26) hx hb hts (cw_u (a := 8) (by decide)) (pm_ty 8) (pm_cls_a 8 (by decide)) (pm_cls_b 8 (by decide)) hown hK hP hD hS 0 rfl rfl 2 (by decide) (hts _ (cw_m (i := 88) rfl)) (fun _ h9 => h9) rfl (pm_cls_a 8 (by decide) 2 (by decide)) rfl rfl (Nat.le_of_ble_eq_true rfl) cd_Mod_11 (fun H locs hP hD hS => ?_)
  have hP : va_P (dC, dI) pm_cls [(h0, .inr (8, [.int 0, .int 1, .int 1, .int 0, .null, .null, .int 0, .null, .null, .null, .int 0, .int 0, .int 0, .null, .int 0, .int 0, .int 0, .int 0, .int 0, .int 0, .int 0, .int 0, .int 0, .int 0, .int 0, .int 0]))] H := hP
  have hD : va_D A [(h0, .inr (8, [.int 0, .int 1, .int 1, .int 0, .null, .null, .int 0, .null, .null, .null, .int 0, .int 0, .int 0, .null, .int 0, .int 0, .int 0, .int 0, .int 0, .int 0, .int 0, .int 0, .int 0, .int 0, .int 0, .int 0]))] := hD
  refine lv_aload_n hx hb cd_Mod_14 rfl (lv_at hl 0 rfl) ?_
  refine lv_iconst (v := 1) hx hb cd_Mod_15 (by decide) ?_
  refine va_put (D := (dC, dI)) (cl := pm_cls) (ci := 8) (v := .int 1) (C := (pm_q 8).1) (T := (pm_q 8).2.1) (N := 26) hx hb hts (cw_u (a := 8) (by decide)) (pm_ty 8) (pm_cls_a 8 (by decide)) (pm_cls_b 8 (by decide)) hown hK hP hD hS 0 rfl rfl 3 (by decide) (hts _ (cw_m (i := 89) rfl)) (fun _ h9 => h9) rfl (pm_cls_a 8 (by decide) 3 (by decide)) rfl rfl (Nat.le_of_ble_eq_true rfl) cd_Mod_16 (fun H locs hP hD hS => ?_)
  have hP : va_P (dC, dI) pm_cls [(h0, .inr (8, [.int 0, .int 1, .int 1, .int 1, .null, .null, .int 0, .null, .null, .null, .int 0, .int 0, .int 0, .null, .int 0, .int 0, .int 0, .int 0, .int 0, .int 0, .int 0, .int 0, .int 0, .int 0, .int 0, .int 0]))] H := hP
  have hD : va_D A [(h0, .inr (8, [.int 0, .int 1, .int 1, .int 1, .null, .null, .int 0, .null, .null, .null, .int 0, .int 0, .int 0, .null, .int 0, .int 0, .int 0, .int 0, .int 0, .int 0, .int 0, .int 0, .int 0, .int 0, .int 0, .int 0]))] := hD
  refine lv_aload_n hx hb cd_Mod_19 rfl (lv_at hl 0 rfl) ?_
  refine lv_sipush (v := 256) hx hb cd_Mod_20 (by decide) ?_
  refine va_newa (D := (dC, dI)) (cl := pm_cls) (N' := 256) (a0 := (256, .inl fun _ => 0)) (ty := .int) hx hb (hts _ (cw_m (i := 2) rfl)) rfl hK hP hD hS hA (fun _ => rfl) (by decide) (by decide) (by decide) (Nat.le_of_ble_eq_true rfl) (Nat.le_of_ble_eq_true rfl) cd_Mod_23 (fun q1 cB H hK2 hP hD hS => ?_)
  rw [cw_A hK2] at hP hD
  have hP : va_P (dC, dI) pm_cls [(h0, .inr (8, [.int 0, .int 1, .int 1, .int 1, .null, .null, .int 0, .null, .null, .null, .int 0, .int 0, .int 0, .null, .int 0, .int 0, .int 0, .int 0, .int 0, .int 0, .int 0, .int 0, .int 0, .int 0, .int 0, .int 0])), (q1, .inl (cA, (256, .inl fun _ => 0)))] H := hP
  have hD : va_D A [(h0, .inr (8, [.int 0, .int 1, .int 1, .int 1, .null, .null, .int 0, .null, .null, .null, .int 0, .int 0, .int 0, .null, .int 0, .int 0, .int 0, .int 0, .int 0, .int 0, .int 0, .int 0, .int 0, .int 0, .int 0, .int 0])), (q1, .inl (cA, (256, .inl fun _ => 0)))] := hD
  refine W.widen (k := 1) (n := 256) (Nat.le_of_ble_eq_true rfl) (Nat.le_of_ble_eq_true rfl) ?_
  refine va_put (D := (dC, dI)) (cl := pm_cls) (ci := 8) (v := .ref q1) (C := (pm_q 8).1) (T := (pm_q 8).2.1) (N := 26) hx hb hts (cw_u (a := 8) (by decide)) (pm_ty 8) (pm_cls_a 8 (by decide)) (pm_cls_b 8 (by decide)) hown hK hP hD hS 0 rfl rfl 4 (by decide) (hts _ (cw_m (i := 90) rfl)) (fun _ h9 => h9) rfl (pm_cls_a 8 (by decide) 4 (by decide)) rfl rfl (Nat.le_of_ble_eq_true rfl) cd_Mod_25 (fun H locs hP hD hS => ?_)
  have hP : va_P (dC, dI) pm_cls [(h0, .inr (8, [.int 0, .int 1, .int 1, .int 1, .ref q1, .null, .int 0, .null, .null, .null, .int 0, .int 0, .int 0, .null, .int 0, .int 0, .int 0, .int 0, .int 0, .int 0, .int 0, .int 0, .int 0, .int 0, .int 0, .int 0])), (q1, .inl (cA, (256, .inl fun _ => 0)))] H := hP
  have hD : va_D A [(h0, .inr (8, [.int 0, .int 1, .int 1, .int 1, .ref q1, .null, .int 0, .null, .null, .null, .int 0, .int 0, .int 0, .null, .int 0, .int 0, .int 0, .int 0, .int 0, .int 0, .int 0, .int 0, .int 0, .int 0, .int 0, .int 0])), (q1, .inl (cA, (256, .inl fun _ => 0)))] := hD
  refine lv_aload_n hx hb cd_Mod_28 rfl (lv_at hl 0 rfl) ?_
  refine lv_sipush (v := 256) hx hb cd_Mod_29 (by decide) ?_
  refine va_newa (D := (dC, dI)) (cl := pm_cls) (N' := 256) (a0 := (256, .inl fun _ => 0)) (ty := .int) hx hb (hts _ (cw_m (i := 2) rfl)) rfl hK hP hD hS hA (fun _ => rfl) (by decide) (by decide) (by decide) (Nat.le_of_ble_eq_true rfl) (Nat.le_of_ble_eq_true rfl) cd_Mod_32 (fun q2 cB H hK2 hP hD hS => ?_)
  rw [cw_A hK2] at hP hD
  have hP : va_P (dC, dI) pm_cls [(h0, .inr (8, [.int 0, .int 1, .int 1, .int 1, .ref q1, .null, .int 0, .null, .null, .null, .int 0, .int 0, .int 0, .null, .int 0, .int 0, .int 0, .int 0, .int 0, .int 0, .int 0, .int 0, .int 0, .int 0, .int 0, .int 0])), (q1, .inl (cA, (256, .inl fun _ => 0))), (q2, .inl (cA, (256, .inl fun _ => 0)))] H := hP
  have hD : va_D A [(h0, .inr (8, [.int 0, .int 1, .int 1, .int 1, .ref q1, .null, .int 0, .null, .null, .null, .int 0, .int 0, .int 0, .null, .int 0, .int 0, .int 0, .int 0, .int 0, .int 0, .int 0, .int 0, .int 0, .int 0, .int 0, .int 0])), (q1, .inl (cA, (256, .inl fun _ => 0))), (q2, .inl (cA, (256, .inl fun _ => 0)))] := hD
  refine W.widen (k := 2) (n := 512) (Nat.le_of_ble_eq_true rfl) (Nat.le_of_ble_eq_true rfl) ?_
  refine va_put (D := (dC, dI)) (cl := pm_cls) (ci := 8) (v := .ref q2) (C := (pm_q 8).1) (T := (pm_q 8).2.1) (N := 26) hx hb hts (cw_u (a := 8) (by decide)) (pm_ty 8) (pm_cls_a 8 (by decide)) (pm_cls_b 8 (by decide)) hown hK hP hD hS 0 rfl rfl 5 (by decide) (hts _ (cw_m (i := 91) rfl)) (fun _ h9 => h9) rfl (pm_cls_a 8 (by decide) 5 (by decide)) rfl rfl (Nat.le_of_ble_eq_true rfl) cd_Mod_34 (fun H locs hP hD hS => ?_)
  have hP : va_P (dC, dI) pm_cls [(h0, .inr (8, [.int 0, .int 1, .int 1, .int 1, .ref q1, .ref q2, .int 0, .null, .null, .null, .int 0, .int 0, .int 0, .null, .int 0, .int 0, .int 0, .int 0, .int 0, .int 0, .int 0, .int 0, .int 0, .int 0, .int 0, .int 0])), (q1, .inl (cA, (256, .inl fun _ => 0))), (q2, .inl (cA, (256, .inl fun _ => 0)))] H := hP
  have hD : va_D A [(h0, .inr (8, [.int 0, .int 1, .int 1, .int 1, .ref q1, .ref q2, .int 0, .null, .null, .null, .int 0, .int 0, .int 0, .null, .int 0, .int 0, .int 0, .int 0, .int 0, .int 0, .int 0, .int 0, .int 0, .int 0, .int 0, .int 0])), (q1, .inl (cA, (256, .inl fun _ => 0))), (q2, .inl (cA, (256, .inl fun _ => 0)))] := hD
  refine lv_aload_n hx hb cd_Mod_37 rfl (lv_at hl 0 rfl) ?_
  refine lv_sipush (v := 700) hx hb cd_Mod_38 (by decide) ?_
  refine va_newa (D := (dC, dI)) (cl := pm_cls) (N' := 700) (a0 := (700, .inl fun _ => 0)) (ty := .int) hx hb (hts _ (cw_m (i := 2) rfl)) rfl hK hP hD hS hA (fun _ => rfl) (by decide) (by decide) (by decide) (Nat.le_of_ble_eq_true rfl) (Nat.le_of_ble_eq_true rfl) cd_Mod_41 (fun q3 cB H hK2 hP hD hS => ?_)
  rw [cw_A hK2] at hP hD
  have hP : va_P (dC, dI) pm_cls [(h0, .inr (8, [.int 0, .int 1, .int 1, .int 1, .ref q1, .ref q2, .int 0, .null, .null, .null, .int 0, .int 0, .int 0, .null, .int 0, .int 0, .int 0, .int 0, .int 0, .int 0, .int 0, .int 0, .int 0, .int 0, .int 0, .int 0])), (q1, .inl (cA, (256, .inl fun _ => 0))), (q2, .inl (cA, (256, .inl fun _ => 0))), (q3, .inl (cA, (700, .inl fun _ => 0)))] H := hP
  have hD : va_D A [(h0, .inr (8, [.int 0, .int 1, .int 1, .int 1, .ref q1, .ref q2, .int 0, .null, .null, .null, .int 0, .int 0, .int 0, .null, .int 0, .int 0, .int 0, .int 0, .int 0, .int 0, .int 0, .int 0, .int 0, .int 0, .int 0, .int 0])), (q1, .inl (cA, (256, .inl fun _ => 0))), (q2, .inl (cA, (256, .inl fun _ => 0))), (q3, .inl (cA, (700, .inl fun _ => 0)))] := hD
  refine W.widen (k := 3) (n := 1212) (Nat.le_of_ble_eq_true rfl) (Nat.le_of_ble_eq_true rfl) ?_
  refine va_put (D := (dC, dI)) (cl := pm_cls) (ci := 8) (v := .ref q3) (C := (pm_q 8).1) (T := (pm_q 8).2.1) (N := 26) hx hb hts (cw_u (a := 8) (by decide)) (pm_ty 8) (pm_cls_a 8 (by decide)) (pm_cls_b 8 (by decide)) hown hK hP hD hS 0 rfl rfl 7 (by decide) (hts _ (cw_m (i := 92) rfl)) (fun _ h9 => h9) rfl (pm_cls_a 8 (by decide) 7 (by decide)) rfl rfl (Nat.le_of_ble_eq_true rfl) cd_Mod_43 (fun H locs hP hD hS => ?_)
  have hP : va_P (dC, dI) pm_cls [(h0, .inr (8, [.int 0, .int 1, .int 1, .int 1, .ref q1, .ref q2, .int 0, .ref q3, .null, .null, .int 0, .int 0, .int 0, .null, .int 0, .int 0, .int 0, .int 0, .int 0, .int 0, .int 0, .int 0, .int 0, .int 0, .int 0, .int 0])), (q1, .inl (cA, (256, .inl fun _ => 0))), (q2, .inl (cA, (256, .inl fun _ => 0))), (q3, .inl (cA, (700, .inl fun _ => 0)))] H := hP
  have hD : va_D A [(h0, .inr (8, [.int 0, .int 1, .int 1, .int 1, .ref q1, .ref q2, .int 0, .ref q3, .null, .null, .int 0, .int 0, .int 0, .null, .int 0, .int 0, .int 0, .int 0, .int 0, .int 0, .int 0, .int 0, .int 0, .int 0, .int 0, .int 0])), (q1, .inl (cA, (256, .inl fun _ => 0))), (q2, .inl (cA, (256, .inl fun _ => 0))), (q3, .inl (cA, (700, .inl fun _ => 0)))] := hD
  refine lv_aload_n hx hb cd_Mod_46 rfl (lv_at hl 0 rfl) ?_
  refine lv_iconst (v := 5) hx hb cd_Mod_47 (by decide) ?_
  refine va_newa (D := (dC, dI)) (cl := pm_cls) (N' := 5) (a0 := (5, .inl fun _ => 0)) (ty := .int) hx hb (hts _ (cw_m (i := 2) rfl)) rfl hK hP hD hS hA (fun _ => rfl) (by decide) (by decide) (by decide) (Nat.le_of_ble_eq_true rfl) (Nat.le_of_ble_eq_true rfl) cd_Mod_48 (fun q4 cB H hK2 hP hD hS => ?_)
  rw [cw_A hK2] at hP hD
  have hP : va_P (dC, dI) pm_cls [(h0, .inr (8, [.int 0, .int 1, .int 1, .int 1, .ref q1, .ref q2, .int 0, .ref q3, .null, .null, .int 0, .int 0, .int 0, .null, .int 0, .int 0, .int 0, .int 0, .int 0, .int 0, .int 0, .int 0, .int 0, .int 0, .int 0, .int 0])), (q1, .inl (cA, (256, .inl fun _ => 0))), (q2, .inl (cA, (256, .inl fun _ => 0))), (q3, .inl (cA, (700, .inl fun _ => 0))), (q4, .inl (cA, (5, .inl fun _ => 0)))] H := hP
  have hD : va_D A [(h0, .inr (8, [.int 0, .int 1, .int 1, .int 1, .ref q1, .ref q2, .int 0, .ref q3, .null, .null, .int 0, .int 0, .int 0, .null, .int 0, .int 0, .int 0, .int 0, .int 0, .int 0, .int 0, .int 0, .int 0, .int 0, .int 0, .int 0])), (q1, .inl (cA, (256, .inl fun _ => 0))), (q2, .inl (cA, (256, .inl fun _ => 0))), (q3, .inl (cA, (700, .inl fun _ => 0))), (q4, .inl (cA, (5, .inl fun _ => 0)))] := hD
  refine W.widen (k := 4) (n := 1217) (Nat.le_of_ble_eq_true rfl) (Nat.le_of_ble_eq_true rfl) ?_
  refine va_put (D := (dC, dI)) (cl := pm_cls) (ci := 8) (v := .ref q4) (C := (pm_q 8).1) (T := (pm_q 8).2.1) (N := 26) hx hb hts (cw_u (a := 8) (by decide)) (pm_ty 8) (pm_cls_a 8 (by decide)) (pm_cls_b 8 (by decide)) hown hK hP hD hS 0 rfl rfl 8 (by decide) (hts _ (cw_m (i := 93) rfl)) (fun _ h9 => h9) rfl (pm_cls_a 8 (by decide) 8 (by decide)) rfl rfl (Nat.le_of_ble_eq_true rfl) cd_Mod_50 (fun H locs hP hD hS => ?_)
  have hP : va_P (dC, dI) pm_cls [(h0, .inr (8, [.int 0, .int 1, .int 1, .int 1, .ref q1, .ref q2, .int 0, .ref q3, .ref q4, .null, .int 0, .int 0, .int 0, .null, .int 0, .int 0, .int 0, .int 0, .int 0, .int 0, .int 0, .int 0, .int 0, .int 0, .int 0, .int 0])), (q1, .inl (cA, (256, .inl fun _ => 0))), (q2, .inl (cA, (256, .inl fun _ => 0))), (q3, .inl (cA, (700, .inl fun _ => 0))), (q4, .inl (cA, (5, .inl fun _ => 0)))] H := hP
  have hD : va_D A [(h0, .inr (8, [.int 0, .int 1, .int 1, .int 1, .ref q1, .ref q2, .int 0, .ref q3, .ref q4, .null, .int 0, .int 0, .int 0, .null, .int 0, .int 0, .int 0, .int 0, .int 0, .int 0, .int 0, .int 0, .int 0, .int 0, .int 0, .int 0])), (q1, .inl (cA, (256, .inl fun _ => 0))), (q2, .inl (cA, (256, .inl fun _ => 0))), (q3, .inl (cA, (700, .inl fun _ => 0))), (q4, .inl (cA, (5, .inl fun _ => 0)))] := hD
  refine lv_aload_n hx hb cd_Mod_53 rfl (lv_at hl 0 rfl) ?_
  refine lv_iconst (v := 5) hx hb cd_Mod_54 (by decide) ?_
  refine va_newa (D := (dC, dI)) (cl := pm_cls) (N' := 5) (a0 := (5, .inl fun _ => 0)) (ty := .int) hx hb (hts _ (cw_m (i := 2) rfl)) rfl hK hP hD hS hA (fun _ => rfl) (by decide) (by decide) (by decide) (Nat.le_of_ble_eq_true rfl) (Nat.le_of_ble_eq_true rfl) cd_Mod_55 (fun q5 cB H hK2 hP hD hS => ?_)
  rw [cw_A hK2] at hP hD
  have hP : va_P (dC, dI) pm_cls [(h0, .inr (8, [.int 0, .int 1, .int 1, .int 1, .ref q1, .ref q2, .int 0, .ref q3, .ref q4, .null, .int 0, .int 0, .int 0, .null, .int 0, .int 0, .int 0, .int 0, .int 0, .int 0, .int 0, .int 0, .int 0, .int 0, .int 0, .int 0])), (q1, .inl (cA, (256, .inl fun _ => 0))), (q2, .inl (cA, (256, .inl fun _ => 0))), (q3, .inl (cA, (700, .inl fun _ => 0))), (q4, .inl (cA, (5, .inl fun _ => 0))), (q5, .inl (cA, (5, .inl fun _ => 0)))] H := hP
  have hD : va_D A [(h0, .inr (8, [.int 0, .int 1, .int 1, .int 1, .ref q1, .ref q2, .int 0, .ref q3, .ref q4, .null, .int 0, .int 0, .int 0, .null, .int 0, .int 0, .int 0, .int 0, .int 0, .int 0, .int 0, .int 0, .int 0, .int 0, .int 0, .int 0])), (q1, .inl (cA, (256, .inl fun _ => 0))), (q2, .inl (cA, (256, .inl fun _ => 0))), (q3, .inl (cA, (700, .inl fun _ => 0))), (q4, .inl (cA, (5, .inl fun _ => 0))), (q5, .inl (cA, (5, .inl fun _ => 0)))] := hD
  refine W.widen (k := 5) (n := 1222) (Nat.le_of_ble_eq_true rfl) (Nat.le_of_ble_eq_true rfl) ?_
  refine va_put (D := (dC, dI)) (cl := pm_cls) (ci := 8) (v := .ref q5) (C := (pm_q 8).1) (T := (pm_q 8).2.1) (N := 26) hx hb hts (cw_u (a := 8) (by decide)) (pm_ty 8) (pm_cls_a 8 (by decide)) (pm_cls_b 8 (by decide)) hown hK hP hD hS 0 rfl rfl 9 (by decide) (hts _ (cw_m (i := 94) rfl)) (fun _ h9 => h9) rfl (pm_cls_a 8 (by decide) 9 (by decide)) rfl rfl (Nat.le_of_ble_eq_true rfl) cd_Mod_57 (fun H locs hP hD hS => ?_)
  have hP : va_P (dC, dI) pm_cls [(h0, .inr (8, [.int 0, .int 1, .int 1, .int 1, .ref q1, .ref q2, .int 0, .ref q3, .ref q4, .ref q5, .int 0, .int 0, .int 0, .null, .int 0, .int 0, .int 0, .int 0, .int 0, .int 0, .int 0, .int 0, .int 0, .int 0, .int 0, .int 0])), (q1, .inl (cA, (256, .inl fun _ => 0))), (q2, .inl (cA, (256, .inl fun _ => 0))), (q3, .inl (cA, (700, .inl fun _ => 0))), (q4, .inl (cA, (5, .inl fun _ => 0))), (q5, .inl (cA, (5, .inl fun _ => 0)))] H := hP
  have hD : va_D A [(h0, .inr (8, [.int 0, .int 1, .int 1, .int 1, .ref q1, .ref q2, .int 0, .ref q3, .ref q4, .ref q5, .int 0, .int 0, .int 0, .null, .int 0, .int 0, .int 0, .int 0, .int 0, .int 0, .int 0, .int 0, .int 0, .int 0, .int 0, .int 0])), (q1, .inl (cA, (256, .inl fun _ => 0))), (q2, .inl (cA, (256, .inl fun _ => 0))), (q3, .inl (cA, (700, .inl fun _ => 0))), (q4, .inl (cA, (5, .inl fun _ => 0))), (q5, .inl (cA, (5, .inl fun _ => 0)))] := hD
  refine lv_aload_n hx hb cd_Mod_60 rfl (lv_at hl 0 rfl) ?_
  refine lv_sipush (v := 300) hx hb cd_Mod_61 (by decide) ?_
  refine va_newa (D := (dC, dI)) (cl := pm_cls) (N' := 300) (a0 := (300, .inl fun _ => 0)) (ty := .int) hx hb (hts _ (cw_m (i := 2) rfl)) rfl hK hP hD hS hA (fun _ => rfl) (by decide) (by decide) (by decide) (Nat.le_of_ble_eq_true rfl) (Nat.le_of_ble_eq_true rfl) cd_Mod_64 (fun q6 cB H hK2 hP hD hS => ?_)
  rw [cw_A hK2] at hP hD
  have hP : va_P (dC, dI) pm_cls [(h0, .inr (8, [.int 0, .int 1, .int 1, .int 1, .ref q1, .ref q2, .int 0, .ref q3, .ref q4, .ref q5, .int 0, .int 0, .int 0, .null, .int 0, .int 0, .int 0, .int 0, .int 0, .int 0, .int 0, .int 0, .int 0, .int 0, .int 0, .int 0])), (q1, .inl (cA, (256, .inl fun _ => 0))), (q2, .inl (cA, (256, .inl fun _ => 0))), (q3, .inl (cA, (700, .inl fun _ => 0))), (q4, .inl (cA, (5, .inl fun _ => 0))), (q5, .inl (cA, (5, .inl fun _ => 0))), (q6, .inl (cA, (300, .inl fun _ => 0)))] H := hP
  have hD : va_D A [(h0, .inr (8, [.int 0, .int 1, .int 1, .int 1, .ref q1, .ref q2, .int 0, .ref q3, .ref q4, .ref q5, .int 0, .int 0, .int 0, .null, .int 0, .int 0, .int 0, .int 0, .int 0, .int 0, .int 0, .int 0, .int 0, .int 0, .int 0, .int 0])), (q1, .inl (cA, (256, .inl fun _ => 0))), (q2, .inl (cA, (256, .inl fun _ => 0))), (q3, .inl (cA, (700, .inl fun _ => 0))), (q4, .inl (cA, (5, .inl fun _ => 0))), (q5, .inl (cA, (5, .inl fun _ => 0))), (q6, .inl (cA, (300, .inl fun _ => 0)))] := hD
  refine W.widen (k := 6) (n := 1522) (Nat.le_of_ble_eq_true rfl) (Nat.le_of_ble_eq_true rfl) ?_
  refine va_put (D := (dC, dI)) (cl := pm_cls) (ci := 8) (v := .ref q6) (C := (pm_q 8).1) (T := (pm_q 8).2.1) (N := 26) hx hb hts (cw_u (a := 8) (by decide)) (pm_ty 8) (pm_cls_a 8 (by decide)) (pm_cls_b 8 (by decide)) hown hK hP hD hS 0 rfl rfl 13 (by decide) (hts _ (cw_m (i := 95) rfl)) (fun _ h9 => h9) rfl (pm_cls_a 8 (by decide) 13 (by decide)) rfl rfl (Nat.le_of_ble_eq_true rfl) cd_Mod_66 (fun H locs hP hD hS => ?_)
  have hP : va_P (dC, dI) pm_cls [(h0, .inr (8, [.int 0, .int 1, .int 1, .int 1, .ref q1, .ref q2, .int 0, .ref q3, .ref q4, .ref q5, .int 0, .int 0, .int 0, .ref q6, .int 0, .int 0, .int 0, .int 0, .int 0, .int 0, .int 0, .int 0, .int 0, .int 0, .int 0, .int 0])), (q1, .inl (cA, (256, .inl fun _ => 0))), (q2, .inl (cA, (256, .inl fun _ => 0))), (q3, .inl (cA, (700, .inl fun _ => 0))), (q4, .inl (cA, (5, .inl fun _ => 0))), (q5, .inl (cA, (5, .inl fun _ => 0))), (q6, .inl (cA, (300, .inl fun _ => 0)))] H := hP
  have hD : va_D A [(h0, .inr (8, [.int 0, .int 1, .int 1, .int 1, .ref q1, .ref q2, .int 0, .ref q3, .ref q4, .ref q5, .int 0, .int 0, .int 0, .ref q6, .int 0, .int 0, .int 0, .int 0, .int 0, .int 0, .int 0, .int 0, .int 0, .int 0, .int 0, .int 0])), (q1, .inl (cA, (256, .inl fun _ => 0))), (q2, .inl (cA, (256, .inl fun _ => 0))), (q3, .inl (cA, (700, .inl fun _ => 0))), (q4, .inl (cA, (5, .inl fun _ => 0))), (q5, .inl (cA, (5, .inl fun _ => 0))), (q6, .inl (cA, (300, .inl fun _ => 0)))] := hD
  exact W.vret hx hb hr (fun t ht hW => ⟨⟨(), rfl, trivial, q1, q2, q3, q4, q5, q6, by rw [ht]; exact hP, va_K.moved hW.alike hK, hD⟩, hS.F ht⟩) hS.2.2 cd_Mod_69

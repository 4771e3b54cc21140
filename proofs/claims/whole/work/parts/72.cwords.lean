/-! Constructors: printed by ctor.py. -/
def cy_Bits : MethodName := ⟨"SevenPassImage$Bits", "<init>", "()V"⟩
abbrev cb_Bits : ByteArray := prog_2_method_1_code
def cy_Bytes : MethodName := ⟨"SevenPassImage$Bytes", "<init>", "(I)V"⟩
abbrev cb_Bytes : ByteArray := prog_3_method_1_code
def cy_File : MethodName := ⟨"SevenPassImage$ChunkFile", "<init>", "()V"⟩
abbrev cb_File : ByteArray := prog_4_method_1_code
def cy_Pack : MethodName := ⟨"SevenPassImage$Packing", "<init>", "()V"⟩
abbrev cb_Pack : ByteArray := prog_6_method_1_code
def cy_Pict : MethodName := ⟨"SevenPassImage$Picture", "<init>", "()V"⟩
abbrev cb_Pict : ByteArray := prog_7_method_1_code
def cy_Row : MethodName := ⟨"SevenPassImage$Row", "<init>", "()V"⟩
abbrev cb_Row : ByteArray := prog_8_method_1_code
def cy_Coder : MethodName := ⟨"SevenPassImage$RowCoder", "<init>", "()V"⟩
abbrev cb_Coder : ByteArray := prog_9_method_1_code
def cy_Img : MethodName := ⟨"SevenPassImage", "<init>", "()V"⟩
abbrev cb_Img : ByteArray := prog_1_method_1_code
def cy_Mod : MethodName := ⟨"SevenPassImageModel", "<init>", "()V"⟩
abbrev cb_Mod : ByteArray := prog_11_method_1_code
def cw_x : List Cond := [.instanceMethod objectInit, .code objectInit ⟨#[0xb1]⟩ 1 none, .arrayClass .int, .code cy_Bits cb_Bits 1 none, .instanceMethod cy_Bits, .initialized "SevenPassImage$Bits", .instantiable "SevenPassImage$Bits" 3, .code cy_Bytes cb_Bytes 2 none, .instanceMethod cy_Bytes, .initialized "SevenPassImage$Bytes", .instantiable "SevenPassImage$Bytes" 2, .code cy_File cb_File 1 none, .instanceMethod cy_File, .initialized "SevenPassImage$ChunkFile", .instantiable "SevenPassImage$ChunkFile" 2, .code cy_Pack cb_Pack 1 none, .instanceMethod cy_Pack, .initialized "SevenPassImage$Packing", .instantiable "SevenPassImage$Packing" 6, .code cy_Pict cb_Pict 1 none, .instanceMethod cy_Pict, .initialized "SevenPassImage$Picture", .instantiable "SevenPassImage$Picture" 5, .code cy_Row cb_Row 1 none, .instanceMethod cy_Row, .initialized "SevenPassImage$Row", .instantiable "SevenPassImage$Row" 4, .code cy_Coder cb_Coder 1 none, .instanceMethod cy_Coder, .initialized "SevenPassImage$RowCoder", .instantiable "SevenPassImage$RowCoder" 2, .code cy_Img cb_Img 1 none, .instanceMethod cy_Img, .initialized "SevenPassImage", .instantiable "SevenPassImage" 6, .code cy_Mod cb_Mod 1 none, .instanceMethod cy_Mod, .initialized "SevenPassImageModel", .instantiable "SevenPassImageModel" 26, .methodLink "SevenPassImage$Bits" 3 objectInit, .classLink "SevenPassImage$Bits" 9 "SevenPassImage$Bytes", .fieldLink "SevenPassImage$Bits" 14 "SevenPassImage$Bits" "bytes" "LSevenPassImage$Bytes;", .fieldLink "SevenPassImage$Bits" 20 "SevenPassImage$Bits" "place" "I", .fieldLink "SevenPassImage$Bits" 24 "SevenPassImage$Bits" "overrun" "Z", .methodLink "SevenPassImage$Bytes" 3 objectInit, .fieldLink "SevenPassImage$Bytes" 9 "SevenPassImage$Bytes" "room" "[I", .fieldLink "SevenPassImage$Bytes" 15 "SevenPassImage$Bytes" "count" "I", .methodLink "SevenPassImage$ChunkFile" 5 objectInit, .classLink "SevenPassImage$ChunkFile" 11 "SevenPassImage$Bytes", .fieldLink "SevenPassImage$ChunkFile" 16 "SevenPassImage$ChunkFile" "bytes" "LSevenPassImage$Bytes;", .fieldLink "SevenPassImage$ChunkFile" 20 "SevenPassImage$ChunkFile" "lastStart" "I", .methodLink "SevenPassImage$Packing" 3 objectInit, .classLink "SevenPassImage$Packing" 9 "SevenPassImage$Bytes", .fieldLink "SevenPassImage$Packing" 14 "SevenPassImage$Packing" "data" "LSevenPassImage$Bytes;", .classLink "SevenPassImage$Packing" 20 "SevenPassImage$Bits", .fieldLink "SevenPassImage$Packing" 23 "SevenPassImage$Packing" "bits" "LSevenPassImage$Bits;", .fieldLink "SevenPassImage$Packing" 27 "SevenPassImage$Packing" "copyCount" "I", .fieldLink "SevenPassImage$Packing" 31 "SevenPassImage$Packing" "refused" "Z", .fieldLink "SevenPassImage$Packing" 35 "SevenPassImage$Packing" "copyLength" "I", .fieldLink "SevenPassImage$Packing" 38 "SevenPassImage$Packing" "copyDistance" "I", .methodLink "SevenPassImage$Picture" 3 objectInit, .fieldLink "SevenPassImage$Picture" 9 "SevenPassImage$Picture" "samples" "[I", .fieldLink "SevenPassImage$Picture" 15 "SevenPassImage$Picture" "kind" "I", .fieldLink "SevenPassImage$Picture" 19 "SevenPassImage$Picture" "depth" "I", .fieldLink "SevenPassImage$Picture" 22 "SevenPassImage$Picture" "w" "I", .fieldLink "SevenPassImage$Picture" 25 "SevenPassImage$Picture" "h" "I", .methodLink "SevenPassImage$Row" 3 objectInit, .fieldLink "SevenPassImage$Row" 9 "SevenPassImage$Row" "bytes" "[I", .fieldLink "SevenPassImage$Row" 15 "SevenPassImage$Row" "above" "[I", .fieldLink "SevenPassImage$Row" 18 "SevenPassImage$Row" "size" "I", .fieldLink "SevenPassImage$Row" 22 "SevenPassImage$Row" "unit" "I", .methodLink "SevenPassImage$RowCoder" 3 objectInit, .fieldLink "SevenPassImage$RowCoder" 9 "SevenPassImage$RowCoder" "rowCounts" "[I", .classLink "SevenPassImage$RowCoder" 15 "SevenPassImage$Row", .fieldLink "SevenPassImage$RowCoder" 18 "SevenPassImage$RowCoder" "row" "LSevenPassImage$Row;", .methodLink "SevenPassImage" 3 objectInit, .classLink "SevenPassImage" 9 "SevenPassImage$ChunkFile", .fieldLink "SevenPassImage" 12 "SevenPassImage" "file" "LSevenPassImage$ChunkFile;", .classLink "SevenPassImage" 16 "SevenPassImage$Packing", .fieldLink "SevenPassImage" 19 "SevenPassImage" "packing" "LSevenPassImage$Packing;", .classLink "SevenPassImage" 23 "SevenPassImage$RowCoder", .fieldLink "SevenPassImage" 26 "SevenPassImage" "coder" "LSevenPassImage$RowCoder;", .classLink "SevenPassImage" 30 "SevenPassImage$Picture", .fieldLink "SevenPassImage" 33 "SevenPassImage" "picture" "LSevenPassImage$Picture;", .fieldLink "SevenPassImage" 37 "SevenPassImage" "spare" "LSevenPassImage$Picture;", .fieldLink "SevenPassImage" 40 "SevenPassImage" "copyCount" "I", .methodLink "SevenPassImageModel" 1 objectInit, .fieldLink "SevenPassImageModel" 7 "SevenPassImageModel" "depth" "I", .fieldLink "SevenPassImageModel" 13 "SevenPassImageModel" "w" "I", .fieldLink "SevenPassImageModel" 16 "SevenPassImageModel" "h" "I", .fieldLink "SevenPassImageModel" 19 "SevenPassImageModel" "sample" "[I", .fieldLink "SevenPassImageModel" 23 "SevenPassImageModel" "fresh" "[I", .fieldLink "SevenPassImageModel" 26 "SevenPassImageModel" "file" "[I", .fieldLink "SevenPassImageModel" 29 "SevenPassImageModel" "used" "[I", .fieldLink "SevenPassImageModel" 32 "SevenPassImageModel" "using" "[I", .fieldLink "SevenPassImageModel" 35 "SevenPassImageModel" "data" "[I", .classLink "SevenPassImageLaw" 7 "SevenPassImage", .methodLink "SevenPassImageLaw" 9 cy_Img, .classLink "SevenPassImageLaw" 10 "SevenPassImageModel", .methodLink "SevenPassImageLaw" 12 cy_Mod]
def cw_nM : List (String × Nat × MethodName) := [("SevenPassImage$Bits", 11, cy_Bytes), ("SevenPassImage$ChunkFile", 13, cy_Bytes), ("SevenPassImage$Packing", 11, cy_Bytes), ("SevenPassImage$Packing", 22, cy_Bits), ("SevenPassImage$RowCoder", 17, cy_Row), ("SevenPassImage", 11, cy_File), ("SevenPassImage", 18, cy_Pack), ("SevenPassImage", 25, cy_Coder), ("SevenPassImage", 32, cy_Pict)]
def cw_ws : List Cond := cw_x ++ (pm_uw ++ pm_jw)
def cw_W (y : MethodName) (b : ByteArray) (n : Nat) : List Cond := .code y b n none :: cw_ws
theorem cw_m {i : Nat} {w : Cond} (h : cw_x[i]? = some w) : w ∈ cw_ws := List.mem_append_left _ (List.mem_of_getElem? h)
theorem cw_u {a : Nat} (h : a < 9) : ∀ w ∈ u_ws (pm_q a).1 (pm_q a).2.1 (pm_q a).2.2, w ∈ cw_ws := fun w hw => List.mem_append_right _ (List.mem_append_left _ (List.mem_flatMap.mpr ⟨a, List.mem_range.mpr h, hw⟩))
theorem cw_good_x : cw_x.all goodWord = true := by decide +kernel
theorem cw_good {w : Cond} (h : w ∈ cw_ws) : goodWord w = true := by
  rcases List.mem_append.mp h with h | h
  · exact List.all_eq_true.mp cw_good_x w h
  · exact List.all_eq_true.mp pm_good_u w h
theorem cw_goodIn {y : MethodName} {b : ByteArray} {n : Nat} (hc : Cond.code y b n none ∈ cw_ws) : GoodIn cw_ws (cw_W y b n) := by
  intro w hw
  rcases List.mem_cons.mp hw with h | h
  · subst h
    exact ⟨hc, good_of_word (cw_good hc)⟩
  · exact ⟨h, good_of_word (cw_good h)⟩
def cw_N (U : State) : Prop := ∀ q ∈ cw_nM, va_Nw (.methodLinkNest q.1 q.2.1 q.2.2 pm_host) U
theorem cw_A {D : va_G} {cA cB : ClassId} {U : State} (h : va_K D pm_cls ([(cA, .int)] ++ [(cB, .int)]) U) : cB = cA := by
  have h1 : U.vm.findClass ("[" ++ FieldType.int.toString) = some cA := (h.2 0 (cA, .int) rfl).2
  have h2 : U.vm.findClass ("[" ++ FieldType.int.toString) = some cB := (h.2 1 (cB, .int) rfl).2
  exact Option.some.inj (h2.symm.trans h1)
theorem cd_Bits_0 : decode cb_Bits 0 = .ok (.aload_n 0, 1) := by decide +kernel
theorem cd_Bits_1 : decode cb_Bits 1 = .ok (.invokespecial 3, 3) := by decide +kernel
theorem cd_Bits_4 : decode cb_Bits 4 = .ok (.aload_n 0, 1) := by decide +kernel
theorem cd_Bits_5 : decode cb_Bits 5 = .ok (.new 9, 3) := by decide +kernel
theorem cd_Bits_8 : decode cb_Bits 8 = .ok (.dup, 1) := by decide +kernel
theorem cd_Bits_9 : decode cb_Bits 9 = .ok (.sipush 700, 3) := by decide +kernel
theorem cd_Bits_12 : decode cb_Bits 12 = .ok (.invokespecial 11, 3) := by decide +kernel
theorem cd_Bits_15 : decode cb_Bits 15 = .ok (.putfield 14, 3) := by decide +kernel
theorem cd_Bits_18 : decode cb_Bits 18 = .ok (.aload_n 0, 1) := by decide +kernel
theorem cd_Bits_19 : decode cb_Bits 19 = .ok (.iconst 0, 1) := by decide +kernel
theorem cd_Bits_20 : decode cb_Bits 20 = .ok (.putfield 20, 3) := by decide +kernel
theorem cd_Bits_23 : decode cb_Bits 23 = .ok (.aload_n 0, 1) := by decide +kernel
theorem cd_Bits_24 : decode cb_Bits 24 = .ok (.iconst 0, 1) := by decide +kernel
theorem cd_Bits_25 : decode cb_Bits 25 = .ok (.putfield 24, 3) := by decide +kernel
theorem cd_Bits_28 : decode cb_Bits 28 = .ok (.return_, 1) := by decide +kernel
theorem cd_Bytes_0 : decode cb_Bytes 0 = .ok (.aload_n 0, 1) := by decide +kernel
theorem cd_Bytes_1 : decode cb_Bytes 1 = .ok (.invokespecial 3, 3) := by decide +kernel
theorem cd_Bytes_4 : decode cb_Bytes 4 = .ok (.aload_n 0, 1) := by decide +kernel
theorem cd_Bytes_5 : decode cb_Bytes 5 = .ok (.iload_n 1, 1) := by decide +kernel
theorem cd_Bytes_6 : decode cb_Bytes 6 = .ok (.newarray .int, 2) := by decide +kernel
theorem cd_Bytes_8 : decode cb_Bytes 8 = .ok (.putfield 9, 3) := by decide +kernel
theorem cd_Bytes_11 : decode cb_Bytes 11 = .ok (.aload_n 0, 1) := by decide +kernel
theorem cd_Bytes_12 : decode cb_Bytes 12 = .ok (.iconst 0, 1) := by decide +kernel
theorem cd_Bytes_13 : decode cb_Bytes 13 = .ok (.putfield 15, 3) := by decide +kernel
theorem cd_Bytes_16 : decode cb_Bytes 16 = .ok (.return_, 1) := by decide +kernel
theorem cd_File_0 : decode cb_File 0 = .ok (.aload_n 0, 1) := by decide +kernel
theorem cd_File_1 : decode cb_File 1 = .ok (.invokespecial 5, 3) := by decide +kernel
theorem cd_File_4 : decode cb_File 4 = .ok (.aload_n 0, 1) := by decide +kernel
theorem cd_File_5 : decode cb_File 5 = .ok (.new 11, 3) := by decide +kernel
theorem cd_File_8 : decode cb_File 8 = .ok (.dup, 1) := by decide +kernel
theorem cd_File_9 : decode cb_File 9 = .ok (.sipush 700, 3) := by decide +kernel
theorem cd_File_12 : decode cb_File 12 = .ok (.invokespecial 13, 3) := by decide +kernel
theorem cd_File_15 : decode cb_File 15 = .ok (.putfield 16, 3) := by decide +kernel
theorem cd_File_18 : decode cb_File 18 = .ok (.aload_n 0, 1) := by decide +kernel
theorem cd_File_19 : decode cb_File 19 = .ok (.iconst 0, 1) := by decide +kernel
theorem cd_File_20 : decode cb_File 20 = .ok (.putfield 20, 3) := by decide +kernel
theorem cd_File_23 : decode cb_File 23 = .ok (.return_, 1) := by decide +kernel
theorem cd_Pack_0 : decode cb_Pack 0 = .ok (.aload_n 0, 1) := by decide +kernel
theorem cd_Pack_1 : decode cb_Pack 1 = .ok (.invokespecial 3, 3) := by decide +kernel
theorem cd_Pack_4 : decode cb_Pack 4 = .ok (.aload_n 0, 1) := by decide +kernel
theorem cd_Pack_5 : decode cb_Pack 5 = .ok (.new 9, 3) := by decide +kernel
theorem cd_Pack_8 : decode cb_Pack 8 = .ok (.dup, 1) := by decide +kernel
theorem cd_Pack_9 : decode cb_Pack 9 = .ok (.sipush 300, 3) := by decide +kernel
theorem cd_Pack_12 : decode cb_Pack 12 = .ok (.invokespecial 11, 3) := by decide +kernel
theorem cd_Pack_15 : decode cb_Pack 15 = .ok (.putfield 14, 3) := by decide +kernel
theorem cd_Pack_18 : decode cb_Pack 18 = .ok (.aload_n 0, 1) := by decide +kernel
theorem cd_Pack_19 : decode cb_Pack 19 = .ok (.new 20, 3) := by decide +kernel
theorem cd_Pack_22 : decode cb_Pack 22 = .ok (.dup, 1) := by decide +kernel
theorem cd_Pack_23 : decode cb_Pack 23 = .ok (.invokespecial 22, 3) := by decide +kernel
theorem cd_Pack_26 : decode cb_Pack 26 = .ok (.putfield 23, 3) := by decide +kernel
theorem cd_Pack_29 : decode cb_Pack 29 = .ok (.aload_n 0, 1) := by decide +kernel
theorem cd_Pack_30 : decode cb_Pack 30 = .ok (.iconst 0, 1) := by decide +kernel
theorem cd_Pack_31 : decode cb_Pack 31 = .ok (.putfield 27, 3) := by decide +kernel
theorem cd_Pack_34 : decode cb_Pack 34 = .ok (.aload_n 0, 1) := by decide +kernel
theorem cd_Pack_35 : decode cb_Pack 35 = .ok (.iconst 0, 1) := by decide +kernel
theorem cd_Pack_36 : decode cb_Pack 36 = .ok (.putfield 31, 3) := by decide +kernel
theorem cd_Pack_39 : decode cb_Pack 39 = .ok (.aload_n 0, 1) := by decide +kernel
theorem cd_Pack_40 : decode cb_Pack 40 = .ok (.iconst 0, 1) := by decide +kernel
theorem cd_Pack_41 : decode cb_Pack 41 = .ok (.putfield 35, 3) := by decide +kernel
theorem cd_Pack_44 : decode cb_Pack 44 = .ok (.aload_n 0, 1) := by decide +kernel
theorem cd_Pack_45 : decode cb_Pack 45 = .ok (.iconst 0, 1) := by decide +kernel
theorem cd_Pack_46 : decode cb_Pack 46 = .ok (.putfield 38, 3) := by decide +kernel
theorem cd_Pack_49 : decode cb_Pack 49 = .ok (.return_, 1) := by decide +kernel
theorem cd_Pict_0 : decode cb_Pict 0 = .ok (.aload_n 0, 1) := by decide +kernel
theorem cd_Pict_1 : decode cb_Pict 1 = .ok (.invokespecial 3, 3) := by decide +kernel
theorem cd_Pict_4 : decode cb_Pict 4 = .ok (.aload_n 0, 1) := by decide +kernel
theorem cd_Pict_5 : decode cb_Pict 5 = .ok (.sipush 256, 3) := by decide +kernel
theorem cd_Pict_8 : decode cb_Pict 8 = .ok (.newarray .int, 2) := by decide +kernel
theorem cd_Pict_10 : decode cb_Pict 10 = .ok (.putfield 9, 3) := by decide +kernel
theorem cd_Pict_13 : decode cb_Pict 13 = .ok (.aload_n 0, 1) := by decide +kernel
theorem cd_Pict_14 : decode cb_Pict 14 = .ok (.iconst 0, 1) := by decide +kernel
theorem cd_Pict_15 : decode cb_Pict 15 = .ok (.putfield 15, 3) := by decide +kernel
theorem cd_Pict_18 : decode cb_Pict 18 = .ok (.aload_n 0, 1) := by decide +kernel
theorem cd_Pict_19 : decode cb_Pict 19 = .ok (.iconst 1, 1) := by decide +kernel
theorem cd_Pict_20 : decode cb_Pict 20 = .ok (.putfield 19, 3) := by decide +kernel
theorem cd_Pict_23 : decode cb_Pict 23 = .ok (.aload_n 0, 1) := by decide +kernel
theorem cd_Pict_24 : decode cb_Pict 24 = .ok (.iconst 1, 1) := by decide +kernel
theorem cd_Pict_25 : decode cb_Pict 25 = .ok (.putfield 22, 3) := by decide +kernel
theorem cd_Pict_28 : decode cb_Pict 28 = .ok (.aload_n 0, 1) := by decide +kernel
theorem cd_Pict_29 : decode cb_Pict 29 = .ok (.iconst 1, 1) := by decide +kernel
theorem cd_Pict_30 : decode cb_Pict 30 = .ok (.putfield 25, 3) := by decide +kernel
theorem cd_Pict_33 : decode cb_Pict 33 = .ok (.return_, 1) := by decide +kernel
theorem cd_Row_0 : decode cb_Row 0 = .ok (.aload_n 0, 1) := by decide +kernel
theorem cd_Row_1 : decode cb_Row 1 = .ok (.invokespecial 3, 3) := by decide +kernel
theorem cd_Row_4 : decode cb_Row 4 = .ok (.aload_n 0, 1) := by decide +kernel
theorem cd_Row_5 : decode cb_Row 5 = .ok (.bipush 32, 2) := by decide +kernel
theorem cd_Row_7 : decode cb_Row 7 = .ok (.newarray .int, 2) := by decide +kernel
theorem cd_Row_9 : decode cb_Row 9 = .ok (.putfield 9, 3) := by decide +kernel
theorem cd_Row_12 : decode cb_Row 12 = .ok (.aload_n 0, 1) := by decide +kernel
theorem cd_Row_13 : decode cb_Row 13 = .ok (.bipush 32, 2) := by decide +kernel
theorem cd_Row_15 : decode cb_Row 15 = .ok (.newarray .int, 2) := by decide +kernel
theorem cd_Row_17 : decode cb_Row 17 = .ok (.putfield 15, 3) := by decide +kernel
theorem cd_Row_20 : decode cb_Row 20 = .ok (.aload_n 0, 1) := by decide +kernel
theorem cd_Row_21 : decode cb_Row 21 = .ok (.iconst 0, 1) := by decide +kernel
theorem cd_Row_22 : decode cb_Row 22 = .ok (.putfield 18, 3) := by decide +kernel
theorem cd_Row_25 : decode cb_Row 25 = .ok (.aload_n 0, 1) := by decide +kernel
theorem cd_Row_26 : decode cb_Row 26 = .ok (.iconst 1, 1) := by decide +kernel
theorem cd_Row_27 : decode cb_Row 27 = .ok (.putfield 22, 3) := by decide +kernel
theorem cd_Row_30 : decode cb_Row 30 = .ok (.return_, 1) := by decide +kernel
theorem cd_Coder_0 : decode cb_Coder 0 = .ok (.aload_n 0, 1) := by decide +kernel
theorem cd_Coder_1 : decode cb_Coder 1 = .ok (.invokespecial 3, 3) := by decide +kernel
theorem cd_Coder_4 : decode cb_Coder 4 = .ok (.aload_n 0, 1) := by decide +kernel
theorem cd_Coder_5 : decode cb_Coder 5 = .ok (.iconst 5, 1) := by decide +kernel
theorem cd_Coder_6 : decode cb_Coder 6 = .ok (.newarray .int, 2) := by decide +kernel
theorem cd_Coder_8 : decode cb_Coder 8 = .ok (.putfield 9, 3) := by decide +kernel
theorem cd_Coder_11 : decode cb_Coder 11 = .ok (.aload_n 0, 1) := by decide +kernel
theorem cd_Coder_12 : decode cb_Coder 12 = .ok (.new 15, 3) := by decide +kernel
theorem cd_Coder_15 : decode cb_Coder 15 = .ok (.dup, 1) := by decide +kernel
theorem cd_Coder_16 : decode cb_Coder 16 = .ok (.invokespecial 17, 3) := by decide +kernel
theorem cd_Coder_19 : decode cb_Coder 19 = .ok (.putfield 18, 3) := by decide +kernel
theorem cd_Coder_22 : decode cb_Coder 22 = .ok (.return_, 1) := by decide +kernel
theorem cd_Img_0 : decode cb_Img 0 = .ok (.aload_n 0, 1) := by decide +kernel
theorem cd_Img_1 : decode cb_Img 1 = .ok (.invokespecial 3, 3) := by decide +kernel
theorem cd_Img_4 : decode cb_Img 4 = .ok (.aload_n 0, 1) := by decide +kernel
theorem cd_Img_5 : decode cb_Img 5 = .ok (.new 9, 3) := by decide +kernel
theorem cd_Img_8 : decode cb_Img 8 = .ok (.dup, 1) := by decide +kernel
theorem cd_Img_9 : decode cb_Img 9 = .ok (.invokespecial 11, 3) := by decide +kernel
theorem cd_Img_12 : decode cb_Img 12 = .ok (.putfield 12, 3) := by decide +kernel
theorem cd_Img_15 : decode cb_Img 15 = .ok (.aload_n 0, 1) := by decide +kernel
theorem cd_Img_16 : decode cb_Img 16 = .ok (.new 16, 3) := by decide +kernel
theorem cd_Img_19 : decode cb_Img 19 = .ok (.dup, 1) := by decide +kernel
theorem cd_Img_20 : decode cb_Img 20 = .ok (.invokespecial 18, 3) := by decide +kernel
theorem cd_Img_23 : decode cb_Img 23 = .ok (.putfield 19, 3) := by decide +kernel
theorem cd_Img_26 : decode cb_Img 26 = .ok (.aload_n 0, 1) := by decide +kernel
theorem cd_Img_27 : decode cb_Img 27 = .ok (.new 23, 3) := by decide +kernel
theorem cd_Img_30 : decode cb_Img 30 = .ok (.dup, 1) := by decide +kernel
theorem cd_Img_31 : decode cb_Img 31 = .ok (.invokespecial 25, 3) := by decide +kernel
theorem cd_Img_34 : decode cb_Img 34 = .ok (.putfield 26, 3) := by decide +kernel
theorem cd_Img_37 : decode cb_Img 37 = .ok (.aload_n 0, 1) := by decide +kernel
theorem cd_Img_38 : decode cb_Img 38 = .ok (.new 30, 3) := by decide +kernel
theorem cd_Img_41 : decode cb_Img 41 = .ok (.dup, 1) := by decide +kernel
theorem cd_Img_42 : decode cb_Img 42 = .ok (.invokespecial 32, 3) := by decide +kernel
theorem cd_Img_45 : decode cb_Img 45 = .ok (.putfield 33, 3) := by decide +kernel
theorem cd_Img_48 : decode cb_Img 48 = .ok (.aload_n 0, 1) := by decide +kernel
theorem cd_Img_49 : decode cb_Img 49 = .ok (.new 30, 3) := by decide +kernel
theorem cd_Img_52 : decode cb_Img 52 = .ok (.dup, 1) := by decide +kernel
theorem cd_Img_53 : decode cb_Img 53 = .ok (.invokespecial 32, 3) := by decide +kernel
theorem cd_Img_56 : decode cb_Img 56 = .ok (.putfield 37, 3) := by decide +kernel
theorem cd_Img_59 : decode cb_Img 59 = .ok (.aload_n 0, 1) := by decide +kernel
theorem cd_Img_60 : decode cb_Img 60 = .ok (.iconst 0, 1) := by decide +kernel
theorem cd_Img_61 : decode cb_Img 61 = .ok (.putfield 40, 3) := by decide +kernel
theorem cd_Img_64 : decode cb_Img 64 = .ok (.return_, 1) := by decide +kernel
theorem cd_Mod_0 : decode cb_Mod 0 = .ok (.aload_n 0, 1) := by decide +kernel
theorem cd_Mod_1 : decode cb_Mod 1 = .ok (.invokespecial 1, 3) := by decide +kernel
theorem cd_Mod_4 : decode cb_Mod 4 = .ok (.aload_n 0, 1) := by decide +kernel
theorem cd_Mod_5 : decode cb_Mod 5 = .ok (.iconst 1, 1) := by decide +kernel
theorem cd_Mod_6 : decode cb_Mod 6 = .ok (.putfield 7, 3) := by decide +kernel
theorem cd_Mod_9 : decode cb_Mod 9 = .ok (.aload_n 0, 1) := by decide +kernel
theorem cd_Mod_10 : decode cb_Mod 10 = .ok (.iconst 1, 1) := by decide +kernel
theorem cd_Mod_11 : decode cb_Mod 11 = .ok (.putfield 13, 3) := by decide +kernel
theorem cd_Mod_14 : decode cb_Mod 14 = .ok (.aload_n 0, 1) := by decide +kernel
theorem cd_Mod_15 : decode cb_Mod 15 = .ok (.iconst 1, 1) := by decide +kernel
theorem cd_Mod_16 : decode cb_Mod 16 = .ok (.putfield 16, 3) := by decide +kernel
theorem cd_Mod_19 : decode cb_Mod 19 = .ok (.aload_n 0, 1) := by decide +kernel
theorem cd_Mod_20 : decode cb_Mod 20 = .ok (.sipush 256, 3) := by decide +kernel
theorem cd_Mod_23 : decode cb_Mod 23 = .ok (.newarray .int, 2) := by decide +kernel
theorem cd_Mod_25 : decode cb_Mod 25 = .ok (.putfield 19, 3) := by decide +kernel
theorem cd_Mod_28 : decode cb_Mod 28 = .ok (.aload_n 0, 1) := by decide +kernel
theorem cd_Mod_29 : decode cb_Mod 29 = .ok (.sipush 256, 3) := by decide +kernel
theorem cd_Mod_32 : decode cb_Mod 32 = .ok (.newarray .int, 2) := by decide +kernel
theorem cd_Mod_34 : decode cb_Mod 34 = .ok (.putfield 23, 3) := by decide +kernel
theorem cd_Mod_37 : decode cb_Mod 37 = .ok (.aload_n 0, 1) := by decide +kernel
theorem cd_Mod_38 : decode cb_Mod 38 = .ok (.sipush 700, 3) := by decide +kernel
theorem cd_Mod_41 : decode cb_Mod 41 = .ok (.newarray .int, 2) := by decide +kernel
theorem cd_Mod_43 : decode cb_Mod 43 = .ok (.putfield 26, 3) := by decide +kernel
theorem cd_Mod_46 : decode cb_Mod 46 = .ok (.aload_n 0, 1) := by decide +kernel
theorem cd_Mod_47 : decode cb_Mod 47 = .ok (.iconst 5, 1) := by decide +kernel
theorem cd_Mod_48 : decode cb_Mod 48 = .ok (.newarray .int, 2) := by decide +kernel
theorem cd_Mod_50 : decode cb_Mod 50 = .ok (.putfield 29, 3) := by decide +kernel
theorem cd_Mod_53 : decode cb_Mod 53 = .ok (.aload_n 0, 1) := by decide +kernel
theorem cd_Mod_54 : decode cb_Mod 54 = .ok (.iconst 5, 1) := by decide +kernel
theorem cd_Mod_55 : decode cb_Mod 55 = .ok (.newarray .int, 2) := by decide +kernel
theorem cd_Mod_57 : decode cb_Mod 57 = .ok (.putfield 32, 3) := by decide +kernel
theorem cd_Mod_60 : decode cb_Mod 60 = .ok (.aload_n 0, 1) := by decide +kernel
theorem cd_Mod_61 : decode cb_Mod 61 = .ok (.sipush 300, 3) := by decide +kernel
theorem cd_Mod_64 : decode cb_Mod 64 = .ok (.newarray .int, 2) := by decide +kernel
theorem cd_Mod_66 : decode cb_Mod 66 = .ok (.putfield 35, 3) := by decide +kernel
theorem cd_Mod_69 : decode cb_Mod 69 = .ok (.return_, 1) := by decide +kernel

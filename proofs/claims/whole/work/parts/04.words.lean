theorem in_P : ∀ w ∈ u_ws "LinePatcher" ff_P 10, w ∈ lp_W := by
  intro w h
  obtain ⟨k, hk, rfl⟩ := List.mem_map.mp h
  have hk := List.mem_range.mp hk
  match k, hk with
  | 0, _ => exact lp_in 375 (by decide +kernel) rfl
  | 1, _ => exact lp_in 377 (by decide +kernel) rfl
  | 2, _ => exact lp_in 379 (by decide +kernel) rfl
  | 3, _ => exact lp_in 381 (by decide +kernel) rfl
  | 4, _ => exact lp_in 383 (by decide +kernel) rfl
  | 5, _ => exact lp_in 385 (by decide +kernel) rfl
  | 6, _ => exact lp_in 387 (by decide +kernel) rfl
  | 7, _ => exact lp_in 389 (by decide +kernel) rfl
  | 8, _ => exact lp_in 391 (by decide +kernel) rfl
  | 9, _ => exact lp_in 393 (by decide +kernel) rfl
  | k + 10, hk => exact absurd hk (by omega)
theorem ok_P : lp_C 0 "LinePatcher" ff_P 10 := ⟨rfl, in_P, ⟨tf_P, by decide +kernel⟩, by decide +kernel⟩
theorem in_T : ∀ w ∈ u_ws "LinePatcher$Text" ff_T 2, w ∈ lp_W := by
  intro w h
  obtain ⟨k, hk, rfl⟩ := List.mem_map.mp h
  have hk := List.mem_range.mp hk
  match k, hk with
  | 0, _ => exact lp_in 110 (by decide +kernel) rfl
  | 1, _ => exact lp_in 112 (by decide +kernel) rfl
  | k + 2, hk => exact absurd hk (by omega)
theorem ok_T : lp_C 1 "LinePatcher$Text" ff_T 2 := ⟨rfl, in_T, ⟨tf_T, by decide +kernel⟩, by decide +kernel⟩
theorem in_C : ∀ w ∈ u_ws "LinePatcher$Comparison" ff_C 4, w ∈ lp_W := by
  intro w h
  obtain ⟨k, hk, rfl⟩ := List.mem_map.mp h
  have hk := List.mem_range.mp hk
  match k, hk with
  | 0, _ => exact lp_in 128 (by decide +kernel) rfl
  | 1, _ => exact lp_in 130 (by decide +kernel) rfl
  | 2, _ => exact lp_in 132 (by decide +kernel) rfl
  | 3, _ => exact lp_in 134 (by decide +kernel) rfl
  | k + 4, hk => exact absurd hk (by omega)
theorem ok_C : lp_C 2 "LinePatcher$Comparison" ff_C 4 := ⟨rfl, in_C, ⟨tf_C, by decide +kernel⟩, by decide +kernel⟩
theorem in_R : ∀ w ∈ u_ws "LinePatcher$Range" ff_R 4, w ∈ lp_W := by
  intro w h
  obtain ⟨k, hk, rfl⟩ := List.mem_map.mp h
  have hk := List.mem_range.mp hk
  match k, hk with
  | 0, _ => exact lp_in 167 (by decide +kernel) rfl
  | 1, _ => exact lp_in 169 (by decide +kernel) rfl
  | 2, _ => exact lp_in 171 (by decide +kernel) rfl
  | 3, _ => exact lp_in 173 (by decide +kernel) rfl
  | k + 4, hk => exact absurd hk (by omega)
theorem ok_R : lp_C 3 "LinePatcher$Range" ff_R 4 := ⟨rfl, in_R, ⟨tf_R, by decide +kernel⟩, by decide +kernel⟩
theorem in_S : ∀ w ∈ u_ws "LinePatcher$Shortest" ff_S 2, w ∈ lp_W := by
  intro w h
  obtain ⟨k, hk, rfl⟩ := List.mem_map.mp h
  have hk := List.mem_range.mp hk
  match k, hk with
  | 0, _ => exact lp_in 178 (by decide +kernel) rfl
  | 1, _ => exact lp_in 180 (by decide +kernel) rfl
  | k + 2, hk => exact absurd hk (by omega)
theorem ok_S : lp_C 4 "LinePatcher$Shortest" ff_S 2 := ⟨rfl, in_S, ⟨tf_S, by decide +kernel⟩, by decide +kernel⟩
theorem in_O : ∀ w ∈ u_ws "LinePatcher$StandingOut" ff_O 7, w ∈ lp_W := by
  intro w h
  obtain ⟨k, hk, rfl⟩ := List.mem_map.mp h
  have hk := List.mem_range.mp hk
  match k, hk with
  | 0, _ => exact lp_in 199 (by decide +kernel) rfl
  | 1, _ => exact lp_in 201 (by decide +kernel) rfl
  | 2, _ => exact lp_in 203 (by decide +kernel) rfl
  | 3, _ => exact lp_in 205 (by decide +kernel) rfl
  | 4, _ => exact lp_in 207 (by decide +kernel) rfl
  | 5, _ => exact lp_in 209 (by decide +kernel) rfl
  | 6, _ => exact lp_in 211 (by decide +kernel) rfl
  | k + 7, hk => exact absurd hk (by omega)
theorem ok_O : lp_C 5 "LinePatcher$StandingOut" ff_O 7 := ⟨rfl, in_O, ⟨tf_O, by decide +kernel⟩, by decide +kernel⟩
theorem in_A : ∀ w ∈ u_ws "LinePatcher$Paper" ff_A 2, w ∈ lp_W := by
  intro w h
  obtain ⟨k, hk, rfl⟩ := List.mem_map.mp h
  have hk := List.mem_range.mp hk
  match k, hk with
  | 0, _ => exact lp_in 227 (by decide +kernel) rfl
  | 1, _ => exact lp_in 229 (by decide +kernel) rfl
  | k + 2, hk => exact absurd hk (by omega)
theorem ok_A : lp_C 6 "LinePatcher$Paper" ff_A 2 := ⟨rfl, in_A, ⟨tf_A, by decide +kernel⟩, by decide +kernel⟩
theorem in_W : ∀ w ∈ u_ws "LinePatcher$PatchWriter" ff_W 4, w ∈ lp_W := by
  intro w h
  obtain ⟨k, hk, rfl⟩ := List.mem_map.mp h
  have hk := List.mem_range.mp hk
  match k, hk with
  | 0, _ => exact lp_in 244 (by decide +kernel) rfl
  | 1, _ => exact lp_in 246 (by decide +kernel) rfl
  | 2, _ => exact lp_in 248 (by decide +kernel) rfl
  | 3, _ => exact lp_in 250 (by decide +kernel) rfl
  | k + 4, hk => exact absurd hk (by omega)
theorem ok_W : lp_C 7 "LinePatcher$PatchWriter" ff_W 4 := ⟨rfl, in_W, ⟨tf_W, by decide +kernel⟩, by decide +kernel⟩
theorem in_D : ∀ w ∈ u_ws "LinePatcher$PatchReader" ff_D 9, w ∈ lp_W := by
  intro w h
  obtain ⟨k, hk, rfl⟩ := List.mem_map.mp h
  have hk := List.mem_range.mp hk
  match k, hk with
  | 0, _ => exact lp_in 273 (by decide +kernel) rfl
  | 1, _ => exact lp_in 275 (by decide +kernel) rfl
  | 2, _ => exact lp_in 277 (by decide +kernel) rfl
  | 3, _ => exact lp_in 279 (by decide +kernel) rfl
  | 4, _ => exact lp_in 281 (by decide +kernel) rfl
  | 5, _ => exact lp_in 283 (by decide +kernel) rfl
  | 6, _ => exact lp_in 285 (by decide +kernel) rfl
  | 7, _ => exact lp_in 287 (by decide +kernel) rfl
  | 8, _ => exact lp_in 289 (by decide +kernel) rfl
  | k + 9, hk => exact absurd hk (by omega)
theorem ok_D : lp_C 8 "LinePatcher$PatchReader" ff_D 9 := ⟨rfl, in_D, ⟨tf_D, by decide +kernel⟩, by decide +kernel⟩
theorem in_F : ∀ w ∈ u_ws "LinePatcher$PatchFitter" ff_F 2, w ∈ lp_W := by
  intro w h
  obtain ⟨k, hk, rfl⟩ := List.mem_map.mp h
  have hk := List.mem_range.mp hk
  match k, hk with
  | 0, _ => exact lp_in 302 (by decide +kernel) rfl
  | 1, _ => exact lp_in 304 (by decide +kernel) rfl
  | k + 2, hk => exact absurd hk (by omega)
theorem ok_F : lp_C 9 "LinePatcher$PatchFitter" ff_F 2 := ⟨rfl, in_F, ⟨tf_F, by decide +kernel⟩, by decide +kernel⟩
theorem in_Q : ∀ w ∈ u_ws "LinePatcher$Part" ff_Q 3, w ∈ lp_W := by
  intro w h
  obtain ⟨k, hk, rfl⟩ := List.mem_map.mp h
  have hk := List.mem_range.mp hk
  match k, hk with
  | 0, _ => exact lp_in 327 (by decide +kernel) rfl
  | 1, _ => exact lp_in 329 (by decide +kernel) rfl
  | 2, _ => exact lp_in 331 (by decide +kernel) rfl
  | k + 3, hk => exact absurd hk (by omega)
theorem ok_Q : lp_C 10 "LinePatcher$Part" ff_Q 3 := ⟨rfl, in_Q, ⟨tf_Q, by decide +kernel⟩, by decide +kernel⟩
theorem in_G : ∀ w ∈ u_ws "LinePatcher$Merger" ff_G 9, w ∈ lp_W := by
  intro w h
  obtain ⟨k, hk, rfl⟩ := List.mem_map.mp h
  have hk := List.mem_range.mp hk
  match k, hk with
  | 0, _ => exact lp_in 345 (by decide +kernel) rfl
  | 1, _ => exact lp_in 347 (by decide +kernel) rfl
  | 2, _ => exact lp_in 349 (by decide +kernel) rfl
  | 3, _ => exact lp_in 351 (by decide +kernel) rfl
  | 4, _ => exact lp_in 353 (by decide +kernel) rfl
  | 5, _ => exact lp_in 355 (by decide +kernel) rfl
  | 6, _ => exact lp_in 357 (by decide +kernel) rfl
  | 7, _ => exact lp_in 359 (by decide +kernel) rfl
  | 8, _ => exact lp_in 361 (by decide +kernel) rfl
  | k + 9, hk => exact absurd hk (by omega)
theorem ok_G : lp_C 11 "LinePatcher$Merger" ff_G 9 := ⟨rfl, in_G, ⟨tf_G, by decide +kernel⟩, by decide +kernel⟩
theorem in_M : ∀ w ∈ u_ws "LinePatcherModel" ff_M 38, w ∈ lp_W := by
  intro w h
  obtain ⟨k, hk, rfl⟩ := List.mem_map.mp h
  have hk := List.mem_range.mp hk
  match k, hk with
  | 0, _ => exact lp_in 768 (by decide +kernel) rfl
  | 1, _ => exact lp_in 770 (by decide +kernel) rfl
  | 2, _ => exact lp_in 772 (by decide +kernel) rfl
  | 3, _ => exact lp_in 774 (by decide +kernel) rfl
  | 4, _ => exact lp_in 776 (by decide +kernel) rfl
  | 5, _ => exact lp_in 778 (by decide +kernel) rfl
  | 6, _ => exact lp_in 780 (by decide +kernel) rfl
  | 7, _ => exact lp_in 782 (by decide +kernel) rfl
  | 8, _ => exact lp_in 784 (by decide +kernel) rfl
  | 9, _ => exact lp_in 786 (by decide +kernel) rfl
  | 10, _ => exact lp_in 788 (by decide +kernel) rfl
  | 11, _ => exact lp_in 790 (by decide +kernel) rfl
  | 12, _ => exact lp_in 792 (by decide +kernel) rfl
  | 13, _ => exact lp_in 794 (by decide +kernel) rfl
  | 14, _ => exact lp_in 796 (by decide +kernel) rfl
  | 15, _ => exact lp_in 798 (by decide +kernel) rfl
  | 16, _ => exact lp_in 800 (by decide +kernel) rfl
  | 17, _ => exact lp_in 802 (by decide +kernel) rfl
  | 18, _ => exact lp_in 804 (by decide +kernel) rfl
  | 19, _ => exact lp_in 806 (by decide +kernel) rfl
  | 20, _ => exact lp_in 808 (by decide +kernel) rfl
  | 21, _ => exact lp_in 810 (by decide +kernel) rfl
  | 22, _ => exact lp_in 812 (by decide +kernel) rfl
  | 23, _ => exact lp_in 814 (by decide +kernel) rfl
  | 24, _ => exact lp_in 816 (by decide +kernel) rfl
  | 25, _ => exact lp_in 818 (by decide +kernel) rfl
  | 26, _ => exact lp_in 820 (by decide +kernel) rfl
  | 27, _ => exact lp_in 822 (by decide +kernel) rfl
  | 28, _ => exact lp_in 824 (by decide +kernel) rfl
  | 29, _ => exact lp_in 826 (by decide +kernel) rfl
  | 30, _ => exact lp_in 828 (by decide +kernel) rfl
  | 31, _ => exact lp_in 830 (by decide +kernel) rfl
  | 32, _ => exact lp_in 832 (by decide +kernel) rfl
  | 33, _ => exact lp_in 834 (by decide +kernel) rfl
  | 34, _ => exact lp_in 836 (by decide +kernel) rfl
  | 35, _ => exact lp_in 838 (by decide +kernel) rfl
  | 36, _ => exact lp_in 840 (by decide +kernel) rfl
  | 37, _ => exact lp_in 842 (by decide +kernel) rfl
  | k + 38, hk => exact absurd hk (by omega)
theorem ok_M : lp_C 12 "LinePatcherModel" ff_M 38 := ⟨rfl, in_M, ⟨tf_M, by decide +kernel⟩, by decide +kernel⟩
abbrev um_P_init : lp_M := (⟨"LinePatcher", "<init>", "()V"⟩, prog_1_method_1_code, 2, none)
abbrev um_P_add : lp_M := (⟨"LinePatcher", "add", "(IJI)I"⟩, prog_1_method_2_code, 6, some .int)
abbrev um_P_clear : lp_M := (⟨"LinePatcher", "clear", "(I)I"⟩, prog_1_method_3_code, 3, some .int)
abbrev um_P_size : lp_M := (⟨"LinePatcher", "size", "(I)I"⟩, prog_1_method_4_code, 2, some .int)
abbrev um_P_line : lp_M := (⟨"LinePatcher", "line", "(II)I"⟩, prog_1_method_5_code, 3, some .int)
abbrev um_P_compare : lp_M := (⟨"LinePatcher", "compare", "(III)I"⟩, prog_1_method_6_code, 4, some .int)
abbrev um_P_match : lp_M := (⟨"LinePatcher", "match", "(I)I"⟩, prog_1_method_7_code, 2, some .int)
abbrev um_P_write : lp_M := (⟨"LinePatcher", "write", "(I)I"⟩, prog_1_method_8_code, 2, some .int)
abbrev um_P_type : lp_M := (⟨"LinePatcher", "type", "(JI)I"⟩, prog_1_method_9_code, 5, some .int)
abbrev um_P_wipe : lp_M := (⟨"LinePatcher", "wipe", "()I"⟩, prog_1_method_10_code, 2, some .int)
abbrev um_P_character : lp_M := (⟨"LinePatcher", "character", "(I)I"⟩, prog_1_method_11_code, 2, some .int)
abbrev um_P_read : lp_M := (⟨"LinePatcher", "read", "()I"⟩, prog_1_method_12_code, 1, some .int)
abbrev um_P_apply : lp_M := (⟨"LinePatcher", "apply", "(I)I"⟩, prog_1_method_13_code, 2, some .int)
abbrev um_P_merge : lp_M := (⟨"LinePatcher", "merge", "()I"⟩, prog_1_method_14_code, 2, some .int)
abbrev um_P_isText : lp_M := (⟨"LinePatcher", "isText", "(I)Z"⟩, prog_1_method_15_code, 1, some .boolean)
abbrev um_P_areLetters : lp_M := (⟨"LinePatcher", "areLetters", "(JI)Z"⟩, prog_1_method_16_code, 4, some .boolean)
abbrev um_P_isLetter : lp_M := (⟨"LinePatcher", "isLetter", "(I)Z"⟩, prog_1_method_17_code, 1, some .boolean)
abbrev um_P_byteOf : lp_M := (⟨"LinePatcher", "byteOf", "(JI)I"⟩, prog_1_method_18_code, 3, some .int)
abbrev um_T_init : lp_M := (⟨"LinePatcher$Text", "<init>", "()V"⟩, prog_12_method_1_code, 1, none)
abbrev um_T_append : lp_M := (⟨"LinePatcher$Text", "append", "(I)V"⟩, prog_12_method_2_code, 2, none)
abbrev um_T_appendPart : lp_M := (⟨"LinePatcher$Text", "appendPart", "(LLinePatcher$Text;II)V"⟩, prog_12_method_3_code, 5, none)
abbrev um_T_become : lp_M := (⟨"LinePatcher$Text", "become", "(LLinePatcher$Text;)V"⟩, prog_12_method_4_code, 2, none)
abbrev um_T_hasOnlyLetters : lp_M := (⟨"LinePatcher$Text", "hasOnlyLetters", "()Z"⟩, prog_12_method_5_code, 2, some .boolean)
abbrev um_T_onlyPlace : lp_M := (⟨"LinePatcher$Text", "onlyPlace", "(III)I"⟩, prog_12_method_6_code, 6, some .int)
abbrev um_C_init : lp_M := (⟨"LinePatcher$Comparison", "<init>", "()V"⟩, prog_2_method_1_code, 1, none)
abbrev um_C_begin : lp_M := (⟨"LinePatcher$Comparison", "begin", "(LLinePatcher$Text;LLinePatcher$Text;)V"⟩, prog_2_method_2_code, 4, none)
abbrev um_C_pair : lp_M := (⟨"LinePatcher$Comparison", "pair", "(II)V"⟩, prog_2_method_3_code, 3, none)
abbrev um_C_areEqual : lp_M := (⟨"LinePatcher$Comparison", "areEqual", "(II)Z"⟩, prog_2_method_4_code, 3, some .boolean)
abbrev um_C_partnerOf : lp_M := (⟨"LinePatcher$Comparison", "partnerOf", "(I)I"⟩, prog_2_method_5_code, 2, some .int)
abbrev um_C_linesChanged : lp_M := (⟨"LinePatcher$Comparison", "linesChanged", "()I"⟩, prog_2_method_6_code, 1, some .int)
abbrev um_R_init : lp_M := (⟨"LinePatcher$Range", "<init>", "()V"⟩, prog_9_method_1_code, 1, none)
abbrev um_R_span : lp_M := (⟨"LinePatcher$Range", "span", "(IIII)V"⟩, prog_9_method_2_code, 5, none)
abbrev um_S_init : lp_M := (⟨"LinePatcher$Shortest", "<init>", "()V"⟩, prog_10_method_1_code, 1, none)
abbrev um_S_matchTexts : lp_M := (⟨"LinePatcher$Shortest", "matchTexts", "(LLinePatcher$Comparison;)V"⟩, prog_10_method_2_code, 2, none)
abbrev um_S_matchRange : lp_M := (⟨"LinePatcher$Shortest", "matchRange", "(LLinePatcher$Comparison;LLinePatcher$Range;)V"⟩, prog_10_method_3_code, 5, none)
abbrev um_S_countMost : lp_M := (⟨"LinePatcher$Shortest", "countMost", "(LLinePatcher$Comparison;LLinePatcher$Range;)V"⟩, prog_10_method_4_code, 5, none)
abbrev um_O_init : lp_M := (⟨"LinePatcher$StandingOut", "<init>", "(LLinePatcher$Shortest;)V"⟩, prog_11_method_1_code, 3, none)
abbrev um_O_matchTexts : lp_M := (⟨"LinePatcher$StandingOut", "matchTexts", "(LLinePatcher$Comparison;)V"⟩, prog_11_method_2_code, 3, none)
abbrev um_O_keepForLater : lp_M := (⟨"LinePatcher$StandingOut", "keepForLater", "(IIII)V"⟩, prog_11_method_3_code, 5, none)
abbrev um_O_matchRange : lp_M := (⟨"LinePatcher$StandingOut", "matchRange", "(LLinePatcher$Comparison;LLinePatcher$Range;)V"⟩, prog_11_method_4_code, 3, none)
abbrev um_O_matchBeginning : lp_M := (⟨"LinePatcher$StandingOut", "matchBeginning", "(LLinePatcher$Comparison;LLinePatcher$Range;)V"⟩, prog_11_method_5_code, 3, none)
abbrev um_O_matchEnd : lp_M := (⟨"LinePatcher$StandingOut", "matchEnd", "(LLinePatcher$Comparison;LLinePatcher$Range;)V"⟩, prog_11_method_6_code, 3, none)
abbrev um_O_findPairs : lp_M := (⟨"LinePatcher$StandingOut", "findPairs", "(LLinePatcher$Comparison;LLinePatcher$Range;)V"⟩, prog_11_method_7_code, 6, none)
abbrev um_O_rankPairs : lp_M := (⟨"LinePatcher$StandingOut", "rankPairs", "()I"⟩, prog_11_method_8_code, 5, some .int)
abbrev um_O_matchAnchors : lp_M := (⟨"LinePatcher$StandingOut", "matchAnchors", "(LLinePatcher$Comparison;LLinePatcher$Range;I)V"⟩, prog_11_method_9_code, 8, none)
abbrev um_A_init : lp_M := (⟨"LinePatcher$Paper", "<init>", "()V"⟩, prog_4_method_1_code, 1, none)
abbrev um_A_append : lp_M := (⟨"LinePatcher$Paper", "append", "(I)V"⟩, prog_4_method_2_code, 2, none)
abbrev um_A_appendNumber : lp_M := (⟨"LinePatcher$Paper", "appendNumber", "(I)V"⟩, prog_4_method_3_code, 2, none)
abbrev um_A_appendLine : lp_M := (⟨"LinePatcher$Paper", "appendLine", "(II)V"⟩, prog_4_method_4_code, 3, none)
abbrev um_W_init : lp_M := (⟨"LinePatcher$PatchWriter", "<init>", "(LLinePatcher$Comparison;LLinePatcher$Paper;)V"⟩, prog_8_method_1_code, 4, none)
abbrev um_W_writePatch : lp_M := (⟨"LinePatcher$PatchWriter", "writePatch", "(I)I"⟩, prog_8_method_2_code, 6, some .int)
abbrev um_W_findChanges : lp_M := (⟨"LinePatcher$PatchWriter", "findChanges", "()V"⟩, prog_8_method_3_code, 5, none)
abbrev um_W_keepChange : lp_M := (⟨"LinePatcher$PatchWriter", "keepChange", "(IIII)V"⟩, prog_8_method_4_code, 5, none)
abbrev um_W_matchedBefore : lp_M := (⟨"LinePatcher$PatchWriter", "matchedBefore", "(I)I"⟩, prog_8_method_5_code, 2, some .int)
abbrev um_W_matchedBehind : lp_M := (⟨"LinePatcher$PatchWriter", "matchedBehind", "(I)I"⟩, prog_8_method_6_code, 4, some .int)
abbrev um_W_writeHunk : lp_M := (⟨"LinePatcher$PatchWriter", "writeHunk", "(III)V"⟩, prog_8_method_7_code, 11, none)
abbrev um_W_writeHead : lp_M := (⟨"LinePatcher$PatchWriter", "writeHead", "(IIII)V"⟩, prog_8_method_8_code, 5, none)
abbrev um_W_writeLines : lp_M := (⟨"LinePatcher$PatchWriter", "writeLines", "(ILLinePatcher$Text;II)V"⟩, prog_8_method_9_code, 6, none)
abbrev um_D_init : lp_M := (⟨"LinePatcher$PatchReader", "<init>", "(LLinePatcher$Paper;)V"⟩, prog_7_method_1_code, 2, none)
abbrev um_D_placeOfFailure : lp_M := (⟨"LinePatcher$PatchReader", "placeOfFailure", "()I"⟩, prog_7_method_2_code, 2, some .int)
abbrev um_D_goToBeginning : lp_M := (⟨"LinePatcher$PatchReader", "goToBeginning", "()V"⟩, prog_7_method_3_code, 1, none)
abbrev um_D_hasMore : lp_M := (⟨"LinePatcher$PatchReader", "hasMore", "()Z"⟩, prog_7_method_4_code, 1, some .boolean)
abbrev um_D_takeHunk : lp_M := (⟨"LinePatcher$PatchReader", "takeHunk", "()Z"⟩, prog_7_method_5_code, 1, some .boolean)
abbrev um_D_takeHead : lp_M := (⟨"LinePatcher$PatchReader", "takeHead", "()Z"⟩, prog_7_method_6_code, 1, some .boolean)
abbrev um_D_takeLines : lp_M := (⟨"LinePatcher$PatchReader", "takeLines", "()Z"⟩, prog_7_method_7_code, 2, some .boolean)
abbrev um_D_hasLinesDue : lp_M := (⟨"LinePatcher$PatchReader", "hasLinesDue", "()Z"⟩, prog_7_method_8_code, 1, some .boolean)
abbrev um_D_takeLine : lp_M := (⟨"LinePatcher$PatchReader", "takeLine", "()Z"⟩, prog_7_method_9_code, 6, some .boolean)
abbrev um_D_takeSign : lp_M := (⟨"LinePatcher$PatchReader", "takeSign", "(I)Z"⟩, prog_7_method_10_code, 2, some .boolean)
abbrev um_D_takeNumber : lp_M := (⟨"LinePatcher$PatchReader", "takeNumber", "()I"⟩, prog_7_method_11_code, 2, some .int)
abbrev um_D_here : lp_M := (⟨"LinePatcher$PatchReader", "here", "()I"⟩, prog_7_method_12_code, 1, some .int)
abbrev um_D_isDigit : lp_M := (⟨"LinePatcher$PatchReader", "isDigit", "(I)Z"⟩, prog_7_method_13_code, 1, some .boolean)
abbrev um_F_init : lp_M := (⟨"LinePatcher$PatchFitter", "<init>", "(LLinePatcher$PatchReader;)V"⟩, prog_6_method_1_code, 2, none)
abbrev um_F_patch : lp_M := (⟨"LinePatcher$PatchFitter", "patch", "(LLinePatcher$Text;)I"⟩, prog_6_method_2_code, 6, some .int)
abbrev um_F_appendNewLines : lp_M := (⟨"LinePatcher$PatchFitter", "appendNewLines", "()V"⟩, prog_6_method_3_code, 2, none)
abbrev um_F_nearestPlace : lp_M := (⟨"LinePatcher$PatchFitter", "nearestPlace", "(LLinePatcher$Text;I)I"⟩, prog_6_method_4_code, 6, some .int)
abbrev um_F_distance : lp_M := (⟨"LinePatcher$PatchFitter", "distance", "(I)I"⟩, prog_6_method_5_code, 2, some .int)
abbrev um_F_fitsAt : lp_M := (⟨"LinePatcher$PatchFitter", "fitsAt", "(LLinePatcher$Text;I)Z"⟩, prog_6_method_6_code, 4, some .boolean)
abbrev um_Q_init : lp_M := (⟨"LinePatcher$Part", "<init>", "(LLinePatcher$Text;)V"⟩, prog_5_method_1_code, 2, none)
abbrev um_Q_skipFirmLine : lp_M := (⟨"LinePatcher$Part", "skipFirmLine", "()V"⟩, prog_5_method_2_code, 1, none)
abbrev um_Q_isEqualTo : lp_M := (⟨"LinePatcher$Part", "isEqualTo", "(LLinePatcher$Part;)Z"⟩, prog_5_method_3_code, 3, some .boolean)
abbrev um_G_init : lp_M := (⟨"LinePatcher$Merger", "<init>", "(LLinePatcher$Shortest;)V"⟩, prog_3_method_1_code, 2, none)
abbrev um_G_bringTogether : lp_M := (⟨"LinePatcher$Merger", "bringTogether", "(LLinePatcher$Text;LLinePatcher$Text;LLinePatcher$Text;)I"⟩, prog_3_method_2_code, 5, some .int)
abbrev um_G_handOver : lp_M := (⟨"LinePatcher$Merger", "handOver", "(LLinePatcher$Text;)Z"⟩, prog_3_method_3_code, 2, some .boolean)
abbrev um_G_settleParts : lp_M := (⟨"LinePatcher$Merger", "settleParts", "(III)V"⟩, prog_3_method_4_code, 4, none)
abbrev um_G_putConflict : lp_M := (⟨"LinePatcher$Merger", "putConflict", "()V"⟩, prog_3_method_5_code, 1, none)
abbrev um_G_putPart : lp_M := (⟨"LinePatcher$Merger", "putPart", "(LLinePatcher$Part;)V"⟩, prog_3_method_6_code, 3, none)
abbrev um_G_put : lp_M := (⟨"LinePatcher$Merger", "put", "(I)V"⟩, prog_3_method_7_code, 2, none)
abbrev um_M_init : lp_M := (⟨"LinePatcherModel", "<init>", "()V"⟩, prog_14_method_1_code, 1, none)
abbrev um_M_within : lp_M := (⟨"LinePatcherModel", "within", "(III)Z"⟩, prog_14_method_2_code, 3, some .boolean)
abbrev um_M_isLetter : lp_M := (⟨"LinePatcherModel", "isLetter", "(I)Z"⟩, prog_14_method_3_code, 1, some .boolean)
abbrev um_M_add : lp_M := (⟨"LinePatcherModel", "add", "(IJI)I"⟩, prog_14_method_4_code, 7, some .int)
abbrev um_M_clear : lp_M := (⟨"LinePatcherModel", "clear", "(I)I"⟩, prog_14_method_5_code, 3, some .int)
abbrev um_M_size : lp_M := (⟨"LinePatcherModel", "size", "(I)I"⟩, prog_14_method_6_code, 2, some .int)
abbrev um_M_line : lp_M := (⟨"LinePatcherModel", "line", "(II)I"⟩, prog_14_method_7_code, 3, some .int)
abbrev um_M_allLetters : lp_M := (⟨"LinePatcherModel", "allLetters", "(I)Z"⟩, prog_14_method_8_code, 4, some .boolean)
abbrev um_M_take : lp_M := (⟨"LinePatcherModel", "take", "(II)V"⟩, prog_14_method_9_code, 4, none)
abbrev um_M_compareShort : lp_M := (⟨"LinePatcherModel", "compareShort", "(IIII)V"⟩, prog_14_method_10_code, 11, none)
abbrev um_M_await : lp_M := (⟨"LinePatcherModel", "await", "(IIII)V"⟩, prog_14_method_11_code, 5, none)
abbrev um_M_partner : lp_M := (⟨"LinePatcherModel", "partner", "(IIIII)I"⟩, prog_14_method_12_code, 10, some .int)
abbrev um_M_findRanks : lp_M := (⟨"LinePatcherModel", "findRanks", "(IIII)I"⟩, prog_14_method_13_code, 9, some .int)
abbrev um_M_standOut : lp_M := (⟨"LinePatcherModel", "standOut", "(IIII)V"⟩, prog_14_method_14_code, 13, none)
abbrev um_M_compareAll : lp_M := (⟨"LinePatcherModel", "compareAll", "(I)V"⟩, prog_14_method_15_code, 2, none)
abbrev um_M_compare : lp_M := (⟨"LinePatcherModel", "compare", "(III)I"⟩, prog_14_method_16_code, 6, some .int)
abbrev um_M_match : lp_M := (⟨"LinePatcherModel", "match", "(I)I"⟩, prog_14_method_17_code, 2, some .int)
abbrev um_M_op : lp_M := (⟨"LinePatcherModel", "op", "(II)V"⟩, prog_14_method_18_code, 3, none)
abbrev um_M_row : lp_M := (⟨"LinePatcherModel", "row", "()V"⟩, prog_14_method_19_code, 4, none)
abbrev um_M_put : lp_M := (⟨"LinePatcherModel", "put", "(I)V"⟩, prog_14_method_20_code, 2, none)
abbrev um_M_putNumber : lp_M := (⟨"LinePatcherModel", "putNumber", "(I)V"⟩, prog_14_method_21_code, 2, none)
abbrev um_M_others : lp_M := (⟨"LinePatcherModel", "others", "(III)I"⟩, prog_14_method_22_code, 6, some .int)
abbrev um_M_putHunk : lp_M := (⟨"LinePatcherModel", "putHunk", "(II)V"⟩, prog_14_method_23_code, 4, none)
abbrev um_M_lastOf : lp_M := (⟨"LinePatcherModel", "lastOf", "(II)I"⟩, prog_14_method_24_code, 5, some .int)
abbrev um_M_write : lp_M := (⟨"LinePatcherModel", "write", "(I)I"⟩, prog_14_method_25_code, 7, some .int)
abbrev um_M_type : lp_M := (⟨"LinePatcherModel", "type", "(JI)I"⟩, prog_14_method_26_code, 5, some .int)
abbrev um_M_wipe : lp_M := (⟨"LinePatcherModel", "wipe", "()I"⟩, prog_14_method_27_code, 2, some .int)
abbrev um_M_character : lp_M := (⟨"LinePatcherModel", "character", "(I)I"⟩, prog_14_method_28_code, 2, some .int)
abbrev um_M_look : lp_M := (⟨"LinePatcherModel", "look", "()I"⟩, prog_14_method_29_code, 1, some .int)
abbrev um_M_want : lp_M := (⟨"LinePatcherModel", "want", "(I)V"⟩, prog_14_method_30_code, 2, none)
abbrev um_M_number : lp_M := (⟨"LinePatcherModel", "number", "()I"⟩, prog_14_method_31_code, 2, some .int)
abbrev um_M_readHunk : lp_M := (⟨"LinePatcherModel", "readHunk", "()V"⟩, prog_14_method_32_code, 6, none)
abbrev um_M_read : lp_M := (⟨"LinePatcherModel", "read", "()I"⟩, prog_14_method_33_code, 1, some .int)
abbrev um_M_stands : lp_M := (⟨"LinePatcherModel", "stands", "(III)Z"⟩, prog_14_method_34_code, 8, some .boolean)
abbrev um_M_fit : lp_M := (⟨"LinePatcherModel", "fit", "(III)I"⟩, prog_14_method_35_code, 8, some .int)
abbrev um_M_emit : lp_M := (⟨"LinePatcherModel", "emit", "(I)V"⟩, prog_14_method_36_code, 2, none)
abbrev um_M_apply : lp_M := (⟨"LinePatcherModel", "apply", "(I)I"⟩, prog_14_method_37_code, 8, some .int)
abbrev um_M_keep : lp_M := (⟨"LinePatcherModel", "keep", "(I)V"⟩, prog_14_method_38_code, 3, none)
abbrev um_M_sameParts : lp_M := (⟨"LinePatcherModel", "sameParts", "(IIIIII)Z"⟩, prog_14_method_39_code, 9, some .boolean)
abbrev um_M_tryEmit : lp_M := (⟨"LinePatcherModel", "tryEmit", "(I)Z"⟩, prog_14_method_40_code, 2, some .boolean)
abbrev um_M_emitPart : lp_M := (⟨"LinePatcherModel", "emitPart", "(III)Z"⟩, prog_14_method_41_code, 6, some .boolean)
abbrev um_M_mergeParts : lp_M := (⟨"LinePatcherModel", "mergeParts", "(IIIIII)I"⟩, prog_14_method_42_code, 8, some .int)
abbrev um_M_merge : lp_M := (⟨"LinePatcherModel", "merge", "()I"⟩, prog_14_method_43_code, 8, some .int)
theorem k0_P_init : lp_c0 um_P_init 0 := ⟨lp_in 58 (by decide +kernel) rfl, lp_in 76 (by decide +kernel) rfl, by decide +kernel, by decide +kernel, by decide +kernel⟩
theorem k0_P_add : lp_c0 um_P_add 3 := ⟨lp_in 58 (by decide +kernel) rfl, lp_in 399 (by decide +kernel) rfl, by decide +kernel, by decide +kernel, by decide +kernel⟩
theorem k0_P_clear : lp_c0 um_P_clear 1 := ⟨lp_in 58 (by decide +kernel) rfl, lp_in 420 (by decide +kernel) rfl, by decide +kernel, by decide +kernel, by decide +kernel⟩
theorem k0_P_size : lp_c0 um_P_size 1 := ⟨lp_in 58 (by decide +kernel) rfl, lp_in 424 (by decide +kernel) rfl, by decide +kernel, by decide +kernel, by decide +kernel⟩
theorem k0_P_line : lp_c0 um_P_line 2 := ⟨lp_in 58 (by decide +kernel) rfl, lp_in 428 (by decide +kernel) rfl, by decide +kernel, by decide +kernel, by decide +kernel⟩
theorem k0_P_compare : lp_c0 um_P_compare 3 := ⟨lp_in 58 (by decide +kernel) rfl, lp_in 432 (by decide +kernel) rfl, by decide +kernel, by decide +kernel, by decide +kernel⟩
theorem k0_P_match : lp_c0 um_P_match 1 := ⟨lp_in 58 (by decide +kernel) rfl, lp_in 526 (by decide +kernel) rfl, by decide +kernel, by decide +kernel, by decide +kernel⟩
theorem k0_P_write : lp_c0 um_P_write 1 := ⟨lp_in 58 (by decide +kernel) rfl, lp_in 534 (by decide +kernel) rfl, by decide +kernel, by decide +kernel, by decide +kernel⟩
theorem k0_P_type : lp_c0 um_P_type 2 := ⟨lp_in 58 (by decide +kernel) rfl, lp_in 588 (by decide +kernel) rfl, by decide +kernel, by decide +kernel, by decide +kernel⟩
theorem k0_P_wipe : lp_c0 um_P_wipe 0 := ⟨lp_in 58 (by decide +kernel) rfl, lp_in 593 (by decide +kernel) rfl, by decide +kernel, by decide +kernel, by decide +kernel⟩
theorem k0_P_character : lp_c0 um_P_character 1 := ⟨lp_in 58 (by decide +kernel) rfl, lp_in 597 (by decide +kernel) rfl, by decide +kernel, by decide +kernel, by decide +kernel⟩
theorem k0_P_read : lp_c0 um_P_read 0 := ⟨lp_in 58 (by decide +kernel) rfl, lp_in 601 (by decide +kernel) rfl, by decide +kernel, by decide +kernel, by decide +kernel⟩
theorem k0_P_apply : lp_c0 um_P_apply 1 := ⟨lp_in 58 (by decide +kernel) rfl, lp_in 653 (by decide +kernel) rfl, by decide +kernel, by decide +kernel, by decide +kernel⟩
theorem k0_P_merge : lp_c0 um_P_merge 0 := ⟨lp_in 58 (by decide +kernel) rfl, lp_in 686 (by decide +kernel) rfl, by decide +kernel, by decide +kernel, by decide +kernel⟩
theorem k0_P_isText : lp_c0 um_P_isText 1 := ⟨lp_in 58 (by decide +kernel) rfl, lp_in 402 (by decide +kernel) rfl, by decide +kernel, by decide +kernel, by decide +kernel⟩
theorem k0_P_areLetters : lp_c0 um_P_areLetters 2 := ⟨lp_in 58 (by decide +kernel) rfl, lp_in 405 (by decide +kernel) rfl, by decide +kernel, by decide +kernel, by decide +kernel⟩
theorem k0_P_isLetter : lp_c0 um_P_isLetter 1 := ⟨lp_in 58 (by decide +kernel) rfl, lp_in 412 (by decide +kernel) rfl, by decide +kernel, by decide +kernel, by decide +kernel⟩
theorem k0_P_byteOf : lp_c0 um_P_byteOf 2 := ⟨lp_in 58 (by decide +kernel) rfl, lp_in 408 (by decide +kernel) rfl, by decide +kernel, by decide +kernel, by decide +kernel⟩
theorem k0_T_init : lp_c0 um_T_init 0 := ⟨lp_in 60 (by decide +kernel) rfl, lp_in 92 (by decide +kernel) rfl, by decide +kernel, by decide +kernel, by decide +kernel⟩
theorem k0_T_append : lp_c0 um_T_append 1 := ⟨lp_in 60 (by decide +kernel) rfl, lp_in 416 (by decide +kernel) rfl, by decide +kernel, by decide +kernel, by decide +kernel⟩
theorem k0_T_appendPart : lp_c0 um_T_appendPart 3 := ⟨lp_in 60 (by decide +kernel) rfl, lp_in 449 (by decide +kernel) rfl, by decide +kernel, by decide +kernel, by decide +kernel⟩
theorem k0_T_become : lp_c0 um_T_become 1 := ⟨lp_in 60 (by decide +kernel) rfl, lp_in 445 (by decide +kernel) rfl, by decide +kernel, by decide +kernel, by decide +kernel⟩
theorem k0_T_hasOnlyLetters : lp_c0 um_T_hasOnlyLetters 0 := ⟨lp_in 60 (by decide +kernel) rfl, lp_in 436 (by decide +kernel) rfl, by decide +kernel, by decide +kernel, by decide +kernel⟩
theorem k0_T_onlyPlace : lp_c0 um_T_onlyPlace 3 := ⟨lp_in 60 (by decide +kernel) rfl, lp_in 508 (by decide +kernel) rfl, by decide +kernel, by decide +kernel, by decide +kernel⟩
theorem k0_C_init : lp_c0 um_C_init 0 := ⟨lp_in 59 (by decide +kernel) rfl, lp_in 86 (by decide +kernel) rfl, by decide +kernel, by decide +kernel, by decide +kernel⟩
theorem k0_C_begin : lp_c0 um_C_begin 2 := ⟨lp_in 59 (by decide +kernel) rfl, lp_in 441 (by decide +kernel) rfl, by decide +kernel, by decide +kernel, by decide +kernel⟩
theorem k0_C_pair : lp_c0 um_C_pair 2 := ⟨lp_in 59 (by decide +kernel) rfl, lp_in 477 (by decide +kernel) rfl, by decide +kernel, by decide +kernel, by decide +kernel⟩
theorem k0_C_areEqual : lp_c0 um_C_areEqual 2 := ⟨lp_in 59 (by decide +kernel) rfl, lp_in 470 (by decide +kernel) rfl, by decide +kernel, by decide +kernel, by decide +kernel⟩
theorem k0_C_partnerOf : lp_c0 um_C_partnerOf 1 := ⟨lp_in 59 (by decide +kernel) rfl, lp_in 530 (by decide +kernel) rfl, by decide +kernel, by decide +kernel, by decide +kernel⟩
theorem k0_C_linesChanged : lp_c0 um_C_linesChanged 0 := ⟨lp_in 59 (by decide +kernel) rfl, lp_in 522 (by decide +kernel) rfl, by decide +kernel, by decide +kernel, by decide +kernel⟩
theorem k0_R_init : lp_c0 um_R_init 0 := ⟨lp_in 62 (by decide +kernel) rfl, lp_in 149 (by decide +kernel) rfl, by decide +kernel, by decide +kernel, by decide +kernel⟩
theorem k0_R_span : lp_c0 um_R_span 4 := ⟨lp_in 62 (by decide +kernel) rfl, lp_in 458 (by decide +kernel) rfl, by decide +kernel, by decide +kernel, by decide +kernel⟩
theorem k0_S_init : lp_c0 um_S_init 0 := ⟨lp_in 61 (by decide +kernel) rfl, lp_in 141 (by decide +kernel) rfl, by decide +kernel, by decide +kernel, by decide +kernel⟩
theorem k0_S_matchTexts : lp_c0 um_S_matchTexts 1 := ⟨lp_in 61 (by decide +kernel) rfl, lp_in 454 (by decide +kernel) rfl, by decide +kernel, by decide +kernel, by decide +kernel⟩
theorem k0_S_matchRange : lp_c0 um_S_matchRange 2 := ⟨lp_in 61 (by decide +kernel) rfl, lp_in 462 (by decide +kernel) rfl, by decide +kernel, by decide +kernel, by decide +kernel⟩
theorem k0_S_countMost : lp_c0 um_S_countMost 2 := ⟨lp_in 61 (by decide +kernel) rfl, lp_in 466 (by decide +kernel) rfl, by decide +kernel, by decide +kernel, by decide +kernel⟩
theorem k0_O_init : lp_c0 um_O_init 1 := ⟨lp_in 63 (by decide +kernel) rfl, lp_in 187 (by decide +kernel) rfl, by decide +kernel, by decide +kernel, by decide +kernel⟩
theorem k0_O_matchTexts : lp_c0 um_O_matchTexts 1 := ⟨lp_in 63 (by decide +kernel) rfl, lp_in 481 (by decide +kernel) rfl, by decide +kernel, by decide +kernel, by decide +kernel⟩
theorem k0_O_keepForLater : lp_c0 um_O_keepForLater 4 := ⟨lp_in 63 (by decide +kernel) rfl, lp_in 485 (by decide +kernel) rfl, by decide +kernel, by decide +kernel, by decide +kernel⟩
theorem k0_O_matchRange : lp_c0 um_O_matchRange 2 := ⟨lp_in 63 (by decide +kernel) rfl, lp_in 490 (by decide +kernel) rfl, by decide +kernel, by decide +kernel, by decide +kernel⟩
theorem k0_O_matchBeginning : lp_c0 um_O_matchBeginning 2 := ⟨lp_in 63 (by decide +kernel) rfl, lp_in 494 (by decide +kernel) rfl, by decide +kernel, by decide +kernel, by decide +kernel⟩
theorem k0_O_matchEnd : lp_c0 um_O_matchEnd 2 := ⟨lp_in 63 (by decide +kernel) rfl, lp_in 500 (by decide +kernel) rfl, by decide +kernel, by decide +kernel, by decide +kernel⟩
theorem k0_O_findPairs : lp_c0 um_O_findPairs 2 := ⟨lp_in 63 (by decide +kernel) rfl, lp_in 504 (by decide +kernel) rfl, by decide +kernel, by decide +kernel, by decide +kernel⟩
theorem k0_O_rankPairs : lp_c0 um_O_rankPairs 0 := ⟨lp_in 63 (by decide +kernel) rfl, lp_in 513 (by decide +kernel) rfl, by decide +kernel, by decide +kernel, by decide +kernel⟩
theorem k0_O_matchAnchors : lp_c0 um_O_matchAnchors 3 := ⟨lp_in 63 (by decide +kernel) rfl, lp_in 518 (by decide +kernel) rfl, by decide +kernel, by decide +kernel, by decide +kernel⟩
theorem k0_A_init : lp_c0 um_A_init 0 := ⟨lp_in 64 (by decide +kernel) rfl, lp_in 218 (by decide +kernel) rfl, by decide +kernel, by decide +kernel, by decide +kernel⟩
theorem k0_A_append : lp_c0 um_A_append 1 := ⟨lp_in 64 (by decide +kernel) rfl, lp_in 571 (by decide +kernel) rfl, by decide +kernel, by decide +kernel, by decide +kernel⟩
theorem k0_A_appendNumber : lp_c0 um_A_appendNumber 1 := ⟨lp_in 64 (by decide +kernel) rfl, lp_in 575 (by decide +kernel) rfl, by decide +kernel, by decide +kernel, by decide +kernel⟩
theorem k0_A_appendLine : lp_c0 um_A_appendLine 2 := ⟨lp_in 64 (by decide +kernel) rfl, lp_in 584 (by decide +kernel) rfl, by decide +kernel, by decide +kernel, by decide +kernel⟩
theorem k0_W_init : lp_c0 um_W_init 2 := ⟨lp_in 65 (by decide +kernel) rfl, lp_in 236 (by decide +kernel) rfl, by decide +kernel, by decide +kernel, by decide +kernel⟩
theorem k0_W_writePatch : lp_c0 um_W_writePatch 1 := ⟨lp_in 65 (by decide +kernel) rfl, lp_in 538 (by decide +kernel) rfl, by decide +kernel, by decide +kernel, by decide +kernel⟩
theorem k0_W_findChanges : lp_c0 um_W_findChanges 0 := ⟨lp_in 65 (by decide +kernel) rfl, lp_in 542 (by decide +kernel) rfl, by decide +kernel, by decide +kernel, by decide +kernel⟩
theorem k0_W_keepChange : lp_c0 um_W_keepChange 4 := ⟨lp_in 65 (by decide +kernel) rfl, lp_in 547 (by decide +kernel) rfl, by decide +kernel, by decide +kernel, by decide +kernel⟩
theorem k0_W_matchedBefore : lp_c0 um_W_matchedBefore 1 := ⟨lp_in 65 (by decide +kernel) rfl, lp_in 560 (by decide +kernel) rfl, by decide +kernel, by decide +kernel, by decide +kernel⟩
theorem k0_W_matchedBehind : lp_c0 um_W_matchedBehind 1 := ⟨lp_in 65 (by decide +kernel) rfl, lp_in 552 (by decide +kernel) rfl, by decide +kernel, by decide +kernel, by decide +kernel⟩
theorem k0_W_writeHunk : lp_c0 um_W_writeHunk 3 := ⟨lp_in 65 (by decide +kernel) rfl, lp_in 556 (by decide +kernel) rfl, by decide +kernel, by decide +kernel, by decide +kernel⟩
theorem k0_W_writeHead : lp_c0 um_W_writeHead 4 := ⟨lp_in 65 (by decide +kernel) rfl, lp_in 567 (by decide +kernel) rfl, by decide +kernel, by decide +kernel, by decide +kernel⟩
theorem k0_W_writeLines : lp_c0 um_W_writeLines 4 := ⟨lp_in 65 (by decide +kernel) rfl, lp_in 580 (by decide +kernel) rfl, by decide +kernel, by decide +kernel, by decide +kernel⟩
theorem k0_D_init : lp_c0 um_D_init 1 := ⟨lp_in 66 (by decide +kernel) rfl, lp_in 257 (by decide +kernel) rfl, by decide +kernel, by decide +kernel, by decide +kernel⟩
theorem k0_D_placeOfFailure : lp_c0 um_D_placeOfFailure 0 := ⟨lp_in 66 (by decide +kernel) rfl, lp_in 605 (by decide +kernel) rfl, by decide +kernel, by decide +kernel, by decide +kernel⟩
theorem k0_D_goToBeginning : lp_c0 um_D_goToBeginning 0 := ⟨lp_in 66 (by decide +kernel) rfl, lp_in 609 (by decide +kernel) rfl, by decide +kernel, by decide +kernel, by decide +kernel⟩
theorem k0_D_hasMore : lp_c0 um_D_hasMore 0 := ⟨lp_in 66 (by decide +kernel) rfl, lp_in 613 (by decide +kernel) rfl, by decide +kernel, by decide +kernel, by decide +kernel⟩
theorem k0_D_takeHunk : lp_c0 um_D_takeHunk 0 := ⟨lp_in 66 (by decide +kernel) rfl, lp_in 617 (by decide +kernel) rfl, by decide +kernel, by decide +kernel, by decide +kernel⟩
theorem k0_D_takeHead : lp_c0 um_D_takeHead 0 := ⟨lp_in 66 (by decide +kernel) rfl, lp_in 621 (by decide +kernel) rfl, by decide +kernel, by decide +kernel, by decide +kernel⟩
theorem k0_D_takeLines : lp_c0 um_D_takeLines 0 := ⟨lp_in 66 (by decide +kernel) rfl, lp_in 640 (by decide +kernel) rfl, by decide +kernel, by decide +kernel, by decide +kernel⟩
theorem k0_D_hasLinesDue : lp_c0 um_D_hasLinesDue 0 := ⟨lp_in 66 (by decide +kernel) rfl, lp_in 644 (by decide +kernel) rfl, by decide +kernel, by decide +kernel, by decide +kernel⟩
theorem k0_D_takeLine : lp_c0 um_D_takeLine 0 := ⟨lp_in 66 (by decide +kernel) rfl, lp_in 648 (by decide +kernel) rfl, by decide +kernel, by decide +kernel, by decide +kernel⟩
theorem k0_D_takeSign : lp_c0 um_D_takeSign 1 := ⟨lp_in 66 (by decide +kernel) rfl, lp_in 625 (by decide +kernel) rfl, by decide +kernel, by decide +kernel, by decide +kernel⟩
theorem k0_D_takeNumber : lp_c0 um_D_takeNumber 0 := ⟨lp_in 66 (by decide +kernel) rfl, lp_in 633 (by decide +kernel) rfl, by decide +kernel, by decide +kernel, by decide +kernel⟩
theorem k0_D_here : lp_c0 um_D_here 0 := ⟨lp_in 66 (by decide +kernel) rfl, lp_in 629 (by decide +kernel) rfl, by decide +kernel, by decide +kernel, by decide +kernel⟩
theorem k0_D_isDigit : lp_c0 um_D_isDigit 1 := ⟨lp_in 66 (by decide +kernel) rfl, lp_in 636 (by decide +kernel) rfl, by decide +kernel, by decide +kernel, by decide +kernel⟩
theorem k0_F_init : lp_c0 um_F_init 1 := ⟨lp_in 67 (by decide +kernel) rfl, lp_in 296 (by decide +kernel) rfl, by decide +kernel, by decide +kernel, by decide +kernel⟩
theorem k0_F_patch : lp_c0 um_F_patch 1 := ⟨lp_in 67 (by decide +kernel) rfl, lp_in 657 (by decide +kernel) rfl, by decide +kernel, by decide +kernel, by decide +kernel⟩
theorem k0_F_appendNewLines : lp_c0 um_F_appendNewLines 0 := ⟨lp_in 67 (by decide +kernel) rfl, lp_in 680 (by decide +kernel) rfl, by decide +kernel, by decide +kernel, by decide +kernel⟩
theorem k0_F_nearestPlace : lp_c0 um_F_nearestPlace 2 := ⟨lp_in 67 (by decide +kernel) rfl, lp_in 664 (by decide +kernel) rfl, by decide +kernel, by decide +kernel, by decide +kernel⟩
theorem k0_F_distance : lp_c0 um_F_distance 1 := ⟨lp_in 67 (by decide +kernel) rfl, lp_in 668 (by decide +kernel) rfl, by decide +kernel, by decide +kernel, by decide +kernel⟩
theorem k0_F_fitsAt : lp_c0 um_F_fitsAt 2 := ⟨lp_in 67 (by decide +kernel) rfl, lp_in 675 (by decide +kernel) rfl, by decide +kernel, by decide +kernel, by decide +kernel⟩
theorem k0_Q_init : lp_c0 um_Q_init 1 := ⟨lp_in 69 (by decide +kernel) rfl, lp_in 319 (by decide +kernel) rfl, by decide +kernel, by decide +kernel, by decide +kernel⟩
theorem k0_Q_skipFirmLine : lp_c0 um_Q_skipFirmLine 0 := ⟨lp_in 69 (by decide +kernel) rfl, lp_in 718 (by decide +kernel) rfl, by decide +kernel, by decide +kernel, by decide +kernel⟩
theorem k0_Q_isEqualTo : lp_c0 um_Q_isEqualTo 1 := ⟨lp_in 69 (by decide +kernel) rfl, lp_in 701 (by decide +kernel) rfl, by decide +kernel, by decide +kernel, by decide +kernel⟩
theorem k0_G_init : lp_c0 um_G_init 1 := ⟨lp_in 68 (by decide +kernel) rfl, lp_in 311 (by decide +kernel) rfl, by decide +kernel, by decide +kernel, by decide +kernel⟩
theorem k0_G_bringTogether : lp_c0 um_G_bringTogether 3 := ⟨lp_in 68 (by decide +kernel) rfl, lp_in 690 (by decide +kernel) rfl, by decide +kernel, by decide +kernel, by decide +kernel⟩
theorem k0_G_handOver : lp_c0 um_G_handOver 1 := ⟨lp_in 68 (by decide +kernel) rfl, lp_in 722 (by decide +kernel) rfl, by decide +kernel, by decide +kernel, by decide +kernel⟩
theorem k0_G_settleParts : lp_c0 um_G_settleParts 3 := ⟨lp_in 68 (by decide +kernel) rfl, lp_in 697 (by decide +kernel) rfl, by decide +kernel, by decide +kernel, by decide +kernel⟩
theorem k0_G_putConflict : lp_c0 um_G_putConflict 0 := ⟨lp_in 68 (by decide +kernel) rfl, lp_in 714 (by decide +kernel) rfl, by decide +kernel, by decide +kernel, by decide +kernel⟩
theorem k0_G_putPart : lp_c0 um_G_putPart 1 := ⟨lp_in 68 (by decide +kernel) rfl, lp_in 705 (by decide +kernel) rfl, by decide +kernel, by decide +kernel, by decide +kernel⟩
theorem k0_G_put : lp_c0 um_G_put 1 := ⟨lp_in 68 (by decide +kernel) rfl, lp_in 709 (by decide +kernel) rfl, by decide +kernel, by decide +kernel, by decide +kernel⟩
theorem k0_M_init : lp_c0 um_M_init 0 := ⟨lp_in 70 (by decide +kernel) rfl, lp_in 728 (by decide +kernel) rfl, by decide +kernel, by decide +kernel, by decide +kernel⟩
theorem k0_M_within : lp_c0 um_M_within 3 := ⟨lp_in 70 (by decide +kernel) rfl, lp_in 851 (by decide +kernel) rfl, by decide +kernel, by decide +kernel, by decide +kernel⟩
theorem k0_M_isLetter : lp_c0 um_M_isLetter 1 := ⟨lp_in 70 (by decide +kernel) rfl, lp_in 854 (by decide +kernel) rfl, by decide +kernel, by decide +kernel, by decide +kernel⟩
theorem k0_M_add : lp_c0 um_M_add 3 := ⟨lp_in 70 (by decide +kernel) rfl, lp_in 848 (by decide +kernel) rfl, by decide +kernel, by decide +kernel, by decide +kernel⟩
theorem k0_M_clear : lp_c0 um_M_clear 1 := ⟨lp_in 70 (by decide +kernel) rfl, lp_in 858 (by decide +kernel) rfl, by decide +kernel, by decide +kernel, by decide +kernel⟩
theorem k0_M_size : lp_c0 um_M_size 1 := ⟨lp_in 70 (by decide +kernel) rfl, lp_in 862 (by decide +kernel) rfl, by decide +kernel, by decide +kernel, by decide +kernel⟩
theorem k0_M_line : lp_c0 um_M_line 2 := ⟨lp_in 70 (by decide +kernel) rfl, lp_in 866 (by decide +kernel) rfl, by decide +kernel, by decide +kernel, by decide +kernel⟩
theorem k0_M_allLetters : lp_c0 um_M_allLetters 1 := ⟨lp_in 70 (by decide +kernel) rfl, lp_in 874 (by decide +kernel) rfl, by decide +kernel, by decide +kernel, by decide +kernel⟩
theorem k0_M_take : lp_c0 um_M_take 2 := ⟨lp_in 70 (by decide +kernel) rfl, lp_in 878 (by decide +kernel) rfl, by decide +kernel, by decide +kernel, by decide +kernel⟩
theorem k0_M_compareShort : lp_c0 um_M_compareShort 4 := ⟨lp_in 70 (by decide +kernel) rfl, lp_in 886 (by decide +kernel) rfl, by decide +kernel, by decide +kernel, by decide +kernel⟩
theorem k0_M_await : lp_c0 um_M_await 4 := ⟨lp_in 70 (by decide +kernel) rfl, lp_in 890 (by decide +kernel) rfl, by decide +kernel, by decide +kernel, by decide +kernel⟩
theorem k0_M_partner : lp_c0 um_M_partner 5 := ⟨lp_in 70 (by decide +kernel) rfl, lp_in 902 (by decide +kernel) rfl, by decide +kernel, by decide +kernel, by decide +kernel⟩
theorem k0_M_findRanks : lp_c0 um_M_findRanks 4 := ⟨lp_in 70 (by decide +kernel) rfl, lp_in 898 (by decide +kernel) rfl, by decide +kernel, by decide +kernel, by decide +kernel⟩
theorem k0_M_standOut : lp_c0 um_M_standOut 4 := ⟨lp_in 70 (by decide +kernel) rfl, lp_in 894 (by decide +kernel) rfl, by decide +kernel, by decide +kernel, by decide +kernel⟩
theorem k0_M_compareAll : lp_c0 um_M_compareAll 1 := ⟨lp_in 70 (by decide +kernel) rfl, lp_in 882 (by decide +kernel) rfl, by decide +kernel, by decide +kernel, by decide +kernel⟩
theorem k0_M_compare : lp_c0 um_M_compare 3 := ⟨lp_in 70 (by decide +kernel) rfl, lp_in 870 (by decide +kernel) rfl, by decide +kernel, by decide +kernel, by decide +kernel⟩
theorem k0_M_match : lp_c0 um_M_match 1 := ⟨lp_in 70 (by decide +kernel) rfl, lp_in 906 (by decide +kernel) rfl, by decide +kernel, by decide +kernel, by decide +kernel⟩
theorem k0_M_op : lp_c0 um_M_op 2 := ⟨lp_in 70 (by decide +kernel) rfl, lp_in 918 (by decide +kernel) rfl, by decide +kernel, by decide +kernel, by decide +kernel⟩
theorem k0_M_row : lp_c0 um_M_row 0 := ⟨lp_in 70 (by decide +kernel) rfl, lp_in 914 (by decide +kernel) rfl, by decide +kernel, by decide +kernel, by decide +kernel⟩
theorem k0_M_put : lp_c0 um_M_put 1 := ⟨lp_in 70 (by decide +kernel) rfl, lp_in 930 (by decide +kernel) rfl, by decide +kernel, by decide +kernel, by decide +kernel⟩
theorem k0_M_putNumber : lp_c0 um_M_putNumber 1 := ⟨lp_in 70 (by decide +kernel) rfl, lp_in 938 (by decide +kernel) rfl, by decide +kernel, by decide +kernel, by decide +kernel⟩
theorem k0_M_others : lp_c0 um_M_others 3 := ⟨lp_in 70 (by decide +kernel) rfl, lp_in 934 (by decide +kernel) rfl, by decide +kernel, by decide +kernel, by decide +kernel⟩
theorem k0_M_putHunk : lp_c0 um_M_putHunk 2 := ⟨lp_in 70 (by decide +kernel) rfl, lp_in 926 (by decide +kernel) rfl, by decide +kernel, by decide +kernel, by decide +kernel⟩
theorem k0_M_lastOf : lp_c0 um_M_lastOf 2 := ⟨lp_in 70 (by decide +kernel) rfl, lp_in 922 (by decide +kernel) rfl, by decide +kernel, by decide +kernel, by decide +kernel⟩
theorem k0_M_write : lp_c0 um_M_write 1 := ⟨lp_in 70 (by decide +kernel) rfl, lp_in 910 (by decide +kernel) rfl, by decide +kernel, by decide +kernel, by decide +kernel⟩
theorem k0_M_type : lp_c0 um_M_type 2 := ⟨lp_in 70 (by decide +kernel) rfl, lp_in 942 (by decide +kernel) rfl, by decide +kernel, by decide +kernel, by decide +kernel⟩
theorem k0_M_wipe : lp_c0 um_M_wipe 0 := ⟨lp_in 70 (by decide +kernel) rfl, lp_in 946 (by decide +kernel) rfl, by decide +kernel, by decide +kernel, by decide +kernel⟩
theorem k0_M_character : lp_c0 um_M_character 1 := ⟨lp_in 70 (by decide +kernel) rfl, lp_in 950 (by decide +kernel) rfl, by decide +kernel, by decide +kernel, by decide +kernel⟩
theorem k0_M_look : lp_c0 um_M_look 0 := ⟨lp_in 70 (by decide +kernel) rfl, lp_in 966 (by decide +kernel) rfl, by decide +kernel, by decide +kernel, by decide +kernel⟩
theorem k0_M_want : lp_c0 um_M_want 1 := ⟨lp_in 70 (by decide +kernel) rfl, lp_in 962 (by decide +kernel) rfl, by decide +kernel, by decide +kernel, by decide +kernel⟩
theorem k0_M_number : lp_c0 um_M_number 0 := ⟨lp_in 70 (by decide +kernel) rfl, lp_in 970 (by decide +kernel) rfl, by decide +kernel, by decide +kernel, by decide +kernel⟩
theorem k0_M_readHunk : lp_c0 um_M_readHunk 0 := ⟨lp_in 70 (by decide +kernel) rfl, lp_in 958 (by decide +kernel) rfl, by decide +kernel, by decide +kernel, by decide +kernel⟩
theorem k0_M_read : lp_c0 um_M_read 0 := ⟨lp_in 70 (by decide +kernel) rfl, lp_in 954 (by decide +kernel) rfl, by decide +kernel, by decide +kernel, by decide +kernel⟩
theorem k0_M_stands : lp_c0 um_M_stands 3 := ⟨lp_in 70 (by decide +kernel) rfl, lp_in 983 (by decide +kernel) rfl, by decide +kernel, by decide +kernel, by decide +kernel⟩
theorem k0_M_fit : lp_c0 um_M_fit 3 := ⟨lp_in 70 (by decide +kernel) rfl, lp_in 979 (by decide +kernel) rfl, by decide +kernel, by decide +kernel, by decide +kernel⟩
theorem k0_M_emit : lp_c0 um_M_emit 1 := ⟨lp_in 70 (by decide +kernel) rfl, lp_in 987 (by decide +kernel) rfl, by decide +kernel, by decide +kernel, by decide +kernel⟩
theorem k0_M_apply : lp_c0 um_M_apply 1 := ⟨lp_in 70 (by decide +kernel) rfl, lp_in 974 (by decide +kernel) rfl, by decide +kernel, by decide +kernel, by decide +kernel⟩
theorem k0_M_keep : lp_c0 um_M_keep 1 := ⟨lp_in 70 (by decide +kernel) rfl, lp_in 991 (by decide +kernel) rfl, by decide +kernel, by decide +kernel, by decide +kernel⟩
theorem k0_M_sameParts : lp_c0 um_M_sameParts 6 := ⟨lp_in 70 (by decide +kernel) rfl, lp_in 1003 (by decide +kernel) rfl, by decide +kernel, by decide +kernel, by decide +kernel⟩
theorem k0_M_tryEmit : lp_c0 um_M_tryEmit 1 := ⟨lp_in 70 (by decide +kernel) rfl, lp_in 1011 (by decide +kernel) rfl, by decide +kernel, by decide +kernel, by decide +kernel⟩
theorem k0_M_emitPart : lp_c0 um_M_emitPart 3 := ⟨lp_in 70 (by decide +kernel) rfl, lp_in 1007 (by decide +kernel) rfl, by decide +kernel, by decide +kernel, by decide +kernel⟩
theorem k0_M_mergeParts : lp_c0 um_M_mergeParts 6 := ⟨lp_in 70 (by decide +kernel) rfl, lp_in 999 (by decide +kernel) rfl, by decide +kernel, by decide +kernel, by decide +kernel⟩
theorem k0_M_merge : lp_c0 um_M_merge 0 := ⟨lp_in 70 (by decide +kernel) rfl, lp_in 995 (by decide +kernel) rfl, by decide +kernel, by decide +kernel, by decide +kernel⟩
theorem kf_P_100 : lp_F "LinePatcher" 100 1 0 := ⟨"LinePatcher$Text", ff_T, 2, rfl, in_T, by decide, lp_in 98 (by decide +kernel) rfl, rfl⟩
theorem kf_P_88 : lp_F "LinePatcher" 88 1 1 := ⟨"LinePatcher$Text", ff_T, 2, rfl, in_T, by decide, lp_in 106 (by decide +kernel) rfl, rfl⟩
theorem kp_P_88 : lp_Fp "LinePatcher" 88 1 1 (.int) false := ⟨"LinePatcher$Text", ff_T, 2, ok_T, by decide, lp_in 106 (by decide +kernel) rfl, rfl, rfl, by decide +kernel, fun h => by cases h⟩
theorem kf_P_136 : lp_F "LinePatcher" 136 6 0 := ⟨"LinePatcher$Paper", ff_A, 2, rfl, in_A, by decide, lp_in 221 (by decide +kernel) rfl, rfl⟩
theorem kf_P_132 : lp_F "LinePatcher" 132 6 1 := ⟨"LinePatcher$Paper", ff_A, 2, rfl, in_A, by decide, lp_in 226 (by decide +kernel) rfl, rfl⟩
theorem kp_P_132 : lp_Fp "LinePatcher" 132 6 1 (.int) false := ⟨"LinePatcher$Paper", ff_A, 2, ok_A, by decide, lp_in 226 (by decide +kernel) rfl, rfl, rfl, by decide +kernel, fun h => by cases h⟩
theorem kf_P_11 : lp_F "LinePatcher" 11 0 0 := ⟨"LinePatcher", ff_P, 10, rfl, in_P, by decide, lp_in 365 (by decide +kernel) rfl, rfl⟩
theorem kp_P_11 : lp_Fp "LinePatcher" 11 0 0 (.array (.object "LinePatcher$Text")) true := ⟨"LinePatcher", ff_P, 10, ok_P, by decide, lp_in 365 (by decide +kernel) rfl, rfl, rfl, by decide +kernel, fun _ => rfl⟩
theorem kf_P_18 : lp_F "LinePatcher" 18 0 1 := ⟨"LinePatcher", ff_P, 10, rfl, in_P, by decide, lp_in 366 (by decide +kernel) rfl, rfl⟩
theorem kp_P_18 : lp_Fp "LinePatcher" 18 0 1 (.object "LinePatcher$Comparison") true := ⟨"LinePatcher", ff_P, 10, ok_P, by decide, lp_in 366 (by decide +kernel) rfl, rfl, rfl, by decide +kernel, fun _ => rfl⟩
theorem kf_P_117 : lp_F "LinePatcher" 117 0 2 := ⟨"LinePatcher", ff_P, 10, rfl, in_P, by decide, lp_in 367 (by decide +kernel) rfl, rfl⟩
theorem kp_P_117 : lp_Fp "LinePatcher" 117 0 2 (.boolean) false := ⟨"LinePatcher", ff_P, 10, ok_P, by decide, lp_in 367 (by decide +kernel) rfl, rfl, rfl, by decide +kernel, fun h => by cases h⟩
theorem kf_P_25 : lp_F "LinePatcher" 25 0 3 := ⟨"LinePatcher", ff_P, 10, rfl, in_P, by decide, lp_in 368 (by decide +kernel) rfl, rfl⟩
theorem kp_P_25 : lp_Fp "LinePatcher" 25 0 3 (.object "LinePatcher$Shortest") true := ⟨"LinePatcher", ff_P, 10, ok_P, by decide, lp_in 368 (by decide +kernel) rfl, rfl, rfl, by decide +kernel, fun _ => rfl⟩
theorem kf_P_34 : lp_F "LinePatcher" 34 0 4 := ⟨"LinePatcher", ff_P, 10, rfl, in_P, by decide, lp_in 369 (by decide +kernel) rfl, rfl⟩
theorem kp_P_34 : lp_Fp "LinePatcher" 34 0 4 (.object "LinePatcher$StandingOut") true := ⟨"LinePatcher", ff_P, 10, ok_P, by decide, lp_in 369 (by decide +kernel) rfl, rfl, rfl, by decide +kernel, fun _ => rfl⟩
theorem kf_P_41 : lp_F "LinePatcher" 41 0 5 := ⟨"LinePatcher", ff_P, 10, rfl, in_P, by decide, lp_in 370 (by decide +kernel) rfl, rfl⟩
theorem kp_P_41 : lp_Fp "LinePatcher" 41 0 5 (.object "LinePatcher$Paper") true := ⟨"LinePatcher", ff_P, 10, ok_P, by decide, lp_in 370 (by decide +kernel) rfl, rfl, rfl, by decide +kernel, fun _ => rfl⟩
theorem kf_P_50 : lp_F "LinePatcher" 50 0 6 := ⟨"LinePatcher", ff_P, 10, rfl, in_P, by decide, lp_in 371 (by decide +kernel) rfl, rfl⟩
theorem kp_P_50 : lp_Fp "LinePatcher" 50 0 6 (.object "LinePatcher$PatchWriter") true := ⟨"LinePatcher", ff_P, 10, ok_P, by decide, lp_in 371 (by decide +kernel) rfl, rfl, rfl, by decide +kernel, fun _ => rfl⟩
theorem kf_P_59 : lp_F "LinePatcher" 59 0 7 := ⟨"LinePatcher", ff_P, 10, rfl, in_P, by decide, lp_in 372 (by decide +kernel) rfl, rfl⟩
theorem kp_P_59 : lp_Fp "LinePatcher" 59 0 7 (.object "LinePatcher$PatchReader") true := ⟨"LinePatcher", ff_P, 10, ok_P, by decide, lp_in 372 (by decide +kernel) rfl, rfl, rfl, by decide +kernel, fun _ => rfl⟩
theorem kf_P_68 : lp_F "LinePatcher" 68 0 8 := ⟨"LinePatcher", ff_P, 10, rfl, in_P, by decide, lp_in 373 (by decide +kernel) rfl, rfl⟩
theorem kp_P_68 : lp_Fp "LinePatcher" 68 0 8 (.object "LinePatcher$PatchFitter") true := ⟨"LinePatcher", ff_P, 10, ok_P, by decide, lp_in 373 (by decide +kernel) rfl, rfl, rfl, by decide +kernel, fun _ => rfl⟩
theorem kf_P_75 : lp_F "LinePatcher" 75 0 9 := ⟨"LinePatcher", ff_P, 10, rfl, in_P, by decide, lp_in 374 (by decide +kernel) rfl, rfl⟩
theorem kp_P_75 : lp_Fp "LinePatcher" 75 0 9 (.object "LinePatcher$Merger") true := ⟨"LinePatcher", ff_P, 10, ok_P, by decide, lp_in 374 (by decide +kernel) rfl, rfl, rfl, by decide +kernel, fun _ => rfl⟩
theorem kf_T_9 : lp_F "LinePatcher$Text" 9 1 0 := ⟨"LinePatcher$Text", ff_T, 2, rfl, in_T, by decide, lp_in 94 (by decide +kernel) rfl, rfl⟩
theorem kp_T_9 : lp_Fp "LinePatcher$Text" 9 1 0 (.array .int) true := ⟨"LinePatcher$Text", ff_T, 2, ok_T, by decide, lp_in 94 (by decide +kernel) rfl, rfl, rfl, by decide +kernel, fun _ => rfl⟩
theorem kf_T_15 : lp_F "LinePatcher$Text" 15 1 1 := ⟨"LinePatcher$Text", ff_T, 2, rfl, in_T, by decide, lp_in 102 (by decide +kernel) rfl, rfl⟩
theorem kp_T_15 : lp_Fp "LinePatcher$Text" 15 1 1 (.int) false := ⟨"LinePatcher$Text", ff_T, 2, ok_T, by decide, lp_in 102 (by decide +kernel) rfl, rfl, rfl, by decide +kernel, fun h => by cases h⟩
theorem kf_C_33 : lp_F "LinePatcher$Comparison" 33 1 0 := ⟨"LinePatcher$Text", ff_T, 2, rfl, in_T, by decide, lp_in 97 (by decide +kernel) rfl, rfl⟩
theorem kf_C_36 : lp_F "LinePatcher$Comparison" 36 1 1 := ⟨"LinePatcher$Text", ff_T, 2, rfl, in_T, by decide, lp_in 109 (by decide +kernel) rfl, rfl⟩
theorem kp_C_36 : lp_Fp "LinePatcher$Comparison" 36 1 1 (.int) false := ⟨"LinePatcher$Text", ff_T, 2, ok_T, by decide, lp_in 109 (by decide +kernel) rfl, rfl, rfl, by decide +kernel, fun h => by cases h⟩
theorem kf_C_12 : lp_F "LinePatcher$Comparison" 12 2 0 := ⟨"LinePatcher$Comparison", ff_C, 4, rfl, in_C, by decide, lp_in 116 (by decide +kernel) rfl, rfl⟩
theorem kp_C_12 : lp_Fp "LinePatcher$Comparison" 12 2 0 (.object "LinePatcher$Text") true := ⟨"LinePatcher$Comparison", ff_C, 4, ok_C, by decide, lp_in 116 (by decide +kernel) rfl, rfl, rfl, by decide +kernel, fun _ => rfl⟩
theorem kf_C_18 : lp_F "LinePatcher$Comparison" 18 2 1 := ⟨"LinePatcher$Comparison", ff_C, 4, rfl, in_C, by decide, lp_in 121 (by decide +kernel) rfl, rfl⟩
theorem kp_C_18 : lp_Fp "LinePatcher$Comparison" 18 2 1 (.object "LinePatcher$Text") true := ⟨"LinePatcher$Comparison", ff_C, 4, ok_C, by decide, lp_in 121 (by decide +kernel) rfl, rfl, rfl, by decide +kernel, fun _ => rfl⟩
theorem kf_C_21 : lp_F "LinePatcher$Comparison" 21 2 2 := ⟨"LinePatcher$Comparison", ff_C, 4, rfl, in_C, by decide, lp_in 126 (by decide +kernel) rfl, rfl⟩
theorem kp_C_21 : lp_Fp "LinePatcher$Comparison" 21 2 2 (.array .int) true := ⟨"LinePatcher$Comparison", ff_C, 4, ok_C, by decide, lp_in 126 (by decide +kernel) rfl, rfl, rfl, by decide +kernel, fun _ => rfl⟩
theorem kf_C_29 : lp_F "LinePatcher$Comparison" 29 2 3 := ⟨"LinePatcher$Comparison", ff_C, 4, rfl, in_C, by decide, lp_in 127 (by decide +kernel) rfl, rfl⟩
theorem kp_C_29 : lp_Fp "LinePatcher$Comparison" 29 2 3 (.int) false := ⟨"LinePatcher$Comparison", ff_C, 4, ok_C, by decide, lp_in 127 (by decide +kernel) rfl, rfl, rfl, by decide +kernel, fun h => by cases h⟩
theorem kf_R_7 : lp_F "LinePatcher$Range" 7 3 0 := ⟨"LinePatcher$Range", ff_R, 4, rfl, in_R, by decide, lp_in 151 (by decide +kernel) rfl, rfl⟩
theorem kp_R_7 : lp_Fp "LinePatcher$Range" 7 3 0 (.int) false := ⟨"LinePatcher$Range", ff_R, 4, ok_R, by decide, lp_in 151 (by decide +kernel) rfl, rfl, rfl, by decide +kernel, fun h => by cases h⟩
theorem kf_R_13 : lp_F "LinePatcher$Range" 13 3 1 := ⟨"LinePatcher$Range", ff_R, 4, rfl, in_R, by decide, lp_in 155 (by decide +kernel) rfl, rfl⟩
theorem kp_R_13 : lp_Fp "LinePatcher$Range" 13 3 1 (.int) false := ⟨"LinePatcher$Range", ff_R, 4, ok_R, by decide, lp_in 155 (by decide +kernel) rfl, rfl, rfl, by decide +kernel, fun h => by cases h⟩
theorem kf_R_16 : lp_F "LinePatcher$Range" 16 3 2 := ⟨"LinePatcher$Range", ff_R, 4, rfl, in_R, by decide, lp_in 159 (by decide +kernel) rfl, rfl⟩
theorem kp_R_16 : lp_Fp "LinePatcher$Range" 16 3 2 (.int) false := ⟨"LinePatcher$Range", ff_R, 4, ok_R, by decide, lp_in 159 (by decide +kernel) rfl, rfl, rfl, by decide +kernel, fun h => by cases h⟩
theorem kf_R_19 : lp_F "LinePatcher$Range" 19 3 3 := ⟨"LinePatcher$Range", ff_R, 4, rfl, in_R, by decide, lp_in 163 (by decide +kernel) rfl, rfl⟩
theorem kp_R_19 : lp_Fp "LinePatcher$Range" 19 3 3 (.int) false := ⟨"LinePatcher$Range", ff_R, 4, ok_R, by decide, lp_in 163 (by decide +kernel) rfl, rfl, rfl, by decide +kernel, fun h => by cases h⟩
theorem kf_S_29 : lp_F "LinePatcher$Shortest" 29 1 1 := ⟨"LinePatcher$Text", ff_T, 2, rfl, in_T, by decide, lp_in 104 (by decide +kernel) rfl, rfl⟩
theorem kp_S_29 : lp_Fp "LinePatcher$Shortest" 29 1 1 (.int) false := ⟨"LinePatcher$Text", ff_T, 2, ok_T, by decide, lp_in 104 (by decide +kernel) rfl, rfl, rfl, by decide +kernel, fun h => by cases h⟩
theorem kf_S_23 : lp_F "LinePatcher$Shortest" 23 2 0 := ⟨"LinePatcher$Comparison", ff_C, 4, rfl, in_C, by decide, lp_in 118 (by decide +kernel) rfl, rfl⟩
theorem kf_S_35 : lp_F "LinePatcher$Shortest" 35 2 1 := ⟨"LinePatcher$Comparison", ff_C, 4, rfl, in_C, by decide, lp_in 123 (by decide +kernel) rfl, rfl⟩
theorem kf_S_49 : lp_F "LinePatcher$Shortest" 49 3 0 := ⟨"LinePatcher$Range", ff_R, 4, rfl, in_R, by decide, lp_in 152 (by decide +kernel) rfl, rfl⟩
theorem kp_S_49 : lp_Fp "LinePatcher$Shortest" 49 3 0 (.int) false := ⟨"LinePatcher$Range", ff_R, 4, ok_R, by decide, lp_in 152 (by decide +kernel) rfl, rfl, rfl, by decide +kernel, fun h => by cases h⟩
theorem kf_S_53 : lp_F "LinePatcher$Shortest" 53 3 1 := ⟨"LinePatcher$Range", ff_R, 4, rfl, in_R, by decide, lp_in 156 (by decide +kernel) rfl, rfl⟩
theorem kp_S_53 : lp_Fp "LinePatcher$Shortest" 53 3 1 (.int) false := ⟨"LinePatcher$Range", ff_R, 4, ok_R, by decide, lp_in 156 (by decide +kernel) rfl, rfl, rfl, by decide +kernel, fun h => by cases h⟩
theorem kf_S_51 : lp_F "LinePatcher$Shortest" 51 3 2 := ⟨"LinePatcher$Range", ff_R, 4, rfl, in_R, by decide, lp_in 160 (by decide +kernel) rfl, rfl⟩
theorem kp_S_51 : lp_Fp "LinePatcher$Shortest" 51 3 2 (.int) false := ⟨"LinePatcher$Range", ff_R, 4, ok_R, by decide, lp_in 160 (by decide +kernel) rfl, rfl, rfl, by decide +kernel, fun h => by cases h⟩
theorem kf_S_56 : lp_F "LinePatcher$Shortest" 56 3 3 := ⟨"LinePatcher$Range", ff_R, 4, rfl, in_R, by decide, lp_in 164 (by decide +kernel) rfl, rfl⟩
theorem kp_S_56 : lp_Fp "LinePatcher$Shortest" 56 3 3 (.int) false := ⟨"LinePatcher$Range", ff_R, 4, ok_R, by decide, lp_in 164 (by decide +kernel) rfl, rfl, rfl, by decide +kernel, fun h => by cases h⟩
theorem kf_S_11 : lp_F "LinePatcher$Shortest" 11 4 0 := ⟨"LinePatcher$Shortest", ff_S, 2, rfl, in_S, by decide, lp_in 176 (by decide +kernel) rfl, rfl⟩
theorem kp_S_11 : lp_Fp "LinePatcher$Shortest" 11 4 0 (.array (.array .int)) true := ⟨"LinePatcher$Shortest", ff_S, 2, ok_S, by decide, lp_in 176 (by decide +kernel) rfl, rfl, rfl, by decide +kernel, fun _ => rfl⟩
theorem kf_S_19 : lp_F "LinePatcher$Shortest" 19 4 1 := ⟨"LinePatcher$Shortest", ff_S, 2, rfl, in_S, by decide, lp_in 177 (by decide +kernel) rfl, rfl⟩
theorem kp_S_19 : lp_Fp "LinePatcher$Shortest" 19 4 1 (.object "LinePatcher$Range") true := ⟨"LinePatcher$Shortest", ff_S, 2, ok_S, by decide, lp_in 177 (by decide +kernel) rfl, rfl, rfl, by decide +kernel, fun _ => rfl⟩
theorem kf_O_102 : lp_F "LinePatcher$StandingOut" 102 1 0 := ⟨"LinePatcher$Text", ff_T, 2, rfl, in_T, by decide, lp_in 100 (by decide +kernel) rfl, rfl⟩
theorem kf_O_42 : lp_F "LinePatcher$StandingOut" 42 1 1 := ⟨"LinePatcher$Text", ff_T, 2, rfl, in_T, by decide, lp_in 105 (by decide +kernel) rfl, rfl⟩
theorem kp_O_42 : lp_Fp "LinePatcher$StandingOut" 42 1 1 (.int) false := ⟨"LinePatcher$Text", ff_T, 2, ok_T, by decide, lp_in 105 (by decide +kernel) rfl, rfl, rfl, by decide +kernel, fun h => by cases h⟩
theorem kf_O_36 : lp_F "LinePatcher$StandingOut" 36 2 0 := ⟨"LinePatcher$Comparison", ff_C, 4, rfl, in_C, by decide, lp_in 119 (by decide +kernel) rfl, rfl⟩
theorem kf_O_47 : lp_F "LinePatcher$StandingOut" 47 2 1 := ⟨"LinePatcher$Comparison", ff_C, 4, rfl, in_C, by decide, lp_in 124 (by decide +kernel) rfl, rfl⟩
theorem kf_O_84 : lp_F "LinePatcher$StandingOut" 84 3 0 := ⟨"LinePatcher$Range", ff_R, 4, rfl, in_R, by decide, lp_in 153 (by decide +kernel) rfl, rfl⟩
theorem kp_O_84 : lp_Fp "LinePatcher$StandingOut" 84 3 0 (.int) false := ⟨"LinePatcher$Range", ff_R, 4, ok_R, by decide, lp_in 153 (by decide +kernel) rfl, rfl, rfl, by decide +kernel, fun h => by cases h⟩
theorem kf_O_86 : lp_F "LinePatcher$StandingOut" 86 3 1 := ⟨"LinePatcher$Range", ff_R, 4, rfl, in_R, by decide, lp_in 157 (by decide +kernel) rfl, rfl⟩
theorem kp_O_86 : lp_Fp "LinePatcher$StandingOut" 86 3 1 (.int) false := ⟨"LinePatcher$Range", ff_R, 4, ok_R, by decide, lp_in 157 (by decide +kernel) rfl, rfl, rfl, by decide +kernel, fun h => by cases h⟩
theorem kf_O_89 : lp_F "LinePatcher$StandingOut" 89 3 2 := ⟨"LinePatcher$Range", ff_R, 4, rfl, in_R, by decide, lp_in 161 (by decide +kernel) rfl, rfl⟩
theorem kp_O_89 : lp_Fp "LinePatcher$StandingOut" 89 3 2 (.int) false := ⟨"LinePatcher$Range", ff_R, 4, ok_R, by decide, lp_in 161 (by decide +kernel) rfl, rfl, rfl, by decide +kernel, fun h => by cases h⟩
theorem kf_O_91 : lp_F "LinePatcher$StandingOut" 91 3 3 := ⟨"LinePatcher$Range", ff_R, 4, rfl, in_R, by decide, lp_in 165 (by decide +kernel) rfl, rfl⟩
theorem kp_O_91 : lp_Fp "LinePatcher$StandingOut" 91 3 3 (.int) false := ⟨"LinePatcher$Range", ff_R, 4, ok_R, by decide, lp_in 165 (by decide +kernel) rfl, rfl, rfl, by decide +kernel, fun h => by cases h⟩
theorem kf_O_27 : lp_F "LinePatcher$StandingOut" 27 5 0 := ⟨"LinePatcher$StandingOut", ff_O, 7, rfl, in_O, by decide, lp_in 192 (by decide +kernel) rfl, rfl⟩
theorem kp_O_27 : lp_Fp "LinePatcher$StandingOut" 27 5 0 (.object "LinePatcher$Shortest") true := ⟨"LinePatcher$StandingOut", ff_O, 7, ok_O, by decide, lp_in 192 (by decide +kernel) rfl, rfl, rfl, by decide +kernel, fun _ => rfl⟩
theorem kf_O_13 : lp_F "LinePatcher$StandingOut" 13 5 1 := ⟨"LinePatcher$StandingOut", ff_O, 7, rfl, in_O, by decide, lp_in 193 (by decide +kernel) rfl, rfl⟩
theorem kp_O_13 : lp_Fp "LinePatcher$StandingOut" 13 5 1 (.array (.object "LinePatcher$Range")) true := ⟨"LinePatcher$StandingOut", ff_O, 7, ok_O, by decide, lp_in 193 (by decide +kernel) rfl, rfl, rfl, by decide +kernel, fun _ => rfl⟩
theorem kf_O_32 : lp_F "LinePatcher$StandingOut" 32 5 2 := ⟨"LinePatcher$StandingOut", ff_O, 7, rfl, in_O, by decide, lp_in 194 (by decide +kernel) rfl, rfl⟩
theorem kp_O_32 : lp_Fp "LinePatcher$StandingOut" 32 5 2 (.int) false := ⟨"LinePatcher$StandingOut", ff_O, 7, ok_O, by decide, lp_in 194 (by decide +kernel) rfl, rfl, rfl, by decide +kernel, fun h => by cases h⟩
theorem kf_O_17 : lp_F "LinePatcher$StandingOut" 17 5 3 := ⟨"LinePatcher$StandingOut", ff_O, 7, rfl, in_O, by decide, lp_in 195 (by decide +kernel) rfl, rfl⟩
theorem kp_O_17 : lp_Fp "LinePatcher$StandingOut" 17 5 3 (.array .int) true := ⟨"LinePatcher$StandingOut", ff_O, 7, ok_O, by decide, lp_in 195 (by decide +kernel) rfl, rfl, rfl, by decide +kernel, fun _ => rfl⟩
theorem kf_O_21 : lp_F "LinePatcher$StandingOut" 21 5 4 := ⟨"LinePatcher$StandingOut", ff_O, 7, rfl, in_O, by decide, lp_in 196 (by decide +kernel) rfl, rfl⟩
theorem kp_O_21 : lp_Fp "LinePatcher$StandingOut" 21 5 4 (.array .int) true := ⟨"LinePatcher$StandingOut", ff_O, 7, ok_O, by decide, lp_in 196 (by decide +kernel) rfl, rfl, rfl, by decide +kernel, fun _ => rfl⟩
theorem kf_O_24 : lp_F "LinePatcher$StandingOut" 24 5 5 := ⟨"LinePatcher$StandingOut", ff_O, 7, rfl, in_O, by decide, lp_in 197 (by decide +kernel) rfl, rfl⟩
theorem kp_O_24 : lp_Fp "LinePatcher$StandingOut" 24 5 5 (.array .int) true := ⟨"LinePatcher$StandingOut", ff_O, 7, ok_O, by decide, lp_in 197 (by decide +kernel) rfl, rfl, rfl, by decide +kernel, fun _ => rfl⟩
theorem kf_O_70 : lp_F "LinePatcher$StandingOut" 70 5 6 := ⟨"LinePatcher$StandingOut", ff_O, 7, rfl, in_O, by decide, lp_in 198 (by decide +kernel) rfl, rfl⟩
theorem kp_O_70 : lp_Fp "LinePatcher$StandingOut" 70 5 6 (.int) false := ⟨"LinePatcher$StandingOut", ff_O, 7, ok_O, by decide, lp_in 198 (by decide +kernel) rfl, rfl, rfl, by decide +kernel, fun h => by cases h⟩
theorem kf_A_9 : lp_F "LinePatcher$Paper" 9 6 0 := ⟨"LinePatcher$Paper", ff_A, 2, rfl, in_A, by decide, lp_in 220 (by decide +kernel) rfl, rfl⟩
theorem kp_A_9 : lp_Fp "LinePatcher$Paper" 9 6 0 (.array .int) true := ⟨"LinePatcher$Paper", ff_A, 2, ok_A, by decide, lp_in 220 (by decide +kernel) rfl, rfl, rfl, by decide +kernel, fun _ => rfl⟩
theorem kf_A_15 : lp_F "LinePatcher$Paper" 15 6 1 := ⟨"LinePatcher$Paper", ff_A, 2, rfl, in_A, by decide, lp_in 223 (by decide +kernel) rfl, rfl⟩
theorem kp_A_15 : lp_Fp "LinePatcher$Paper" 15 6 1 (.int) false := ⟨"LinePatcher$Paper", ff_A, 2, ok_A, by decide, lp_in 223 (by decide +kernel) rfl, rfl, rfl, by decide +kernel, fun h => by cases h⟩
theorem kf_W_103 : lp_F "LinePatcher$PatchWriter" 103 1 0 := ⟨"LinePatcher$Text", ff_T, 2, rfl, in_T, by decide, lp_in 101 (by decide +kernel) rfl, rfl⟩
theorem kf_W_52 : lp_F "LinePatcher$PatchWriter" 52 1 1 := ⟨"LinePatcher$Text", ff_T, 2, rfl, in_T, by decide, lp_in 108 (by decide +kernel) rfl, rfl⟩
theorem kp_W_52 : lp_Fp "LinePatcher$PatchWriter" 52 1 1 (.int) false := ⟨"LinePatcher$Text", ff_T, 2, ok_T, by decide, lp_in 108 (by decide +kernel) rfl, rfl, rfl, by decide +kernel, fun h => by cases h⟩
theorem kf_W_46 : lp_F "LinePatcher$PatchWriter" 46 2 0 := ⟨"LinePatcher$Comparison", ff_C, 4, rfl, in_C, by decide, lp_in 120 (by decide +kernel) rfl, rfl⟩
theorem kf_W_64 : lp_F "LinePatcher$PatchWriter" 64 2 1 := ⟨"LinePatcher$Comparison", ff_C, 4, rfl, in_C, by decide, lp_in 125 (by decide +kernel) rfl, rfl⟩
theorem kf_W_70 : lp_F "LinePatcher$PatchWriter" 70 3 0 := ⟨"LinePatcher$Range", ff_R, 4, rfl, in_R, by decide, lp_in 154 (by decide +kernel) rfl, rfl⟩
theorem kp_W_70 : lp_Fp "LinePatcher$PatchWriter" 70 3 0 (.int) false := ⟨"LinePatcher$Range", ff_R, 4, ok_R, by decide, lp_in 154 (by decide +kernel) rfl, rfl, rfl, by decide +kernel, fun h => by cases h⟩
theorem kf_W_72 : lp_F "LinePatcher$PatchWriter" 72 3 1 := ⟨"LinePatcher$Range", ff_R, 4, rfl, in_R, by decide, lp_in 158 (by decide +kernel) rfl, rfl⟩
theorem kp_W_72 : lp_Fp "LinePatcher$PatchWriter" 72 3 1 (.int) false := ⟨"LinePatcher$Range", ff_R, 4, ok_R, by decide, lp_in 158 (by decide +kernel) rfl, rfl, rfl, by decide +kernel, fun h => by cases h⟩
theorem kf_W_84 : lp_F "LinePatcher$PatchWriter" 84 3 2 := ⟨"LinePatcher$Range", ff_R, 4, rfl, in_R, by decide, lp_in 162 (by decide +kernel) rfl, rfl⟩
theorem kp_W_84 : lp_Fp "LinePatcher$PatchWriter" 84 3 2 (.int) false := ⟨"LinePatcher$Range", ff_R, 4, ok_R, by decide, lp_in 162 (by decide +kernel) rfl, rfl, rfl, by decide +kernel, fun h => by cases h⟩
theorem kf_W_86 : lp_F "LinePatcher$PatchWriter" 86 3 3 := ⟨"LinePatcher$Range", ff_R, 4, rfl, in_R, by decide, lp_in 166 (by decide +kernel) rfl, rfl⟩
theorem kp_W_86 : lp_Fp "LinePatcher$PatchWriter" 86 3 3 (.int) false := ⟨"LinePatcher$Range", ff_R, 4, ok_R, by decide, lp_in 166 (by decide +kernel) rfl, rfl, rfl, by decide +kernel, fun h => by cases h⟩
theorem kf_W_29 : lp_F "LinePatcher$PatchWriter" 29 6 1 := ⟨"LinePatcher$Paper", ff_A, 2, rfl, in_A, by decide, lp_in 224 (by decide +kernel) rfl, rfl⟩
theorem kp_W_29 : lp_Fp "LinePatcher$PatchWriter" 29 6 1 (.int) false := ⟨"LinePatcher$Paper", ff_A, 2, ok_A, by decide, lp_in 224 (by decide +kernel) rfl, rfl, rfl, by decide +kernel, fun h => by cases h⟩
theorem kf_W_17 : lp_F "LinePatcher$PatchWriter" 17 7 0 := ⟨"LinePatcher$PatchWriter", ff_W, 4, rfl, in_W, by decide, lp_in 240 (by decide +kernel) rfl, rfl⟩
theorem kp_W_17 : lp_Fp "LinePatcher$PatchWriter" 17 7 0 (.object "LinePatcher$Comparison") true := ⟨"LinePatcher$PatchWriter", ff_W, 4, ok_W, by decide, lp_in 240 (by decide +kernel) rfl, rfl, rfl, by decide +kernel, fun _ => rfl⟩
theorem kf_W_21 : lp_F "LinePatcher$PatchWriter" 21 7 1 := ⟨"LinePatcher$PatchWriter", ff_W, 4, rfl, in_W, by decide, lp_in 241 (by decide +kernel) rfl, rfl⟩
theorem kp_W_21 : lp_Fp "LinePatcher$PatchWriter" 21 7 1 (.object "LinePatcher$Paper") true := ⟨"LinePatcher$PatchWriter", ff_W, 4, ok_W, by decide, lp_in 241 (by decide +kernel) rfl, rfl, rfl, by decide +kernel, fun _ => rfl⟩
theorem kf_W_13 : lp_F "LinePatcher$PatchWriter" 13 7 2 := ⟨"LinePatcher$PatchWriter", ff_W, 4, rfl, in_W, by decide, lp_in 242 (by decide +kernel) rfl, rfl⟩
theorem kp_W_13 : lp_Fp "LinePatcher$PatchWriter" 13 7 2 (.array (.object "LinePatcher$Range")) true := ⟨"LinePatcher$PatchWriter", ff_W, 4, ok_W, by decide, lp_in 242 (by decide +kernel) rfl, rfl, rfl, by decide +kernel, fun _ => rfl⟩
theorem kf_W_35 : lp_F "LinePatcher$PatchWriter" 35 7 3 := ⟨"LinePatcher$PatchWriter", ff_W, 4, rfl, in_W, by decide, lp_in 243 (by decide +kernel) rfl, rfl⟩
theorem kp_W_35 : lp_Fp "LinePatcher$PatchWriter" 35 7 3 (.int) false := ⟨"LinePatcher$PatchWriter", ff_W, 4, ok_W, by decide, lp_in 243 (by decide +kernel) rfl, rfl, rfl, by decide +kernel, fun h => by cases h⟩
theorem kf_D_85 : lp_F "LinePatcher$PatchReader" 85 6 0 := ⟨"LinePatcher$Paper", ff_A, 2, rfl, in_A, by decide, lp_in 222 (by decide +kernel) rfl, rfl⟩
theorem kf_D_36 : lp_F "LinePatcher$PatchReader" 36 6 1 := ⟨"LinePatcher$Paper", ff_A, 2, rfl, in_A, by decide, lp_in 225 (by decide +kernel) rfl, rfl⟩
theorem kp_D_36 : lp_Fp "LinePatcher$PatchReader" 36 6 1 (.int) false := ⟨"LinePatcher$Paper", ff_A, 2, ok_A, by decide, lp_in 225 (by decide +kernel) rfl, rfl, rfl, by decide +kernel, fun h => by cases h⟩
theorem kf_D_18 : lp_F "LinePatcher$PatchReader" 18 8 0 := ⟨"LinePatcher$PatchReader", ff_D, 9, rfl, in_D, by decide, lp_in 259 (by decide +kernel) rfl, rfl⟩
theorem kp_D_18 : lp_Fp "LinePatcher$PatchReader" 18 8 0 (.object "LinePatcher$Paper") true := ⟨"LinePatcher$PatchReader", ff_D, 9, ok_D, by decide, lp_in 259 (by decide +kernel) rfl, rfl, rfl, by decide +kernel, fun _ => rfl⟩
theorem kf_D_32 : lp_F "LinePatcher$PatchReader" 32 8 1 := ⟨"LinePatcher$PatchReader", ff_D, 9, rfl, in_D, by decide, lp_in 260 (by decide +kernel) rfl, rfl⟩
theorem kp_D_32 : lp_Fp "LinePatcher$PatchReader" 32 8 1 (.int) false := ⟨"LinePatcher$PatchReader", ff_D, 9, ok_D, by decide, lp_in 260 (by decide +kernel) rfl, rfl, rfl, by decide +kernel, fun h => by cases h⟩
theorem kf_D_55 : lp_F "LinePatcher$PatchReader" 55 8 2 := ⟨"LinePatcher$PatchReader", ff_D, 9, rfl, in_D, by decide, lp_in 262 (by decide +kernel) rfl, rfl⟩
theorem kp_D_55 : lp_Fp "LinePatcher$PatchReader" 55 8 2 (.int) false := ⟨"LinePatcher$PatchReader", ff_D, 9, ok_D, by decide, lp_in 262 (by decide +kernel) rfl, rfl, rfl, by decide +kernel, fun h => by cases h⟩
theorem kf_D_58 : lp_F "LinePatcher$PatchReader" 58 8 3 := ⟨"LinePatcher$PatchReader", ff_D, 9, rfl, in_D, by decide, lp_in 263 (by decide +kernel) rfl, rfl⟩
theorem kp_D_58 : lp_Fp "LinePatcher$PatchReader" 58 8 3 (.int) false := ⟨"LinePatcher$PatchReader", ff_D, 9, ok_D, by decide, lp_in 263 (by decide +kernel) rfl, rfl, rfl, by decide +kernel, fun h => by cases h⟩
theorem kf_D_61 : lp_F "LinePatcher$PatchReader" 61 8 4 := ⟨"LinePatcher$PatchReader", ff_D, 9, rfl, in_D, by decide, lp_in 264 (by decide +kernel) rfl, rfl⟩
theorem kp_D_61 : lp_Fp "LinePatcher$PatchReader" 61 8 4 (.int) false := ⟨"LinePatcher$PatchReader", ff_D, 9, ok_D, by decide, lp_in 264 (by decide +kernel) rfl, rfl, rfl, by decide +kernel, fun h => by cases h⟩
theorem kf_D_11 : lp_F "LinePatcher$PatchReader" 11 8 5 := ⟨"LinePatcher$PatchReader", ff_D, 9, rfl, in_D, by decide, lp_in 265 (by decide +kernel) rfl, rfl⟩
theorem kp_D_11 : lp_Fp "LinePatcher$PatchReader" 11 8 5 (.array .int) true := ⟨"LinePatcher$PatchReader", ff_D, 9, ok_D, by decide, lp_in 265 (by decide +kernel) rfl, rfl, rfl, by decide +kernel, fun _ => rfl⟩
theorem kf_D_64 : lp_F "LinePatcher$PatchReader" 64 8 6 := ⟨"LinePatcher$PatchReader", ff_D, 9, rfl, in_D, by decide, lp_in 268 (by decide +kernel) rfl, rfl⟩
theorem kp_D_64 : lp_Fp "LinePatcher$PatchReader" 64 8 6 (.int) false := ⟨"LinePatcher$PatchReader", ff_D, 9, ok_D, by decide, lp_in 268 (by decide +kernel) rfl, rfl, rfl, by decide +kernel, fun h => by cases h⟩
theorem kf_D_15 : lp_F "LinePatcher$PatchReader" 15 8 7 := ⟨"LinePatcher$PatchReader", ff_D, 9, rfl, in_D, by decide, lp_in 269 (by decide +kernel) rfl, rfl⟩
theorem kp_D_15 : lp_Fp "LinePatcher$PatchReader" 15 8 7 (.array .int) true := ⟨"LinePatcher$PatchReader", ff_D, 9, ok_D, by decide, lp_in 269 (by decide +kernel) rfl, rfl, rfl, by decide +kernel, fun _ => rfl⟩
theorem kf_D_67 : lp_F "LinePatcher$PatchReader" 67 8 8 := ⟨"LinePatcher$PatchReader", ff_D, 9, rfl, in_D, by decide, lp_in 272 (by decide +kernel) rfl, rfl⟩
theorem kp_D_67 : lp_Fp "LinePatcher$PatchReader" 67 8 8 (.int) false := ⟨"LinePatcher$PatchReader", ff_D, 9, ok_D, by decide, lp_in 272 (by decide +kernel) rfl, rfl, rfl, by decide +kernel, fun h => by cases h⟩
theorem kf_F_83 : lp_F "LinePatcher$PatchFitter" 83 1 0 := ⟨"LinePatcher$Text", ff_T, 2, rfl, in_T, by decide, lp_in 99 (by decide +kernel) rfl, rfl⟩
theorem kf_F_22 : lp_F "LinePatcher$PatchFitter" 22 1 1 := ⟨"LinePatcher$Text", ff_T, 2, rfl, in_T, by decide, lp_in 103 (by decide +kernel) rfl, rfl⟩
theorem kp_F_22 : lp_Fp "LinePatcher$PatchFitter" 22 1 1 (.int) false := ⟨"LinePatcher$Text", ff_T, 2, ok_T, by decide, lp_in 103 (by decide +kernel) rfl, rfl, rfl, by decide +kernel, fun h => by cases h⟩
theorem kf_F_75 : lp_F "LinePatcher$PatchFitter" 75 8 2 := ⟨"LinePatcher$PatchReader", ff_D, 9, rfl, in_D, by decide, lp_in 261 (by decide +kernel) rfl, rfl⟩
theorem kp_F_75 : lp_Fp "LinePatcher$PatchFitter" 75 8 2 (.int) false := ⟨"LinePatcher$PatchReader", ff_D, 9, ok_D, by decide, lp_in 261 (by decide +kernel) rfl, rfl, rfl, by decide +kernel, fun h => by cases h⟩
theorem kf_F_86 : lp_F "LinePatcher$PatchFitter" 86 8 5 := ⟨"LinePatcher$PatchReader", ff_D, 9, rfl, in_D, by decide, lp_in 266 (by decide +kernel) rfl, rfl⟩
theorem kf_F_45 : lp_F "LinePatcher$PatchFitter" 45 8 6 := ⟨"LinePatcher$PatchReader", ff_D, 9, rfl, in_D, by decide, lp_in 267 (by decide +kernel) rfl, rfl⟩
theorem kp_F_45 : lp_Fp "LinePatcher$PatchFitter" 45 8 6 (.int) false := ⟨"LinePatcher$PatchReader", ff_D, 9, ok_D, by decide, lp_in 267 (by decide +kernel) rfl, rfl, rfl, by decide +kernel, fun h => by cases h⟩
theorem kf_F_59 : lp_F "LinePatcher$PatchFitter" 59 8 7 := ⟨"LinePatcher$PatchReader", ff_D, 9, rfl, in_D, by decide, lp_in 270 (by decide +kernel) rfl, rfl⟩
theorem kf_F_42 : lp_F "LinePatcher$PatchFitter" 42 8 8 := ⟨"LinePatcher$PatchReader", ff_D, 9, rfl, in_D, by decide, lp_in 271 (by decide +kernel) rfl, rfl⟩
theorem kp_F_42 : lp_Fp "LinePatcher$PatchFitter" 42 8 8 (.int) false := ⟨"LinePatcher$PatchReader", ff_D, 9, ok_D, by decide, lp_in 271 (by decide +kernel) rfl, rfl, rfl, by decide +kernel, fun h => by cases h⟩
theorem kf_F_18 : lp_F "LinePatcher$PatchFitter" 18 9 0 := ⟨"LinePatcher$PatchFitter", ff_F, 2, rfl, in_F, by decide, lp_in 300 (by decide +kernel) rfl, rfl⟩
theorem kp_F_18 : lp_Fp "LinePatcher$PatchFitter" 18 9 0 (.object "LinePatcher$PatchReader") true := ⟨"LinePatcher$PatchFitter", ff_F, 2, ok_F, by decide, lp_in 300 (by decide +kernel) rfl, rfl, rfl, by decide +kernel, fun _ => rfl⟩
theorem kf_F_12 : lp_F "LinePatcher$PatchFitter" 12 9 1 := ⟨"LinePatcher$PatchFitter", ff_F, 2, rfl, in_F, by decide, lp_in 301 (by decide +kernel) rfl, rfl⟩
theorem kp_F_12 : lp_Fp "LinePatcher$PatchFitter" 12 9 1 (.object "LinePatcher$Text") true := ⟨"LinePatcher$PatchFitter", ff_F, 2, ok_F, by decide, lp_in 301 (by decide +kernel) rfl, rfl, rfl, by decide +kernel, fun _ => rfl⟩
theorem kf_Q_20 : lp_F "LinePatcher$Part" 20 1 0 := ⟨"LinePatcher$Text", ff_T, 2, rfl, in_T, by decide, lp_in 96 (by decide +kernel) rfl, rfl⟩
theorem kf_Q_7 : lp_F "LinePatcher$Part" 7 10 0 := ⟨"LinePatcher$Part", ff_Q, 3, rfl, in_Q, by decide, lp_in 321 (by decide +kernel) rfl, rfl⟩
theorem kp_Q_7 : lp_Fp "LinePatcher$Part" 7 10 0 (.object "LinePatcher$Text") true := ⟨"LinePatcher$Part", ff_Q, 3, ok_Q, by decide, lp_in 321 (by decide +kernel) rfl, rfl, rfl, by decide +kernel, fun _ => rfl⟩
theorem kf_Q_17 : lp_F "LinePatcher$Part" 17 10 1 := ⟨"LinePatcher$Part", ff_Q, 3, rfl, in_Q, by decide, lp_in 323 (by decide +kernel) rfl, rfl⟩
theorem kp_Q_17 : lp_Fp "LinePatcher$Part" 17 10 1 (.int) false := ⟨"LinePatcher$Part", ff_Q, 3, ok_Q, by decide, lp_in 323 (by decide +kernel) rfl, rfl, rfl, by decide +kernel, fun h => by cases h⟩
theorem kf_Q_13 : lp_F "LinePatcher$Part" 13 10 2 := ⟨"LinePatcher$Part", ff_Q, 3, rfl, in_Q, by decide, lp_in 325 (by decide +kernel) rfl, rfl⟩
theorem kp_Q_13 : lp_Fp "LinePatcher$Part" 13 10 2 (.int) false := ⟨"LinePatcher$Part", ff_Q, 3, ok_Q, by decide, lp_in 325 (by decide +kernel) rfl, rfl, rfl, by decide +kernel, fun h => by cases h⟩
theorem kf_G_84 : lp_F "LinePatcher$Merger" 84 1 0 := ⟨"LinePatcher$Text", ff_T, 2, rfl, in_T, by decide, lp_in 95 (by decide +kernel) rfl, rfl⟩
theorem kf_G_67 : lp_F "LinePatcher$Merger" 67 1 1 := ⟨"LinePatcher$Text", ff_T, 2, rfl, in_T, by decide, lp_in 107 (by decide +kernel) rfl, rfl⟩
theorem kp_G_67 : lp_Fp "LinePatcher$Merger" 67 1 1 (.int) false := ⟨"LinePatcher$Text", ff_T, 2, ok_T, by decide, lp_in 107 (by decide +kernel) rfl, rfl, rfl, by decide +kernel, fun h => by cases h⟩
theorem kf_G_23 : lp_F "LinePatcher$Merger" 23 2 0 := ⟨"LinePatcher$Comparison", ff_C, 4, rfl, in_C, by decide, lp_in 117 (by decide +kernel) rfl, rfl⟩
theorem kf_G_34 : lp_F "LinePatcher$Merger" 34 2 1 := ⟨"LinePatcher$Comparison", ff_C, 4, rfl, in_C, by decide, lp_in 122 (by decide +kernel) rfl, rfl⟩
theorem kf_G_112 : lp_F "LinePatcher$Merger" 112 10 0 := ⟨"LinePatcher$Part", ff_Q, 3, rfl, in_Q, by decide, lp_in 322 (by decide +kernel) rfl, rfl⟩
theorem kf_G_63 : lp_F "LinePatcher$Merger" 63 10 1 := ⟨"LinePatcher$Part", ff_Q, 3, rfl, in_Q, by decide, lp_in 324 (by decide +kernel) rfl, rfl⟩
theorem kp_G_63 : lp_Fp "LinePatcher$Merger" 63 10 1 (.int) false := ⟨"LinePatcher$Part", ff_Q, 3, ok_Q, by decide, lp_in 324 (by decide +kernel) rfl, rfl, rfl, by decide +kernel, fun h => by cases h⟩
theorem kf_G_95 : lp_F "LinePatcher$Merger" 95 10 2 := ⟨"LinePatcher$Part", ff_Q, 3, rfl, in_Q, by decide, lp_in 326 (by decide +kernel) rfl, rfl⟩
theorem kp_G_95 : lp_Fp "LinePatcher$Merger" 95 10 2 (.int) false := ⟨"LinePatcher$Part", ff_Q, 3, ok_Q, by decide, lp_in 326 (by decide +kernel) rfl, rfl, rfl, by decide +kernel, fun h => by cases h⟩
theorem kf_G_49 : lp_F "LinePatcher$Merger" 49 11 0 := ⟨"LinePatcher$Merger", ff_G, 9, rfl, in_G, by decide, lp_in 336 (by decide +kernel) rfl, rfl⟩
theorem kp_G_49 : lp_Fp "LinePatcher$Merger" 49 11 0 (.object "LinePatcher$Shortest") true := ⟨"LinePatcher$Merger", ff_G, 9, ok_G, by decide, lp_in 336 (by decide +kernel) rfl, rfl, rfl, by decide +kernel, fun _ => rfl⟩
theorem kf_G_12 : lp_F "LinePatcher$Merger" 12 11 1 := ⟨"LinePatcher$Merger", ff_G, 9, rfl, in_G, by decide, lp_in 337 (by decide +kernel) rfl, rfl⟩
theorem kp_G_12 : lp_Fp "LinePatcher$Merger" 12 11 1 (.object "LinePatcher$Comparison") true := ⟨"LinePatcher$Merger", ff_G, 9, ok_G, by decide, lp_in 337 (by decide +kernel) rfl, rfl, rfl, by decide +kernel, fun _ => rfl⟩
theorem kf_G_18 : lp_F "LinePatcher$Merger" 18 11 2 := ⟨"LinePatcher$Merger", ff_G, 9, rfl, in_G, by decide, lp_in 338 (by decide +kernel) rfl, rfl⟩
theorem kp_G_18 : lp_Fp "LinePatcher$Merger" 18 11 2 (.object "LinePatcher$Comparison") true := ⟨"LinePatcher$Merger", ff_G, 9, ok_G, by decide, lp_in 338 (by decide +kernel) rfl, rfl, rfl, by decide +kernel, fun _ => rfl⟩
theorem kf_G_30 : lp_F "LinePatcher$Merger" 30 11 3 := ⟨"LinePatcher$Merger", ff_G, 9, rfl, in_G, by decide, lp_in 339 (by decide +kernel) rfl, rfl⟩
theorem kp_G_30 : lp_Fp "LinePatcher$Merger" 30 11 3 (.object "LinePatcher$Part") true := ⟨"LinePatcher$Merger", ff_G, 9, ok_G, by decide, lp_in 339 (by decide +kernel) rfl, rfl, rfl, by decide +kernel, fun _ => rfl⟩
theorem kf_G_37 : lp_F "LinePatcher$Merger" 37 11 4 := ⟨"LinePatcher$Merger", ff_G, 9, rfl, in_G, by decide, lp_in 340 (by decide +kernel) rfl, rfl⟩
theorem kp_G_37 : lp_Fp "LinePatcher$Merger" 37 11 4 (.object "LinePatcher$Part") true := ⟨"LinePatcher$Merger", ff_G, 9, ok_G, by decide, lp_in 340 (by decide +kernel) rfl, rfl, rfl, by decide +kernel, fun _ => rfl⟩
theorem kf_G_40 : lp_F "LinePatcher$Merger" 40 11 5 := ⟨"LinePatcher$Merger", ff_G, 9, rfl, in_G, by decide, lp_in 341 (by decide +kernel) rfl, rfl⟩
theorem kp_G_40 : lp_Fp "LinePatcher$Merger" 40 11 5 (.object "LinePatcher$Part") true := ⟨"LinePatcher$Merger", ff_G, 9, ok_G, by decide, lp_in 341 (by decide +kernel) rfl, rfl, rfl, by decide +kernel, fun _ => rfl⟩
theorem kf_G_46 : lp_F "LinePatcher$Merger" 46 11 6 := ⟨"LinePatcher$Merger", ff_G, 9, rfl, in_G, by decide, lp_in 342 (by decide +kernel) rfl, rfl⟩
theorem kp_G_46 : lp_Fp "LinePatcher$Merger" 46 11 6 (.object "LinePatcher$Text") true := ⟨"LinePatcher$Merger", ff_G, 9, ok_G, by decide, lp_in 342 (by decide +kernel) rfl, rfl, rfl, by decide +kernel, fun _ => rfl⟩
theorem kf_G_70 : lp_F "LinePatcher$Merger" 70 11 7 := ⟨"LinePatcher$Merger", ff_G, 9, rfl, in_G, by decide, lp_in 343 (by decide +kernel) rfl, rfl⟩
theorem kp_G_70 : lp_Fp "LinePatcher$Merger" 70 11 7 (.int) false := ⟨"LinePatcher$Merger", ff_G, 9, ok_G, by decide, lp_in 343 (by decide +kernel) rfl, rfl, rfl, by decide +kernel, fun h => by cases h⟩
theorem kf_G_73 : lp_F "LinePatcher$Merger" 73 11 8 := ⟨"LinePatcher$Merger", ff_G, 9, rfl, in_G, by decide, lp_in 344 (by decide +kernel) rfl, rfl⟩
theorem kp_G_73 : lp_Fp "LinePatcher$Merger" 73 11 8 (.int) false := ⟨"LinePatcher$Merger", ff_G, 9, ok_G, by decide, lp_in 344 (by decide +kernel) rfl, rfl, rfl, by decide +kernel, fun h => by cases h⟩
theorem kf_M_7 : lp_F "LinePatcherModel" 7 12 0 := ⟨"LinePatcherModel", ff_M, 38, rfl, in_M, by decide, lp_in 730 (by decide +kernel) rfl, rfl⟩
theorem kp_M_7 : lp_Fp "LinePatcherModel" 7 12 0 (.array .int) false := ⟨"LinePatcherModel", ff_M, 38, ok_M, by decide, lp_in 730 (by decide +kernel) rfl, rfl, rfl, by decide +kernel, fun h => by cases h⟩
theorem kf_M_13 : lp_F "LinePatcherModel" 13 12 1 := ⟨"LinePatcherModel", ff_M, 38, rfl, in_M, by decide, lp_in 731 (by decide +kernel) rfl, rfl⟩
theorem kp_M_13 : lp_Fp "LinePatcherModel" 13 12 1 (.array .int) false := ⟨"LinePatcherModel", ff_M, 38, ok_M, by decide, lp_in 731 (by decide +kernel) rfl, rfl, rfl, by decide +kernel, fun h => by cases h⟩
theorem kf_M_96 : lp_F "LinePatcherModel" 96 12 2 := ⟨"LinePatcherModel", ff_M, 38, rfl, in_M, by decide, lp_in 732 (by decide +kernel) rfl, rfl⟩
theorem kp_M_96 : lp_Fp "LinePatcherModel" 96 12 2 (.int) false := ⟨"LinePatcherModel", ff_M, 38, ok_M, by decide, lp_in 732 (by decide +kernel) rfl, rfl, rfl, by decide +kernel, fun h => by cases h⟩
theorem kf_M_100 : lp_F "LinePatcherModel" 100 12 3 := ⟨"LinePatcherModel", ff_M, 38, rfl, in_M, by decide, lp_in 733 (by decide +kernel) rfl, rfl⟩
theorem kp_M_100 : lp_Fp "LinePatcherModel" 100 12 3 (.int) false := ⟨"LinePatcherModel", ff_M, 38, ok_M, by decide, lp_in 733 (by decide +kernel) rfl, rfl, rfl, by decide +kernel, fun h => by cases h⟩
theorem kf_M_16 : lp_F "LinePatcherModel" 16 12 4 := ⟨"LinePatcherModel", ff_M, 38, rfl, in_M, by decide, lp_in 734 (by decide +kernel) rfl, rfl⟩
theorem kp_M_16 : lp_Fp "LinePatcherModel" 16 12 4 (.array .int) false := ⟨"LinePatcherModel", ff_M, 38, ok_M, by decide, lp_in 734 (by decide +kernel) rfl, rfl, rfl, by decide +kernel, fun h => by cases h⟩
theorem kf_M_19 : lp_F "LinePatcherModel" 19 12 5 := ⟨"LinePatcherModel", ff_M, 38, rfl, in_M, by decide, lp_in 735 (by decide +kernel) rfl, rfl⟩
theorem kp_M_19 : lp_Fp "LinePatcherModel" 19 12 5 (.array .int) false := ⟨"LinePatcherModel", ff_M, 38, ok_M, by decide, lp_in 735 (by decide +kernel) rfl, rfl, rfl, by decide +kernel, fun h => by cases h⟩
theorem kf_M_22 : lp_F "LinePatcherModel" 22 12 6 := ⟨"LinePatcherModel", ff_M, 38, rfl, in_M, by decide, lp_in 736 (by decide +kernel) rfl, rfl⟩
theorem kp_M_22 : lp_Fp "LinePatcherModel" 22 12 6 (.array .int) false := ⟨"LinePatcherModel", ff_M, 38, ok_M, by decide, lp_in 736 (by decide +kernel) rfl, rfl, rfl, by decide +kernel, fun h => by cases h⟩
theorem kf_M_25 : lp_F "LinePatcherModel" 25 12 7 := ⟨"LinePatcherModel", ff_M, 38, rfl, in_M, by decide, lp_in 737 (by decide +kernel) rfl, rfl⟩
theorem kp_M_25 : lp_Fp "LinePatcherModel" 25 12 7 (.array .int) false := ⟨"LinePatcherModel", ff_M, 38, ok_M, by decide, lp_in 737 (by decide +kernel) rfl, rfl, rfl, by decide +kernel, fun h => by cases h⟩
theorem kf_M_103 : lp_F "LinePatcherModel" 103 12 8 := ⟨"LinePatcherModel", ff_M, 38, rfl, in_M, by decide, lp_in 738 (by decide +kernel) rfl, rfl⟩
theorem kp_M_103 : lp_Fp "LinePatcherModel" 103 12 8 (.int) false := ⟨"LinePatcherModel", ff_M, 38, ok_M, by decide, lp_in 738 (by decide +kernel) rfl, rfl, rfl, by decide +kernel, fun h => by cases h⟩
theorem kf_M_28 : lp_F "LinePatcherModel" 28 12 9 := ⟨"LinePatcherModel", ff_M, 38, rfl, in_M, by decide, lp_in 739 (by decide +kernel) rfl, rfl⟩
theorem kp_M_28 : lp_Fp "LinePatcherModel" 28 12 9 (.array .int) false := ⟨"LinePatcherModel", ff_M, 38, ok_M, by decide, lp_in 739 (by decide +kernel) rfl, rfl, rfl, by decide +kernel, fun h => by cases h⟩
theorem kf_M_31 : lp_F "LinePatcherModel" 31 12 10 := ⟨"LinePatcherModel", ff_M, 38, rfl, in_M, by decide, lp_in 740 (by decide +kernel) rfl, rfl⟩
theorem kp_M_31 : lp_Fp "LinePatcherModel" 31 12 10 (.array .int) false := ⟨"LinePatcherModel", ff_M, 38, ok_M, by decide, lp_in 740 (by decide +kernel) rfl, rfl, rfl, by decide +kernel, fun h => by cases h⟩
theorem kf_M_34 : lp_F "LinePatcherModel" 34 12 11 := ⟨"LinePatcherModel", ff_M, 38, rfl, in_M, by decide, lp_in 741 (by decide +kernel) rfl, rfl⟩
theorem kp_M_34 : lp_Fp "LinePatcherModel" 34 12 11 (.array .int) false := ⟨"LinePatcherModel", ff_M, 38, ok_M, by decide, lp_in 741 (by decide +kernel) rfl, rfl, rfl, by decide +kernel, fun h => by cases h⟩
theorem kf_M_37 : lp_F "LinePatcherModel" 37 12 12 := ⟨"LinePatcherModel", ff_M, 38, rfl, in_M, by decide, lp_in 742 (by decide +kernel) rfl, rfl⟩
theorem kp_M_37 : lp_Fp "LinePatcherModel" 37 12 12 (.array .int) false := ⟨"LinePatcherModel", ff_M, 38, ok_M, by decide, lp_in 742 (by decide +kernel) rfl, rfl, rfl, by decide +kernel, fun h => by cases h⟩
theorem kf_M_40 : lp_F "LinePatcherModel" 40 12 13 := ⟨"LinePatcherModel", ff_M, 38, rfl, in_M, by decide, lp_in 743 (by decide +kernel) rfl, rfl⟩
theorem kp_M_40 : lp_Fp "LinePatcherModel" 40 12 13 (.array .int) false := ⟨"LinePatcherModel", ff_M, 38, ok_M, by decide, lp_in 743 (by decide +kernel) rfl, rfl, rfl, by decide +kernel, fun h => by cases h⟩
theorem kf_M_43 : lp_F "LinePatcherModel" 43 12 14 := ⟨"LinePatcherModel", ff_M, 38, rfl, in_M, by decide, lp_in 744 (by decide +kernel) rfl, rfl⟩
theorem kp_M_43 : lp_Fp "LinePatcherModel" 43 12 14 (.array .int) false := ⟨"LinePatcherModel", ff_M, 38, ok_M, by decide, lp_in 744 (by decide +kernel) rfl, rfl, rfl, by decide +kernel, fun h => by cases h⟩
theorem kf_M_135 : lp_F "LinePatcherModel" 135 12 15 := ⟨"LinePatcherModel", ff_M, 38, rfl, in_M, by decide, lp_in 745 (by decide +kernel) rfl, rfl⟩
theorem kp_M_135 : lp_Fp "LinePatcherModel" 135 12 15 (.boolean) false := ⟨"LinePatcherModel", ff_M, 38, ok_M, by decide, lp_in 745 (by decide +kernel) rfl, rfl, rfl, by decide +kernel, fun h => by cases h⟩
theorem kf_M_139 : lp_F "LinePatcherModel" 139 12 16 := ⟨"LinePatcherModel", ff_M, 38, rfl, in_M, by decide, lp_in 746 (by decide +kernel) rfl, rfl⟩
theorem kp_M_139 : lp_Fp "LinePatcherModel" 139 12 16 (.int) false := ⟨"LinePatcherModel", ff_M, 38, ok_M, by decide, lp_in 746 (by decide +kernel) rfl, rfl, rfl, by decide +kernel, fun h => by cases h⟩
theorem kf_M_142 : lp_F "LinePatcherModel" 142 12 17 := ⟨"LinePatcherModel", ff_M, 38, rfl, in_M, by decide, lp_in 747 (by decide +kernel) rfl, rfl⟩
theorem kp_M_142 : lp_Fp "LinePatcherModel" 142 12 17 (.int) false := ⟨"LinePatcherModel", ff_M, 38, ok_M, by decide, lp_in 747 (by decide +kernel) rfl, rfl, rfl, by decide +kernel, fun h => by cases h⟩
theorem kf_M_46 : lp_F "LinePatcherModel" 46 12 18 := ⟨"LinePatcherModel", ff_M, 38, rfl, in_M, by decide, lp_in 748 (by decide +kernel) rfl, rfl⟩
theorem kp_M_46 : lp_Fp "LinePatcherModel" 46 12 18 (.array .int) false := ⟨"LinePatcherModel", ff_M, 38, ok_M, by decide, lp_in 748 (by decide +kernel) rfl, rfl, rfl, by decide +kernel, fun h => by cases h⟩
theorem kf_M_49 : lp_F "LinePatcherModel" 49 12 19 := ⟨"LinePatcherModel", ff_M, 38, rfl, in_M, by decide, lp_in 749 (by decide +kernel) rfl, rfl⟩
theorem kp_M_49 : lp_Fp "LinePatcherModel" 49 12 19 (.array .int) false := ⟨"LinePatcherModel", ff_M, 38, ok_M, by decide, lp_in 749 (by decide +kernel) rfl, rfl, rfl, by decide +kernel, fun h => by cases h⟩
theorem kf_M_52 : lp_F "LinePatcherModel" 52 12 20 := ⟨"LinePatcherModel", ff_M, 38, rfl, in_M, by decide, lp_in 750 (by decide +kernel) rfl, rfl⟩
theorem kp_M_52 : lp_Fp "LinePatcherModel" 52 12 20 (.array .int) false := ⟨"LinePatcherModel", ff_M, 38, ok_M, by decide, lp_in 750 (by decide +kernel) rfl, rfl, rfl, by decide +kernel, fun h => by cases h⟩
theorem kf_M_145 : lp_F "LinePatcherModel" 145 12 21 := ⟨"LinePatcherModel", ff_M, 38, rfl, in_M, by decide, lp_in 751 (by decide +kernel) rfl, rfl⟩
theorem kp_M_145 : lp_Fp "LinePatcherModel" 145 12 21 (.int) false := ⟨"LinePatcherModel", ff_M, 38, ok_M, by decide, lp_in 751 (by decide +kernel) rfl, rfl, rfl, by decide +kernel, fun h => by cases h⟩
theorem kf_M_55 : lp_F "LinePatcherModel" 55 12 22 := ⟨"LinePatcherModel", ff_M, 38, rfl, in_M, by decide, lp_in 752 (by decide +kernel) rfl, rfl⟩
theorem kp_M_55 : lp_Fp "LinePatcherModel" 55 12 22 (.array .int) false := ⟨"LinePatcherModel", ff_M, 38, ok_M, by decide, lp_in 752 (by decide +kernel) rfl, rfl, rfl, by decide +kernel, fun h => by cases h⟩
theorem kf_M_58 : lp_F "LinePatcherModel" 58 12 23 := ⟨"LinePatcherModel", ff_M, 38, rfl, in_M, by decide, lp_in 753 (by decide +kernel) rfl, rfl⟩
theorem kp_M_58 : lp_Fp "LinePatcherModel" 58 12 23 (.array .int) false := ⟨"LinePatcherModel", ff_M, 38, ok_M, by decide, lp_in 753 (by decide +kernel) rfl, rfl, rfl, by decide +kernel, fun h => by cases h⟩
theorem kf_M_151 : lp_F "LinePatcherModel" 151 12 24 := ⟨"LinePatcherModel", ff_M, 38, rfl, in_M, by decide, lp_in 754 (by decide +kernel) rfl, rfl⟩
theorem kp_M_151 : lp_Fp "LinePatcherModel" 151 12 24 (.int) false := ⟨"LinePatcherModel", ff_M, 38, ok_M, by decide, lp_in 754 (by decide +kernel) rfl, rfl, rfl, by decide +kernel, fun h => by cases h⟩
theorem kf_M_61 : lp_F "LinePatcherModel" 61 12 25 := ⟨"LinePatcherModel", ff_M, 38, rfl, in_M, by decide, lp_in 755 (by decide +kernel) rfl, rfl⟩
theorem kp_M_61 : lp_Fp "LinePatcherModel" 61 12 25 (.array .int) false := ⟨"LinePatcherModel", ff_M, 38, ok_M, by decide, lp_in 755 (by decide +kernel) rfl, rfl, rfl, by decide +kernel, fun h => by cases h⟩
theorem kf_M_187 : lp_F "LinePatcherModel" 187 12 26 := ⟨"LinePatcherModel", ff_M, 38, rfl, in_M, by decide, lp_in 756 (by decide +kernel) rfl, rfl⟩
theorem kp_M_187 : lp_Fp "LinePatcherModel" 187 12 26 (.int) false := ⟨"LinePatcherModel", ff_M, 38, ok_M, by decide, lp_in 756 (by decide +kernel) rfl, rfl, rfl, by decide +kernel, fun h => by cases h⟩
theorem kf_M_64 : lp_F "LinePatcherModel" 64 12 27 := ⟨"LinePatcherModel", ff_M, 38, rfl, in_M, by decide, lp_in 757 (by decide +kernel) rfl, rfl⟩
theorem kp_M_64 : lp_Fp "LinePatcherModel" 64 12 27 (.array .int) false := ⟨"LinePatcherModel", ff_M, 38, ok_M, by decide, lp_in 757 (by decide +kernel) rfl, rfl, rfl, by decide +kernel, fun h => by cases h⟩
theorem kf_M_67 : lp_F "LinePatcherModel" 67 12 28 := ⟨"LinePatcherModel", ff_M, 38, rfl, in_M, by decide, lp_in 758 (by decide +kernel) rfl, rfl⟩
theorem kp_M_67 : lp_Fp "LinePatcherModel" 67 12 28 (.array .int) false := ⟨"LinePatcherModel", ff_M, 38, ok_M, by decide, lp_in 758 (by decide +kernel) rfl, rfl, rfl, by decide +kernel, fun h => by cases h⟩
theorem kf_M_70 : lp_F "LinePatcherModel" 70 12 29 := ⟨"LinePatcherModel", ff_M, 38, rfl, in_M, by decide, lp_in 759 (by decide +kernel) rfl, rfl⟩
theorem kp_M_70 : lp_Fp "LinePatcherModel" 70 12 29 (.array .int) false := ⟨"LinePatcherModel", ff_M, 38, ok_M, by decide, lp_in 759 (by decide +kernel) rfl, rfl, rfl, by decide +kernel, fun h => by cases h⟩
theorem kf_M_73 : lp_F "LinePatcherModel" 73 12 30 := ⟨"LinePatcherModel", ff_M, 38, rfl, in_M, by decide, lp_in 760 (by decide +kernel) rfl, rfl⟩
theorem kp_M_73 : lp_Fp "LinePatcherModel" 73 12 30 (.array .int) false := ⟨"LinePatcherModel", ff_M, 38, ok_M, by decide, lp_in 760 (by decide +kernel) rfl, rfl, rfl, by decide +kernel, fun h => by cases h⟩
theorem kf_M_76 : lp_F "LinePatcherModel" 76 12 31 := ⟨"LinePatcherModel", ff_M, 38, rfl, in_M, by decide, lp_in 761 (by decide +kernel) rfl, rfl⟩
theorem kp_M_76 : lp_Fp "LinePatcherModel" 76 12 31 (.array .int) false := ⟨"LinePatcherModel", ff_M, 38, ok_M, by decide, lp_in 761 (by decide +kernel) rfl, rfl, rfl, by decide +kernel, fun h => by cases h⟩
theorem kf_M_79 : lp_F "LinePatcherModel" 79 12 32 := ⟨"LinePatcherModel", ff_M, 38, rfl, in_M, by decide, lp_in 762 (by decide +kernel) rfl, rfl⟩
theorem kp_M_79 : lp_Fp "LinePatcherModel" 79 12 32 (.array .int) false := ⟨"LinePatcherModel", ff_M, 38, ok_M, by decide, lp_in 762 (by decide +kernel) rfl, rfl, rfl, by decide +kernel, fun h => by cases h⟩
theorem kf_M_174 : lp_F "LinePatcherModel" 174 12 33 := ⟨"LinePatcherModel", ff_M, 38, rfl, in_M, by decide, lp_in 763 (by decide +kernel) rfl, rfl⟩
theorem kp_M_174 : lp_Fp "LinePatcherModel" 174 12 33 (.int) false := ⟨"LinePatcherModel", ff_M, 38, ok_M, by decide, lp_in 763 (by decide +kernel) rfl, rfl, rfl, by decide +kernel, fun h => by cases h⟩
theorem kf_M_177 : lp_F "LinePatcherModel" 177 12 34 := ⟨"LinePatcherModel", ff_M, 38, rfl, in_M, by decide, lp_in 764 (by decide +kernel) rfl, rfl⟩
theorem kp_M_177 : lp_Fp "LinePatcherModel" 177 12 34 (.boolean) false := ⟨"LinePatcherModel", ff_M, 38, ok_M, by decide, lp_in 764 (by decide +kernel) rfl, rfl, rfl, by decide +kernel, fun h => by cases h⟩
theorem kf_M_199 : lp_F "LinePatcherModel" 199 12 35 := ⟨"LinePatcherModel", ff_M, 38, rfl, in_M, by decide, lp_in 765 (by decide +kernel) rfl, rfl⟩
theorem kp_M_199 : lp_Fp "LinePatcherModel" 199 12 35 (.int) false := ⟨"LinePatcherModel", ff_M, 38, ok_M, by decide, lp_in 765 (by decide +kernel) rfl, rfl, rfl, by decide +kernel, fun h => by cases h⟩
theorem kf_M_82 : lp_F "LinePatcherModel" 82 12 36 := ⟨"LinePatcherModel", ff_M, 38, rfl, in_M, by decide, lp_in 766 (by decide +kernel) rfl, rfl⟩
theorem kp_M_82 : lp_Fp "LinePatcherModel" 82 12 36 (.array .int) false := ⟨"LinePatcherModel", ff_M, 38, ok_M, by decide, lp_in 766 (by decide +kernel) rfl, rfl, rfl, by decide +kernel, fun h => by cases h⟩
theorem kf_M_85 : lp_F "LinePatcherModel" 85 12 37 := ⟨"LinePatcherModel", ff_M, 38, rfl, in_M, by decide, lp_in 767 (by decide +kernel) rfl, rfl⟩
theorem kp_M_85 : lp_Fp "LinePatcherModel" 85 12 37 (.array .int) false := ⟨"LinePatcherModel", ff_M, 38, ok_M, by decide, lp_in 767 (by decide +kernel) rfl, rfl, rfl, by decide +kernel, fun h => by cases h⟩
theorem kc_L_9 : lp_cI "LinePatcherLaw" 9 um_P_init 0 := ⟨k0_P_init, lp_in 74 (by decide +kernel) rfl, lp_in 75 (by decide +kernel) rfl, rfl, rfl⟩
theorem kc_P_31 : lp_cI "LinePatcher" 31 um_O_init 1 := ⟨k0_O_init, lp_in 185 (by decide +kernel) rfl, lp_in 186 (by decide +kernel) rfl, rfl, rfl⟩
theorem kc_P_47 : lp_cI "LinePatcher" 47 um_W_init 2 := ⟨k0_W_init, lp_in 234 (by decide +kernel) rfl, lp_in 235 (by decide +kernel) rfl, rfl, rfl⟩
theorem kc_P_56 : lp_cI "LinePatcher" 56 um_D_init 1 := ⟨k0_D_init, lp_in 255 (by decide +kernel) rfl, lp_in 256 (by decide +kernel) rfl, rfl, rfl⟩
theorem kc_P_65 : lp_cI "LinePatcher" 65 um_F_init 1 := ⟨k0_F_init, lp_in 294 (by decide +kernel) rfl, lp_in 295 (by decide +kernel) rfl, rfl, rfl⟩
theorem kc_P_74 : lp_cI "LinePatcher" 74 um_G_init 1 := ⟨k0_G_init, lp_in 309 (by decide +kernel) rfl, lp_in 310 (by decide +kernel) rfl, rfl, rfl⟩
theorem kc_G_27 : lp_cI "LinePatcher$Merger" 27 um_Q_init 1 := ⟨k0_Q_init, lp_in 317 (by decide +kernel) rfl, lp_in 318 (by decide +kernel) rfl, rfl, rfl⟩
theorem kc_L_15 : lp_cV "LinePatcherLaw" 15 um_P_add 3 := ⟨k0_P_add, lp_in 396 (by decide +kernel) rfl, lp_in 397 (by decide +kernel) rfl, lp_in 398 (by decide +kernel) rfl⟩
theorem kc_P_80 : lp_cS "LinePatcher" 80 um_P_isText 1 := ⟨k0_P_isText, lp_in 400 (by decide +kernel) rfl, lp_in 401 (by decide +kernel) rfl⟩
theorem kc_P_84 : lp_cS "LinePatcher" 84 um_P_areLetters 2 := ⟨k0_P_areLetters, lp_in 403 (by decide +kernel) rfl, lp_in 404 (by decide +kernel) rfl⟩
theorem kc_P_92 : lp_cS "LinePatcher" 92 um_P_byteOf 2 := ⟨k0_P_byteOf, lp_in 406 (by decide +kernel) rfl, lp_in 407 (by decide +kernel) rfl⟩
theorem kc_P_154 : lp_cS "LinePatcher" 154 um_P_isLetter 1 := ⟨k0_P_isLetter, lp_in 410 (by decide +kernel) rfl, lp_in 411 (by decide +kernel) rfl⟩
theorem kc_P_96 : lp_cV "LinePatcher" 96 um_T_append 1 := ⟨k0_T_append, lp_in 413 (by decide +kernel) rfl, lp_in 414 (by decide +kernel) rfl, lp_in 415 (by decide +kernel) rfl⟩
theorem kc_L_20 : lp_cV "LinePatcherLaw" 20 um_P_clear 1 := ⟨k0_P_clear, lp_in 417 (by decide +kernel) rfl, lp_in 418 (by decide +kernel) rfl, lp_in 419 (by decide +kernel) rfl⟩
theorem kc_L_25 : lp_cV "LinePatcherLaw" 25 um_P_size 1 := ⟨k0_P_size, lp_in 421 (by decide +kernel) rfl, lp_in 422 (by decide +kernel) rfl, lp_in 423 (by decide +kernel) rfl⟩
theorem kc_L_29 : lp_cV "LinePatcherLaw" 29 um_P_line 2 := ⟨k0_P_line, lp_in 425 (by decide +kernel) rfl, lp_in 426 (by decide +kernel) rfl, lp_in 427 (by decide +kernel) rfl⟩
theorem kc_L_34 : lp_cV "LinePatcherLaw" 34 um_P_compare 3 := ⟨k0_P_compare, lp_in 429 (by decide +kernel) rfl, lp_in 430 (by decide +kernel) rfl, lp_in 431 (by decide +kernel) rfl⟩
theorem kc_P_104 : lp_cV "LinePatcher" 104 um_T_hasOnlyLetters 0 := ⟨k0_T_hasOnlyLetters, lp_in 433 (by decide +kernel) rfl, lp_in 434 (by decide +kernel) rfl, lp_in 435 (by decide +kernel) rfl⟩
theorem kc_P_108 : lp_cV "LinePatcher" 108 um_C_begin 2 := ⟨k0_C_begin, lp_in 438 (by decide +kernel) rfl, lp_in 439 (by decide +kernel) rfl, lp_in 440 (by decide +kernel) rfl⟩
theorem kc_C_25 : lp_cV "LinePatcher$Comparison" 25 um_T_become 1 := ⟨k0_T_become, lp_in 442 (by decide +kernel) rfl, lp_in 443 (by decide +kernel) rfl, lp_in 444 (by decide +kernel) rfl⟩
theorem kc_T_23 : lp_cV "LinePatcher$Text" 23 um_T_appendPart 3 := ⟨k0_T_appendPart, lp_in 446 (by decide +kernel) rfl, lp_in 447 (by decide +kernel) rfl, lp_in 448 (by decide +kernel) rfl⟩
theorem kc_T_19 : lp_cV "LinePatcher$Text" 19 um_T_append 1 := ⟨k0_T_append, lp_in 450 (by decide +kernel) rfl, lp_in 414 (by decide +kernel) rfl, lp_in 415 (by decide +kernel) rfl⟩
theorem kc_P_112 : lp_cV "LinePatcher" 112 um_S_matchTexts 1 := ⟨k0_S_matchTexts, lp_in 451 (by decide +kernel) rfl, lp_in 452 (by decide +kernel) rfl, lp_in 453 (by decide +kernel) rfl⟩
theorem kc_S_38 : lp_cV "LinePatcher$Shortest" 38 um_R_span 4 := ⟨k0_R_span, lp_in 455 (by decide +kernel) rfl, lp_in 456 (by decide +kernel) rfl, lp_in 457 (by decide +kernel) rfl⟩
theorem kc_S_42 : lp_cV "LinePatcher$Shortest" 42 um_S_matchRange 2 := ⟨k0_S_matchRange, lp_in 459 (by decide +kernel) rfl, lp_in 460 (by decide +kernel) rfl, lp_in 461 (by decide +kernel) rfl⟩
theorem kc_S_46 : lp_cV "LinePatcher$Shortest" 46 um_S_countMost 2 := ⟨k0_S_countMost, lp_in 463 (by decide +kernel) rfl, lp_in 465 (by decide +kernel) rfl, lp_in 0 (by decide +kernel) rfl⟩
theorem kc_S_59 : lp_cV "LinePatcher$Shortest" 59 um_C_areEqual 2 := ⟨k0_C_areEqual, lp_in 467 (by decide +kernel) rfl, lp_in 468 (by decide +kernel) rfl, lp_in 469 (by decide +kernel) rfl⟩
theorem kc_S_63 : lp_cV "LinePatcher$Shortest" 63 um_C_pair 2 := ⟨k0_C_pair, lp_in 474 (by decide +kernel) rfl, lp_in 475 (by decide +kernel) rfl, lp_in 476 (by decide +kernel) rfl⟩
theorem kc_P_116 : lp_cV "LinePatcher" 116 um_O_matchTexts 1 := ⟨k0_O_matchTexts, lp_in 478 (by decide +kernel) rfl, lp_in 479 (by decide +kernel) rfl, lp_in 480 (by decide +kernel) rfl⟩
theorem kc_O_50 : lp_cV "LinePatcher$StandingOut" 50 um_O_keepForLater 4 := ⟨k0_O_keepForLater, lp_in 482 (by decide +kernel) rfl, lp_in 484 (by decide +kernel) rfl, lp_in 1 (by decide +kernel) rfl⟩
theorem kc_O_58 : lp_cV "LinePatcher$StandingOut" 58 um_R_span 4 := ⟨k0_R_span, lp_in 486 (by decide +kernel) rfl, lp_in 456 (by decide +kernel) rfl, lp_in 457 (by decide +kernel) rfl⟩
theorem kc_O_54 : lp_cV "LinePatcher$StandingOut" 54 um_O_matchRange 2 := ⟨k0_O_matchRange, lp_in 487 (by decide +kernel) rfl, lp_in 489 (by decide +kernel) rfl, lp_in 2 (by decide +kernel) rfl⟩
theorem kc_O_61 : lp_cV "LinePatcher$StandingOut" 61 um_O_matchBeginning 2 := ⟨k0_O_matchBeginning, lp_in 491 (by decide +kernel) rfl, lp_in 493 (by decide +kernel) rfl, lp_in 3 (by decide +kernel) rfl⟩
theorem kc_O_94 : lp_cV "LinePatcher$StandingOut" 94 um_C_areEqual 2 := ⟨k0_C_areEqual, lp_in 495 (by decide +kernel) rfl, lp_in 468 (by decide +kernel) rfl, lp_in 469 (by decide +kernel) rfl⟩
theorem kc_O_98 : lp_cV "LinePatcher$StandingOut" 98 um_C_pair 2 := ⟨k0_C_pair, lp_in 496 (by decide +kernel) rfl, lp_in 475 (by decide +kernel) rfl, lp_in 476 (by decide +kernel) rfl⟩
theorem kc_O_64 : lp_cV "LinePatcher$StandingOut" 64 um_O_matchEnd 2 := ⟨k0_O_matchEnd, lp_in 497 (by decide +kernel) rfl, lp_in 499 (by decide +kernel) rfl, lp_in 4 (by decide +kernel) rfl⟩
theorem kc_O_67 : lp_cV "LinePatcher$StandingOut" 67 um_O_findPairs 2 := ⟨k0_O_findPairs, lp_in 501 (by decide +kernel) rfl, lp_in 503 (by decide +kernel) rfl, lp_in 5 (by decide +kernel) rfl⟩
theorem kc_O_105 : lp_cV "LinePatcher$StandingOut" 105 um_T_onlyPlace 3 := ⟨k0_T_onlyPlace, lp_in 505 (by decide +kernel) rfl, lp_in 506 (by decide +kernel) rfl, lp_in 507 (by decide +kernel) rfl⟩
theorem kc_O_73 : lp_cV "LinePatcher$StandingOut" 73 um_S_matchRange 2 := ⟨k0_S_matchRange, lp_in 509 (by decide +kernel) rfl, lp_in 460 (by decide +kernel) rfl, lp_in 461 (by decide +kernel) rfl⟩
theorem kc_O_76 : lp_cV "LinePatcher$StandingOut" 76 um_O_rankPairs 0 := ⟨k0_O_rankPairs, lp_in 510 (by decide +kernel) rfl, lp_in 512 (by decide +kernel) rfl, lp_in 6 (by decide +kernel) rfl⟩
theorem kc_O_80 : lp_cV "LinePatcher$StandingOut" 80 um_O_matchAnchors 3 := ⟨k0_O_matchAnchors, lp_in 515 (by decide +kernel) rfl, lp_in 517 (by decide +kernel) rfl, lp_in 7 (by decide +kernel) rfl⟩
theorem kc_P_121 : lp_cV "LinePatcher" 121 um_C_linesChanged 0 := ⟨k0_C_linesChanged, lp_in 519 (by decide +kernel) rfl, lp_in 520 (by decide +kernel) rfl, lp_in 521 (by decide +kernel) rfl⟩
theorem kc_L_39 : lp_cV "LinePatcherLaw" 39 um_P_match 1 := ⟨k0_P_match, lp_in 523 (by decide +kernel) rfl, lp_in 524 (by decide +kernel) rfl, lp_in 525 (by decide +kernel) rfl⟩
theorem kc_P_125 : lp_cV "LinePatcher" 125 um_C_partnerOf 1 := ⟨k0_C_partnerOf, lp_in 527 (by decide +kernel) rfl, lp_in 528 (by decide +kernel) rfl, lp_in 529 (by decide +kernel) rfl⟩
theorem kc_L_43 : lp_cV "LinePatcherLaw" 43 um_P_write 1 := ⟨k0_P_write, lp_in 531 (by decide +kernel) rfl, lp_in 532 (by decide +kernel) rfl, lp_in 533 (by decide +kernel) rfl⟩
theorem kc_P_129 : lp_cV "LinePatcher" 129 um_W_writePatch 1 := ⟨k0_W_writePatch, lp_in 535 (by decide +kernel) rfl, lp_in 536 (by decide +kernel) rfl, lp_in 537 (by decide +kernel) rfl⟩
theorem kc_W_26 : lp_cV "LinePatcher$PatchWriter" 26 um_W_findChanges 0 := ⟨k0_W_findChanges, lp_in 539 (by decide +kernel) rfl, lp_in 541 (by decide +kernel) rfl, lp_in 8 (by decide +kernel) rfl⟩
theorem kc_W_57 : lp_cV "LinePatcher$PatchWriter" 57 um_C_partnerOf 1 := ⟨k0_C_partnerOf, lp_in 543 (by decide +kernel) rfl, lp_in 528 (by decide +kernel) rfl, lp_in 529 (by decide +kernel) rfl⟩
theorem kc_W_60 : lp_cV "LinePatcher$PatchWriter" 60 um_W_keepChange 4 := ⟨k0_W_keepChange, lp_in 544 (by decide +kernel) rfl, lp_in 546 (by decide +kernel) rfl, lp_in 9 (by decide +kernel) rfl⟩
theorem kc_W_67 : lp_cV "LinePatcher$PatchWriter" 67 um_R_span 4 := ⟨k0_R_span, lp_in 548 (by decide +kernel) rfl, lp_in 456 (by decide +kernel) rfl, lp_in 457 (by decide +kernel) rfl⟩
theorem kc_W_38 : lp_cV "LinePatcher$PatchWriter" 38 um_W_matchedBehind 1 := ⟨k0_W_matchedBehind, lp_in 549 (by decide +kernel) rfl, lp_in 551 (by decide +kernel) rfl, lp_in 10 (by decide +kernel) rfl⟩
theorem kc_W_42 : lp_cV "LinePatcher$PatchWriter" 42 um_W_writeHunk 3 := ⟨k0_W_writeHunk, lp_in 553 (by decide +kernel) rfl, lp_in 555 (by decide +kernel) rfl, lp_in 11 (by decide +kernel) rfl⟩
theorem kc_W_75 : lp_cV "LinePatcher$PatchWriter" 75 um_W_matchedBefore 1 := ⟨k0_W_matchedBefore, lp_in 557 (by decide +kernel) rfl, lp_in 559 (by decide +kernel) rfl, lp_in 12 (by decide +kernel) rfl⟩
theorem kc_W_89 : lp_cV "LinePatcher$PatchWriter" 89 um_W_writeHead 4 := ⟨k0_W_writeHead, lp_in 564 (by decide +kernel) rfl, lp_in 566 (by decide +kernel) rfl, lp_in 13 (by decide +kernel) rfl⟩
theorem kc_W_96 : lp_cV "LinePatcher$PatchWriter" 96 um_A_append 1 := ⟨k0_A_append, lp_in 568 (by decide +kernel) rfl, lp_in 569 (by decide +kernel) rfl, lp_in 570 (by decide +kernel) rfl⟩
theorem kc_W_100 : lp_cV "LinePatcher$PatchWriter" 100 um_A_appendNumber 1 := ⟨k0_A_appendNumber, lp_in 572 (by decide +kernel) rfl, lp_in 573 (by decide +kernel) rfl, lp_in 574 (by decide +kernel) rfl⟩
theorem kc_A_19 : lp_cV "LinePatcher$Paper" 19 um_A_append 1 := ⟨k0_A_append, lp_in 576 (by decide +kernel) rfl, lp_in 569 (by decide +kernel) rfl, lp_in 570 (by decide +kernel) rfl⟩
theorem kc_W_92 : lp_cV "LinePatcher$PatchWriter" 92 um_W_writeLines 4 := ⟨k0_W_writeLines, lp_in 577 (by decide +kernel) rfl, lp_in 579 (by decide +kernel) rfl, lp_in 14 (by decide +kernel) rfl⟩
theorem kc_W_107 : lp_cV "LinePatcher$PatchWriter" 107 um_A_appendLine 2 := ⟨k0_A_appendLine, lp_in 581 (by decide +kernel) rfl, lp_in 582 (by decide +kernel) rfl, lp_in 583 (by decide +kernel) rfl⟩
theorem kc_L_47 : lp_cV "LinePatcherLaw" 47 um_P_type 2 := ⟨k0_P_type, lp_in 585 (by decide +kernel) rfl, lp_in 586 (by decide +kernel) rfl, lp_in 587 (by decide +kernel) rfl⟩
theorem kc_P_135 : lp_cV "LinePatcher" 135 um_A_append 1 := ⟨k0_A_append, lp_in 589 (by decide +kernel) rfl, lp_in 569 (by decide +kernel) rfl, lp_in 570 (by decide +kernel) rfl⟩
theorem kc_L_52 : lp_cV "LinePatcherLaw" 52 um_P_wipe 0 := ⟨k0_P_wipe, lp_in 590 (by decide +kernel) rfl, lp_in 591 (by decide +kernel) rfl, lp_in 592 (by decide +kernel) rfl⟩
theorem kc_L_57 : lp_cV "LinePatcherLaw" 57 um_P_character 1 := ⟨k0_P_character, lp_in 594 (by decide +kernel) rfl, lp_in 595 (by decide +kernel) rfl, lp_in 596 (by decide +kernel) rfl⟩
theorem kc_L_61 : lp_cV "LinePatcherLaw" 61 um_P_read 0 := ⟨k0_P_read, lp_in 598 (by decide +kernel) rfl, lp_in 599 (by decide +kernel) rfl, lp_in 600 (by decide +kernel) rfl⟩
theorem kc_P_139 : lp_cV "LinePatcher" 139 um_D_placeOfFailure 0 := ⟨k0_D_placeOfFailure, lp_in 602 (by decide +kernel) rfl, lp_in 603 (by decide +kernel) rfl, lp_in 604 (by decide +kernel) rfl⟩
theorem kc_D_22 : lp_cV "LinePatcher$PatchReader" 22 um_D_goToBeginning 0 := ⟨k0_D_goToBeginning, lp_in 606 (by decide +kernel) rfl, lp_in 607 (by decide +kernel) rfl, lp_in 608 (by decide +kernel) rfl⟩
theorem kc_D_25 : lp_cV "LinePatcher$PatchReader" 25 um_D_hasMore 0 := ⟨k0_D_hasMore, lp_in 610 (by decide +kernel) rfl, lp_in 611 (by decide +kernel) rfl, lp_in 612 (by decide +kernel) rfl⟩
theorem kc_D_29 : lp_cV "LinePatcher$PatchReader" 29 um_D_takeHunk 0 := ⟨k0_D_takeHunk, lp_in 614 (by decide +kernel) rfl, lp_in 615 (by decide +kernel) rfl, lp_in 616 (by decide +kernel) rfl⟩
theorem kc_D_41 : lp_cV "LinePatcher$PatchReader" 41 um_D_takeHead 0 := ⟨k0_D_takeHead, lp_in 618 (by decide +kernel) rfl, lp_in 620 (by decide +kernel) rfl, lp_in 15 (by decide +kernel) rfl⟩
theorem kc_D_47 : lp_cV "LinePatcher$PatchReader" 47 um_D_takeSign 1 := ⟨k0_D_takeSign, lp_in 622 (by decide +kernel) rfl, lp_in 624 (by decide +kernel) rfl, lp_in 16 (by decide +kernel) rfl⟩
theorem kc_D_76 : lp_cV "LinePatcher$PatchReader" 76 um_D_here 0 := ⟨k0_D_here, lp_in 626 (by decide +kernel) rfl, lp_in 628 (by decide +kernel) rfl, lp_in 17 (by decide +kernel) rfl⟩
theorem kc_D_51 : lp_cV "LinePatcher$PatchReader" 51 um_D_takeNumber 0 := ⟨k0_D_takeNumber, lp_in 630 (by decide +kernel) rfl, lp_in 632 (by decide +kernel) rfl, lp_in 18 (by decide +kernel) rfl⟩
theorem kc_D_82 : lp_cS "LinePatcher$PatchReader" 82 um_D_isDigit 1 := ⟨k0_D_isDigit, lp_in 634 (by decide +kernel) rfl, lp_in 635 (by decide +kernel) rfl⟩
theorem kc_D_44 : lp_cV "LinePatcher$PatchReader" 44 um_D_takeLines 0 := ⟨k0_D_takeLines, lp_in 637 (by decide +kernel) rfl, lp_in 639 (by decide +kernel) rfl, lp_in 19 (by decide +kernel) rfl⟩
theorem kc_D_70 : lp_cV "LinePatcher$PatchReader" 70 um_D_hasLinesDue 0 := ⟨k0_D_hasLinesDue, lp_in 641 (by decide +kernel) rfl, lp_in 643 (by decide +kernel) rfl, lp_in 20 (by decide +kernel) rfl⟩
theorem kc_D_73 : lp_cV "LinePatcher$PatchReader" 73 um_D_takeLine 0 := ⟨k0_D_takeLine, lp_in 645 (by decide +kernel) rfl, lp_in 647 (by decide +kernel) rfl, lp_in 21 (by decide +kernel) rfl⟩
theorem kc_L_65 : lp_cV "LinePatcherLaw" 65 um_P_apply 1 := ⟨k0_P_apply, lp_in 650 (by decide +kernel) rfl, lp_in 651 (by decide +kernel) rfl, lp_in 652 (by decide +kernel) rfl⟩
theorem kc_P_142 : lp_cV "LinePatcher" 142 um_F_patch 1 := ⟨k0_F_patch, lp_in 654 (by decide +kernel) rfl, lp_in 655 (by decide +kernel) rfl, lp_in 656 (by decide +kernel) rfl⟩
theorem kc_F_26 : lp_cV "LinePatcher$PatchFitter" 26 um_D_goToBeginning 0 := ⟨k0_D_goToBeginning, lp_in 658 (by decide +kernel) rfl, lp_in 607 (by decide +kernel) rfl, lp_in 608 (by decide +kernel) rfl⟩
theorem kc_F_31 : lp_cV "LinePatcher$PatchFitter" 31 um_D_hasMore 0 := ⟨k0_D_hasMore, lp_in 659 (by decide +kernel) rfl, lp_in 611 (by decide +kernel) rfl, lp_in 612 (by decide +kernel) rfl⟩
theorem kc_F_35 : lp_cV "LinePatcher$PatchFitter" 35 um_D_takeHunk 0 := ⟨k0_D_takeHunk, lp_in 660 (by decide +kernel) rfl, lp_in 615 (by decide +kernel) rfl, lp_in 616 (by decide +kernel) rfl⟩
theorem kc_F_38 : lp_cV "LinePatcher$PatchFitter" 38 um_F_nearestPlace 2 := ⟨k0_F_nearestPlace, lp_in 661 (by decide +kernel) rfl, lp_in 663 (by decide +kernel) rfl, lp_in 22 (by decide +kernel) rfl⟩
theorem kc_F_67 : lp_cV "LinePatcher$PatchFitter" 67 um_F_distance 1 := ⟨k0_F_distance, lp_in 665 (by decide +kernel) rfl, lp_in 667 (by decide +kernel) rfl, lp_in 23 (by decide +kernel) rfl⟩
theorem kc_F_71 : lp_cV "LinePatcher$PatchFitter" 71 um_F_fitsAt 2 := ⟨k0_F_fitsAt, lp_in 672 (by decide +kernel) rfl, lp_in 674 (by decide +kernel) rfl, lp_in 24 (by decide +kernel) rfl⟩
theorem kc_F_48 : lp_cV "LinePatcher$PatchFitter" 48 um_T_appendPart 3 := ⟨k0_T_appendPart, lp_in 676 (by decide +kernel) rfl, lp_in 447 (by decide +kernel) rfl, lp_in 448 (by decide +kernel) rfl⟩
theorem kc_F_52 : lp_cV "LinePatcher$PatchFitter" 52 um_F_appendNewLines 0 := ⟨k0_F_appendNewLines, lp_in 677 (by decide +kernel) rfl, lp_in 679 (by decide +kernel) rfl, lp_in 25 (by decide +kernel) rfl⟩
theorem kc_F_63 : lp_cV "LinePatcher$PatchFitter" 63 um_T_append 1 := ⟨k0_T_append, lp_in 681 (by decide +kernel) rfl, lp_in 414 (by decide +kernel) rfl, lp_in 415 (by decide +kernel) rfl⟩
theorem kc_F_55 : lp_cV "LinePatcher$PatchFitter" 55 um_T_become 1 := ⟨k0_T_become, lp_in 682 (by decide +kernel) rfl, lp_in 443 (by decide +kernel) rfl, lp_in 444 (by decide +kernel) rfl⟩
theorem kc_L_69 : lp_cV "LinePatcherLaw" 69 um_P_merge 0 := ⟨k0_P_merge, lp_in 683 (by decide +kernel) rfl, lp_in 684 (by decide +kernel) rfl, lp_in 685 (by decide +kernel) rfl⟩
theorem kc_P_146 : lp_cV "LinePatcher" 146 um_G_bringTogether 3 := ⟨k0_G_bringTogether, lp_in 687 (by decide +kernel) rfl, lp_in 688 (by decide +kernel) rfl, lp_in 689 (by decide +kernel) rfl⟩
theorem kc_G_53 : lp_cV "LinePatcher$Merger" 53 um_C_begin 2 := ⟨k0_C_begin, lp_in 691 (by decide +kernel) rfl, lp_in 439 (by decide +kernel) rfl, lp_in 440 (by decide +kernel) rfl⟩
theorem kc_G_57 : lp_cV "LinePatcher$Merger" 57 um_S_matchTexts 1 := ⟨k0_S_matchTexts, lp_in 692 (by decide +kernel) rfl, lp_in 452 (by decide +kernel) rfl, lp_in 453 (by decide +kernel) rfl⟩
theorem kc_G_76 : lp_cV "LinePatcher$Merger" 76 um_C_partnerOf 1 := ⟨k0_C_partnerOf, lp_in 693 (by decide +kernel) rfl, lp_in 528 (by decide +kernel) rfl, lp_in 529 (by decide +kernel) rfl⟩
theorem kc_G_80 : lp_cV "LinePatcher$Merger" 80 um_G_settleParts 3 := ⟨k0_G_settleParts, lp_in 694 (by decide +kernel) rfl, lp_in 696 (by decide +kernel) rfl, lp_in 26 (by decide +kernel) rfl⟩
theorem kc_G_98 : lp_cV "LinePatcher$Merger" 98 um_Q_isEqualTo 1 := ⟨k0_Q_isEqualTo, lp_in 698 (by decide +kernel) rfl, lp_in 699 (by decide +kernel) rfl, lp_in 700 (by decide +kernel) rfl⟩
theorem kc_G_102 : lp_cV "LinePatcher$Merger" 102 um_G_putPart 1 := ⟨k0_G_putPart, lp_in 702 (by decide +kernel) rfl, lp_in 704 (by decide +kernel) rfl, lp_in 27 (by decide +kernel) rfl⟩
theorem kc_G_88 : lp_cV "LinePatcher$Merger" 88 um_G_put 1 := ⟨k0_G_put, lp_in 706 (by decide +kernel) rfl, lp_in 708 (by decide +kernel) rfl, lp_in 28 (by decide +kernel) rfl⟩
theorem kc_G_115 : lp_cV "LinePatcher$Merger" 115 um_T_append 1 := ⟨k0_T_append, lp_in 710 (by decide +kernel) rfl, lp_in 414 (by decide +kernel) rfl, lp_in 415 (by decide +kernel) rfl⟩
theorem kc_G_106 : lp_cV "LinePatcher$Merger" 106 um_G_putConflict 0 := ⟨k0_G_putConflict, lp_in 711 (by decide +kernel) rfl, lp_in 713 (by decide +kernel) rfl, lp_in 29 (by decide +kernel) rfl⟩
theorem kc_G_109 : lp_cV "LinePatcher$Merger" 109 um_Q_skipFirmLine 0 := ⟨k0_Q_skipFirmLine, lp_in 715 (by decide +kernel) rfl, lp_in 716 (by decide +kernel) rfl, lp_in 717 (by decide +kernel) rfl⟩
theorem kc_P_150 : lp_cV "LinePatcher" 150 um_G_handOver 1 := ⟨k0_G_handOver, lp_in 719 (by decide +kernel) rfl, lp_in 720 (by decide +kernel) rfl, lp_in 721 (by decide +kernel) rfl⟩
theorem kc_G_92 : lp_cV "LinePatcher$Merger" 92 um_T_become 1 := ⟨k0_T_become, lp_in 723 (by decide +kernel) rfl, lp_in 443 (by decide +kernel) rfl, lp_in 444 (by decide +kernel) rfl⟩
theorem kc_L_12 : lp_cI "LinePatcherLaw" 12 um_M_init 0 := ⟨k0_M_init, lp_in 726 (by decide +kernel) rfl, lp_in 727 (by decide +kernel) rfl, rfl, rfl⟩
theorem kc_L_19 : lp_cV "LinePatcherLaw" 19 um_M_add 3 := ⟨k0_M_add, lp_in 845 (by decide +kernel) rfl, lp_in 846 (by decide +kernel) rfl, lp_in 847 (by decide +kernel) rfl⟩
theorem kc_M_88 : lp_cS "LinePatcherModel" 88 um_M_within 3 := ⟨k0_M_within, lp_in 849 (by decide +kernel) rfl, lp_in 850 (by decide +kernel) rfl⟩
theorem kc_M_92 : lp_cS "LinePatcherModel" 92 um_M_isLetter 1 := ⟨k0_M_isLetter, lp_in 852 (by decide +kernel) rfl, lp_in 853 (by decide +kernel) rfl⟩
theorem kc_L_24 : lp_cV "LinePatcherLaw" 24 um_M_clear 1 := ⟨k0_M_clear, lp_in 855 (by decide +kernel) rfl, lp_in 856 (by decide +kernel) rfl, lp_in 857 (by decide +kernel) rfl⟩
theorem kc_L_28 : lp_cV "LinePatcherLaw" 28 um_M_size 1 := ⟨k0_M_size, lp_in 859 (by decide +kernel) rfl, lp_in 860 (by decide +kernel) rfl, lp_in 861 (by decide +kernel) rfl⟩
theorem kc_L_33 : lp_cV "LinePatcherLaw" 33 um_M_line 2 := ⟨k0_M_line, lp_in 863 (by decide +kernel) rfl, lp_in 864 (by decide +kernel) rfl, lp_in 865 (by decide +kernel) rfl⟩
theorem kc_L_38 : lp_cV "LinePatcherLaw" 38 um_M_compare 3 := ⟨k0_M_compare, lp_in 867 (by decide +kernel) rfl, lp_in 868 (by decide +kernel) rfl, lp_in 869 (by decide +kernel) rfl⟩
theorem kc_M_124 : lp_cV "LinePatcherModel" 124 um_M_allLetters 1 := ⟨k0_M_allLetters, lp_in 871 (by decide +kernel) rfl, lp_in 873 (by decide +kernel) rfl, lp_in 30 (by decide +kernel) rfl⟩
theorem kc_M_127 : lp_cV "LinePatcherModel" 127 um_M_take 2 := ⟨k0_M_take, lp_in 875 (by decide +kernel) rfl, lp_in 877 (by decide +kernel) rfl, lp_in 31 (by decide +kernel) rfl⟩
theorem kc_M_131 : lp_cV "LinePatcherModel" 131 um_M_compareAll 1 := ⟨k0_M_compareAll, lp_in 879 (by decide +kernel) rfl, lp_in 881 (by decide +kernel) rfl, lp_in 32 (by decide +kernel) rfl⟩
theorem kc_M_114 : lp_cV "LinePatcherModel" 114 um_M_compareShort 4 := ⟨k0_M_compareShort, lp_in 883 (by decide +kernel) rfl, lp_in 885 (by decide +kernel) rfl, lp_in 33 (by decide +kernel) rfl⟩
theorem kc_M_118 : lp_cV "LinePatcherModel" 118 um_M_await 4 := ⟨k0_M_await, lp_in 887 (by decide +kernel) rfl, lp_in 889 (by decide +kernel) rfl, lp_in 34 (by decide +kernel) rfl⟩
theorem kc_M_121 : lp_cV "LinePatcherModel" 121 um_M_standOut 4 := ⟨k0_M_standOut, lp_in 891 (by decide +kernel) rfl, lp_in 893 (by decide +kernel) rfl, lp_in 35 (by decide +kernel) rfl⟩
theorem kc_M_110 : lp_cV "LinePatcherModel" 110 um_M_findRanks 4 := ⟨k0_M_findRanks, lp_in 895 (by decide +kernel) rfl, lp_in 897 (by decide +kernel) rfl, lp_in 36 (by decide +kernel) rfl⟩
theorem kc_M_106 : lp_cV "LinePatcherModel" 106 um_M_partner 5 := ⟨k0_M_partner, lp_in 899 (by decide +kernel) rfl, lp_in 901 (by decide +kernel) rfl, lp_in 37 (by decide +kernel) rfl⟩
theorem kc_L_42 : lp_cV "LinePatcherLaw" 42 um_M_match 1 := ⟨k0_M_match, lp_in 903 (by decide +kernel) rfl, lp_in 904 (by decide +kernel) rfl, lp_in 905 (by decide +kernel) rfl⟩
theorem kc_L_46 : lp_cV "LinePatcherLaw" 46 um_M_write 1 := ⟨k0_M_write, lp_in 907 (by decide +kernel) rfl, lp_in 908 (by decide +kernel) rfl, lp_in 909 (by decide +kernel) rfl⟩
theorem kc_M_164 : lp_cV "LinePatcherModel" 164 um_M_row 0 := ⟨k0_M_row, lp_in 911 (by decide +kernel) rfl, lp_in 913 (by decide +kernel) rfl, lp_in 38 (by decide +kernel) rfl⟩
theorem kc_M_148 : lp_cV "LinePatcherModel" 148 um_M_op 2 := ⟨k0_M_op, lp_in 915 (by decide +kernel) rfl, lp_in 917 (by decide +kernel) rfl, lp_in 39 (by decide +kernel) rfl⟩
theorem kc_M_167 : lp_cV "LinePatcherModel" 167 um_M_lastOf 2 := ⟨k0_M_lastOf, lp_in 919 (by decide +kernel) rfl, lp_in 921 (by decide +kernel) rfl, lp_in 40 (by decide +kernel) rfl⟩
theorem kc_M_171 : lp_cV "LinePatcherModel" 171 um_M_putHunk 2 := ⟨k0_M_putHunk, lp_in 923 (by decide +kernel) rfl, lp_in 925 (by decide +kernel) rfl, lp_in 41 (by decide +kernel) rfl⟩
theorem kc_M_154 : lp_cV "LinePatcherModel" 154 um_M_put 1 := ⟨k0_M_put, lp_in 927 (by decide +kernel) rfl, lp_in 929 (by decide +kernel) rfl, lp_in 42 (by decide +kernel) rfl⟩
theorem kc_M_157 : lp_cV "LinePatcherModel" 157 um_M_others 3 := ⟨k0_M_others, lp_in 931 (by decide +kernel) rfl, lp_in 933 (by decide +kernel) rfl, lp_in 43 (by decide +kernel) rfl⟩
theorem kc_M_161 : lp_cV "LinePatcherModel" 161 um_M_putNumber 1 := ⟨k0_M_putNumber, lp_in 935 (by decide +kernel) rfl, lp_in 937 (by decide +kernel) rfl, lp_in 44 (by decide +kernel) rfl⟩
theorem kc_L_51 : lp_cV "LinePatcherLaw" 51 um_M_type 2 := ⟨k0_M_type, lp_in 939 (by decide +kernel) rfl, lp_in 940 (by decide +kernel) rfl, lp_in 941 (by decide +kernel) rfl⟩
theorem kc_L_56 : lp_cV "LinePatcherLaw" 56 um_M_wipe 0 := ⟨k0_M_wipe, lp_in 943 (by decide +kernel) rfl, lp_in 944 (by decide +kernel) rfl, lp_in 945 (by decide +kernel) rfl⟩
theorem kc_L_60 : lp_cV "LinePatcherLaw" 60 um_M_character 1 := ⟨k0_M_character, lp_in 947 (by decide +kernel) rfl, lp_in 948 (by decide +kernel) rfl, lp_in 949 (by decide +kernel) rfl⟩
theorem kc_L_64 : lp_cV "LinePatcherLaw" 64 um_M_read 0 := ⟨k0_M_read, lp_in 951 (by decide +kernel) rfl, lp_in 952 (by decide +kernel) rfl, lp_in 953 (by decide +kernel) rfl⟩
theorem kc_M_193 : lp_cV "LinePatcherModel" 193 um_M_readHunk 0 := ⟨k0_M_readHunk, lp_in 955 (by decide +kernel) rfl, lp_in 957 (by decide +kernel) rfl, lp_in 45 (by decide +kernel) rfl⟩
theorem kc_M_184 : lp_cV "LinePatcherModel" 184 um_M_want 1 := ⟨k0_M_want, lp_in 959 (by decide +kernel) rfl, lp_in 961 (by decide +kernel) rfl, lp_in 46 (by decide +kernel) rfl⟩
theorem kc_M_180 : lp_cV "LinePatcherModel" 180 um_M_look 0 := ⟨k0_M_look, lp_in 963 (by decide +kernel) rfl, lp_in 965 (by decide +kernel) rfl, lp_in 47 (by decide +kernel) rfl⟩
theorem kc_M_190 : lp_cV "LinePatcherModel" 190 um_M_number 0 := ⟨k0_M_number, lp_in 967 (by decide +kernel) rfl, lp_in 969 (by decide +kernel) rfl, lp_in 48 (by decide +kernel) rfl⟩
theorem kc_L_68 : lp_cV "LinePatcherLaw" 68 um_M_apply 1 := ⟨k0_M_apply, lp_in 971 (by decide +kernel) rfl, lp_in 972 (by decide +kernel) rfl, lp_in 973 (by decide +kernel) rfl⟩
theorem kc_M_202 : lp_cV "LinePatcherModel" 202 um_M_read 0 := ⟨k0_M_read, lp_in 975 (by decide +kernel) rfl, lp_in 952 (by decide +kernel) rfl, lp_in 953 (by decide +kernel) rfl⟩
theorem kc_M_205 : lp_cV "LinePatcherModel" 205 um_M_fit 3 := ⟨k0_M_fit, lp_in 976 (by decide +kernel) rfl, lp_in 978 (by decide +kernel) rfl, lp_in 49 (by decide +kernel) rfl⟩
theorem kc_M_196 : lp_cV "LinePatcherModel" 196 um_M_stands 3 := ⟨k0_M_stands, lp_in 980 (by decide +kernel) rfl, lp_in 982 (by decide +kernel) rfl, lp_in 50 (by decide +kernel) rfl⟩
theorem kc_M_208 : lp_cV "LinePatcherModel" 208 um_M_emit 1 := ⟨k0_M_emit, lp_in 984 (by decide +kernel) rfl, lp_in 986 (by decide +kernel) rfl, lp_in 51 (by decide +kernel) rfl⟩
theorem kc_M_211 : lp_cV "LinePatcherModel" 211 um_M_keep 1 := ⟨k0_M_keep, lp_in 988 (by decide +kernel) rfl, lp_in 990 (by decide +kernel) rfl, lp_in 52 (by decide +kernel) rfl⟩
theorem kc_L_72 : lp_cV "LinePatcherLaw" 72 um_M_merge 0 := ⟨k0_M_merge, lp_in 992 (by decide +kernel) rfl, lp_in 993 (by decide +kernel) rfl, lp_in 994 (by decide +kernel) rfl⟩
theorem kc_M_224 : lp_cV "LinePatcherModel" 224 um_M_mergeParts 6 := ⟨k0_M_mergeParts, lp_in 996 (by decide +kernel) rfl, lp_in 998 (by decide +kernel) rfl, lp_in 53 (by decide +kernel) rfl⟩
theorem kc_M_217 : lp_cV "LinePatcherModel" 217 um_M_sameParts 6 := ⟨k0_M_sameParts, lp_in 1000 (by decide +kernel) rfl, lp_in 1002 (by decide +kernel) rfl, lp_in 54 (by decide +kernel) rfl⟩
theorem kc_M_221 : lp_cV "LinePatcherModel" 221 um_M_emitPart 3 := ⟨k0_M_emitPart, lp_in 1004 (by decide +kernel) rfl, lp_in 1006 (by decide +kernel) rfl, lp_in 55 (by decide +kernel) rfl⟩
theorem kc_M_214 : lp_cV "LinePatcherModel" 214 um_M_tryEmit 1 := ⟨k0_M_tryEmit, lp_in 1008 (by decide +kernel) rfl, lp_in 1010 (by decide +kernel) rfl, lp_in 56 (by decide +kernel) rfl⟩
theorem kc_P_17 : lp_cIN "LinePatcher" 17 um_C_init 0 := ⟨k0_C_init, ⟨"LinePatcher", List.mem_of_getElem? (i := 0) rfl⟩, lp_in 85 (by decide +kernel) rfl, rfl, rfl⟩
theorem kc_C_11 : lp_cIN "LinePatcher$Comparison" 11 um_T_init 0 := ⟨k0_T_init, ⟨"LinePatcher", List.mem_of_getElem? (i := 1) rfl⟩, lp_in 91 (by decide +kernel) rfl, rfl, rfl⟩
theorem kc_P_24 : lp_cIN "LinePatcher" 24 um_S_init 0 := ⟨k0_S_init, ⟨"LinePatcher", List.mem_of_getElem? (i := 2) rfl⟩, lp_in 140 (by decide +kernel) rfl, rfl, rfl⟩
theorem kc_S_18 : lp_cIN "LinePatcher$Shortest" 18 um_R_init 0 := ⟨k0_R_init, ⟨"LinePatcher", List.mem_of_getElem? (i := 3) rfl⟩, lp_in 148 (by decide +kernel) rfl, rfl, rfl⟩
theorem kc_O_31 : lp_cIN "LinePatcher$StandingOut" 31 um_R_init 0 := ⟨k0_R_init, ⟨"LinePatcher", List.mem_of_getElem? (i := 4) rfl⟩, lp_in 148 (by decide +kernel) rfl, rfl, rfl⟩
theorem kc_P_40 : lp_cIN "LinePatcher" 40 um_A_init 0 := ⟨k0_A_init, ⟨"LinePatcher", List.mem_of_getElem? (i := 5) rfl⟩, lp_in 217 (by decide +kernel) rfl, rfl, rfl⟩
theorem kc_W_25 : lp_cIN "LinePatcher$PatchWriter" 25 um_R_init 0 := ⟨k0_R_init, ⟨"LinePatcher", List.mem_of_getElem? (i := 6) rfl⟩, lp_in 148 (by decide +kernel) rfl, rfl, rfl⟩
theorem kc_F_11 : lp_cIN "LinePatcher$PatchFitter" 11 um_T_init 0 := ⟨k0_T_init, ⟨"LinePatcher", List.mem_of_getElem? (i := 7) rfl⟩, lp_in 91 (by decide +kernel) rfl, rfl, rfl⟩
theorem kc_G_11 : lp_cIN "LinePatcher$Merger" 11 um_C_init 0 := ⟨k0_C_init, ⟨"LinePatcher", List.mem_of_getElem? (i := 8) rfl⟩, lp_in 85 (by decide +kernel) rfl, rfl, rfl⟩
theorem kc_G_45 : lp_cIN "LinePatcher$Merger" 45 um_T_init 0 := ⟨k0_T_init, ⟨"LinePatcher", List.mem_of_getElem? (i := 9) rfl⟩, lp_in 91 (by decide +kernel) rfl, rfl, rfl⟩
theorem kc_P_79 : lp_cIN "LinePatcher" 79 um_T_init 0 := ⟨k0_T_init, ⟨"LinePatcher", List.mem_of_getElem? (i := 10) rfl⟩, lp_in 91 (by decide +kernel) rfl, rfl, rfl⟩
theorem kc_T_27 : lp_cSN "LinePatcher$Text" 27 um_P_isLetter 1 := ⟨k0_P_isLetter, ⟨"LinePatcher", List.mem_of_getElem? (i := 11) rfl⟩, lp_in 411 (by decide +kernel) rfl⟩
theorem kc_D_79 : lp_cSN "LinePatcher$PatchReader" 79 um_P_isLetter 1 := ⟨k0_P_isLetter, ⟨"LinePatcher", List.mem_of_getElem? (i := 12) rfl⟩, lp_in 411 (by decide +kernel) rfl⟩
theorem km_S_67 : lp_cM "LinePatcher$Shortest" 67 Lib.Math.max.name Lib.Math.max.code 2 := ⟨lp_in 471 (by decide +kernel) rfl, lp_in 472 (by decide +kernel) rfl, lp_in 71 (by decide +kernel) rfl, lp_in 473 (by decide +kernel) rfl⟩
theorem km_O_109 : lp_cM "LinePatcher$StandingOut" 109 Lib.Math.max.name Lib.Math.max.code 2 := ⟨lp_in 514 (by decide +kernel) rfl, lp_in 472 (by decide +kernel) rfl, lp_in 71 (by decide +kernel) rfl, lp_in 473 (by decide +kernel) rfl⟩
theorem km_W_78 : lp_cM "LinePatcher$PatchWriter" 78 Lib.Math.min.name Lib.Math.min.code 2 := ⟨lp_in 561 (by decide +kernel) rfl, lp_in 562 (by decide +kernel) rfl, lp_in 71 (by decide +kernel) rfl, lp_in 563 (by decide +kernel) rfl⟩
theorem km_F_78 : lp_cM "LinePatcher$PatchFitter" 78 Lib.Math.abs.name Lib.Math.abs.code 1 := ⟨lp_in 669 (by decide +kernel) rfl, lp_in 670 (by decide +kernel) rfl, lp_in 71 (by decide +kernel) rfl, lp_in 671 (by decide +kernel) rfl⟩
theorem kl_P_157 : Cond.constantLong "LinePatcher" 157 255 ∈ lp_W := lp_in 409 (by decide +kernel) rfl
theorem kl_L_13 : Cond.constantLong "LinePatcherLaw" 13 4294967295 ∈ lp_W := lp_in 1012 (by decide +kernel) rfl
theorem ko_i : Cond.instanceMethod objectInit ∈ lp_W := lp_in 78 (by decide +kernel) rfl
theorem ko_c : Cond.code objectInit ⟨#[0xb1]⟩ 1 none ∈ lp_W := lp_in 79 (by decide +kernel) rfl
theorem ko_P_1 : Cond.methodLink "LinePatcher" 1 objectInit ∈ lp_W := lp_in 77 (by decide +kernel) rfl
theorem ko_C_3 : Cond.methodLink "LinePatcher$Comparison" 3 objectInit ∈ lp_W := lp_in 87 (by decide +kernel) rfl
theorem ko_T_3 : Cond.methodLink "LinePatcher$Text" 3 objectInit ∈ lp_W := lp_in 93 (by decide +kernel) rfl
theorem ko_S_3 : Cond.methodLink "LinePatcher$Shortest" 3 objectInit ∈ lp_W := lp_in 142 (by decide +kernel) rfl
theorem ko_R_1 : Cond.methodLink "LinePatcher$Range" 1 objectInit ∈ lp_W := lp_in 150 (by decide +kernel) rfl
theorem ko_O_3 : Cond.methodLink "LinePatcher$StandingOut" 3 objectInit ∈ lp_W := lp_in 188 (by decide +kernel) rfl
theorem ko_A_3 : Cond.methodLink "LinePatcher$Paper" 3 objectInit ∈ lp_W := lp_in 219 (by decide +kernel) rfl
theorem ko_W_3 : Cond.methodLink "LinePatcher$PatchWriter" 3 objectInit ∈ lp_W := lp_in 237 (by decide +kernel) rfl
theorem ko_D_3 : Cond.methodLink "LinePatcher$PatchReader" 3 objectInit ∈ lp_W := lp_in 258 (by decide +kernel) rfl
theorem ko_F_3 : Cond.methodLink "LinePatcher$PatchFitter" 3 objectInit ∈ lp_W := lp_in 297 (by decide +kernel) rfl
theorem ko_G_3 : Cond.methodLink "LinePatcher$Merger" 3 objectInit ∈ lp_W := lp_in 312 (by decide +kernel) rfl
theorem ko_Q_1 : Cond.methodLink "LinePatcher$Part" 1 objectInit ∈ lp_W := lp_in 320 (by decide +kernel) rfl
theorem ko_M_1 : Cond.methodLink "LinePatcherModel" 1 objectInit ∈ lp_W := lp_in 729 (by decide +kernel) rfl
theorem kk_L_7 : Cond.classLink "LinePatcherLaw" 7 "LinePatcher" ∈ lp_W := lp_in 72 (by decide +kernel) rfl
theorem kk_P_9 : Cond.classLink "LinePatcher" 9 "LinePatcher$Text" ∈ lp_W := lp_in 80 (by decide +kernel) rfl
theorem kk_P_15 : Cond.classLink "LinePatcher" 15 "LinePatcher$Comparison" ∈ lp_W := lp_in 82 (by decide +kernel) rfl
theorem kk_C_9 : Cond.classLink "LinePatcher$Comparison" 9 "LinePatcher$Text" ∈ lp_W := lp_in 88 (by decide +kernel) rfl
theorem kk_P_22 : Cond.classLink "LinePatcher" 22 "LinePatcher$Shortest" ∈ lp_W := lp_in 137 (by decide +kernel) rfl
theorem kk_S_9 : Cond.classLink "LinePatcher$Shortest" 9 "[[I" ∈ lp_W := lp_in 143 (by decide +kernel) rfl
theorem kk_S_16 : Cond.classLink "LinePatcher$Shortest" 16 "LinePatcher$Range" ∈ lp_W := lp_in 145 (by decide +kernel) rfl
theorem kk_P_29 : Cond.classLink "LinePatcher" 29 "LinePatcher$StandingOut" ∈ lp_W := lp_in 183 (by decide +kernel) rfl
theorem kk_O_11 : Cond.classLink "LinePatcher$StandingOut" 11 "LinePatcher$Range" ∈ lp_W := lp_in 189 (by decide +kernel) rfl
theorem kk_P_38 : Cond.classLink "LinePatcher" 38 "LinePatcher$Paper" ∈ lp_W := lp_in 214 (by decide +kernel) rfl
theorem kk_P_45 : Cond.classLink "LinePatcher" 45 "LinePatcher$PatchWriter" ∈ lp_W := lp_in 232 (by decide +kernel) rfl
theorem kk_W_11 : Cond.classLink "LinePatcher$PatchWriter" 11 "LinePatcher$Range" ∈ lp_W := lp_in 238 (by decide +kernel) rfl
theorem kk_P_54 : Cond.classLink "LinePatcher" 54 "LinePatcher$PatchReader" ∈ lp_W := lp_in 253 (by decide +kernel) rfl
theorem kk_P_63 : Cond.classLink "LinePatcher" 63 "LinePatcher$PatchFitter" ∈ lp_W := lp_in 292 (by decide +kernel) rfl
theorem kk_F_9 : Cond.classLink "LinePatcher$PatchFitter" 9 "LinePatcher$Text" ∈ lp_W := lp_in 298 (by decide +kernel) rfl
theorem kk_P_72 : Cond.classLink "LinePatcher" 72 "LinePatcher$Merger" ∈ lp_W := lp_in 307 (by decide +kernel) rfl
theorem kk_G_9 : Cond.classLink "LinePatcher$Merger" 9 "LinePatcher$Comparison" ∈ lp_W := lp_in 313 (by decide +kernel) rfl
theorem kk_G_21 : Cond.classLink "LinePatcher$Merger" 21 "LinePatcher$Part" ∈ lp_W := lp_in 315 (by decide +kernel) rfl
theorem kk_G_43 : Cond.classLink "LinePatcher$Merger" 43 "LinePatcher$Text" ∈ lp_W := lp_in 334 (by decide +kernel) rfl
theorem kk_L_10 : Cond.classLink "LinePatcherLaw" 10 "LinePatcherModel" ∈ lp_W := lp_in 724 (by decide +kernel) rfl
theorem ki_P : Cond.instantiable "LinePatcher" 10 ∈ lp_W := lp_in 73 (by decide +kernel) rfl
theorem kn_P : Cond.initialized "LinePatcher" ∈ lp_W := lp_in 58 (by decide +kernel) rfl
theorem ki_T : Cond.instantiable "LinePatcher$Text" 2 ∈ lp_W := lp_in 89 (by decide +kernel) rfl
theorem kn_T : Cond.initialized "LinePatcher$Text" ∈ lp_W := lp_in 60 (by decide +kernel) rfl
theorem ki_C : Cond.instantiable "LinePatcher$Comparison" 4 ∈ lp_W := lp_in 83 (by decide +kernel) rfl
theorem kn_C : Cond.initialized "LinePatcher$Comparison" ∈ lp_W := lp_in 59 (by decide +kernel) rfl
theorem ki_R : Cond.instantiable "LinePatcher$Range" 4 ∈ lp_W := lp_in 146 (by decide +kernel) rfl
theorem kn_R : Cond.initialized "LinePatcher$Range" ∈ lp_W := lp_in 62 (by decide +kernel) rfl
theorem ki_S : Cond.instantiable "LinePatcher$Shortest" 2 ∈ lp_W := lp_in 138 (by decide +kernel) rfl
theorem kn_S : Cond.initialized "LinePatcher$Shortest" ∈ lp_W := lp_in 61 (by decide +kernel) rfl
theorem ki_O : Cond.instantiable "LinePatcher$StandingOut" 7 ∈ lp_W := lp_in 184 (by decide +kernel) rfl
theorem kn_O : Cond.initialized "LinePatcher$StandingOut" ∈ lp_W := lp_in 63 (by decide +kernel) rfl
theorem ki_A : Cond.instantiable "LinePatcher$Paper" 2 ∈ lp_W := lp_in 215 (by decide +kernel) rfl
theorem kn_A : Cond.initialized "LinePatcher$Paper" ∈ lp_W := lp_in 64 (by decide +kernel) rfl
theorem ki_W : Cond.instantiable "LinePatcher$PatchWriter" 4 ∈ lp_W := lp_in 233 (by decide +kernel) rfl
theorem kn_W : Cond.initialized "LinePatcher$PatchWriter" ∈ lp_W := lp_in 65 (by decide +kernel) rfl
theorem ki_D : Cond.instantiable "LinePatcher$PatchReader" 9 ∈ lp_W := lp_in 254 (by decide +kernel) rfl
theorem kn_D : Cond.initialized "LinePatcher$PatchReader" ∈ lp_W := lp_in 66 (by decide +kernel) rfl
theorem ki_F : Cond.instantiable "LinePatcher$PatchFitter" 2 ∈ lp_W := lp_in 293 (by decide +kernel) rfl
theorem kn_F : Cond.initialized "LinePatcher$PatchFitter" ∈ lp_W := lp_in 67 (by decide +kernel) rfl
theorem ki_Q : Cond.instantiable "LinePatcher$Part" 3 ∈ lp_W := lp_in 316 (by decide +kernel) rfl
theorem kn_Q : Cond.initialized "LinePatcher$Part" ∈ lp_W := lp_in 69 (by decide +kernel) rfl
theorem ki_G : Cond.instantiable "LinePatcher$Merger" 9 ∈ lp_W := lp_in 308 (by decide +kernel) rfl
theorem kn_G : Cond.initialized "LinePatcher$Merger" ∈ lp_W := lp_in 68 (by decide +kernel) rfl
theorem ki_M : Cond.instantiable "LinePatcherModel" 38 ∈ lp_W := lp_in 725 (by decide +kernel) rfl
theorem kn_M : Cond.initialized "LinePatcherModel" ∈ lp_W := lp_in 70 (by decide +kernel) rfl
theorem ka_int : Cond.arrayClass .int ∈ lp_W := lp_in 115 (by decide +kernel) rfl

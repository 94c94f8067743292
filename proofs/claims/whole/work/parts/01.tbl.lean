-- ===== PART A: goes FIRST, ahead of the names: the tables' words, and 'selects' of the private methods out of them =====
/-- a private method of a class that the tables say can be made, by its rows of tables_1 -/
def lw_okq (q : MethodName × Nat) : Prop := (q.1.cls ≠ "java/lang/invoke/MethodHandle" ∧ q.1.cls ≠ "java/lang/invoke/VarHandle") ∧ Cond.instantiable q.1.cls q.2 ∈ tables_1 ∧ Cond.privateMethod q.1 ∈ tables_1 ∧ Cond.instanceMethod q.1 ∈ tables_1
theorem lw_p0 : lw_okq (⟨"LinePatcher$Shortest", "countMost", "(LLinePatcher$Comparison;LLinePatcher$Range;)V"⟩, 2) := ⟨⟨by decide +kernel, by decide +kernel⟩, List.mem_of_getElem? (i := 81) (by decide +kernel), List.mem_of_getElem? (i := 407) (by decide +kernel), List.mem_of_getElem? (i := 408) (by decide +kernel)⟩
theorem lw_p1 : lw_okq (⟨"LinePatcher$StandingOut", "keepForLater", "(IIII)V"⟩, 7) := ⟨⟨by decide +kernel, by decide +kernel⟩, List.mem_of_getElem? (i := 127) (by decide +kernel), List.mem_of_getElem? (i := 426) (by decide +kernel), List.mem_of_getElem? (i := 427) (by decide +kernel)⟩
theorem lw_p2 : lw_okq (⟨"LinePatcher$StandingOut", "matchRange", "(LLinePatcher$Comparison;LLinePatcher$Range;)V"⟩, 7) := ⟨⟨by decide +kernel, by decide +kernel⟩, List.mem_of_getElem? (i := 127) (by decide +kernel), List.mem_of_getElem? (i := 431) (by decide +kernel), List.mem_of_getElem? (i := 432) (by decide +kernel)⟩
theorem lw_p3 : lw_okq (⟨"LinePatcher$StandingOut", "matchBeginning", "(LLinePatcher$Comparison;LLinePatcher$Range;)V"⟩, 7) := ⟨⟨by decide +kernel, by decide +kernel⟩, List.mem_of_getElem? (i := 127) (by decide +kernel), List.mem_of_getElem? (i := 435) (by decide +kernel), List.mem_of_getElem? (i := 436) (by decide +kernel)⟩
theorem lw_p4 : lw_okq (⟨"LinePatcher$StandingOut", "matchEnd", "(LLinePatcher$Comparison;LLinePatcher$Range;)V"⟩, 7) := ⟨⟨by decide +kernel, by decide +kernel⟩, List.mem_of_getElem? (i := 127) (by decide +kernel), List.mem_of_getElem? (i := 441) (by decide +kernel), List.mem_of_getElem? (i := 442) (by decide +kernel)⟩
theorem lw_p5 : lw_okq (⟨"LinePatcher$StandingOut", "findPairs", "(LLinePatcher$Comparison;LLinePatcher$Range;)V"⟩, 7) := ⟨⟨by decide +kernel, by decide +kernel⟩, List.mem_of_getElem? (i := 127) (by decide +kernel), List.mem_of_getElem? (i := 445) (by decide +kernel), List.mem_of_getElem? (i := 446) (by decide +kernel)⟩
theorem lw_p6 : lw_okq (⟨"LinePatcher$StandingOut", "rankPairs", "()I"⟩, 7) := ⟨⟨by decide +kernel, by decide +kernel⟩, List.mem_of_getElem? (i := 127) (by decide +kernel), List.mem_of_getElem? (i := 454) (by decide +kernel), List.mem_of_getElem? (i := 455) (by decide +kernel)⟩
theorem lw_p7 : lw_okq (⟨"LinePatcher$StandingOut", "matchAnchors", "(LLinePatcher$Comparison;LLinePatcher$Range;I)V"⟩, 7) := ⟨⟨by decide +kernel, by decide +kernel⟩, List.mem_of_getElem? (i := 127) (by decide +kernel), List.mem_of_getElem? (i := 459) (by decide +kernel), List.mem_of_getElem? (i := 460) (by decide +kernel)⟩
theorem lw_p8 : lw_okq (⟨"LinePatcher$PatchWriter", "findChanges", "()V"⟩, 4) := ⟨⟨by decide +kernel, by decide +kernel⟩, List.mem_of_getElem? (i := 176) (by decide +kernel), List.mem_of_getElem? (i := 483) (by decide +kernel), List.mem_of_getElem? (i := 484) (by decide +kernel)⟩
theorem lw_p9 : lw_okq (⟨"LinePatcher$PatchWriter", "keepChange", "(IIII)V"⟩, 4) := ⟨⟨by decide +kernel, by decide +kernel⟩, List.mem_of_getElem? (i := 176) (by decide +kernel), List.mem_of_getElem? (i := 488) (by decide +kernel), List.mem_of_getElem? (i := 489) (by decide +kernel)⟩
theorem lw_p10 : lw_okq (⟨"LinePatcher$PatchWriter", "matchedBehind", "(I)I"⟩, 4) := ⟨⟨by decide +kernel, by decide +kernel⟩, List.mem_of_getElem? (i := 176) (by decide +kernel), List.mem_of_getElem? (i := 493) (by decide +kernel), List.mem_of_getElem? (i := 494) (by decide +kernel)⟩
theorem lw_p11 : lw_okq (⟨"LinePatcher$PatchWriter", "writeHunk", "(III)V"⟩, 4) := ⟨⟨by decide +kernel, by decide +kernel⟩, List.mem_of_getElem? (i := 176) (by decide +kernel), List.mem_of_getElem? (i := 497) (by decide +kernel), List.mem_of_getElem? (i := 498) (by decide +kernel)⟩
theorem lw_p12 : lw_okq (⟨"LinePatcher$PatchWriter", "matchedBefore", "(I)I"⟩, 4) := ⟨⟨by decide +kernel, by decide +kernel⟩, List.mem_of_getElem? (i := 176) (by decide +kernel), List.mem_of_getElem? (i := 501) (by decide +kernel), List.mem_of_getElem? (i := 502) (by decide +kernel)⟩
theorem lw_p13 : lw_okq (⟨"LinePatcher$PatchWriter", "writeHead", "(IIII)V"⟩, 4) := ⟨⟨by decide +kernel, by decide +kernel⟩, List.mem_of_getElem? (i := 176) (by decide +kernel), List.mem_of_getElem? (i := 508) (by decide +kernel), List.mem_of_getElem? (i := 509) (by decide +kernel)⟩
theorem lw_p14 : lw_okq (⟨"LinePatcher$PatchWriter", "writeLines", "(ILLinePatcher$Text;II)V"⟩, 4) := ⟨⟨by decide +kernel, by decide +kernel⟩, List.mem_of_getElem? (i := 176) (by decide +kernel), List.mem_of_getElem? (i := 521) (by decide +kernel), List.mem_of_getElem? (i := 522) (by decide +kernel)⟩
theorem lw_p15 : lw_okq (⟨"LinePatcher$PatchReader", "takeHead", "()Z"⟩, 9) := ⟨⟨by decide +kernel, by decide +kernel⟩, List.mem_of_getElem? (i := 197) (by decide +kernel), List.mem_of_getElem? (i := 562) (by decide +kernel), List.mem_of_getElem? (i := 563) (by decide +kernel)⟩
def lw_privs_1 : List (MethodName × Nat) := [(⟨"LinePatcher$Shortest", "countMost", "(LLinePatcher$Comparison;LLinePatcher$Range;)V"⟩, 2), (⟨"LinePatcher$StandingOut", "keepForLater", "(IIII)V"⟩, 7), (⟨"LinePatcher$StandingOut", "matchRange", "(LLinePatcher$Comparison;LLinePatcher$Range;)V"⟩, 7), (⟨"LinePatcher$StandingOut", "matchBeginning", "(LLinePatcher$Comparison;LLinePatcher$Range;)V"⟩, 7), (⟨"LinePatcher$StandingOut", "matchEnd", "(LLinePatcher$Comparison;LLinePatcher$Range;)V"⟩, 7), (⟨"LinePatcher$StandingOut", "findPairs", "(LLinePatcher$Comparison;LLinePatcher$Range;)V"⟩, 7), (⟨"LinePatcher$StandingOut", "rankPairs", "()I"⟩, 7), (⟨"LinePatcher$StandingOut", "matchAnchors", "(LLinePatcher$Comparison;LLinePatcher$Range;I)V"⟩, 7), (⟨"LinePatcher$PatchWriter", "findChanges", "()V"⟩, 4), (⟨"LinePatcher$PatchWriter", "keepChange", "(IIII)V"⟩, 4), (⟨"LinePatcher$PatchWriter", "matchedBehind", "(I)I"⟩, 4), (⟨"LinePatcher$PatchWriter", "writeHunk", "(III)V"⟩, 4), (⟨"LinePatcher$PatchWriter", "matchedBefore", "(I)I"⟩, 4), (⟨"LinePatcher$PatchWriter", "writeHead", "(IIII)V"⟩, 4), (⟨"LinePatcher$PatchWriter", "writeLines", "(ILLinePatcher$Text;II)V"⟩, 4), (⟨"LinePatcher$PatchReader", "takeHead", "()Z"⟩, 9)]
theorem lw_r1 : ∀ q ∈ lw_privs_1, lw_okq q := List.forall_mem_cons.mpr ⟨lw_p0, List.forall_mem_cons.mpr ⟨lw_p1, List.forall_mem_cons.mpr ⟨lw_p2, List.forall_mem_cons.mpr ⟨lw_p3, List.forall_mem_cons.mpr ⟨lw_p4, List.forall_mem_cons.mpr ⟨lw_p5, List.forall_mem_cons.mpr ⟨lw_p6, List.forall_mem_cons.mpr ⟨lw_p7, List.forall_mem_cons.mpr ⟨lw_p8, List.forall_mem_cons.mpr ⟨lw_p9, List.forall_mem_cons.mpr ⟨lw_p10, List.forall_mem_cons.mpr ⟨lw_p11, List.forall_mem_cons.mpr ⟨lw_p12, List.forall_mem_cons.mpr ⟨lw_p13, List.forall_mem_cons.mpr ⟨lw_p14, List.forall_mem_cons.mpr ⟨lw_p15, fun _ h => absurd h List.not_mem_nil⟩⟩⟩⟩⟩⟩⟩⟩⟩⟩⟩⟩⟩⟩⟩⟩
theorem lw_p16 : lw_okq (⟨"LinePatcher$PatchReader", "takeSign", "(I)Z"⟩, 9) := ⟨⟨by decide +kernel, by decide +kernel⟩, List.mem_of_getElem? (i := 197) (by decide +kernel), List.mem_of_getElem? (i := 566) (by decide +kernel), List.mem_of_getElem? (i := 567) (by decide +kernel)⟩
theorem lw_p17 : lw_okq (⟨"LinePatcher$PatchReader", "here", "()I"⟩, 9) := ⟨⟨by decide +kernel, by decide +kernel⟩, List.mem_of_getElem? (i := 197) (by decide +kernel), List.mem_of_getElem? (i := 570) (by decide +kernel), List.mem_of_getElem? (i := 571) (by decide +kernel)⟩
theorem lw_p18 : lw_okq (⟨"LinePatcher$PatchReader", "takeNumber", "()I"⟩, 9) := ⟨⟨by decide +kernel, by decide +kernel⟩, List.mem_of_getElem? (i := 197) (by decide +kernel), List.mem_of_getElem? (i := 574) (by decide +kernel), List.mem_of_getElem? (i := 575) (by decide +kernel)⟩
theorem lw_p19 : lw_okq (⟨"LinePatcher$PatchReader", "takeLines", "()Z"⟩, 9) := ⟨⟨by decide +kernel, by decide +kernel⟩, List.mem_of_getElem? (i := 197) (by decide +kernel), List.mem_of_getElem? (i := 581) (by decide +kernel), List.mem_of_getElem? (i := 582) (by decide +kernel)⟩
theorem lw_p20 : lw_okq (⟨"LinePatcher$PatchReader", "hasLinesDue", "()Z"⟩, 9) := ⟨⟨by decide +kernel, by decide +kernel⟩, List.mem_of_getElem? (i := 197) (by decide +kernel), List.mem_of_getElem? (i := 585) (by decide +kernel), List.mem_of_getElem? (i := 586) (by decide +kernel)⟩
theorem lw_p21 : lw_okq (⟨"LinePatcher$PatchReader", "takeLine", "()Z"⟩, 9) := ⟨⟨by decide +kernel, by decide +kernel⟩, List.mem_of_getElem? (i := 197) (by decide +kernel), List.mem_of_getElem? (i := 589) (by decide +kernel), List.mem_of_getElem? (i := 590) (by decide +kernel)⟩
theorem lw_p22 : lw_okq (⟨"LinePatcher$PatchFitter", "nearestPlace", "(LLinePatcher$Text;I)I"⟩, 2) := ⟨⟨by decide +kernel, by decide +kernel⟩, List.mem_of_getElem? (i := 236) (by decide +kernel), List.mem_of_getElem? (i := 605) (by decide +kernel), List.mem_of_getElem? (i := 606) (by decide +kernel)⟩
theorem lw_p23 : lw_okq (⟨"LinePatcher$PatchFitter", "distance", "(I)I"⟩, 2) := ⟨⟨by decide +kernel, by decide +kernel⟩, List.mem_of_getElem? (i := 236) (by decide +kernel), List.mem_of_getElem? (i := 609) (by decide +kernel), List.mem_of_getElem? (i := 610) (by decide +kernel)⟩
theorem lw_p24 : lw_okq (⟨"LinePatcher$PatchFitter", "fitsAt", "(LLinePatcher$Text;I)Z"⟩, 2) := ⟨⟨by decide +kernel, by decide +kernel⟩, List.mem_of_getElem? (i := 236) (by decide +kernel), List.mem_of_getElem? (i := 616) (by decide +kernel), List.mem_of_getElem? (i := 617) (by decide +kernel)⟩
theorem lw_p25 : lw_okq (⟨"LinePatcher$PatchFitter", "appendNewLines", "()V"⟩, 2) := ⟨⟨by decide +kernel, by decide +kernel⟩, List.mem_of_getElem? (i := 236) (by decide +kernel), List.mem_of_getElem? (i := 621) (by decide +kernel), List.mem_of_getElem? (i := 622) (by decide +kernel)⟩
theorem lw_p26 : lw_okq (⟨"LinePatcher$Merger", "settleParts", "(III)V"⟩, 9) := ⟨⟨by decide +kernel, by decide +kernel⟩, List.mem_of_getElem? (i := 251) (by decide +kernel), List.mem_of_getElem? (i := 638) (by decide +kernel), List.mem_of_getElem? (i := 639) (by decide +kernel)⟩
theorem lw_p27 : lw_okq (⟨"LinePatcher$Merger", "putPart", "(LLinePatcher$Part;)V"⟩, 9) := ⟨⟨by decide +kernel, by decide +kernel⟩, List.mem_of_getElem? (i := 251) (by decide +kernel), List.mem_of_getElem? (i := 646) (by decide +kernel), List.mem_of_getElem? (i := 647) (by decide +kernel)⟩
theorem lw_p28 : lw_okq (⟨"LinePatcher$Merger", "put", "(I)V"⟩, 9) := ⟨⟨by decide +kernel, by decide +kernel⟩, List.mem_of_getElem? (i := 251) (by decide +kernel), List.mem_of_getElem? (i := 650) (by decide +kernel), List.mem_of_getElem? (i := 651) (by decide +kernel)⟩
theorem lw_p29 : lw_okq (⟨"LinePatcher$Merger", "putConflict", "()V"⟩, 9) := ⟨⟨by decide +kernel, by decide +kernel⟩, List.mem_of_getElem? (i := 251) (by decide +kernel), List.mem_of_getElem? (i := 655) (by decide +kernel), List.mem_of_getElem? (i := 656) (by decide +kernel)⟩
theorem lw_p30 : lw_okq (⟨"LinePatcherModel", "allLetters", "(I)Z"⟩, 38) := ⟨⟨by decide +kernel, by decide +kernel⟩, List.mem_of_getElem? (i := 668) (by decide +kernel), List.mem_of_getElem? (i := 815) (by decide +kernel), List.mem_of_getElem? (i := 816) (by decide +kernel)⟩
theorem lw_p31 : lw_okq (⟨"LinePatcherModel", "take", "(II)V"⟩, 38) := ⟨⟨by decide +kernel, by decide +kernel⟩, List.mem_of_getElem? (i := 668) (by decide +kernel), List.mem_of_getElem? (i := 819) (by decide +kernel), List.mem_of_getElem? (i := 820) (by decide +kernel)⟩
def lw_privs_2 : List (MethodName × Nat) := [(⟨"LinePatcher$PatchReader", "takeSign", "(I)Z"⟩, 9), (⟨"LinePatcher$PatchReader", "here", "()I"⟩, 9), (⟨"LinePatcher$PatchReader", "takeNumber", "()I"⟩, 9), (⟨"LinePatcher$PatchReader", "takeLines", "()Z"⟩, 9), (⟨"LinePatcher$PatchReader", "hasLinesDue", "()Z"⟩, 9), (⟨"LinePatcher$PatchReader", "takeLine", "()Z"⟩, 9), (⟨"LinePatcher$PatchFitter", "nearestPlace", "(LLinePatcher$Text;I)I"⟩, 2), (⟨"LinePatcher$PatchFitter", "distance", "(I)I"⟩, 2), (⟨"LinePatcher$PatchFitter", "fitsAt", "(LLinePatcher$Text;I)Z"⟩, 2), (⟨"LinePatcher$PatchFitter", "appendNewLines", "()V"⟩, 2), (⟨"LinePatcher$Merger", "settleParts", "(III)V"⟩, 9), (⟨"LinePatcher$Merger", "putPart", "(LLinePatcher$Part;)V"⟩, 9), (⟨"LinePatcher$Merger", "put", "(I)V"⟩, 9), (⟨"LinePatcher$Merger", "putConflict", "()V"⟩, 9), (⟨"LinePatcherModel", "allLetters", "(I)Z"⟩, 38), (⟨"LinePatcherModel", "take", "(II)V"⟩, 38)]
theorem lw_r2 : ∀ q ∈ lw_privs_2, lw_okq q := List.forall_mem_cons.mpr ⟨lw_p16, List.forall_mem_cons.mpr ⟨lw_p17, List.forall_mem_cons.mpr ⟨lw_p18, List.forall_mem_cons.mpr ⟨lw_p19, List.forall_mem_cons.mpr ⟨lw_p20, List.forall_mem_cons.mpr ⟨lw_p21, List.forall_mem_cons.mpr ⟨lw_p22, List.forall_mem_cons.mpr ⟨lw_p23, List.forall_mem_cons.mpr ⟨lw_p24, List.forall_mem_cons.mpr ⟨lw_p25, List.forall_mem_cons.mpr ⟨lw_p26, List.forall_mem_cons.mpr ⟨lw_p27, List.forall_mem_cons.mpr ⟨lw_p28, List.forall_mem_cons.mpr ⟨lw_p29, List.forall_mem_cons.mpr ⟨lw_p30, List.forall_mem_cons.mpr ⟨lw_p31, fun _ h => absurd h List.not_mem_nil⟩⟩⟩⟩⟩⟩⟩⟩⟩⟩⟩⟩⟩⟩⟩⟩
theorem lw_p32 : lw_okq (⟨"LinePatcherModel", "compareAll", "(I)V"⟩, 38) := ⟨⟨by decide +kernel, by decide +kernel⟩, List.mem_of_getElem? (i := 668) (by decide +kernel), List.mem_of_getElem? (i := 823) (by decide +kernel), List.mem_of_getElem? (i := 824) (by decide +kernel)⟩
theorem lw_p33 : lw_okq (⟨"LinePatcherModel", "compareShort", "(IIII)V"⟩, 38) := ⟨⟨by decide +kernel, by decide +kernel⟩, List.mem_of_getElem? (i := 668) (by decide +kernel), List.mem_of_getElem? (i := 827) (by decide +kernel), List.mem_of_getElem? (i := 828) (by decide +kernel)⟩
theorem lw_p34 : lw_okq (⟨"LinePatcherModel", "await", "(IIII)V"⟩, 38) := ⟨⟨by decide +kernel, by decide +kernel⟩, List.mem_of_getElem? (i := 668) (by decide +kernel), List.mem_of_getElem? (i := 831) (by decide +kernel), List.mem_of_getElem? (i := 832) (by decide +kernel)⟩
theorem lw_p35 : lw_okq (⟨"LinePatcherModel", "standOut", "(IIII)V"⟩, 38) := ⟨⟨by decide +kernel, by decide +kernel⟩, List.mem_of_getElem? (i := 668) (by decide +kernel), List.mem_of_getElem? (i := 835) (by decide +kernel), List.mem_of_getElem? (i := 836) (by decide +kernel)⟩
theorem lw_p36 : lw_okq (⟨"LinePatcherModel", "findRanks", "(IIII)I"⟩, 38) := ⟨⟨by decide +kernel, by decide +kernel⟩, List.mem_of_getElem? (i := 668) (by decide +kernel), List.mem_of_getElem? (i := 839) (by decide +kernel), List.mem_of_getElem? (i := 840) (by decide +kernel)⟩
theorem lw_p37 : lw_okq (⟨"LinePatcherModel", "partner", "(IIIII)I"⟩, 38) := ⟨⟨by decide +kernel, by decide +kernel⟩, List.mem_of_getElem? (i := 668) (by decide +kernel), List.mem_of_getElem? (i := 843) (by decide +kernel), List.mem_of_getElem? (i := 844) (by decide +kernel)⟩
theorem lw_p38 : lw_okq (⟨"LinePatcherModel", "row", "()V"⟩, 38) := ⟨⟨by decide +kernel, by decide +kernel⟩, List.mem_of_getElem? (i := 668) (by decide +kernel), List.mem_of_getElem? (i := 855) (by decide +kernel), List.mem_of_getElem? (i := 856) (by decide +kernel)⟩
theorem lw_p39 : lw_okq (⟨"LinePatcherModel", "op", "(II)V"⟩, 38) := ⟨⟨by decide +kernel, by decide +kernel⟩, List.mem_of_getElem? (i := 668) (by decide +kernel), List.mem_of_getElem? (i := 859) (by decide +kernel), List.mem_of_getElem? (i := 860) (by decide +kernel)⟩
theorem lw_p40 : lw_okq (⟨"LinePatcherModel", "lastOf", "(II)I"⟩, 38) := ⟨⟨by decide +kernel, by decide +kernel⟩, List.mem_of_getElem? (i := 668) (by decide +kernel), List.mem_of_getElem? (i := 863) (by decide +kernel), List.mem_of_getElem? (i := 864) (by decide +kernel)⟩
theorem lw_p41 : lw_okq (⟨"LinePatcherModel", "putHunk", "(II)V"⟩, 38) := ⟨⟨by decide +kernel, by decide +kernel⟩, List.mem_of_getElem? (i := 668) (by decide +kernel), List.mem_of_getElem? (i := 867) (by decide +kernel), List.mem_of_getElem? (i := 868) (by decide +kernel)⟩
theorem lw_p42 : lw_okq (⟨"LinePatcherModel", "put", "(I)V"⟩, 38) := ⟨⟨by decide +kernel, by decide +kernel⟩, List.mem_of_getElem? (i := 668) (by decide +kernel), List.mem_of_getElem? (i := 871) (by decide +kernel), List.mem_of_getElem? (i := 872) (by decide +kernel)⟩
theorem lw_p43 : lw_okq (⟨"LinePatcherModel", "others", "(III)I"⟩, 38) := ⟨⟨by decide +kernel, by decide +kernel⟩, List.mem_of_getElem? (i := 668) (by decide +kernel), List.mem_of_getElem? (i := 875) (by decide +kernel), List.mem_of_getElem? (i := 876) (by decide +kernel)⟩
theorem lw_p44 : lw_okq (⟨"LinePatcherModel", "putNumber", "(I)V"⟩, 38) := ⟨⟨by decide +kernel, by decide +kernel⟩, List.mem_of_getElem? (i := 668) (by decide +kernel), List.mem_of_getElem? (i := 879) (by decide +kernel), List.mem_of_getElem? (i := 880) (by decide +kernel)⟩
theorem lw_p45 : lw_okq (⟨"LinePatcherModel", "readHunk", "()V"⟩, 38) := ⟨⟨by decide +kernel, by decide +kernel⟩, List.mem_of_getElem? (i := 668) (by decide +kernel), List.mem_of_getElem? (i := 899) (by decide +kernel), List.mem_of_getElem? (i := 900) (by decide +kernel)⟩
theorem lw_p46 : lw_okq (⟨"LinePatcherModel", "want", "(I)V"⟩, 38) := ⟨⟨by decide +kernel, by decide +kernel⟩, List.mem_of_getElem? (i := 668) (by decide +kernel), List.mem_of_getElem? (i := 903) (by decide +kernel), List.mem_of_getElem? (i := 904) (by decide +kernel)⟩
theorem lw_p47 : lw_okq (⟨"LinePatcherModel", "look", "()I"⟩, 38) := ⟨⟨by decide +kernel, by decide +kernel⟩, List.mem_of_getElem? (i := 668) (by decide +kernel), List.mem_of_getElem? (i := 907) (by decide +kernel), List.mem_of_getElem? (i := 908) (by decide +kernel)⟩
def lw_privs_3 : List (MethodName × Nat) := [(⟨"LinePatcherModel", "compareAll", "(I)V"⟩, 38), (⟨"LinePatcherModel", "compareShort", "(IIII)V"⟩, 38), (⟨"LinePatcherModel", "await", "(IIII)V"⟩, 38), (⟨"LinePatcherModel", "standOut", "(IIII)V"⟩, 38), (⟨"LinePatcherModel", "findRanks", "(IIII)I"⟩, 38), (⟨"LinePatcherModel", "partner", "(IIIII)I"⟩, 38), (⟨"LinePatcherModel", "row", "()V"⟩, 38), (⟨"LinePatcherModel", "op", "(II)V"⟩, 38), (⟨"LinePatcherModel", "lastOf", "(II)I"⟩, 38), (⟨"LinePatcherModel", "putHunk", "(II)V"⟩, 38), (⟨"LinePatcherModel", "put", "(I)V"⟩, 38), (⟨"LinePatcherModel", "others", "(III)I"⟩, 38), (⟨"LinePatcherModel", "putNumber", "(I)V"⟩, 38), (⟨"LinePatcherModel", "readHunk", "()V"⟩, 38), (⟨"LinePatcherModel", "want", "(I)V"⟩, 38), (⟨"LinePatcherModel", "look", "()I"⟩, 38)]
theorem lw_r3 : ∀ q ∈ lw_privs_3, lw_okq q := List.forall_mem_cons.mpr ⟨lw_p32, List.forall_mem_cons.mpr ⟨lw_p33, List.forall_mem_cons.mpr ⟨lw_p34, List.forall_mem_cons.mpr ⟨lw_p35, List.forall_mem_cons.mpr ⟨lw_p36, List.forall_mem_cons.mpr ⟨lw_p37, List.forall_mem_cons.mpr ⟨lw_p38, List.forall_mem_cons.mpr ⟨lw_p39, List.forall_mem_cons.mpr ⟨lw_p40, List.forall_mem_cons.mpr ⟨lw_p41, List.forall_mem_cons.mpr ⟨lw_p42, List.forall_mem_cons.mpr ⟨lw_p43, List.forall_mem_cons.mpr ⟨lw_p44, List.forall_mem_cons.mpr ⟨lw_p45, List.forall_mem_cons.mpr ⟨lw_p46, List.forall_mem_cons.mpr ⟨lw_p47, fun _ h => absurd h List.not_mem_nil⟩⟩⟩⟩⟩⟩⟩⟩⟩⟩⟩⟩⟩⟩⟩⟩
theorem lw_p48 : lw_okq (⟨"LinePatcherModel", "number", "()I"⟩, 38) := ⟨⟨by decide +kernel, by decide +kernel⟩, List.mem_of_getElem? (i := 668) (by decide +kernel), List.mem_of_getElem? (i := 911) (by decide +kernel), List.mem_of_getElem? (i := 912) (by decide +kernel)⟩
theorem lw_p49 : lw_okq (⟨"LinePatcherModel", "fit", "(III)I"⟩, 38) := ⟨⟨by decide +kernel, by decide +kernel⟩, List.mem_of_getElem? (i := 668) (by decide +kernel), List.mem_of_getElem? (i := 920) (by decide +kernel), List.mem_of_getElem? (i := 921) (by decide +kernel)⟩
theorem lw_p50 : lw_okq (⟨"LinePatcherModel", "stands", "(III)Z"⟩, 38) := ⟨⟨by decide +kernel, by decide +kernel⟩, List.mem_of_getElem? (i := 668) (by decide +kernel), List.mem_of_getElem? (i := 924) (by decide +kernel), List.mem_of_getElem? (i := 925) (by decide +kernel)⟩
theorem lw_p51 : lw_okq (⟨"LinePatcherModel", "emit", "(I)V"⟩, 38) := ⟨⟨by decide +kernel, by decide +kernel⟩, List.mem_of_getElem? (i := 668) (by decide +kernel), List.mem_of_getElem? (i := 928) (by decide +kernel), List.mem_of_getElem? (i := 929) (by decide +kernel)⟩
theorem lw_p52 : lw_okq (⟨"LinePatcherModel", "keep", "(I)V"⟩, 38) := ⟨⟨by decide +kernel, by decide +kernel⟩, List.mem_of_getElem? (i := 668) (by decide +kernel), List.mem_of_getElem? (i := 932) (by decide +kernel), List.mem_of_getElem? (i := 933) (by decide +kernel)⟩
theorem lw_p53 : lw_okq (⟨"LinePatcherModel", "mergeParts", "(IIIIII)I"⟩, 38) := ⟨⟨by decide +kernel, by decide +kernel⟩, List.mem_of_getElem? (i := 668) (by decide +kernel), List.mem_of_getElem? (i := 940) (by decide +kernel), List.mem_of_getElem? (i := 941) (by decide +kernel)⟩
theorem lw_p54 : lw_okq (⟨"LinePatcherModel", "sameParts", "(IIIIII)Z"⟩, 38) := ⟨⟨by decide +kernel, by decide +kernel⟩, List.mem_of_getElem? (i := 668) (by decide +kernel), List.mem_of_getElem? (i := 944) (by decide +kernel), List.mem_of_getElem? (i := 945) (by decide +kernel)⟩
theorem lw_p55 : lw_okq (⟨"LinePatcherModel", "emitPart", "(III)Z"⟩, 38) := ⟨⟨by decide +kernel, by decide +kernel⟩, List.mem_of_getElem? (i := 668) (by decide +kernel), List.mem_of_getElem? (i := 948) (by decide +kernel), List.mem_of_getElem? (i := 949) (by decide +kernel)⟩
theorem lw_p56 : lw_okq (⟨"LinePatcherModel", "tryEmit", "(I)Z"⟩, 38) := ⟨⟨by decide +kernel, by decide +kernel⟩, List.mem_of_getElem? (i := 668) (by decide +kernel), List.mem_of_getElem? (i := 952) (by decide +kernel), List.mem_of_getElem? (i := 953) (by decide +kernel)⟩
def lw_privs_4 : List (MethodName × Nat) := [(⟨"LinePatcherModel", "number", "()I"⟩, 38), (⟨"LinePatcherModel", "fit", "(III)I"⟩, 38), (⟨"LinePatcherModel", "stands", "(III)Z"⟩, 38), (⟨"LinePatcherModel", "emit", "(I)V"⟩, 38), (⟨"LinePatcherModel", "keep", "(I)V"⟩, 38), (⟨"LinePatcherModel", "mergeParts", "(IIIIII)I"⟩, 38), (⟨"LinePatcherModel", "sameParts", "(IIIIII)Z"⟩, 38), (⟨"LinePatcherModel", "emitPart", "(III)Z"⟩, 38), (⟨"LinePatcherModel", "tryEmit", "(I)Z"⟩, 38)]
theorem lw_r4 : ∀ q ∈ lw_privs_4, lw_okq q := List.forall_mem_cons.mpr ⟨lw_p48, List.forall_mem_cons.mpr ⟨lw_p49, List.forall_mem_cons.mpr ⟨lw_p50, List.forall_mem_cons.mpr ⟨lw_p51, List.forall_mem_cons.mpr ⟨lw_p52, List.forall_mem_cons.mpr ⟨lw_p53, List.forall_mem_cons.mpr ⟨lw_p54, List.forall_mem_cons.mpr ⟨lw_p55, List.forall_mem_cons.mpr ⟨lw_p56, fun _ h => absurd h List.not_mem_nil⟩⟩⟩⟩⟩⟩⟩⟩⟩
def lw_privs : List (MethodName × Nat) := lw_privs_1 ++ (lw_privs_2 ++ (lw_privs_3 ++ (lw_privs_4)))
def lw_tbl : List Cond := k2_sels lw_privs ++ tables_1
theorem lw_privs_ok : ∀ q ∈ lw_privs, lw_okq q := by
  show ∀ q ∈ lw_privs_1 ++ (lw_privs_2 ++ (lw_privs_3 ++ (lw_privs_4))), lw_okq q
  exact List.forall_mem_append.mpr ⟨lw_r1, List.forall_mem_append.mpr ⟨lw_r2, List.forall_mem_append.mpr ⟨lw_r3, lw_r4⟩⟩⟩
/-! words that a callee keeps -/
def lp_W : List Cond := lw_tbl.filter goodWord
theorem lp_Wgood : ∀ x ∈ lp_W, (x.onTables && x.keeps) = true ∨ ∃ ty, x = .arrayClass ty := fun x h => good_of_word (List.mem_filter.mp h).2
theorem lp_in {w : Cond} (i : Nat) (h : lw_tbl[i]? = some w) (hg : goodWord w = true) : w ∈ lp_W := List.mem_filter.mpr ⟨List.mem_of_getElem? h, hg⟩
def ff_P : u_T := fun k => match k with
  | 0 => ("LinePatcher", "texts", "[LLinePatcher$Text;", true)
  | 1 => ("LinePatcher", "latest", "LLinePatcher$Comparison;", true)
  | 2 => ("LinePatcher", "compared", "Z", false)
  | 3 => ("LinePatcher", "shortest", "LLinePatcher$Shortest;", true)
  | 4 => ("LinePatcher", "standingOut", "LLinePatcher$StandingOut;", true)
  | 5 => ("LinePatcher", "paper", "LLinePatcher$Paper;", true)
  | 6 => ("LinePatcher", "writer", "LLinePatcher$PatchWriter;", true)
  | 7 => ("LinePatcher", "reader", "LLinePatcher$PatchReader;", true)
  | 8 => ("LinePatcher", "fitter", "LLinePatcher$PatchFitter;", true)
  | _ => ("LinePatcher", "merger", "LLinePatcher$Merger;", true)
def tf_P : Nat → FieldType := fun k => match k with
  | 0 => .array (.object "LinePatcher$Text")
  | 1 => .object "LinePatcher$Comparison"
  | 2 => .boolean
  | 3 => .object "LinePatcher$Shortest"
  | 4 => .object "LinePatcher$StandingOut"
  | 5 => .object "LinePatcher$Paper"
  | 6 => .object "LinePatcher$PatchWriter"
  | 7 => .object "LinePatcher$PatchReader"
  | 8 => .object "LinePatcher$PatchFitter"
  | _ => .object "LinePatcher$Merger"
def ff_T : u_T := fun k => match k with
  | 0 => ("LinePatcher$Text", "lines", "[I", true)
  | _ => ("LinePatcher$Text", "count", "I", false)
def tf_T : Nat → FieldType := fun k => match k with
  | 0 => .array .int
  | _ => .int
def ff_C : u_T := fun k => match k with
  | 0 => ("LinePatcher$Comparison", "x", "LLinePatcher$Text;", true)
  | 1 => ("LinePatcher$Comparison", "y", "LLinePatcher$Text;", true)
  | 2 => ("LinePatcher$Comparison", "partners", "[I", true)
  | _ => ("LinePatcher$Comparison", "matched", "I", false)
def tf_C : Nat → FieldType := fun k => match k with
  | 0 => .object "LinePatcher$Text"
  | 1 => .object "LinePatcher$Text"
  | 2 => .array .int
  | _ => .int
def ff_R : u_T := fun k => match k with
  | 0 => ("LinePatcher$Range", "x", "I", false)
  | 1 => ("LinePatcher$Range", "xEnd", "I", false)
  | 2 => ("LinePatcher$Range", "y", "I", false)
  | _ => ("LinePatcher$Range", "yEnd", "I", false)
def tf_R : Nat → FieldType := fun k => match k with
  | 0 => .int
  | 1 => .int
  | 2 => .int
  | _ => .int
def ff_S : u_T := fun k => match k with
  | 0 => ("LinePatcher$Shortest", "most", "[[I", true)
  | _ => ("LinePatcher$Shortest", "whole", "LLinePatcher$Range;", true)
def tf_S : Nat → FieldType := fun k => match k with
  | 0 => .array (.array .int)
  | _ => .object "LinePatcher$Range"
def ff_O : u_T := fun k => match k with
  | 0 => ("LinePatcher$StandingOut", "shortest", "LLinePatcher$Shortest;", true)
  | 1 => ("LinePatcher$StandingOut", "ranges", "[LLinePatcher$Range;", true)
  | 2 => ("LinePatcher$StandingOut", "rangeCount", "I", false)
  | 3 => ("LinePatcher$StandingOut", "pairX", "[I", true)
  | 4 => ("LinePatcher$StandingOut", "pairY", "[I", true)
  | 5 => ("LinePatcher$StandingOut", "ranks", "[I", true)
  | _ => ("LinePatcher$StandingOut", "pairCount", "I", false)
def tf_O : Nat → FieldType := fun k => match k with
  | 0 => .object "LinePatcher$Shortest"
  | 1 => .array (.object "LinePatcher$Range")
  | 2 => .int
  | 3 => .array .int
  | 4 => .array .int
  | 5 => .array .int
  | _ => .int
def ff_A : u_T := fun k => match k with
  | 0 => ("LinePatcher$Paper", "characters", "[I", true)
  | _ => ("LinePatcher$Paper", "length", "I", false)
def tf_A : Nat → FieldType := fun k => match k with
  | 0 => .array .int
  | _ => .int
def ff_W : u_T := fun k => match k with
  | 0 => ("LinePatcher$PatchWriter", "comparison", "LLinePatcher$Comparison;", true)
  | 1 => ("LinePatcher$PatchWriter", "paper", "LLinePatcher$Paper;", true)
  | 2 => ("LinePatcher$PatchWriter", "changes", "[LLinePatcher$Range;", true)
  | _ => ("LinePatcher$PatchWriter", "changeCount", "I", false)
def tf_W : Nat → FieldType := fun k => match k with
  | 0 => .object "LinePatcher$Comparison"
  | 1 => .object "LinePatcher$Paper"
  | 2 => .array (.object "LinePatcher$Range")
  | _ => .int
def ff_D : u_T := fun k => match k with
  | 0 => ("LinePatcher$PatchReader", "paper", "LLinePatcher$Paper;", true)
  | 1 => ("LinePatcher$PatchReader", "place", "I", false)
  | 2 => ("LinePatcher$PatchReader", "named", "I", false)
  | 3 => ("LinePatcher$PatchReader", "oldDue", "I", false)
  | 4 => ("LinePatcher$PatchReader", "newDue", "I", false)
  | 5 => ("LinePatcher$PatchReader", "oldLines", "[I", true)
  | 6 => ("LinePatcher$PatchReader", "oldCount", "I", false)
  | 7 => ("LinePatcher$PatchReader", "newLines", "[I", true)
  | _ => ("LinePatcher$PatchReader", "newCount", "I", false)
def tf_D : Nat → FieldType := fun k => match k with
  | 0 => .object "LinePatcher$Paper"
  | 1 => .int
  | 2 => .int
  | 3 => .int
  | 4 => .int
  | 5 => .array .int
  | 6 => .int
  | 7 => .array .int
  | _ => .int
def ff_F : u_T := fun k => match k with
  | 0 => ("LinePatcher$PatchFitter", "reader", "LLinePatcher$PatchReader;", true)
  | _ => ("LinePatcher$PatchFitter", "patched", "LLinePatcher$Text;", true)
def tf_F : Nat → FieldType := fun k => match k with
  | 0 => .object "LinePatcher$PatchReader"
  | _ => .object "LinePatcher$Text"
def ff_Q : u_T := fun k => match k with
  | 0 => ("LinePatcher$Part", "text", "LLinePatcher$Text;", true)
  | 1 => ("LinePatcher$Part", "from", "I", false)
  | _ => ("LinePatcher$Part", "to", "I", false)
def tf_Q : Nat → FieldType := fun k => match k with
  | 0 => .object "LinePatcher$Text"
  | 1 => .int
  | _ => .int
def ff_G : u_T := fun k => match k with
  | 0 => ("LinePatcher$Merger", "shortest", "LLinePatcher$Shortest;", true)
  | 1 => ("LinePatcher$Merger", "withOne", "LLinePatcher$Comparison;", true)
  | 2 => ("LinePatcher$Merger", "withTwo", "LLinePatcher$Comparison;", true)
  | 3 => ("LinePatcher$Merger", "base", "LLinePatcher$Part;", true)
  | 4 => ("LinePatcher$Merger", "one", "LLinePatcher$Part;", true)
  | 5 => ("LinePatcher$Merger", "two", "LLinePatcher$Part;", true)
  | 6 => ("LinePatcher$Merger", "merged", "LLinePatcher$Text;", true)
  | 7 => ("LinePatcher$Merger", "total", "I", false)
  | _ => ("LinePatcher$Merger", "conflicts", "I", false)
def tf_G : Nat → FieldType := fun k => match k with
  | 0 => .object "LinePatcher$Shortest"
  | 1 => .object "LinePatcher$Comparison"
  | 2 => .object "LinePatcher$Comparison"
  | 3 => .object "LinePatcher$Part"
  | 4 => .object "LinePatcher$Part"
  | 5 => .object "LinePatcher$Part"
  | 6 => .object "LinePatcher$Text"
  | 7 => .int
  | _ => .int
def ff_M : u_T := fun k => match k with
  | 0 => ("LinePatcherModel", "lines", "[I", false)
  | 1 => ("LinePatcherModel", "sizes", "[I", false)
  | 2 => ("LinePatcherModel", "an", "I", false)
  | 3 => ("LinePatcherModel", "bn", "I", false)
  | 4 => ("LinePatcherModel", "a", "[I", false)
  | 5 => ("LinePatcherModel", "b", "[I", false)
  | 6 => ("LinePatcherModel", "mate", "[I", false)
  | 7 => ("LinePatcherModel", "left", "[I", false)
  | 8 => ("LinePatcherModel", "waiting", "I", false)
  | 9 => ("LinePatcherModel", "fromA", "[I", false)
  | 10 => ("LinePatcherModel", "toA", "[I", false)
  | 11 => ("LinePatcherModel", "fromB", "[I", false)
  | 12 => ("LinePatcherModel", "toB", "[I", false)
  | 13 => ("LinePatcherModel", "pairOf", "[I", false)
  | 14 => ("LinePatcherModel", "rank", "[I", false)
  | 15 => ("LinePatcherModel", "compared", "Z", false)
  | 16 => ("LinePatcherModel", "xn", "I", false)
  | 17 => ("LinePatcherModel", "yn", "I", false)
  | 18 => ("LinePatcherModel", "xs", "[I", false)
  | 19 => ("LinePatcherModel", "ys", "[I", false)
  | 20 => ("LinePatcherModel", "match", "[I", false)
  | 21 => ("LinePatcherModel", "ops", "I", false)
  | 22 => ("LinePatcherModel", "kinds", "[I", false)
  | 23 => ("LinePatcherModel", "shown", "[I", false)
  | 24 => ("LinePatcherModel", "length", "I", false)
  | 25 => ("LinePatcherModel", "paper", "[I", false)
  | 26 => ("LinePatcherModel", "hunks", "I", false)
  | 27 => ("LinePatcherModel", "named", "[I", false)
  | 28 => ("LinePatcherModel", "olds", "[I", false)
  | 29 => ("LinePatcherModel", "news", "[I", false)
  | 30 => ("LinePatcherModel", "all", "[I", false)
  | 31 => ("LinePatcherModel", "begins", "[I", false)
  | 32 => ("LinePatcherModel", "found", "[I", false)
  | 33 => ("LinePatcherModel", "at", "I", false)
  | 34 => ("LinePatcherModel", "failed", "Z", false)
  | 35 => ("LinePatcherModel", "outSize", "I", false)
  | 36 => ("LinePatcherModel", "out", "[I", false)
  | _ => ("LinePatcherModel", "second", "[I", false)
def tf_M : Nat → FieldType := fun k => match k with
  | 0 => .array .int
  | 1 => .array .int
  | 2 => .int
  | 3 => .int
  | 4 => .array .int
  | 5 => .array .int
  | 6 => .array .int
  | 7 => .array .int
  | 8 => .int
  | 9 => .array .int
  | 10 => .array .int
  | 11 => .array .int
  | 12 => .array .int
  | 13 => .array .int
  | 14 => .array .int
  | 15 => .boolean
  | 16 => .int
  | 17 => .int
  | 18 => .array .int
  | 19 => .array .int
  | 20 => .array .int
  | 21 => .int
  | 22 => .array .int
  | 23 => .array .int
  | 24 => .int
  | 25 => .array .int
  | 26 => .int
  | 27 => .array .int
  | 28 => .array .int
  | 29 => .array .int
  | 30 => .array .int
  | 31 => .array .int
  | 32 => .array .int
  | 33 => .int
  | 34 => .boolean
  | 35 => .int
  | 36 => .array .int
  | _ => .array .int
abbrev vwCl : List vw_C := [("LinePatcher", ff_P, 10), ("LinePatcher$Text", ff_T, 2), ("LinePatcher$Comparison", ff_C, 4), ("LinePatcher$Range", ff_R, 4), ("LinePatcher$Shortest", ff_S, 2), ("LinePatcher$StandingOut", ff_O, 7), ("LinePatcher$Paper", ff_A, 2), ("LinePatcher$PatchWriter", ff_W, 4), ("LinePatcher$PatchReader", ff_D, 9), ("LinePatcher$PatchFitter", ff_F, 2), ("LinePatcher$Part", ff_Q, 3), ("LinePatcher$Merger", ff_G, 9), ("LinePatcherModel", ff_M, 38)]
def lp_tys (tc : Nat → ClassId) : List (ClassId × FieldType) := [(tc 0, .int), (tc 1, .object "LinePatcher$Text"), (tc 2, .object "LinePatcher$Range"), (tc 3, .array .int)]
def lp_nm : List (String × Nat × MethodName × String) := [("LinePatcher", 17, ⟨"LinePatcher$Comparison", "<init>", "()V"⟩, "LinePatcher"), ("LinePatcher$Comparison", 11, ⟨"LinePatcher$Text", "<init>", "()V"⟩, "LinePatcher"), ("LinePatcher", 24, ⟨"LinePatcher$Shortest", "<init>", "()V"⟩, "LinePatcher"), ("LinePatcher$Shortest", 18, ⟨"LinePatcher$Range", "<init>", "()V"⟩, "LinePatcher"), ("LinePatcher$StandingOut", 31, ⟨"LinePatcher$Range", "<init>", "()V"⟩, "LinePatcher"), ("LinePatcher", 40, ⟨"LinePatcher$Paper", "<init>", "()V"⟩, "LinePatcher"), ("LinePatcher$PatchWriter", 25, ⟨"LinePatcher$Range", "<init>", "()V"⟩, "LinePatcher"), ("LinePatcher$PatchFitter", 11, ⟨"LinePatcher$Text", "<init>", "()V"⟩, "LinePatcher"), ("LinePatcher$Merger", 11, ⟨"LinePatcher$Comparison", "<init>", "()V"⟩, "LinePatcher"), ("LinePatcher$Merger", 45, ⟨"LinePatcher$Text", "<init>", "()V"⟩, "LinePatcher"), ("LinePatcher", 79, ⟨"LinePatcher$Text", "<init>", "()V"⟩, "LinePatcher"), ("LinePatcher$Text", 27, ⟨"LinePatcher", "isLetter", "(I)Z"⟩, "LinePatcher"), ("LinePatcher$PatchReader", 79, ⟨"LinePatcher", "isLetter", "(I)Z"⟩, "LinePatcher")]
def lp_ao : List String := ["LinePatcher$Text", "LinePatcher$Range"]

section
-- ===== PART A: goes FIRST, ahead of the names: the tables' words, and 'selects' of the private methods out of them =====
/-- a private method of a class that the tables say can be made, by its rows of tables_1 -/
def lw_okq (q : MethodName × Nat) : Prop := (q.1.cls ≠ "java/lang/invoke/MethodHandle" ∧ q.1.cls ≠ "java/lang/invoke/VarHandle") ∧ Cond.instantiable q.1.cls q.2 ∈ tables_1 ∧ Cond.privateMethod q.1 ∈ tables_1 ∧ Cond.instanceMethod q.1 ∈ tables_1
theorem lw_p0 : lw_okq (⟨"LinePatcher$Shortest", "countMost", "(LLinePatcher$Comparison;LLinePatcher$Range;)V"⟩, 2) := ⟨⟨by decide +kernel, by decide +kernel⟩, List.mem_of_getElem? (i := 81) (by decide +kernel), List.mem_of_getElem? (i := 407) (by decide +kernel), List.mem_of_getElem? (i := 408) (by decide +kernel)⟩
theorem lw_p1 : lw_okq (⟨"LinePatcher$StandingOut", "keepForLater", "(IIII)V"⟩, 7) := ⟨⟨by decide +kernel, by decide +kernel⟩, List.mem_of_getElem? (i := 127) (by decide +kernel), List.mem_of_getElem? (i := 426) (by decide +kernel), List.mem_of_getElem? (i := 427) (by decide +kernel)⟩
theorem lw_p2 : lw_okq (⟨"LinePatcher$StandingOut", "matchRange", "(LLinePatcher$Comparison;LLinePatcher$Range;)V"⟩, 7) := ⟨⟨by decide +kernel, by decide +kernel⟩, List.mem_of_getElem? (i := 127) (by decide +kernel), List.mem_of_getElem? (i := 431) (by decide +kernel), List.mem_of_getElem? (i := 432) (by decide +kernel)⟩
theorem lw_p3 : lw_okq (⟨"LinePatcher$StandingOut", "matchBeginning", "(LLinePatcher$Comparison;LLinePatcher$Range;)V"⟩, 7) := ⟨⟨by decide +kernel, by decide +kernel⟩, List.mem_of_getElem? (i := 127) (by decide +kernel), List.mem_of_getElem? (i := 435) (by decide +kernel), List.mem_of_getElem? (i := 436) (by decide +kernel)⟩
theorem lw_p4 : lw_okq (⟨"LinePatcher$StandingOut", "matchEnd", "(LLinePatcher$Comparison;LLinePatcher$Range;)V"⟩, 7) := ⟨⟨by decide +kernel, by decide +kernel⟩, List.mem_of_getElem? (i := 127) (by decide +kernel), List.mem_of_getElem? (i := 441) (by decide +kernel), List.mem_of_getElem? (i := 442) (by decide +kernel)⟩
theorem lw_p5 : lw_okq (⟨"LinePatcher$StandingOut", "findPairs", "(LLinePatcher$Comparison;LLinePatcher$Range;)V"⟩, 7) := ⟨⟨by decide +kernel, by decide +kernel⟩, List.mem_of_getElem? (i := 127) (by decide +kernel), List.mem_of_getElem? (i := 445) (by decide +kernel), List.mem_of_getElem? (i := 446) (by decide +kernel)⟩
theorem lw_p6 : lw_okq (⟨"LinePatcher$StandingOut", "rankPairs", "()I"⟩, 7) := ⟨⟨by decide +kernel, by decide +kernel⟩, List.mem_of_getElem? (i := 127) (by decide +kernel), List.mem_of_getElem? (i := 454) (by decide +kernel), List.mem_of_getElem? (i := 455) (by decide +kernel)⟩
theorem lw_p7 : lw_okq (⟨"LinePatcher$StandingOut", "matchAnchors", "(LLinePatcher$Comparison;LLinePatcher$Range;I)V"⟩, 7) := ⟨⟨by decide +kernel, by decide +kernel⟩, List.mem_of_getElem? (i := 127) (by decide +kernel), List.mem_of_getElem? (i := 459) (by decide +kernel), List.mem_of_getElem? (i := 460) (by decide +kernel)⟩
theorem lw_p8 : lw_okq (⟨"LinePatcher$PatchWriter", "findChanges", "()V"⟩, 4) := ⟨⟨by decide +kernel, by decide +kernel⟩, List.mem_of_getElem? (i := 176) (by decide +kernel), List.mem_of_getElem? (i := 483) (by decide +kernel), List.mem_of_getElem? (i := 484) (by decide +kernel)⟩
theorem lw_p9 : lw_okq (⟨"LinePatcher$PatchWriter", "keepChange", "(IIII)V"⟩, 4) := ⟨⟨by decide +kernel, by decide +kernel⟩, List.mem_of_getElem? (i := 176) (by decide +kernel), List.mem_of_getElem? (i := 488) (by decide +kernel), List.mem_of_getElem? (i := 489) (by decide +kernel)⟩
theorem lw_p10 : lw_okq (⟨"LinePatcher$PatchWriter", "matchedBehind", "(I)I"⟩, 4) := ⟨⟨by decide +kernel, by decide +kernel⟩, List.mem_of_getElem? (i := 176) (by decide +kernel), List.mem_of_getElem? (i := 493) (by decide +kernel), List.mem_of_getElem? (i := 494) (by decide +kernel)⟩
theorem lw_p11 : lw_okq (⟨"LinePatcher$PatchWriter", "writeHunk", "(III)V"⟩, 4) := ⟨⟨by decide +kernel, by decide +kernel⟩, List.mem_of_getElem? (i := 176) (by decide +kernel), List.mem_of_getElem? (i := 497) (by decide +kernel), List.mem_of_getElem? (i := 498) (by decide +kernel)⟩
theorem lw_p12 : lw_okq (⟨"LinePatcher$PatchWriter", "matchedBefore", "(I)I"⟩, 4) := ⟨⟨by decide +kernel, by decide +kernel⟩, List.mem_of_getElem? (i := 176) (by decide +kernel), List.mem_of_getElem? (i := 501) (by decide +kernel), List.mem_of_getElem? (i := 502) (by decide +kernel)⟩
theorem lw_p13 : lw_okq (⟨"LinePatcher$PatchWriter", "writeHead", "(IIII)V"⟩, 4) := ⟨⟨by decide +kernel, by decide +kernel⟩, List.mem_of_getElem? (i := 176) (by decide +kernel), List.mem_of_getElem? (i := 508) (by decide +kernel), List.mem_of_getElem? (i := 509) (by decide +kernel)⟩
theorem lw_p14 : lw_okq (⟨"LinePatcher$PatchWriter", "writeLines", "(ILLinePatcher$Text;II)V"⟩, 4) := ⟨⟨by decide +kernel, by decide +kernel⟩, List.mem_of_getElem? (i := 176) (by decide +kernel), List.mem_of_getElem? (i := 521) (by decide +kernel), List.mem_of_getElem? (i := 522) (by decide +kernel)⟩
theorem lw_p15 : lw_okq (⟨"LinePatcher$PatchReader", "takeHead", "()Z"⟩, 9) := ⟨⟨by decide +kernel, by decide +kernel⟩, List.mem_of_getElem? (i := 197) (by decide +kernel), List.mem_of_getElem? (i := 562) (by decide +kernel), List.mem_of_getElem? (i := 563) (by decide +kernel)⟩
def lw_privs_1 : List (MethodName × Nat) := [(⟨"LinePatcher$Shortest", "countMost", "(LLinePatcher$Comparison;LLinePatcher$Range;)V"⟩, 2), (⟨"LinePatcher$StandingOut", "keepForLater", "(IIII)V"⟩, 7), (⟨"LinePatcher$StandingOut", "matchRange", "(LLinePatcher$Comparison;LLinePatcher$Range;)V"⟩, 7), (⟨"LinePatcher$StandingOut", "matchBeginning", "(LLinePatcher$Comparison;LLinePatcher$Range;)V"⟩, 7), (⟨"LinePatcher$StandingOut", "matchEnd", "(LLinePatcher$Comparison;LLinePatcher$Range;)V"⟩, 7), (⟨"LinePatcher$StandingOut", "findPairs", "(LLinePatcher$Comparison;LLinePatcher$Range;)V"⟩, 7), (⟨"LinePatcher$StandingOut", "rankPairs", "()I"⟩, 7), (⟨"LinePatcher$StandingOut", "matchAnchors", "(LLinePatcher$Comparison;LLinePatcher$Range;I)V"⟩, 7), (⟨"LinePatcher$PatchWriter", "findChanges", "()V"⟩, 4), (⟨"LinePatcher$PatchWriter", "keepChange", "(IIII)V"⟩, 4), (⟨"LinePatcher$PatchWriter", "matchedBehind", "(I)I"⟩, 4), (⟨"LinePatcher$PatchWriter", "writeHunk", "(III)V"⟩, 4), (⟨"LinePatcher$PatchWriter", "matchedBefore", "(I)I"⟩, 4), (⟨"LinePatcher$PatchWriter", "writeHead", "(IIII)V"⟩, 4), (⟨"LinePatcher$PatchWriter", "writeLines", "(ILLinePatcher$Text;II)V"⟩, 4), (⟨"LinePatcher$PatchReader", "takeHead", "()Z"⟩, 9)]
theorem lw_r1 : ∀ q ∈ lw_privs_1, lw_okq q := List.forall_mem_cons.mpr ⟨lw_p0, List.forall_mem_cons.mpr ⟨lw_p1, List.forall_mem_cons.mpr ⟨lw_p2, List.forall_mem_cons.mpr ⟨lw_p3, List.forall_mem_cons.mpr ⟨lw_p4, List.forall_mem_cons.mpr ⟨lw_p5, List.forall_mem_cons.mpr ⟨lw_p6, List.forall_mem_cons.mpr ⟨lw_p7, List.forall_mem_cons.mpr ⟨lw_p8, List.forall_mem_cons.mpr ⟨lw_p9, List.forall_mem_cons.mpr ⟨lw_p10, List.forall_mem_cons.mpr ⟨lw_p11, List.forall_mem_cons.mpr ⟨lw_p12, List.forall_mem_cons.mpr ⟨lw_p13, List.forall_mem_cons.mpr ⟨lw_p14, List.forall_mem_cons.mpr ⟨lw_p15, fun _ h => absurd h List.not_mem_nil⟩⟩⟩⟩⟩⟩⟩⟩⟩⟩⟩⟩⟩⟩⟩⟩
theorem lw_p16 : lw_okq (⟨"LinePatcher$PatchReader", "takeSign", "(I)Z"⟩, 9) := ⟨⟨by decide +kernel, by decide +kernel⟩, List.mem_of_getElem? (i := 197) (by decide +kernel), List.mem_of_getElem? (i := 566) (by decide +kernel), List.mem_of_getElem? (i := 567) (by decide +kernel)⟩
theorem lw_p17 : lw_okq (⟨"LinePatcher$PatchReader", "here", "()I"⟩, 9) := ⟨⟨by decide +kernel, by decide +kernel⟩, List.mem_of_getElem? (i := 197) (by decide +kernel), List.mem_of_getElem? (i := 570) (by decide +kernel), List.mem_of_getElem? (i := 571) (by decide +kernel)⟩
theorem lw_p18 : lw_okq (⟨"LinePatcher$PatchReader", "takeNumber", "()I"⟩, 9) := ⟨⟨by decide +kernel, by decide +kernel⟩, List.mem_of_getElem? (i := 197) (by decide +kernel), List.mem_of_getElem? (i := 574) (by decide +kernel), List.mem_of_getElem? (i := 575) (by decide +kernel)⟩
theorem lw_p19 : lw_okq (⟨"LinePatcher$PatchReader", "takeLines", "()Z"⟩, 9) := ⟨⟨by decide +kernel, by decide +kernel⟩, List.mem_of_getElem? (i := 197) (by decide +kernel), List.mem_of_getElem? (i := 581) (by decide +kernel), List.mem_of_getElem? (i := 582) (by decide +kernel)⟩
theorem lw_p20 : lw_okq (⟨"LinePatcher$PatchReader", "hasLinesDue", "()Z"⟩, 9) := ⟨⟨by decide +kernel, by decide +kernel⟩, List.mem_of_getElem? (i := 197) (by decide +kernel), List.mem_of_getElem? (i := 585) (by decide +kernel), List.mem_of_getElem? (i := 586) (by decide +kernel)⟩
theorem lw_p21 : lw_okq (⟨"LinePatcher$PatchReader", "takeLine", "()Z"⟩, 9) := ⟨⟨by decide +kernel, by decide +kernel⟩, List.mem_of_getElem? (i := 197) (by decide +kernel), List.mem_of_getElem? (i := 589) (by decide +kernel), List.mem_of_getElem? (i := 590) (by decide +kernel)⟩
theorem lw_p22 : lw_okq (⟨"LinePatcher$PatchFitter", "nearestPlace", "(LLinePatcher$Text;I)I"⟩, 2) := ⟨⟨by decide +kernel, by decide +kernel⟩, List.mem_of_getElem? (i := 236) (by decide +kernel), List.mem_of_getElem? (i := 605) (by decide +kernel), List.mem_of_getElem? (i := 606) (by decide +kernel)⟩
theorem lw_p23 : lw_okq (⟨"LinePatcher$PatchFitter", "distance", "(I)I"⟩, 2) := ⟨⟨by decide +kernel, by decide +kernel⟩, List.mem_of_getElem? (i := 236) (by decide +kernel), List.mem_of_getElem? (i := 609) (by decide +kernel), List.mem_of_getElem? (i := 610) (by decide +kernel)⟩
theorem lw_p24 : lw_okq (⟨"LinePatcher$PatchFitter", "fitsAt", "(LLinePatcher$Text;I)Z"⟩, 2) := ⟨⟨by decide +kernel, by decide +kernel⟩, List.mem_of_getElem? (i := 236) (by decide +kernel), List.mem_of_getElem? (i := 616) (by decide +kernel), List.mem_of_getElem? (i := 617) (by decide +kernel)⟩
theorem lw_p25 : lw_okq (⟨"LinePatcher$PatchFitter", "appendNewLines", "()V"⟩, 2) := ⟨⟨by decide +kernel, by decide +kernel⟩, List.mem_of_getElem? (i := 236) (by decide +kernel), List.mem_of_getElem? (i := 621) (by decide +kernel), List.mem_of_getElem? (i := 622) (by decide +kernel)⟩
theorem lw_p26 : lw_okq (⟨"LinePatcher$Merger", "settleParts", "(III)V"⟩, 9) := ⟨⟨by decide +kernel, by decide +kernel⟩, List.mem_of_getElem? (i := 251) (by decide +kernel), List.mem_of_getElem? (i := 638) (by decide +kernel), List.mem_of_getElem? (i := 639) (by decide +kernel)⟩
theorem lw_p27 : lw_okq (⟨"LinePatcher$Merger", "putPart", "(LLinePatcher$Part;)V"⟩, 9) := ⟨⟨by decide +kernel, by decide +kernel⟩, List.mem_of_getElem? (i := 251) (by decide +kernel), List.mem_of_getElem? (i := 646) (by decide +kernel), List.mem_of_getElem? (i := 647) (by decide +kernel)⟩
theorem lw_p28 : lw_okq (⟨"LinePatcher$Merger", "put", "(I)V"⟩, 9) := ⟨⟨by decide +kernel, by decide +kernel⟩, List.mem_of_getElem? (i := 251) (by decide +kernel), List.mem_of_getElem? (i := 650) (by decide +kernel), List.mem_of_getElem? (i := 651) (by decide +kernel)⟩
theorem lw_p29 : lw_okq (⟨"LinePatcher$Merger", "putConflict", "()V"⟩, 9) := ⟨⟨by decide +kernel, by decide +kernel⟩, List.mem_of_getElem? (i := 251) (by decide +kernel), List.mem_of_getElem? (i := 655) (by decide +kernel), List.mem_of_getElem? (i := 656) (by decide +kernel)⟩
theorem lw_p30 : lw_okq (⟨"LinePatcherModel", "allLetters", "(I)Z"⟩, 38) := ⟨⟨by decide +kernel, by decide +kernel⟩, List.mem_of_getElem? (i := 668) (by decide +kernel), List.mem_of_getElem? (i := 815) (by decide +kernel), List.mem_of_getElem? (i := 816) (by decide +kernel)⟩
theorem lw_p31 : lw_okq (⟨"LinePatcherModel", "take", "(II)V"⟩, 38) := ⟨⟨by decide +kernel, by decide +kernel⟩, List.mem_of_getElem? (i := 668) (by decide +kernel), List.mem_of_getElem? (i := 819) (by decide +kernel), List.mem_of_getElem? (i := 820) (by decide +kernel)⟩
def lw_privs_2 : List (MethodName × Nat) := [(⟨"LinePatcher$PatchReader", "takeSign", "(I)Z"⟩, 9), (⟨"LinePatcher$PatchReader", "here", "()I"⟩, 9), (⟨"LinePatcher$PatchReader", "takeNumber", "()I"⟩, 9), (⟨"LinePatcher$PatchReader", "takeLines", "()Z"⟩, 9), (⟨"LinePatcher$PatchReader", "hasLinesDue", "()Z"⟩, 9), (⟨"LinePatcher$PatchReader", "takeLine", "()Z"⟩, 9), (⟨"LinePatcher$PatchFitter", "nearestPlace", "(LLinePatcher$Text;I)I"⟩, 2), (⟨"LinePatcher$PatchFitter", "distance", "(I)I"⟩, 2), (⟨"LinePatcher$PatchFitter", "fitsAt", "(LLinePatcher$Text;I)Z"⟩, 2), (⟨"LinePatcher$PatchFitter", "appendNewLines", "()V"⟩, 2), (⟨"LinePatcher$Merger", "settleParts", "(III)V"⟩, 9), (⟨"LinePatcher$Merger", "putPart", "(LLinePatcher$Part;)V"⟩, 9), (⟨"LinePatcher$Merger", "put", "(I)V"⟩, 9), (⟨"LinePatcher$Merger", "putConflict", "()V"⟩, 9), (⟨"LinePatcherModel", "allLetters", "(I)Z"⟩, 38), (⟨"LinePatcherModel", "take", "(II)V"⟩, 38)]
theorem lw_r2 : ∀ q ∈ lw_privs_2, lw_okq q := List.forall_mem_cons.mpr ⟨lw_p16, List.forall_mem_cons.mpr ⟨lw_p17, List.forall_mem_cons.mpr ⟨lw_p18, List.forall_mem_cons.mpr ⟨lw_p19, List.forall_mem_cons.mpr ⟨lw_p20, List.forall_mem_cons.mpr ⟨lw_p21, List.forall_mem_cons.mpr ⟨lw_p22, List.forall_mem_cons.mpr ⟨lw_p23, List.forall_mem_cons.mpr ⟨lw_p24, List.forall_mem_cons.mpr ⟨lw_p25, List.forall_mem_cons.mpr ⟨lw_p26, List.forall_mem_cons.mpr ⟨lw_p27, List.forall_mem_cons.mpr ⟨lw_p28, List.forall_mem_cons.mpr ⟨lw_p29, List.forall_mem_cons.mpr ⟨lw_p30, List.forall_mem_cons.mpr ⟨lw_p31, fun _ h => absurd h List.not_mem_nil⟩⟩⟩⟩⟩⟩⟩⟩⟩⟩⟩⟩⟩⟩⟩⟩
theorem lw_p32 : lw_okq (⟨"LinePatcherModel", "compareAll", "(I)V"⟩, 38) := ⟨⟨by decide +kernel, by decide +kernel⟩, List.mem_of_getElem? (i := 668) (by decide +kernel), List.mem_of_getElem? (i := 823) (by decide +kernel), List.mem_of_getElem? (i := 824) (by decide +kernel)⟩
theorem lw_p33 : lw_okq (⟨"LinePatcherModel", "compareShort", "(IIII)V"⟩, 38) := ⟨⟨by decide +kernel, by decide +kernel⟩, List.mem_of_getElem? (i := 668) (by decide +kernel), List.mem_of_getElem? (i := 827) (by decide +kernel), List.mem_of_getElem? (i := 828) (by decide +kernel)⟩
theorem lw_p34 : lw_okq (⟨"LinePatcherModel", "await", "(IIII)V"⟩, 38) := ⟨⟨by decide +kernel, by decide +kernel⟩, List.mem_of_getElem? (i := 668) (by decide +kernel), List.mem_of_getElem? (i := 831) (by decide +kernel), List.mem_of_getElem? (i := 832) (by decide +kernel)⟩
theorem lw_p35 : lw_okq (⟨"LinePatcherModel", "standOut", "(IIII)V"⟩, 38) := ⟨⟨by decide +kernel, by decide +kernel⟩, List.mem_of_getElem? (i := 668) (by decide +kernel), List.mem_of_getElem? (i := 835) (by decide +kernel), List.mem_of_getElem? (i := 836) (by decide +kernel)⟩
theorem lw_p36 : lw_okq (⟨"LinePatcherModel", "findRanks", "(IIII)I"⟩, 38) := ⟨⟨by decide +kernel, by decide +kernel⟩, List.mem_of_getElem? (i := 668) (by decide +kernel), List.mem_of_getElem? (i := 839) (by decide +kernel), List.mem_of_getElem? (i := 840) (by decide +kernel)⟩
theorem lw_p37 : lw_okq (⟨"LinePatcherModel", "partner", "(IIIII)I"⟩, 38) := ⟨⟨by decide +kernel, by decide +kernel⟩, List.mem_of_getElem? (i := 668) (by decide +kernel), List.mem_of_getElem? (i := 843) (by decide +kernel), List.mem_of_getElem? (i := 844) (by decide +kernel)⟩
theorem lw_p38 : lw_okq (⟨"LinePatcherModel", "row", "()V"⟩, 38) := ⟨⟨by decide +kernel, by decide +kernel⟩, List.mem_of_getElem? (i := 668) (by decide +kernel), List.mem_of_getElem? (i := 855) (by decide +kernel), List.mem_of_getElem? (i := 856) (by decide +kernel)⟩
theorem lw_p39 : lw_okq (⟨"LinePatcherModel", "op", "(II)V"⟩, 38) := ⟨⟨by decide +kernel, by decide +kernel⟩, List.mem_of_getElem? (i := 668) (by decide +kernel), List.mem_of_getElem? (i := 859) (by decide +kernel), List.mem_of_getElem? (i := 860) (by decide +kernel)⟩
theorem lw_p40 : lw_okq (⟨"LinePatcherModel", "lastOf", "(II)I"⟩, 38) := ⟨⟨by decide +kernel, by decide +kernel⟩, List.mem_of_getElem? (i := 668) (by decide +kernel), List.mem_of_getElem? (i := 863) (by decide +kernel), List.mem_of_getElem? (i := 864) (by decide +kernel)⟩
theorem lw_p41 : lw_okq (⟨"LinePatcherModel", "putHunk", "(II)V"⟩, 38) := ⟨⟨by decide +kernel, by decide +kernel⟩, List.mem_of_getElem? (i := 668) (by decide +kernel), List.mem_of_getElem? (i := 867) (by decide +kernel), List.mem_of_getElem? (i := 868) (by decide +kernel)⟩
theorem lw_p42 : lw_okq (⟨"LinePatcherModel", "put", "(I)V"⟩, 38) := ⟨⟨by decide +kernel, by decide +kernel⟩, List.mem_of_getElem? (i := 668) (by decide +kernel), List.mem_of_getElem? (i := 871) (by decide +kernel), List.mem_of_getElem? (i := 872) (by decide +kernel)⟩
theorem lw_p43 : lw_okq (⟨"LinePatcherModel", "others", "(III)I"⟩, 38) := ⟨⟨by decide +kernel, by decide +kernel⟩, List.mem_of_getElem? (i := 668) (by decide +kernel), List.mem_of_getElem? (i := 875) (by decide +kernel), List.mem_of_getElem? (i := 876) (by decide +kernel)⟩
theorem lw_p44 : lw_okq (⟨"LinePatcherModel", "putNumber", "(I)V"⟩, 38) := ⟨⟨by decide +kernel, by decide +kernel⟩, List.mem_of_getElem? (i := 668) (by decide +kernel), List.mem_of_getElem? (i := 879) (by decide +kernel), List.mem_of_getElem? (i := 880) (by decide +kernel)⟩
theorem lw_p45 : lw_okq (⟨"LinePatcherModel", "readHunk", "()V"⟩, 38) := ⟨⟨by decide +kernel, by decide +kernel⟩, List.mem_of_getElem? (i := 668) (by decide +kernel), List.mem_of_getElem? (i := 899) (by decide +kernel), List.mem_of_getElem? (i := 900) (by decide +kernel)⟩
theorem lw_p46 : lw_okq (⟨"LinePatcherModel", "want", "(I)V"⟩, 38) := ⟨⟨by decide +kernel, by decide +kernel⟩, List.mem_of_getElem? (i := 668) (by decide +kernel), List.mem_of_getElem? (i := 903) (by decide +kernel), List.mem_of_getElem? (i := 904) (by decide +kernel)⟩
theorem lw_p47 : lw_okq (⟨"LinePatcherModel", "look", "()I"⟩, 38) := ⟨⟨by decide +kernel, by decide +kernel⟩, List.mem_of_getElem? (i := 668) (by decide +kernel), List.mem_of_getElem? (i := 907) (by decide +kernel), List.mem_of_getElem? (i := 908) (by decide +kernel)⟩
def lw_privs_3 : List (MethodName × Nat) := [(⟨"LinePatcherModel", "compareAll", "(I)V"⟩, 38), (⟨"LinePatcherModel", "compareShort", "(IIII)V"⟩, 38), (⟨"LinePatcherModel", "await", "(IIII)V"⟩, 38), (⟨"LinePatcherModel", "standOut", "(IIII)V"⟩, 38), (⟨"LinePatcherModel", "findRanks", "(IIII)I"⟩, 38), (⟨"LinePatcherModel", "partner", "(IIIII)I"⟩, 38), (⟨"LinePatcherModel", "row", "()V"⟩, 38), (⟨"LinePatcherModel", "op", "(II)V"⟩, 38), (⟨"LinePatcherModel", "lastOf", "(II)I"⟩, 38), (⟨"LinePatcherModel", "putHunk", "(II)V"⟩, 38), (⟨"LinePatcherModel", "put", "(I)V"⟩, 38), (⟨"LinePatcherModel", "others", "(III)I"⟩, 38), (⟨"LinePatcherModel", "putNumber", "(I)V"⟩, 38), (⟨"LinePatcherModel", "readHunk", "()V"⟩, 38), (⟨"LinePatcherModel", "want", "(I)V"⟩, 38), (⟨"LinePatcherModel", "look", "()I"⟩, 38)]
theorem lw_r3 : ∀ q ∈ lw_privs_3, lw_okq q := List.forall_mem_cons.mpr ⟨lw_p32, List.forall_mem_cons.mpr ⟨lw_p33, List.forall_mem_cons.mpr ⟨lw_p34, List.forall_mem_cons.mpr ⟨lw_p35, List.forall_mem_cons.mpr ⟨lw_p36, List.forall_mem_cons.mpr ⟨lw_p37, List.forall_mem_cons.mpr ⟨lw_p38, List.forall_mem_cons.mpr ⟨lw_p39, List.forall_mem_cons.mpr ⟨lw_p40, List.forall_mem_cons.mpr ⟨lw_p41, List.forall_mem_cons.mpr ⟨lw_p42, List.forall_mem_cons.mpr ⟨lw_p43, List.forall_mem_cons.mpr ⟨lw_p44, List.forall_mem_cons.mpr ⟨lw_p45, List.forall_mem_cons.mpr ⟨lw_p46, List.forall_mem_cons.mpr ⟨lw_p47, fun _ h => absurd h List.not_mem_nil⟩⟩⟩⟩⟩⟩⟩⟩⟩⟩⟩⟩⟩⟩⟩⟩
theorem lw_p48 : lw_okq (⟨"LinePatcherModel", "number", "()I"⟩, 38) := ⟨⟨by decide +kernel, by decide +kernel⟩, List.mem_of_getElem? (i := 668) (by decide +kernel), List.mem_of_getElem? (i := 911) (by decide +kernel), List.mem_of_getElem? (i := 912) (by decide +kernel)⟩
theorem lw_p49 : lw_okq (⟨"LinePatcherModel", "fit", "(III)I"⟩, 38) := ⟨⟨by decide +kernel, by decide +kernel⟩, List.mem_of_getElem? (i := 668) (by decide +kernel), List.mem_of_getElem? (i := 920) (by decide +kernel), List.mem_of_getElem? (i := 921) (by decide +kernel)⟩
theorem lw_p50 : lw_okq (⟨"LinePatcherModel", "stands", "(III)Z"⟩, 38) := ⟨⟨by decide +kernel, by decide +kernel⟩, List.mem_of_getElem? (i := 668) (by decide +kernel), List.mem_of_getElem? (i := 924) (by decide +kernel), List.mem_of_getElem? (i := 925) (by decide +kernel)⟩
theorem lw_p51 : lw_okq (⟨"LinePatcherModel", "emit", "(I)V"⟩, 38) := ⟨⟨by decide +kernel, by decide +kernel⟩, List.mem_of_getElem? (i := 668) (by decide +kernel), List.mem_of_getElem? (i := 928) (by decide +kernel), List.mem_of_getElem? (i := 929) (by decide +kernel)⟩
theorem lw_p52 : lw_okq (⟨"LinePatcherModel", "keep", "(I)V"⟩, 38) := ⟨⟨by decide +kernel, by decide +kernel⟩, List.mem_of_getElem? (i := 668) (by decide +kernel), List.mem_of_getElem? (i := 932) (by decide +kernel), List.mem_of_getElem? (i := 933) (by decide +kernel)⟩
theorem lw_p53 : lw_okq (⟨"LinePatcherModel", "mergeParts", "(IIIIII)I"⟩, 38) := ⟨⟨by decide +kernel, by decide +kernel⟩, List.mem_of_getElem? (i := 668) (by decide +kernel), List.mem_of_getElem? (i := 940) (by decide +kernel), List.mem_of_getElem? (i := 941) (by decide +kernel)⟩
theorem lw_p54 : lw_okq (⟨"LinePatcherModel", "sameParts", "(IIIIII)Z"⟩, 38) := ⟨⟨by decide +kernel, by decide +kernel⟩, List.mem_of_getElem? (i := 668) (by decide +kernel), List.mem_of_getElem? (i := 944) (by decide +kernel), List.mem_of_getElem? (i := 945) (by decide +kernel)⟩
theorem lw_p55 : lw_okq (⟨"LinePatcherModel", "emitPart", "(III)Z"⟩, 38) := ⟨⟨by decide +kernel, by decide +kernel⟩, List.mem_of_getElem? (i := 668) (by decide +kernel), List.mem_of_getElem? (i := 948) (by decide +kernel), List.mem_of_getElem? (i := 949) (by decide +kernel)⟩
theorem lw_p56 : lw_okq (⟨"LinePatcherModel", "tryEmit", "(I)Z"⟩, 38) := ⟨⟨by decide +kernel, by decide +kernel⟩, List.mem_of_getElem? (i := 668) (by decide +kernel), List.mem_of_getElem? (i := 952) (by decide +kernel), List.mem_of_getElem? (i := 953) (by decide +kernel)⟩
def lw_privs_4 : List (MethodName × Nat) := [(⟨"LinePatcherModel", "number", "()I"⟩, 38), (⟨"LinePatcherModel", "fit", "(III)I"⟩, 38), (⟨"LinePatcherModel", "stands", "(III)Z"⟩, 38), (⟨"LinePatcherModel", "emit", "(I)V"⟩, 38), (⟨"LinePatcherModel", "keep", "(I)V"⟩, 38), (⟨"LinePatcherModel", "mergeParts", "(IIIIII)I"⟩, 38), (⟨"LinePatcherModel", "sameParts", "(IIIIII)Z"⟩, 38), (⟨"LinePatcherModel", "emitPart", "(III)Z"⟩, 38), (⟨"LinePatcherModel", "tryEmit", "(I)Z"⟩, 38)]
theorem lw_r4 : ∀ q ∈ lw_privs_4, lw_okq q := List.forall_mem_cons.mpr ⟨lw_p48, List.forall_mem_cons.mpr ⟨lw_p49, List.forall_mem_cons.mpr ⟨lw_p50, List.forall_mem_cons.mpr ⟨lw_p51, List.forall_mem_cons.mpr ⟨lw_p52, List.forall_mem_cons.mpr ⟨lw_p53, List.forall_mem_cons.mpr ⟨lw_p54, List.forall_mem_cons.mpr ⟨lw_p55, List.forall_mem_cons.mpr ⟨lw_p56, fun _ h => absurd h List.not_mem_nil⟩⟩⟩⟩⟩⟩⟩⟩⟩
def lw_privs : List (MethodName × Nat) := lw_privs_1 ++ (lw_privs_2 ++ (lw_privs_3 ++ (lw_privs_4)))
def lw_tbl : List Cond := k2_sels lw_privs ++ tables_1
theorem lw_privs_ok : ∀ q ∈ lw_privs, lw_okq q := by
  show ∀ q ∈ lw_privs_1 ++ (lw_privs_2 ++ (lw_privs_3 ++ (lw_privs_4))), lw_okq q
  exact List.forall_mem_append.mpr ⟨lw_r1, List.forall_mem_append.mpr ⟨lw_r2, List.forall_mem_append.mpr ⟨lw_r3, lw_r4⟩⟩⟩
/-! words that a callee keeps -/
def lp_W : List Cond := lw_tbl.filter goodWord
theorem lp_Wgood : ∀ x ∈ lp_W, (x.onTables && x.keeps) = true ∨ ∃ ty, x = .arrayClass ty := fun x h => good_of_word (List.mem_filter.mp h).2
theorem lp_in {w : Cond} (i : Nat) (h : lw_tbl[i]? = some w) (hg : goodWord w = true) : w ∈ lp_W := List.mem_filter.mpr ⟨List.mem_of_getElem? h, hg⟩
def ff_P : u_T := fun k => match k with
  | 0 => ("LinePatcher", "texts", "[LLinePatcher$Text;", true)
  | 1 => ("LinePatcher", "latest", "LLinePatcher$Comparison;", true)
  | 2 => ("LinePatcher", "compared", "Z", false)
  | 3 => ("LinePatcher", "shortest", "LLinePatcher$Shortest;", true)
  | 4 => ("LinePatcher", "standingOut", "LLinePatcher$StandingOut;", true)
  | 5 => ("LinePatcher", "paper", "LLinePatcher$Paper;", true)
  | 6 => ("LinePatcher", "writer", "LLinePatcher$PatchWriter;", true)
  | 7 => ("LinePatcher", "reader", "LLinePatcher$PatchReader;", true)
  | 8 => ("LinePatcher", "fitter", "LLinePatcher$PatchFitter;", true)
  | _ => ("LinePatcher", "merger", "LLinePatcher$Merger;", true)
def tf_P : Nat → FieldType := fun k => match k with
  | 0 => .array (.object "LinePatcher$Text")
  | 1 => .object "LinePatcher$Comparison"
  | 2 => .boolean
  | 3 => .object "LinePatcher$Shortest"
  | 4 => .object "LinePatcher$StandingOut"
  | 5 => .object "LinePatcher$Paper"
  | 6 => .object "LinePatcher$PatchWriter"
  | 7 => .object "LinePatcher$PatchReader"
  | 8 => .object "LinePatcher$PatchFitter"
  | _ => .object "LinePatcher$Merger"
def ff_T : u_T := fun k => match k with
  | 0 => ("LinePatcher$Text", "lines", "[I", true)
  | _ => ("LinePatcher$Text", "count", "I", false)
def tf_T : Nat → FieldType := fun k => match k with
  | 0 => .array .int
  | _ => .int
def ff_C : u_T := fun k => match k with
  | 0 => ("LinePatcher$Comparison", "x", "LLinePatcher$Text;", true)
  | 1 => ("LinePatcher$Comparison", "y", "LLinePatcher$Text;", true)
  | 2 => ("LinePatcher$Comparison", "partners", "[I", true)
  | _ => ("LinePatcher$Comparison", "matched", "I", false)
def tf_C : Nat → FieldType := fun k => match k with
  | 0 => .object "LinePatcher$Text"
  | 1 => .object "LinePatcher$Text"
  | 2 => .array .int
  | _ => .int
def ff_R : u_T := fun k => match k with
  | 0 => ("LinePatcher$Range", "x", "I", false)
  | 1 => ("LinePatcher$Range", "xEnd", "I", false)
  | 2 => ("LinePatcher$Range", "y", "I", false)
  | _ => ("LinePatcher$Range", "yEnd", "I", false)
def tf_R : Nat → FieldType := fun k => match k with
  | 0 => .int
  | 1 => .int
  | 2 => .int
  | _ => .int
def ff_S : u_T := fun k => match k with
  | 0 => ("LinePatcher$Shortest", "most", "[[I", true)
  | _ => ("LinePatcher$Shortest", "whole", "LLinePatcher$Range;", true)
def tf_S : Nat → FieldType := fun k => match k with
  | 0 => .array (.array .int)
  | _ => .object "LinePatcher$Range"
def ff_O : u_T := fun k => match k with
  | 0 => ("LinePatcher$StandingOut", "shortest", "LLinePatcher$Shortest;", true)
  | 1 => ("LinePatcher$StandingOut", "ranges", "[LLinePatcher$Range;", true)
  | 2 => ("LinePatcher$StandingOut", "rangeCount", "I", false)
  | 3 => ("LinePatcher$StandingOut", "pairX", "[I", true)
  | 4 => ("LinePatcher$StandingOut", "pairY", "[I", true)
  | 5 => ("LinePatcher$StandingOut", "ranks", "[I", true)
  | _ => ("LinePatcher$StandingOut", "pairCount", "I", false)
def tf_O : Nat → FieldType := fun k => match k with
  | 0 => .object "LinePatcher$Shortest"
  | 1 => .array (.object "LinePatcher$Range")
  | 2 => .int
  | 3 => .array .int
  | 4 => .array .int
  | 5 => .array .int
  | _ => .int
def ff_A : u_T := fun k => match k with
  | 0 => ("LinePatcher$Paper", "characters", "[I", true)
  | _ => ("LinePatcher$Paper", "length", "I", false)
def tf_A : Nat → FieldType := fun k => match k with
  | 0 => .array .int
  | _ => .int
def ff_W : u_T := fun k => match k with
  | 0 => ("LinePatcher$PatchWriter", "comparison", "LLinePatcher$Comparison;", true)
  | 1 => ("LinePatcher$PatchWriter", "paper", "LLinePatcher$Paper;", true)
  | 2 => ("LinePatcher$PatchWriter", "changes", "[LLinePatcher$Range;", true)
  | _ => ("LinePatcher$PatchWriter", "changeCount", "I", false)
def tf_W : Nat → FieldType := fun k => match k with
  | 0 => .object "LinePatcher$Comparison"
  | 1 => .object "LinePatcher$Paper"
  | 2 => .array (.object "LinePatcher$Range")
  | _ => .int
def ff_D : u_T := fun k => match k with
  | 0 => ("LinePatcher$PatchReader", "paper", "LLinePatcher$Paper;", true)
  | 1 => ("LinePatcher$PatchReader", "place", "I", false)
  | 2 => ("LinePatcher$PatchReader", "named", "I", false)
  | 3 => ("LinePatcher$PatchReader", "oldDue", "I", false)
  | 4 => ("LinePatcher$PatchReader", "newDue", "I", false)
  | 5 => ("LinePatcher$PatchReader", "oldLines", "[I", true)
  | 6 => ("LinePatcher$PatchReader", "oldCount", "I", false)
  | 7 => ("LinePatcher$PatchReader", "newLines", "[I", true)
  | _ => ("LinePatcher$PatchReader", "newCount", "I", false)
def tf_D : Nat → FieldType := fun k => match k with
  | 0 => .object "LinePatcher$Paper"
  | 1 => .int
  | 2 => .int
  | 3 => .int
  | 4 => .int
  | 5 => .array .int
  | 6 => .int
  | 7 => .array .int
  | _ => .int
def ff_F : u_T := fun k => match k with
  | 0 => ("LinePatcher$PatchFitter", "reader", "LLinePatcher$PatchReader;", true)
  | _ => ("LinePatcher$PatchFitter", "patched", "LLinePatcher$Text;", true)
def tf_F : Nat → FieldType := fun k => match k with
  | 0 => .object "LinePatcher$PatchReader"
  | _ => .object "LinePatcher$Text"
def ff_Q : u_T := fun k => match k with
  | 0 => ("LinePatcher$Part", "text", "LLinePatcher$Text;", true)
  | 1 => ("LinePatcher$Part", "from", "I", false)
  | _ => ("LinePatcher$Part", "to", "I", false)
def tf_Q : Nat → FieldType := fun k => match k with
  | 0 => .object "LinePatcher$Text"
  | 1 => .int
  | _ => .int
def ff_G : u_T := fun k => match k with
  | 0 => ("LinePatcher$Merger", "shortest", "LLinePatcher$Shortest;", true)
  | 1 => ("LinePatcher$Merger", "withOne", "LLinePatcher$Comparison;", true)
  | 2 => ("LinePatcher$Merger", "withTwo", "LLinePatcher$Comparison;", true)
  | 3 => ("LinePatcher$Merger", "base", "LLinePatcher$Part;", true)
  | 4 => ("LinePatcher$Merger", "one", "LLinePatcher$Part;", true)
  | 5 => ("LinePatcher$Merger", "two", "LLinePatcher$Part;", true)
  | 6 => ("LinePatcher$Merger", "merged", "LLinePatcher$Text;", true)
  | 7 => ("LinePatcher$Merger", "total", "I", false)
  | _ => ("LinePatcher$Merger", "conflicts", "I", false)
def tf_G : Nat → FieldType := fun k => match k with
  | 0 => .object "LinePatcher$Shortest"
  | 1 => .object "LinePatcher$Comparison"
  | 2 => .object "LinePatcher$Comparison"
  | 3 => .object "LinePatcher$Part"
  | 4 => .object "LinePatcher$Part"
  | 5 => .object "LinePatcher$Part"
  | 6 => .object "LinePatcher$Text"
  | 7 => .int
  | _ => .int
def ff_M : u_T := fun k => match k with
  | 0 => ("LinePatcherModel", "lines", "[I", false)
  | 1 => ("LinePatcherModel", "sizes", "[I", false)
  | 2 => ("LinePatcherModel", "an", "I", false)
  | 3 => ("LinePatcherModel", "bn", "I", false)
  | 4 => ("LinePatcherModel", "a", "[I", false)
  | 5 => ("LinePatcherModel", "b", "[I", false)
  | 6 => ("LinePatcherModel", "mate", "[I", false)
  | 7 => ("LinePatcherModel", "left", "[I", false)
  | 8 => ("LinePatcherModel", "waiting", "I", false)
  | 9 => ("LinePatcherModel", "fromA", "[I", false)
  | 10 => ("LinePatcherModel", "toA", "[I", false)
  | 11 => ("LinePatcherModel", "fromB", "[I", false)
  | 12 => ("LinePatcherModel", "toB", "[I", false)
  | 13 => ("LinePatcherModel", "pairOf", "[I", false)
  | 14 => ("LinePatcherModel", "rank", "[I", false)
  | 15 => ("LinePatcherModel", "compared", "Z", false)
  | 16 => ("LinePatcherModel", "xn", "I", false)
  | 17 => ("LinePatcherModel", "yn", "I", false)
  | 18 => ("LinePatcherModel", "xs", "[I", false)
  | 19 => ("LinePatcherModel", "ys", "[I", false)
  | 20 => ("LinePatcherModel", "match", "[I", false)
  | 21 => ("LinePatcherModel", "ops", "I", false)
  | 22 => ("LinePatcherModel", "kinds", "[I", false)
  | 23 => ("LinePatcherModel", "shown", "[I", false)
  | 24 => ("LinePatcherModel", "length", "I", false)
  | 25 => ("LinePatcherModel", "paper", "[I", false)
  | 26 => ("LinePatcherModel", "hunks", "I", false)
  | 27 => ("LinePatcherModel", "named", "[I", false)
  | 28 => ("LinePatcherModel", "olds", "[I", false)
  | 29 => ("LinePatcherModel", "news", "[I", false)
  | 30 => ("LinePatcherModel", "all", "[I", false)
  | 31 => ("LinePatcherModel", "begins", "[I", false)
  | 32 => ("LinePatcherModel", "found", "[I", false)
  | 33 => ("LinePatcherModel", "at", "I", false)
  | 34 => ("LinePatcherModel", "failed", "Z", false)
  | 35 => ("LinePatcherModel", "outSize", "I", false)
  | 36 => ("LinePatcherModel", "out", "[I", false)
  | _ => ("LinePatcherModel", "second", "[I", false)
def tf_M : Nat → FieldType := fun k => match k with
  | 0 => .array .int
  | 1 => .array .int
  | 2 => .int
  | 3 => .int
  | 4 => .array .int
  | 5 => .array .int
  | 6 => .array .int
  | 7 => .array .int
  | 8 => .int
  | 9 => .array .int
  | 10 => .array .int
  | 11 => .array .int
  | 12 => .array .int
  | 13 => .array .int
  | 14 => .array .int
  | 15 => .boolean
  | 16 => .int
  | 17 => .int
  | 18 => .array .int
  | 19 => .array .int
  | 20 => .array .int
  | 21 => .int
  | 22 => .array .int
  | 23 => .array .int
  | 24 => .int
  | 25 => .array .int
  | 26 => .int
  | 27 => .array .int
  | 28 => .array .int
  | 29 => .array .int
  | 30 => .array .int
  | 31 => .array .int
  | 32 => .array .int
  | 33 => .int
  | 34 => .boolean
  | 35 => .int
  | 36 => .array .int
  | _ => .array .int
abbrev vwCl : List vw_C := [("LinePatcher", ff_P, 10), ("LinePatcher$Text", ff_T, 2), ("LinePatcher$Comparison", ff_C, 4), ("LinePatcher$Range", ff_R, 4), ("LinePatcher$Shortest", ff_S, 2), ("LinePatcher$StandingOut", ff_O, 7), ("LinePatcher$Paper", ff_A, 2), ("LinePatcher$PatchWriter", ff_W, 4), ("LinePatcher$PatchReader", ff_D, 9), ("LinePatcher$PatchFitter", ff_F, 2), ("LinePatcher$Part", ff_Q, 3), ("LinePatcher$Merger", ff_G, 9), ("LinePatcherModel", ff_M, 38)]
def lp_tys (tc : Nat → ClassId) : List (ClassId × FieldType) := [(tc 0, .int), (tc 1, .object "LinePatcher$Text"), (tc 2, .object "LinePatcher$Range"), (tc 3, .array .int)]
def lp_nm : List (String × Nat × MethodName × String) := [("LinePatcher", 17, ⟨"LinePatcher$Comparison", "<init>", "()V"⟩, "LinePatcher"), ("LinePatcher$Comparison", 11, ⟨"LinePatcher$Text", "<init>", "()V"⟩, "LinePatcher"), ("LinePatcher", 24, ⟨"LinePatcher$Shortest", "<init>", "()V"⟩, "LinePatcher"), ("LinePatcher$Shortest", 18, ⟨"LinePatcher$Range", "<init>", "()V"⟩, "LinePatcher"), ("LinePatcher$StandingOut", 31, ⟨"LinePatcher$Range", "<init>", "()V"⟩, "LinePatcher"), ("LinePatcher", 40, ⟨"LinePatcher$Paper", "<init>", "()V"⟩, "LinePatcher"), ("LinePatcher$PatchWriter", 25, ⟨"LinePatcher$Range", "<init>", "()V"⟩, "LinePatcher"), ("LinePatcher$PatchFitter", 11, ⟨"LinePatcher$Text", "<init>", "()V"⟩, "LinePatcher"), ("LinePatcher$Merger", 11, ⟨"LinePatcher$Comparison", "<init>", "()V"⟩, "LinePatcher"), ("LinePatcher$Merger", 45, ⟨"LinePatcher$Text", "<init>", "()V"⟩, "LinePatcher"), ("LinePatcher", 79, ⟨"LinePatcher$Text", "<init>", "()V"⟩, "LinePatcher"), ("LinePatcher$Text", 27, ⟨"LinePatcher", "isLetter", "(I)Z"⟩, "LinePatcher"), ("LinePatcher$PatchReader", 79, ⟨"LinePatcher", "isLetter", "(I)Z"⟩, "LinePatcher")]
def lp_ao : List String := ["LinePatcher$Text", "LinePatcher$Range"]
end
section
/-! base: one judgement for a place in a method, over a list of cells that lie side by side from one address on -/
abbrev lp_G : Type := Launch × Nat × (Nat → ClassId) × va_G
abbrev lp_M : Type := MethodName × ByteArray × Nat × Option FieldType
abbrev lp_O : Type := Room × (Array Value → State → Prop) × (List Frame → Array Value → State → State → Prop)
def lp_ws (sz : Nat) (cs : List va_E) : va_W := cs.mapIdx (fun k e => (sz + k, e))
theorem lp_ws_get (sz : Nat) (cs : List va_E) (k : Nat) : (lp_ws sz cs)[k]? = (cs[k]?).map (fun e => (sz + k, e)) := by
  simp [lp_ws]
theorem lp_ws_at {sz : Nat} {cs : List va_E} {k : Nat} {e : va_E} (h : cs[k]? = some e) : (lp_ws sz cs)[k]? = some (sz + k, e) := by
  rw [lp_ws_get, h]; rfl
theorem lp_ws_len (sz : Nat) (cs : List va_E) : (lp_ws sz cs).length = cs.length := by
  simp [lp_ws]
theorem lp_ws_set {sz : Nat} {cs : List va_E} {k : Nat} {e : va_E} : (lp_ws sz cs).set k (sz + k, e) = lp_ws sz (cs.set k e) := by
  apply List.ext_getElem?
  intro j
  rw [lp_ws_get, List.getElem?_set, List.getElem?_set, lp_ws_len, lp_ws_get]
  by_cases h : k = j
  · subst h
    by_cases h2 : k < cs.length
    · simp [h2]
    · simp [h2]
  · simp [h]
theorem lp_ws_app {sz : Nat} {cs : List va_E} {e : va_E} : lp_ws sz (cs ++ [e]) = lp_ws sz cs ++ [(sz + cs.length, e)] := by
  simp [lp_ws, List.mapIdx_append]
theorem lp_ws_D (sz : Nat) (cs : List va_E) : va_D (fun q => sz ≤ q) (lp_ws sz cs) := by
  refine ⟨fun i j p q hi hj h => ?_, fun k q hk => ?_⟩
  · rw [lp_ws_get] at hi hj
    obtain ⟨e1, -, rfl⟩ := Option.map_eq_some_iff.mp hi
    obtain ⟨e2, -, rfl⟩ := Option.map_eq_some_iff.mp hj
    have h : sz + i = sz + j := h
    omega
  · rw [lp_ws_get] at hk
    obtain ⟨e1, -, rfl⟩ := Option.map_eq_some_iff.mp hk
    exact Nat.le_add_right _ _
/-- what the tables say, at any state of the run -/
def lp_K (g : lp_G) (U : State) : Prop := va_K g.2.2.2 vwCl (lp_tys g.2.2.1) U ∧ (∀ q ∈ lp_nm, va_Nw (.methodLinkNest q.1 q.2.1 q.2.2.1 q.2.2.2) U) ∧ (∀ C ∈ lp_ao, va_AO C U) ∧ U.vm.findClass "[I" = some (g.2.2.1 0) ∧ ∃ kA, U.vm.classes[g.2.2.1 3]? = some kA ∧ kA.kind = .array (g.2.2.1 0) (.array .int)
theorem lp_K.warm {g : lp_G} {s U : State} (hW : s.WarmedH U.vm) (h : lp_K g s) : lp_K g U := by
  refine ⟨va_K.moved hW.alike h.1, fun q hq => va_Nw.warmM hW (h.2.1 q hq), fun C hC => va_AO.moved hW.alike (h.2.2.1 C hC), by rw [hW.alike.findClass]; exact h.2.2.2.1, ?_⟩
  obtain ⟨kA, h1, h2⟩ := h.2.2.2.2
  obtain ⟨k', hk', he⟩ := hW.alike.2.2 _ _ h1
  exact ⟨k', hk', by rw [he]; exact h2⟩
theorem lp_K.same {g : lp_G} {s U : State} (hv : s.vm = U.vm) (h : lp_K g s) : lp_K g U :=
  ⟨va_K.moved (by rw [hv]; exact Vm.Alike.refl _) h.1, fun q hq => va_Nw.same rfl hv (h.2.1 q hq), fun C hC => va_AO.moved (by rw [hv]; exact Vm.Alike.refl _) (h.2.2.1 C hC), by rw [← hv]; exact h.2.2.2.1, by rw [← hv]; exact h.2.2.2.2⟩
/-- the heap holds the cells, and none beyond them -/
def lp_Wo (g : lp_G) (cs : List va_E) (H : Heap) : Prop := va_P g.2.2.2 vwCl (lp_ws g.2.1 cs) H ∧ H.size = g.2.1 + cs.length
def lp_Cx (g : lp_G) (u : lp_M) (M : lp_O) (p : Program) (s : State) (m : MethodId) (args : Array Value) (meth : Method) (c : Code) : Prop :=
  p.tables.exec = Jvm.exec ∧ c.code = u.2.1 ∧ c.maxLocals = u.2.2.1 ∧ meth.sig.returnType = u.2.2.2 ∧ s.vm.findClass u.1.cls = some m.cls ∧ (∀ w ∈ lp_W, w.before args s = true) ∧ lp_K g s ∧ meth.locks = false ∧ (u.1.name = "<init>" → meth.name = "<init>") ∧ g.2.1 ≤ s.heap.size ∧ M.2.1 args s
def Ab (g : lp_G) (u : lp_M) (M : lp_O) (cells slots : Nat) (pc : Nat) (lv : List (Nat × Value)) (st : List Value) (cs : List va_E) : Prop :=
  ∀ (p : Program) (e : Env) (s : State) (m : MethodId) (args : Array Value) (below : List Frame) (meth : Method) (c : Code), lp_Cx g u M p s m args meth c →
  ∀ (ls : Array Slot) (H : Heap) (locs : List Loc), lv_has ls u.2.2.1 lv → lp_Wo g cs H → va_S (fun q => g.2.1 ≤ q) s.heap H locs →
  W p g.1 e M.1 s m args below meth c H locs cells slots (M.2.2 below args s) (F0 m pc ls st)
section LPA
variable {g : lp_G} {u : lp_M} {M : lp_O} {cells slots pc : Nat} {lv : List (Nat × Value)} {st : List Value} {cs : List va_E}
theorem ab_sub {lv' : List (Nat × Value)} (ks : List Nat) (h : lv_pick lv ks = lv') (kk : Ab g u M cells slots pc lv' st cs) : Ab g u M cells slots pc lv st cs :=
  fun p e s m args below meth c X ls H locs hl hw hS => kk p e s m args below meth c X ls H locs (lv_sub hl ks h) hw hS
theorem ab_pc {pc' : Nat} (h : pc = pc') (kk : Ab g u M cells slots pc' lv st cs) : Ab g u M cells slots pc lv st cs := h ▸ kk
theorem ab_widen {k n : Nat} (h1 : cells ≤ k) (h2 : slots ≤ n) (kk : Ab g u M k n pc lv st cs) : Ab g u M cells slots pc lv st cs :=
  fun p e s m args below meth c X ls H locs hl hw hS => W.widen h1 h2 (kk p e s m args below meth c X ls H locs hl hw hS)
theorem ab_iconst {n : Int} {v : Int32} (hd : decode u.2.1 pc = .ok (.iconst n, 1)) (hv : Int32.ofInt n = v) (kk : Ab g u M cells slots (pc + 1) lv (.int v :: st) cs) : Ab g u M cells slots pc lv (st) cs :=
  fun p e s m args below meth c X ls H locs hl hw hS => lv_iconst X.1 X.2.1 hd hv (kk p e s m args below meth c X ls H locs hl hw hS)
theorem ab_bipush {n : Int} {v : Int32} (hd : decode u.2.1 pc = .ok (.bipush n, 2)) (hv : (Int8.ofInt n).toInt32 = v) (kk : Ab g u M cells slots (pc + 2) lv (.int v :: st) cs) : Ab g u M cells slots pc lv (st) cs :=
  fun p e s m args below meth c X ls H locs hl hw hS => lv_bipush X.1 X.2.1 hd hv (kk p e s m args below meth c X ls H locs hl hw hS)
theorem ab_sipush {n : Int} {v : Int32} (hd : decode u.2.1 pc = .ok (.sipush n, 3)) (hv : (Int16.ofInt n).toInt32 = v) (kk : Ab g u M cells slots (pc + 3) lv (.int v :: st) cs) : Ab g u M cells slots pc lv (st) cs :=
  fun p e s m args below meth c X ls H locs hl hw hS => lv_sipush X.1 X.2.1 hd hv (kk p e s m args below meth c X ls H locs hl hw hS)
theorem ab_ldc2 {index : Nat} {v : Int64} (hd : decode u.2.1 pc = .ok (.ldc2_w index, 3)) (hw0 : Cond.constantLong u.1.cls index v ∈ lp_W) (kk : Ab g u M cells slots (pc + 3) lv (.long v :: st) cs) : Ab g u M cells slots pc lv st cs :=
  fun p e s m args below meth c X ls H locs hl hw hS => lv_ldc2 X.1 X.2.1 X.2.2.2.2.1 (X.2.2.2.2.2.1 _ hw0) hd (kk p e s m args below meth c X ls H locs hl hw hS)
theorem ab_iload_n {k : Fin 4} {i : Nat} {x : Int32} (j : Nat) (hd : decode u.2.1 pc = .ok (.iload_n k, 1)) (hi : (k : Nat) = i) (hj : lv[j]? = some (i, .int x)) (kk : Ab g u M cells slots (pc + 1) lv (.int x :: st) cs) : Ab g u M cells slots pc lv st cs :=
  fun p e s m args below meth c X ls H locs hl hw hS => lv_iload_n X.1 X.2.1 hd hi (lv_at hl j hj) (kk p e s m args below meth c X ls H locs hl hw hS)
theorem ab_iload {i : Nat} {x : Int32} (j : Nat) (hd : decode u.2.1 pc = .ok (.iload i, 2)) (hj : lv[j]? = some (i, .int x)) (kk : Ab g u M cells slots (pc + 2) lv (.int x :: st) cs) : Ab g u M cells slots pc lv st cs :=
  fun p e s m args below meth c X ls H locs hl hw hS => lv_iload X.1 X.2.1 hd (lv_at hl j hj) (kk p e s m args below meth c X ls H locs hl hw hS)
theorem ab_lload_n {k : Fin 4} {i : Nat} {x : Int64} (j : Nat) (hd : decode u.2.1 pc = .ok (.lload_n k, 1)) (hi : (k : Nat) = i) (hj : lv[j]? = some (i, .long x)) (kk : Ab g u M cells slots (pc + 1) lv (.long x :: st) cs) : Ab g u M cells slots pc lv st cs :=
  fun p e s m args below meth c X ls H locs hl hw hS => lv_lload_n X.1 X.2.1 hd hi (lv_at hl j hj) (kk p e s m args below meth c X ls H locs hl hw hS)
theorem ab_lload {i : Nat} {x : Int64} (j : Nat) (hd : decode u.2.1 pc = .ok (.lload i, 2)) (hj : lv[j]? = some (i, .long x)) (kk : Ab g u M cells slots (pc + 2) lv (.long x :: st) cs) : Ab g u M cells slots pc lv st cs :=
  fun p e s m args below meth c X ls H locs hl hw hS => lv_lload X.1 X.2.1 hd (lv_at hl j hj) (kk p e s m args below meth c X ls H locs hl hw hS)
theorem ab_aload_n {k : Fin 4} {i : Nat} {x : Nat} (j : Nat) (hd : decode u.2.1 pc = .ok (.aload_n k, 1)) (hi : (k : Nat) = i) (hj : lv[j]? = some (i, .ref x)) (kk : Ab g u M cells slots (pc + 1) lv (.ref x :: st) cs) : Ab g u M cells slots pc lv st cs :=
  fun p e s m args below meth c X ls H locs hl hw hS => lv_aload_n X.1 X.2.1 hd hi (lv_at hl j hj) (kk p e s m args below meth c X ls H locs hl hw hS)
theorem ab_aload {i : Nat} {x : Nat} (j : Nat) (hd : decode u.2.1 pc = .ok (.aload i, 2)) (hj : lv[j]? = some (i, .ref x)) (kk : Ab g u M cells slots (pc + 2) lv (.ref x :: st) cs) : Ab g u M cells slots pc lv st cs :=
  fun p e s m args below meth c X ls H locs hl hw hS => lv_aload X.1 X.2.1 hd (lv_at hl j hj) (kk p e s m args below meth c X ls H locs hl hw hS)
theorem ab_istore_n {k : Fin 4} {i : Nat} {x : Int32} {lv' : List (Nat × Value)} (hd : decode u.2.1 pc = .ok (.istore_n k, 1)) (hi : (k : Nat) = i) (hn : i < u.2.2.1) (hv : (i, Value.int x) :: lv.filter (fun q => !(q.1 == i) && !(q.1 + 1 == i && q.2.category == 2)) = lv') (kk : Ab g u M cells slots (pc + 1) lv' st cs) : Ab g u M cells slots pc lv (.int x :: st) cs :=
  fun p e s m args below meth c X ls H locs hl hw hS => lv_istore_n X.1 X.2.1 hd hi hl hn hv (fun ls' hl' => kk p e s m args below meth c X ls' H locs hl' hw hS)
theorem ab_istore {i : Nat} {x : Int32} {lv' : List (Nat × Value)} (hd : decode u.2.1 pc = .ok (.istore i, 2)) (hn : i < u.2.2.1) (hv : (i, Value.int x) :: lv.filter (fun q => !(q.1 == i) && !(q.1 + 1 == i && q.2.category == 2)) = lv') (kk : Ab g u M cells slots (pc + 2) lv' st cs) : Ab g u M cells slots pc lv (.int x :: st) cs :=
  fun p e s m args below meth c X ls H locs hl hw hS => lv_istore X.1 X.2.1 hd hl hn hv (fun ls' hl' => kk p e s m args below meth c X ls' H locs hl' hw hS)
theorem ab_astore_n {k : Fin 4} {i : Nat} {x : Nat} {lv' : List (Nat × Value)} (hd : decode u.2.1 pc = .ok (.astore_n k, 1)) (hi : (k : Nat) = i) (hn : i < u.2.2.1) (hv : (i, Value.ref x) :: lv.filter (fun q => !(q.1 == i) && !(q.1 + 1 == i && q.2.category == 2)) = lv') (kk : Ab g u M cells slots (pc + 1) lv' st cs) : Ab g u M cells slots pc lv (.ref x :: st) cs :=
  fun p e s m args below meth c X ls H locs hl hw hS => lv_astore_n X.1 X.2.1 hd hi hl hn hv (fun ls' hl' => kk p e s m args below meth c X ls' H locs hl' hw hS)
theorem ab_astore {i : Nat} {x : Nat} {lv' : List (Nat × Value)} (hd : decode u.2.1 pc = .ok (.astore i, 2)) (hn : i < u.2.2.1) (hv : (i, Value.ref x) :: lv.filter (fun q => !(q.1 == i) && !(q.1 + 1 == i && q.2.category == 2)) = lv') (kk : Ab g u M cells slots (pc + 2) lv' st cs) : Ab g u M cells slots pc lv (.ref x :: st) cs :=
  fun p e s m args below meth c X ls H locs hl hw hS => lv_astore X.1 X.2.1 hd hl hn hv (fun ls' hl' => kk p e s m args below meth c X ls' H locs hl' hw hS)
theorem ab_iinc {i : Nat} {n : Int} {x v : Int32} {lv' : List (Nat × Value)} (j : Nat) (hd : decode u.2.1 pc = .ok (.iinc i n, 3)) (hj : lv[j]? = some (i, .int x)) (hx : x + Int32.ofInt n = v) (hn : i < u.2.2.1) (hv : (i, Value.int v) :: lv.filter (fun q => !(q.1 == i) && !(q.1 + 1 == i && q.2.category == 2)) = lv') (kk : Ab g u M cells slots (pc + 3) lv' st cs) : Ab g u M cells slots pc lv st cs :=
  fun p e s m args below meth c X ls H locs hl hw hS => lv_iinc X.1 X.2.1 hd hl hj hx hn hv (fun ls' hl' => kk p e s m args below meth c X ls' H locs hl' hw hS)
theorem ab_iadd {x y : Int32} (hd : decode u.2.1 pc = .ok (.iadd, 1))  (kk : Ab g u M cells slots (pc + 1) lv (.int (x + y) :: st) cs) : Ab g u M cells slots pc lv (.int y :: .int x :: st) cs :=
  fun p e s m args below meth c X ls H locs hl hw hS => lv_iadd X.1 X.2.1 hd  (kk p e s m args below meth c X ls H locs hl hw hS)
theorem ab_isub {x y : Int32} (hd : decode u.2.1 pc = .ok (.isub, 1))  (kk : Ab g u M cells slots (pc + 1) lv (.int (x - y) :: st) cs) : Ab g u M cells slots pc lv (.int y :: .int x :: st) cs :=
  fun p e s m args below meth c X ls H locs hl hw hS => lv_isub X.1 X.2.1 hd  (kk p e s m args below meth c X ls H locs hl hw hS)
theorem ab_imul {x y : Int32} (hd : decode u.2.1 pc = .ok (.imul, 1))  (kk : Ab g u M cells slots (pc + 1) lv (.int (x * y) :: st) cs) : Ab g u M cells slots pc lv (.int y :: .int x :: st) cs :=
  fun p e s m args below meth c X ls H locs hl hw hS => lv_imul X.1 X.2.1 hd  (kk p e s m args below meth c X ls H locs hl hw hS)
theorem ab_iand {x y : Int32} (hd : decode u.2.1 pc = .ok (.iand, 1))  (kk : Ab g u M cells slots (pc + 1) lv (.int (x &&& y) :: st) cs) : Ab g u M cells slots pc lv (.int y :: .int x :: st) cs :=
  fun p e s m args below meth c X ls H locs hl hw hS => lv_iand X.1 X.2.1 hd  (kk p e s m args below meth c X ls H locs hl hw hS)
theorem ab_ior {x y : Int32} (hd : decode u.2.1 pc = .ok (.ior, 1))  (kk : Ab g u M cells slots (pc + 1) lv (.int (x ||| y) :: st) cs) : Ab g u M cells slots pc lv (.int y :: .int x :: st) cs :=
  fun p e s m args below meth c X ls H locs hl hw hS => lv_ior X.1 X.2.1 hd  (kk p e s m args below meth c X ls H locs hl hw hS)
theorem ab_idiv {x y : Int32} (hd : decode u.2.1 pc = .ok (.idiv, 1)) (hne : ¬ y = 0) (kk : Ab g u M cells slots (pc + 1) lv (.int (x / y) :: st) cs) : Ab g u M cells slots pc lv (.int y :: .int x :: st) cs :=
  fun p e s m args below meth c X ls H locs hl hw hS => lv_idiv X.1 X.2.1 hd hne (kk p e s m args below meth c X ls H locs hl hw hS)
theorem ab_irem {x y : Int32} (hd : decode u.2.1 pc = .ok (.irem, 1)) (hne : ¬ y = 0) (kk : Ab g u M cells slots (pc + 1) lv (.int (x - x / y * y) :: st) cs) : Ab g u M cells slots pc lv (.int y :: .int x :: st) cs :=
  fun p e s m args below meth c X ls H locs hl hw hS => lv_irem X.1 X.2.1 hd hne (kk p e s m args below meth c X ls H locs hl hw hS)
theorem ab_land {x y : Int64} (hd : decode u.2.1 pc = .ok (.land, 1))  (kk : Ab g u M cells slots (pc + 1) lv (.long (x &&& y) :: st) cs) : Ab g u M cells slots pc lv (.long y :: .long x :: st) cs :=
  fun p e s m args below meth c X ls H locs hl hw hS => lv_land X.1 X.2.1 hd  (kk p e s m args below meth c X ls H locs hl hw hS)
theorem ab_lor {x y : Int64} (hd : decode u.2.1 pc = .ok (.lor, 1))  (kk : Ab g u M cells slots (pc + 1) lv (.long (x ||| y) :: st) cs) : Ab g u M cells slots pc lv (.long y :: .long x :: st) cs :=
  fun p e s m args below meth c X ls H locs hl hw hS => lv_lor X.1 X.2.1 hd  (kk p e s m args below meth c X ls H locs hl hw hS)
theorem ab_i2l {x : Int32} {v : Int64} (hd : decode u.2.1 pc = .ok (.i2l, 1)) (hv : x.toInt64 = v) (kk : Ab g u M cells slots (pc + 1) lv (.long v :: st) cs) : Ab g u M cells slots pc lv (.int x :: st) cs :=
  fun p e s m args below meth c X ls H locs hl hw hS => lv_i2l X.1 X.2.1 hd hv (kk p e s m args below meth c X ls H locs hl hw hS)
theorem ab_l2i {x : Int64} {v : Int32} (hd : decode u.2.1 pc = .ok (.l2i, 1)) (hv : x.toInt32 = v) (kk : Ab g u M cells slots (pc + 1) lv (.int v :: st) cs) : Ab g u M cells slots pc lv (.long x :: st) cs :=
  fun p e s m args below meth c X ls H locs hl hw hS => lv_l2i X.1 X.2.1 hd hv (kk p e s m args below meth c X ls H locs hl hw hS)
theorem ab_lushr {x v : Int64} {y : Int32} (hd : decode u.2.1 pc = .ok (.lushr, 1)) (hv : (x.toUInt64 >>> (y.toInt64.toUInt64 &&& Int64.toUInt64 63)).toInt64 = v) (kk : Ab g u M cells slots (pc + 1) lv (.long v :: st) cs) : Ab g u M cells slots pc lv (.int y :: .long x :: st) cs :=
  fun p e s m args below meth c X ls H locs hl hw hS => lv_lushr X.1 X.2.1 hd hv (kk p e s m args below meth c X ls H locs hl hw hS)
theorem ab_lshr {x v : Int64} {y : Int32} (hd : decode u.2.1 pc = .ok (.lshr, 1)) (hv : x >>> (y.toInt64 &&& 63) = v) (kk : Ab g u M cells slots (pc + 1) lv (.long v :: st) cs) : Ab g u M cells slots pc lv (.int y :: .long x :: st) cs :=
  fun p e s m args below meth c X ls H locs hl hw hS => lv_lshr X.1 X.2.1 hd hv (kk p e s m args below meth c X ls H locs hl hw hS)
theorem ab_lshl {x v : Int64} {y : Int32} (hd : decode u.2.1 pc = .ok (.lshl, 1)) (hv : x <<< (y.toInt64 &&& 63) = v) (kk : Ab g u M cells slots (pc + 1) lv (.long v :: st) cs) : Ab g u M cells slots pc lv (.int y :: .long x :: st) cs :=
  fun p e s m args below meth c X ls H locs hl hw hS => lv_lshl X.1 X.2.1 hd hv (kk p e s m args below meth c X ls H locs hl hw hS)
theorem ab_dup {va : Value} (hd : decode u.2.1 pc = .ok (.dup, 1)) (hva : va.category = 1) (kk : Ab g u M cells slots (pc + 1) lv (va :: va :: st) cs) : Ab g u M cells slots pc lv (va :: st) cs :=
  fun p e s m args below meth c X ls H locs hl hw hS => lv_dup X.1 X.2.1 hd hva (kk p e s m args below meth c X ls H locs hl hw hS)
theorem ab_pop {va : Value} (hd : decode u.2.1 pc = .ok (.pop, 1)) (hva : va.category = 1) (kk : Ab g u M cells slots (pc + 1) lv (st) cs) : Ab g u M cells slots pc lv (va :: st) cs :=
  fun p e s m args below meth c X ls H locs hl hw hS => lv_pop X.1 X.2.1 hd hva (kk p e s m args below meth c X ls H locs hl hw hS)
theorem ab_dup_x1 {va vb : Value} (hd : decode u.2.1 pc = .ok (.dup_x1, 1)) (hva : va.category = 1) (hvb : vb.category = 1) (kk : Ab g u M cells slots (pc + 1) lv (va :: vb :: va :: st) cs) : Ab g u M cells slots pc lv (va :: vb :: st) cs :=
  fun p e s m args below meth c X ls H locs hl hw hS => lv_dup_x1 X.1 X.2.1 hd hva hvb (kk p e s m args below meth c X ls H locs hl hw hS)
theorem ab_dup2_11 {va vb : Value} (hd : decode u.2.1 pc = .ok (.dup2, 1)) (hva : va.category = 1) (hvb : vb.category = 1) (kk : Ab g u M cells slots (pc + 1) lv (va :: vb :: va :: vb :: st) cs) : Ab g u M cells slots pc lv (va :: vb :: st) cs :=
  fun p e s m args below meth c X ls H locs hl hw hS => lv_dup2_11 X.1 X.2.1 hd hva hvb (kk p e s m args below meth c X ls H locs hl hw hS)
theorem ab_dup_x2 {va vb vd : Value} (hd : decode u.2.1 pc = .ok (.dup_x2, 1)) (hva : va.category = 1) (hvb : vb.category = 1) (hvd : vd.category = 1) (kk : Ab g u M cells slots (pc + 1) lv (va :: vb :: vd :: va :: st) cs) : Ab g u M cells slots pc lv (va :: vb :: vd :: st) cs :=
  fun p e s m args below meth c X ls H locs hl hw hS => lv_dup_x2 X.1 X.2.1 hd hva hvb hvd (kk p e s m args below meth c X ls H locs hl hw hS)
theorem ab_if_eq {x : Int32} {off : Int} {tgt : Nat} (hd : decode u.2.1 pc = .ok (.ifCond .eq off, 3)) (ht : (pc : Int) + off = (tgt : Int)) (kt : x = 0 → Ab g u M cells slots tgt lv st cs) (kf : ¬ x = 0 → Ab g u M cells slots (pc + 3) lv st cs) : Ab g u M cells slots pc lv (.int x :: st) cs :=
  fun p e s m args below meth c X ls H locs hl hw hS => lv_if_eq X.1 X.2.1 hd ht (fun h => kt h p e s m args below meth c X ls H locs hl hw hS) (fun h => kf h p e s m args below meth c X ls H locs hl hw hS)
theorem ab_if_ne {x : Int32} {off : Int} {tgt : Nat} (hd : decode u.2.1 pc = .ok (.ifCond .ne off, 3)) (ht : (pc : Int) + off = (tgt : Int)) (kt : ¬ x = 0 → Ab g u M cells slots tgt lv st cs) (kf : x = 0 → Ab g u M cells slots (pc + 3) lv st cs) : Ab g u M cells slots pc lv (.int x :: st) cs :=
  fun p e s m args below meth c X ls H locs hl hw hS => lv_if_ne X.1 X.2.1 hd ht (fun h => kt h p e s m args below meth c X ls H locs hl hw hS) (fun h => kf h p e s m args below meth c X ls H locs hl hw hS)
theorem ab_if_lt {x : Int32} {off : Int} {tgt : Nat} (hd : decode u.2.1 pc = .ok (.ifCond .lt off, 3)) (ht : (pc : Int) + off = (tgt : Int)) (kt : x < 0 → Ab g u M cells slots tgt lv st cs) (kf : ¬ x < 0 → Ab g u M cells slots (pc + 3) lv st cs) : Ab g u M cells slots pc lv (.int x :: st) cs :=
  fun p e s m args below meth c X ls H locs hl hw hS => lv_if_lt X.1 X.2.1 hd ht (fun h => kt h p e s m args below meth c X ls H locs hl hw hS) (fun h => kf h p e s m args below meth c X ls H locs hl hw hS)
theorem ab_if_ge {x : Int32} {off : Int} {tgt : Nat} (hd : decode u.2.1 pc = .ok (.ifCond .ge off, 3)) (ht : (pc : Int) + off = (tgt : Int)) (kt : 0 ≤ x → Ab g u M cells slots tgt lv st cs) (kf : ¬ 0 ≤ x → Ab g u M cells slots (pc + 3) lv st cs) : Ab g u M cells slots pc lv (.int x :: st) cs :=
  fun p e s m args below meth c X ls H locs hl hw hS => lv_if_ge X.1 X.2.1 hd ht (fun h => kt h p e s m args below meth c X ls H locs hl hw hS) (fun h => kf h p e s m args below meth c X ls H locs hl hw hS)
theorem ab_if_gt {x : Int32} {off : Int} {tgt : Nat} (hd : decode u.2.1 pc = .ok (.ifCond .gt off, 3)) (ht : (pc : Int) + off = (tgt : Int)) (kt : 0 < x → Ab g u M cells slots tgt lv st cs) (kf : ¬ 0 < x → Ab g u M cells slots (pc + 3) lv st cs) : Ab g u M cells slots pc lv (.int x :: st) cs :=
  fun p e s m args below meth c X ls H locs hl hw hS => lv_if_gt X.1 X.2.1 hd ht (fun h => kt h p e s m args below meth c X ls H locs hl hw hS) (fun h => kf h p e s m args below meth c X ls H locs hl hw hS)
theorem ab_if_le {x : Int32} {off : Int} {tgt : Nat} (hd : decode u.2.1 pc = .ok (.ifCond .le off, 3)) (ht : (pc : Int) + off = (tgt : Int)) (kt : x ≤ 0 → Ab g u M cells slots tgt lv st cs) (kf : ¬ x ≤ 0 → Ab g u M cells slots (pc + 3) lv st cs) : Ab g u M cells slots pc lv (.int x :: st) cs :=
  fun p e s m args below meth c X ls H locs hl hw hS => lv_if_le X.1 X.2.1 hd ht (fun h => kt h p e s m args below meth c X ls H locs hl hw hS) (fun h => kf h p e s m args below meth c X ls H locs hl hw hS)
theorem ab_icmp_eq {x y : Int32} {off : Int} {tgt : Nat} (hd : decode u.2.1 pc = .ok (.if_icmp .eq off, 3)) (ht : (pc : Int) + off = (tgt : Int)) (kt : x = y → Ab g u M cells slots tgt lv st cs) (kf : ¬ x = y → Ab g u M cells slots (pc + 3) lv st cs) : Ab g u M cells slots pc lv (.int y :: .int x :: st) cs :=
  fun p e s m args below meth c X ls H locs hl hw hS => lv_icmp_eq X.1 X.2.1 hd ht (fun h => kt h p e s m args below meth c X ls H locs hl hw hS) (fun h => kf h p e s m args below meth c X ls H locs hl hw hS)
theorem ab_icmp_ne {x y : Int32} {off : Int} {tgt : Nat} (hd : decode u.2.1 pc = .ok (.if_icmp .ne off, 3)) (ht : (pc : Int) + off = (tgt : Int)) (kt : ¬ x = y → Ab g u M cells slots tgt lv st cs) (kf : x = y → Ab g u M cells slots (pc + 3) lv st cs) : Ab g u M cells slots pc lv (.int y :: .int x :: st) cs :=
  fun p e s m args below meth c X ls H locs hl hw hS => lv_icmp_ne X.1 X.2.1 hd ht (fun h => kt h p e s m args below meth c X ls H locs hl hw hS) (fun h => kf h p e s m args below meth c X ls H locs hl hw hS)
theorem ab_icmp_lt {x y : Int32} {off : Int} {tgt : Nat} (hd : decode u.2.1 pc = .ok (.if_icmp .lt off, 3)) (ht : (pc : Int) + off = (tgt : Int)) (kt : x < y → Ab g u M cells slots tgt lv st cs) (kf : ¬ x < y → Ab g u M cells slots (pc + 3) lv st cs) : Ab g u M cells slots pc lv (.int y :: .int x :: st) cs :=
  fun p e s m args below meth c X ls H locs hl hw hS => lv_icmp_lt X.1 X.2.1 hd ht (fun h => kt h p e s m args below meth c X ls H locs hl hw hS) (fun h => kf h p e s m args below meth c X ls H locs hl hw hS)
theorem ab_icmp_ge {x y : Int32} {off : Int} {tgt : Nat} (hd : decode u.2.1 pc = .ok (.if_icmp .ge off, 3)) (ht : (pc : Int) + off = (tgt : Int)) (kt : y ≤ x → Ab g u M cells slots tgt lv st cs) (kf : ¬ y ≤ x → Ab g u M cells slots (pc + 3) lv st cs) : Ab g u M cells slots pc lv (.int y :: .int x :: st) cs :=
  fun p e s m args below meth c X ls H locs hl hw hS => lv_icmp_ge X.1 X.2.1 hd ht (fun h => kt h p e s m args below meth c X ls H locs hl hw hS) (fun h => kf h p e s m args below meth c X ls H locs hl hw hS)
theorem ab_icmp_gt {x y : Int32} {off : Int} {tgt : Nat} (hd : decode u.2.1 pc = .ok (.if_icmp .gt off, 3)) (ht : (pc : Int) + off = (tgt : Int)) (kt : y < x → Ab g u M cells slots tgt lv st cs) (kf : ¬ y < x → Ab g u M cells slots (pc + 3) lv st cs) : Ab g u M cells slots pc lv (.int y :: .int x :: st) cs :=
  fun p e s m args below meth c X ls H locs hl hw hS => lv_icmp_gt X.1 X.2.1 hd ht (fun h => kt h p e s m args below meth c X ls H locs hl hw hS) (fun h => kf h p e s m args below meth c X ls H locs hl hw hS)
theorem ab_icmp_le {x y : Int32} {off : Int} {tgt : Nat} (hd : decode u.2.1 pc = .ok (.if_icmp .le off, 3)) (ht : (pc : Int) + off = (tgt : Int)) (kt : x ≤ y → Ab g u M cells slots tgt lv st cs) (kf : ¬ x ≤ y → Ab g u M cells slots (pc + 3) lv st cs) : Ab g u M cells slots pc lv (.int y :: .int x :: st) cs :=
  fun p e s m args below meth c X ls H locs hl hw hS => lv_icmp_le X.1 X.2.1 hd ht (fun h => kt h p e s m args below meth c X ls H locs hl hw hS) (fun h => kf h p e s m args below meth c X ls H locs hl hw hS)
theorem ab_goto {off : Int} {tgt : Nat} (hd : decode u.2.1 pc = .ok (.goto off, 3)) (ht : (pc : Int) + off = (tgt : Int)) (kk : Ab g u M cells slots tgt lv st cs) : Ab g u M cells slots pc lv st cs :=
  fun p e s m args below meth c X ls H locs hl hw hS => lv_goto X.1 X.2.1 hd ht (kk p e s m args below meth c X ls H locs hl hw hS)
theorem ab_tableOut {dflt lo hi : Int} {offs : Array Int} {len : Nat} {x : Int32} {tgt : Nat} (hd : decode u.2.1 pc = .ok (.tableswitch dflt lo hi offs, len)) (h : x.toInt < lo ∨ hi < x.toInt) (ht : (pc : Int) + dflt = (tgt : Int)) (kk : Ab g u M cells slots tgt lv st cs) : Ab g u M cells slots pc lv (.int x :: st) cs :=
  fun p e s m args below meth c X ls H locs hl hw hS => lv_tableOut X.1 X.2.1 hd h ht (kk p e s m args below meth c X ls H locs hl hw hS)
theorem ab_tableIn {dflt lo hi : Int} {offs : Array Int} {len : Nat} {x : Int32} {off : Int} {tgt : Nat} (hd : decode u.2.1 pc = .ok (.tableswitch dflt lo hi offs, len)) (h1 : ¬ x.toInt < lo) (h2 : ¬ hi < x.toInt) (ho : offs[(x.toInt - lo).toNat]? = some off) (ht : (pc : Int) + off = (tgt : Int)) (kk : Ab g u M cells slots tgt lv st cs) : Ab g u M cells slots pc lv (.int x :: st) cs :=
  fun p e s m args below meth c X ls H locs hl hw hS => lv_tableIn X.1 X.2.1 hd h1 h2 ho ht (kk p e s m args below meth c X ls H locs hl hw hS)
end LPA
/-! rows that read or write a cell, calls, ends -/
def lp_F (own : String) (index ci j : Nat) : Prop := ∃ (C : String) (T : u_T) (N : Nat), vwCl[ci]? = some (C, T, N) ∧ (∀ w ∈ u_ws C T N, w ∈ lp_W) ∧ j < N ∧ Cond.fieldLink own index C (T j).2.1 (T j).2.2.1 ∈ lp_W ∧ (T j).1 = C
/-- a class, its fields' types; that their names are apart -/
def lp_C (ci : Nat) (C : String) (T : u_T) (N : Nat) : Prop := vwCl[ci]? = some (C, T, N) ∧ (∀ w ∈ u_ws C T N, w ∈ lp_W) ∧ (∃ tf : Nat → FieldType, ∀ k, k < N → parseFieldDescriptor (T k).2.2.1 = some (tf k)) ∧ ∀ a, a < N → ∀ b, b < N → a ≠ b → (T a).2.1 ≠ (T b).2.1
def lp_Fp (own : String) (index ci j : Nat) (ty : FieldType) (fin : Bool) : Prop := ∃ (C : String) (T : u_T) (N : Nat), lp_C ci C T N ∧ j < N ∧ Cond.fieldLink own index C (T j).2.1 (T j).2.2.1 ∈ lp_W ∧ (T j).1 = C ∧ (T j).2.2.2 = fin ∧ parseFieldDescriptor (T j).2.2.1 = some ty ∧ (fin = true → C = own)
def lp_wm (w : lp_M) : List Cond := Cond.code w.1 w.2.1 w.2.2.1 w.2.2.2 :: lp_W
def lp_rm (d mc ms : Nat) : Room := { frames := d, cells := mc, slots := ms, locals := 34 * d }
def lp_Pc (g : lp_G) (av : List Value) (cs : List va_E) : Array Value → State → Prop := va_Pc av (fun U => lp_Wo g cs U.heap ∧ lp_K g U)
def lp_Qc (g : lp_G) (QB : Option Value → List va_E → Prop) : Array Value → State → Outcome → State → Prop := fun _ st oc t => (∃ (v : Option Value) (cs : List va_E), oc = .returned v ∧ QB v cs ∧ lp_Wo g cs t.heap) ∧ va_F (fun q => g.2.1 ≤ q) st t
/-- a method's contract at these arguments and cells -/
def Mb (g : lp_G) (w : lp_M) (d mc ms : Nat) (av : List Value) (cs : List va_E) (QB : Option Value → List va_E → Prop) : Prop :=
  Met g.1 w.1 (lp_wm w) (lp_rm d mc ms) (lp_Pc g av cs) (lp_Qc g QB) mc ms (fun q => g.2.1 ≤ q)
theorem Mb.mono {g : lp_G} {w : lp_M} {d mc ms : Nat} {av : List Value} {cs : List va_E} {QB QB' : Option Value → List va_E → Prop} (h : Mb g w d mc ms av cs QB) (hq : ∀ v cs', QB v cs' → QB' v cs') : Mb g w d mc ms av cs QB' := by
  intro p e h1 h2 h3 s m args below h4 h5 h6 h7
  obtain ⟨n, o, a1, a2, a3, ⟨⟨v, cs', b1, b2, b3⟩, b4⟩, a5⟩ := h p e h1 h2 h3 s m args below h4 h5 h6 h7
  exact ⟨n, o, a1, a2, a3, ⟨⟨v, cs', b1, hq v cs' b2, b3⟩, b4⟩, a5⟩
def lp_md (g : lp_G) (d mc ms : Nat) (QB : Option Value → List va_E → Prop) : lp_O := (lp_rm d mc ms, fun _ _ => True, fun below args s => MQ below (lp_Qc g QB) args s mc ms (fun q => g.2.1 ≤ q))
theorem lp_blind {g : lp_G} {av : List Value} {cs : List va_E} : FrameBlind (lp_Pc g av cs) := fun a U f mk h => ⟨h.1, h.2.1, lp_K.same (s := U) (U := U.calling f mk a) rfl h.2.2⟩
theorem lp_gi {w : lp_M} (hc : Cond.code w.1 w.2.1 w.2.2.1 w.2.2.2 ∈ lp_W) : GoodIn lp_W (lp_wm w) := fun x hx => by
  rcases List.mem_cons.mp hx with h | h
  · rw [h]; exact ⟨hc, lp_Wgood _ hc⟩
  · exact ⟨h, lp_Wgood _ h⟩
/-- what a call needs of the words, but its link -/
def lp_c0 (w : lp_M) (n : Nat) : Prop := Cond.initialized w.1.cls ∈ lp_W ∧ Cond.code w.1 w.2.1 w.2.2.1 w.2.2.2 ∈ lp_W ∧ (w.1.cls ≠ "java/lang/invoke/MethodHandle" ∧ w.1.cls ≠ "java/lang/invoke/VarHandle" ∧ (parseMethodDescriptor w.1.desc).map (fun d => d.parameters.length) = some n)
def lp_cV (own : String) (index : Nat) (w : lp_M) (n : Nat) : Prop := lp_c0 w n ∧ Cond.methodLink own index w.1 ∈ lp_W ∧ Cond.instanceMethod w.1 ∈ lp_W ∧ Cond.selects w.1.cls w.1 w.1 ∈ lp_W
def lp_cVN (own : String) (index : Nat) (w : lp_M) (n : Nat) : Prop := lp_c0 w n ∧ (∃ host, (own, index, w.1, host) ∈ lp_nm) ∧ Cond.instanceMethod w.1 ∈ lp_W ∧ Cond.selects w.1.cls w.1 w.1 ∈ lp_W
def lp_cS (own : String) (index : Nat) (w : lp_M) (n : Nat) : Prop := lp_c0 w n ∧ Cond.methodLink own index w.1 ∈ lp_W ∧ Cond.static w.1 ∈ lp_W
def lp_cSN (own : String) (index : Nat) (w : lp_M) (n : Nat) : Prop := lp_c0 w n ∧ (∃ host, (own, index, w.1, host) ∈ lp_nm) ∧ Cond.static w.1 ∈ lp_W
def lp_cI (own : String) (index : Nat) (w : lp_M) (n : Nat) : Prop := lp_c0 w n ∧ Cond.methodLink own index w.1 ∈ lp_W ∧ Cond.instanceMethod w.1 ∈ lp_W ∧ w.1.name = "<init>" ∧ w.2.2.2 = none
def lp_cIN (own : String) (index : Nat) (w : lp_M) (n : Nat) : Prop := lp_c0 w n ∧ (∃ host, (own, index, w.1, host) ∈ lp_nm) ∧ Cond.instanceMethod w.1 ∈ lp_W ∧ w.1.name = "<init>" ∧ w.2.2.2 = none
section LPB
variable {g : lp_G} {u : lp_M} {M : lp_O} {cells slots pc : Nat} {lv : List (Nat × Value)} {st : List Value} {cs : List va_E}
theorem ab_get {index ci j k : Nat} {fs : List Value} {v : Value} (hf : lp_F u.1.cls index ci j) (hd : decode u.2.1 pc = .ok (.getfield index, 3)) (he : cs[k]? = some (.inr (ci, fs))) (hv : fs[j]? = some v) (kk : Ab g u M cells slots (pc + 3) lv (v :: st) cs) : Ab g u M cells slots pc lv (.ref (g.2.1 + k) :: st) cs := by
  intro p e s m args below meth c X ls H locs hl hw hS
  obtain ⟨C, T, N, hc, hin, hj, hlk, hdc⟩ := hf
  exact va_get X.1 X.2.1 X.2.2.2.2.2.1 hin X.2.2.2.2.1 X.2.2.2.2.2.2.1.1 hw.1 k (lp_ws_at he) hc j hj (X.2.2.2.2.2.1 _ hlk) (fun x hx => by rw [hdc] at hx; exact hx) hv hd (kk p e s m args below meth c X ls H locs hl hw hS)
theorem ab_put {index ci j k : Nat} {fs : List Value} {v : Value} {ty : FieldType} (hf : lp_Fp u.1.cls index ci j ty false) (hd : decode u.2.1 pc = .ok (.putfield index, 3)) (he : cs[k]? = some (.inr (ci, fs))) (hjl : j < fs.length) (hn : narrow ty v = v) (hfit : fits ty v = true)
    (kk : Ab g u M cells slots (pc + 3) lv st (cs.set k (.inr (ci, fs.set j v)))) : Ab g u M cells slots pc lv (v :: .ref (g.2.1 + k) :: st) cs := by
  intro p e s m args below meth c X ls H locs hl hw hS
  obtain ⟨C, T, N, ⟨hc, hin, ⟨tf, hty⟩, hnm⟩, hj, hlk, hdc, hfin, hdt, -⟩ := hf
  have hts := X.2.2.2.2.2.1
  have hK := X.2.2.2.2.2.2.1.1
  have he' := lp_ws_at (sz := g.2.1) he
  have hap := va_apart (own := u.1.cls) hts hin tf hty hnm hK hc
  obtain ⟨r, h1, cell, q1, q2, q3, q4⟩ := hw.1 k _ he'
  have hr : r = (C, T, N) := Option.some.inj (h1.symm.trans hc)
  subst hr
  obtain ⟨hSl, hfc, kC, hkC, hkind⟩ := hK.1 ci _ hc
  obtain ⟨cf, kf, fi, f, hi, hsl⟩ := hSl j hj
  have hlay := hts _ (hin _ (u_in_lay hj))
  unfold u_lay at hlay
  rw [if_neg (by rw [hfin]; decide)] at hlay
  have hst := (u_facts hfc hkC (u_lays hts hin hj) hi).1
  have h6 := u_store hfc hkC hkind hlay hi hdt hn hfit
  refine W.putK X.1 X.2.1 (f := f) ⟨X.2.2.2.2.1, hts _ hlk, ⟨cf, kf, fi, by rw [← hdc]; exact hi⟩, hst⟩ (by rw [q2]; exact h6) q1 q3 (by rw [hsl]; exact k2_hasslot (q4 j hj)) rfl rfl hd fun H' e1 e2 e3 => ?_
  rw [hsl] at e1 ⊢
  refine kk p e s m args below meth c X ls H' _ hl ⟨?_, by rw [e2, hw.2, List.length_set]⟩ (hS.put e2 e3 (Nat.le_add_right _ _))
  rw [← lp_ws_set]
  exact hw.1.set (lp_ws_D _ _) he' ⟨_, hc, t_OB.to (V := updV (vp_V fs) j v) ⟨_, e1, q2, q3, t_set q4 hap hj v⟩ (fun i _ => vp_updV_set hjl v i)⟩ e3
theorem ab_putF {index ci j k : Nat} {fs : List Value} {v : Value} {ty : FieldType} (hf : lp_Fp u.1.cls index ci j ty true) (hu : u.1.name = "<init>") (hd : decode u.2.1 pc = .ok (.putfield index, 3)) (he : cs[k]? = some (.inr (ci, fs))) (hjl : j < fs.length) (hn : narrow ty v = v) (hfit : fits ty v = true)
    (kk : Ab g u M cells slots (pc + 3) lv st (cs.set k (.inr (ci, fs.set j v)))) : Ab g u M cells slots pc lv (v :: .ref (g.2.1 + k) :: st) cs := by
  intro p e s m args below meth c X ls H locs hl hw hS
  obtain ⟨C, T, N, ⟨hc, hin, ⟨tf, hty⟩, hnm⟩, hj, hlk, hdc, hfin, hdt, hco⟩ := hf
  have hts := X.2.2.2.2.2.1
  have hK := X.2.2.2.2.2.2.1.1
  have he' := lp_ws_at (sz := g.2.1) he
  have hap := va_apart (own := u.1.cls) hts hin tf hty hnm hK hc
  obtain ⟨r, h1, cell, q1, q2, q3, q4⟩ := hw.1 k _ he'
  have hr : r = (C, T, N) := Option.some.inj (h1.symm.trans hc)
  subst hr
  obtain ⟨hSl, hfc, kC, hkC, hkind⟩ := hK.1 ci _ hc
  obtain ⟨cf, kf, fi, f, hi, hsl⟩ := hSl j hj
  have hlay := hts _ (hin _ (u_in_lay hj))
  unfold u_lay at hlay
  rw [if_pos hfin] at hlay
  have hst := (u_facts hfc hkC (u_lays hts hin hj) hi).1
  have hcf : m.cls = cf := by
    obtain ⟨_, _, c', _, _, _, -, -, hf', -, -, -, hown2, -⟩ := Cond.laysFinal_spec hlay
    have e1 : c' = cf := by have := hi.symm.trans hf'; simp at this; exact this.1.symm
    rw [hdc, hco rfl] at hown2
    rw [← e1]; exact Option.some.inj (X.2.2.2.2.1.symm.trans hown2)
  have h6 := u_fits hfc hkC hkind (Or.inr hlay) hi hdt hn hfit
  refine W.putFinK X.1 X.2.1 X.2.2.2.2.1 (hts _ hlk) (by rw [← hdc]; exact hi) hst hcf (X.2.2.2.2.2.2.2.2.1 hu) (by rw [q2]; exact h6) q1 q3 (by rw [hsl]; exact k2_hasslot (q4 j hj)) rfl rfl hd fun H' e1 e2 e3 => ?_
  rw [hsl] at e1 ⊢
  refine kk p e s m args below meth c X ls H' _ hl ⟨?_, by rw [e2, hw.2, List.length_set]⟩ (hS.put e2 e3 (Nat.le_add_right _ _))
  rw [← lp_ws_set]
  exact hw.1.set (lp_ws_D _ _) he' ⟨_, hc, t_OB.to (V := updV (vp_V fs) j v) ⟨_, e1, q2, q3, t_set q4 hap hj v⟩ (fun i _ => vp_updV_set hjl v i)⟩ e3
theorem ab_iald {k n : Nat} {f : Nat → Int32} {i : Int32} (hd : decode u.2.1 pc = .ok (.iaload, 1)) (he : cs[k]? = some (.inl (g.2.2.1 0, n, .inl f))) (hin : vp_in i n) (kk : Ab g u M cells slots (pc + 1) lv (.int (f i.toNatClampNeg) :: st) cs) : Ab g u M cells slots pc lv (.int i :: .ref (g.2.1 + k) :: st) cs :=
  fun p e s m args below meth c X ls H locs hl hw hS => va_iald X.1 X.2.1 X.2.2.2.2.2.2.1.1 hw.1 k 0 (lp_ws_at he) rfl hin hd (kk p e s m args below meth c X ls H locs hl hw hS)
theorem ab_iast {k n : Nat} {f : Nat → Int32} {i x : Int32} (hd : decode u.2.1 pc = .ok (.iastore, 1)) (he : cs[k]? = some (.inl (g.2.2.1 0, n, .inl f))) (hin : vp_in i n) (kk : Ab g u M cells slots (pc + 1) lv st (cs.set k (.inl (g.2.2.1 0, n, .inl (upd f i.toNatClampNeg x))))) : Ab g u M cells slots pc lv (.int x :: .int i :: .ref (g.2.1 + k) :: st) cs := by
  intro p e s m args below meth c X ls H locs hl hw hS
  have hK := X.2.2.2.2.2.2.1.1
  have he' := lp_ws_at (sz := g.2.1) he
  refine W.iast X.1 X.2.1 (hw.1 k _ he') ((hK.2 0 _ rfl).1 n (fun j => .int (f j))) (fun q => by cases q) (by show ¬ (i < 0 ∨ (arrV _ _ _).slots.size ≤ _); rw [arrV_size]; exact hin) rfl rfl hd fun H1 e1 z oq => ?_
  refine kk p e s m args below meth c X ls H1 _ hl ⟨?_, by rw [z, hw.2, List.length_set]⟩ (hS.put z oq (Nat.le_add_right _ _))
  rw [← lp_ws_set]
  refine hw.1.set (lp_ws_D _ _) he' ?_ oq
  show H1[_]? = some (vp_cell _ _)
  rw [e1, vp_cell_i, vp_cell_i, arrV_store]
  congr 2
  funext q
  by_cases hq : q = i.toNatClampNeg
  · subst hq
    simp [updV, upd]
  · simp [updV, upd, hq]
theorem ab_aald {t k n r : Nat} {f : Nat → Option Nat} {i : Int32} {ty : FieldType} (hd : decode u.2.1 pc = .ok (.aaload, 1)) (he : cs[k]? = some (.inl (g.2.2.1 t, n, .inr (.inr (.inr (.inr f)))))) (ht : (lp_tys g.2.2.1)[t]? = some (g.2.2.1 t, ty)) (hty : ty.isReference = true) (hin : vp_in i n) (hr : f i.toNatClampNeg = some r) (kk : Ab g u M cells slots (pc + 1) lv (.ref r :: st) cs) : Ab g u M cells slots pc lv (.int i :: .ref (g.2.1 + k) :: st) cs := by
  intro p e s m args below meth c X ls H locs hl hw hS
  have hK := X.2.2.2.2.2.2.1.1
  have hlt : i.toNatClampNeg < n := Nat.not_le.mp fun q => hin (Or.inr q)
  refine W.aald (v := .ref r) (ty := ty) X.1 X.2.1 (hw.1 k _ (lp_ws_at he)) ((hK.2 t _ ht).1 n (fun j => va_rf (f j))) hty (fun q => by cases q) (by show ¬ (i < 0 ∨ (arrV _ _ _).slots.size ≤ _); rw [arrV_size]; exact hin) (by show (arrV _ _ _).slots[_]? = _; rw [arrV_read _ _ hlt, hr]; rfl) rfl rfl hd (kk p e s m args below meth c X ls H locs hl hw hS)
/-- an object into an array of its class -/
theorem ab_aast {t k n r ci : Nat} {f : Nat → Option Nat} {i : Int32} {q0 : vw_C} {fs : List Value} (hd : decode u.2.1 pc = .ok (.aastore, 1)) (he : cs[k]? = some (.inl (g.2.2.1 t, n, .inr (.inr (.inr (.inr f)))))) (ht : (lp_tys g.2.2.1)[t]? = some (g.2.2.1 t, .object q0.1)) (hv : cs[r]? = some (.inr (ci, fs))) (hc : vwCl[ci]? = some q0) (hin : vp_in i n)
    (kk : Ab g u M cells slots (pc + 1) lv st (cs.set k (.inl (g.2.2.1 t, n, .inr (.inr (.inr (.inr (va_up f i.toNatClampNeg (some (g.2.1 + r)))))))))) : Ab g u M cells slots pc lv (.ref (g.2.1 + r) :: .int i :: .ref (g.2.1 + k) :: st) cs := by
  intro p e s m args below meth c X ls H locs hl hw hS
  have hK := X.2.2.2.2.2.2.1.1
  have he' := lp_ws_at (sz := g.2.1) he
  have hlt : i.toNatClampNeg < n := Nat.not_le.mp fun q => hin (Or.inr q)
  have h0 : ¬ i < 0 := fun q => hin (Or.inl q)
  obtain ⟨r', hr', cellV, g1, g2, g3, -⟩ := hw.1 r _ (lp_ws_at hv)
  have hcls := (hK.1 ci q0 hc).2
  obtain ⟨kA, comp, k1, k2, k3, -⟩ := (hK.2 t _ ht).2
  have hcomp : comp = g.2.2.2.1 ci := Option.some.inj (k3.symm.trans hcls.1)
  subst hcomp
  obtain ⟨kC, hkC, -⟩ := hcls.2
  refine W.aast X.1 X.2.1 (hw.1 k _ he') (fun q h => by cases h) (fun h => by cases h) k1 k2 rfl hkC ⟨h0, by show _ < (arrV _ _ _).slots.size; rw [arrV_size]; exact hlt⟩ g1 (fun q h => by rw [g3] at h; cases h) (by rw [g2]; exact hkC) (by rw [g2]; exact va_assign hcls) rfl rfl hd fun H1 e1 z oq => ?_
  refine kk p e s m args below meth c X ls H1 _ hl ⟨?_, by rw [z, hw.2, List.length_set]⟩ (hS.put z oq (Nat.le_add_right _ _))
  rw [← lp_ws_set]
  refine hw.1.set (lp_ws_D _ _) he' ?_ oq
  show H1[_]? = some (vp_cell _ _)
  rw [e1, vp_cell_q, vp_cell_q, arrV_store]
  congr 2
  funext q
  by_cases hq : q = i.toNatClampNeg
  · subst hq
    simp [updV, va_up, va_rf]
  · simp [updV, va_up, hq]
theorem lp_grow {g : lp_G} {cs : List va_E} {a : va_E} {H H1 : Heap} (hw : lp_Wo g cs H) (z : H1.size = H.size + 1) (o : ∀ q : Nat, q < H.size → H1[q]? = H[q]?) (ha : va_at g.2.2.2 vwCl (H.size, a) H1) : lp_Wo g (cs ++ [a]) H1 := by
  refine ⟨?_, by rw [z, hw.2, List.length_append]; rfl⟩
  rw [lp_ws_app]
  refine (hw.1.kept (fun k x hx => o x.1 ((hw.1 k x hx).lt))).app (fun k x hx => ?_)
  have hz : k < 1 := (List.getElem?_eq_some_iff.mp hx).1
  rw [show k = 0 by omega] at hx
  cases hx
  rw [← hw.2]
  exact ha
theorem lp_growS {A : Nat → Prop} {H0 H H1 : Heap} {locs : List Loc} (hS : va_S A H0 H locs) (z : H1.size = H.size + 1) (o : ∀ q : Nat, q < H.size → H1[q]? = H[q]?) : va_S A H0 H1 locs :=
  ⟨Nat.le_trans hS.1 (by omega), fun x h1 h2 => (o x (Nat.lt_of_lt_of_le h1 hS.1)).trans (hS.2.1 x h1 h2), hS.2.2⟩
theorem ab_new {index ci : Nat} {C : String} {T : u_T} {N : Nat} {fs : List Value} (hC : lp_C ci C T N) (hcl : Cond.classLink u.1.cls index C ∈ lp_W) (hinst : Cond.instantiable C N ∈ lp_W) (hini : Cond.initialized C ∈ lp_W) (tf : Nat → FieldType) (hty : ∀ k, k < N → parseFieldDescriptor (T k).2.2.1 = some (tf k)) (hfs : ∀ j, j < N → defaultValue (tf j) = vp_V fs j)
    (hcells : cells + 1 ≤ M.1.cells) (hslots : slots + N ≤ M.1.slots) (hd : decode u.2.1 pc = .ok (.new index, 3)) (kk : Ab g u M (cells + 1) (slots + N) (pc + 3) lv (.ref (g.2.1 + cs.length) :: st) (cs ++ [.inr (ci, fs)])) : Ab g u M cells slots pc lv st cs := by
  intro p e s m args below meth c X ls H locs hl hw hS
  obtain ⟨hc, hin, -, -⟩ := hC
  have hts := X.2.2.2.2.2.1
  have hKn := X.2.2.2.2.2.2.1.1.1 ci _ hc
  refine W.newcK X.1 X.2.1 X.2.2.2.2.1 (hts _ hcl) (hts _ hinst) (hts _ hini) rfl hd hcells hslots hKn.2.1 rfl fun H1 kC hkC e1 z1 o1 => ?_
  have hb := (u_born tf hts hin hKn hkC e1 hty).to hfs
  have k1 := kk p e s m args below meth c X ls H1 locs hl (lp_grow hw z1 o1 ⟨_, hc, hb⟩) (lp_growS hS z1 o1)
  rw [← hw.2] at k1
  exact k1
theorem ab_newa {n : Int32} {N : Nat} (harr : Cond.arrayClass .int ∈ lp_W) (hn : ¬ n < 0) (hN : n.toNatClampNeg = N) (hbytes : N * 4 ≤ 536870912) (hcells : cells + 1 ≤ M.1.cells) (hslots : slots + N ≤ M.1.slots) (hd : decode u.2.1 pc = .ok (.newarray .int, 2))
    (kk : Ab g u M (cells + 1) (slots + N) (pc + 2) lv (.ref (g.2.1 + cs.length) :: st) (cs ++ [.inl (g.2.2.1 0, N, .inl (fun _ => 0))])) : Ab g u M cells slots pc lv (.int n :: st) cs := by
  intro p e s m args below meth c X ls H locs hl hw hS
  refine va_newaK (atype := .int) X.1 X.2.1 (X.2.2.2.2.2.1 _ harr) rfl hd rfl hn hN hbytes hcells hslots rfl fun H1 cA e1 z1 o1 hAr hNm => ?_
  have hcA : cA = g.2.2.1 0 := Option.some.inj (hNm.symm.trans X.2.2.2.2.2.2.1.2.2.2.1)
  subst hcA
  have k1 := kk p e s m args below meth c X ls H1 locs hl (lp_grow hw z1 o1 (show H1[H.size]? = some (vp_cell _ _) by rw [vp_cell_i]; exact e1)) (lp_growS hS z1 o1)
  rw [← hw.2] at k1
  exact k1
theorem ab_newq {index t : Nat} {C : String} {n : Int32} {N : Nat} (hcl : Cond.classLink u.1.cls index C ∈ lp_W) (hao : C ∈ lp_ao) (ht : (lp_tys g.2.2.1)[t]? = some (g.2.2.1 t, .object C)) (hn : ¬ n < 0) (hN : n.toNatClampNeg = N) (hbytes : N * 4 ≤ 536870912) (hcells : cells + 1 ≤ M.1.cells) (hslots : slots + N ≤ M.1.slots) (hd : decode u.2.1 pc = .ok (.anewarray index, 3))
    (kk : Ab g u M (cells + 1) (slots + N) (pc + 3) lv (.ref (g.2.1 + cs.length) :: st) (cs ++ [.inl (g.2.2.1 t, N, .inr (.inr (.inr (.inr (fun _ => none)))))])) : Ab g u M cells slots pc lv (.int n :: st) cs := by
  intro p e s m args below meth c X ls H locs hl hw hS
  subst hN
  have hK := X.2.2.2.2.2.2.1
  refine W.anew X.1 X.2.1 X.2.2.2.2.1 (X.2.2.2.2.2.1 _ hcl) (va_AO.use (hK.2.2.1 C hao)) rfl hd rfl hn hbytes hcells hslots fun cA kA comp f1 f2 f3 f4 => ?_
  obtain ⟨kA', comp', w1, w2, w3, w4⟩ := (hK.1.2 t _ ht).2
  have hcA : cA = g.2.2.1 t := Option.some.inj (f1.symm.trans w4)
  subst hcA
  generalize hH1 : H.push ({ cls := g.2.2.1 t, slots := Array.replicate n.toNatClampNeg .null, vm := .none } : Cell) = H1
  have z1 : H1.size = H.size + 1 := by rw [← hH1, Array.size_push]
  have e1 : H1[H.size]? = some (arrV (g.2.2.1 t) n.toNatClampNeg (fun _ => .null)) := by rw [← hH1, Array.getElem?_push_size, ← arrV_new]
  have o1 : ∀ q : Nat, q < H.size → H1[q]? = H[q]? := fun q hq => by rw [← hH1, Array.getElem?_push, if_neg (Nat.ne_of_lt hq)]
  have k1 := kk p e s m args below meth c X ls H1 locs hl (lp_grow hw z1 o1 (show H1[H.size]? = some (vp_cell _ _) by rw [vp_cell_q]; exact e1)) (lp_growS hS z1 o1)
  rw [← hw.2] at k1
  exact k1
theorem ab_objInit {index : Nat} {a : Nat} (hlink : Cond.methodLink u.1.cls index objectInit ∈ lp_W) (hinst : Cond.instanceMethod objectInit ∈ lp_W) (hcode : Cond.code objectInit ⟨#[0xb1]⟩ 1 none ∈ lp_W) (hd : decode u.2.1 pc = .ok (.invokespecial index, 3)) (hf : 1 ≤ M.1.frames) (hlo : (st.map fun v => v.category).sum + 12 ≤ M.1.locals)
    (kk : Ab g u M cells slots (pc + 3) lv st cs) : Ab g u M cells slots pc lv (.ref a :: st) cs := by
  intro p e s m args below meth c X ls H locs hl hw hS
  have hts := X.2.2.2.2.2.1
  exact W.objInit X.1 X.2.1 X.2.2.2.2.1 (hts _ hlink) (hts _ hinst) (hts _ hcode) rfl (by rw [X.2.2.1]; exact hl.1) rfl hd hf (by show 2 * 0 + _ + 12 ≤ _; omega) (kk p e s m args below meth c X ls H locs hl hw hS)
theorem ab_iret {d mc ms : Nat} {QB : Option Value → List va_E → Prop} {v : Int32} (hr : u.2.2.2 = some .int) (hd : decode u.2.1 pc = .ok (.ireturn, 1)) (hq : QB (some (.int v)) cs) : Ab g u (lp_md g d mc ms QB) mc ms pc lv [.int v] cs :=
  fun p e s m args below meth c X ls H locs hl hw hS => W.iret X.1 X.2.1 (X.2.2.2.1.trans hr) (fun t ht hW => ⟨⟨_, cs, rfl, hq, by rw [ht]; exact hw⟩, hS.F ht⟩) hS.2.2 hd X.2.2.2.2.2.2.2.1
theorem ab_zret {d mc ms : Nat} {QB : Option Value → List va_E → Prop} {v : Int32} (hr : u.2.2.2 = some .boolean) (hn : narrow .boolean (.int v) = .int v) (hd : decode u.2.1 pc = .ok (.ireturn, 1)) (hq : QB (some (.int v)) cs) : Ab g u (lp_md g d mc ms QB) mc ms pc lv [.int v] cs :=
  fun p e s m args below meth c X ls H locs hl hw hS => W.zret X.1 X.2.1 (X.2.2.2.1.trans hr) hn (fun t ht hW => ⟨⟨_, cs, rfl, hq, by rw [ht]; exact hw⟩, hS.F ht⟩) hS.2.2 hd X.2.2.2.2.2.2.2.1
theorem ab_vret {d mc ms : Nat} {QB : Option Value → List va_E → Prop} (hr : u.2.2.2 = none) (hd : decode u.2.1 pc = .ok (.return_, 1)) (hq : QB none cs) : Ab g u (lp_md g d mc ms QB) mc ms pc lv [] cs :=
  fun p e s m args below meth c X ls H locs hl hw hS => W.vret X.1 X.2.1 (X.2.2.2.1.trans hr) (fun t ht hW => ⟨⟨_, cs, rfl, hq, by rw [ht]; exact hw⟩, hS.F ht⟩) hS.2.2 hd X.2.2.2.2.2.2.2.1
theorem ab_entry {d mc ms : Nat} {QB : Option Value → List va_E → Prop} {av : List Value} (hy : plainName u.1.cls = true) (hn : (lg_sl av).length ≤ u.2.2.1) (h : Ab g u (lp_md g d mc ms QB) 0 0 0 (lv_args 0 av) [] cs) : Mb g u d mc ms av cs QB := by
  refine Met.ofW (cc := u.2.1) (maxL := u.2.2.1) (ret := u.2.2.2) hy rfl ?_
  intro p e s m args below meth c s₁ B hml hv
  obtain ⟨rfl, hw, hK⟩ := hv
  have hts := atoms_spec (ws := lp_wm u) B.pre
  rw [lg_entry_eq]
  exact h p e s m _ below meth c ⟨B.exec, B.bytes, hml, B.returns, findClass_of_methodNamed B.named, fun w hw => hts w (List.mem_cons_of_mem _ hw), hK, B.notSynchronized, fun hin => by rw [(name_of_methodNamed B.named B.method).1]; exact hin, by rw [hw.2]; exact Nat.le_add_right _ _, trivial⟩ _ s.heap [] (lv_entry av hn) hw va_S.rf
theorem lp_after {p : Program} {e : Env} {R : Room} {s : State} {m : MethodId} {args a : Array Value} {below : List Frame} {meth : Method} {c : Code} {H : Heap} {locs : List Loc} {mc ms : Nat} {ls : Array Slot} {st0 rest : List Value} {Q : State → Prop} {QB : Option Value → List va_E → Prop}
    (hr : va_Run p g.1 e R s m args below meth c H locs cells slots mc ms (F0 m pc ls st0) rest (lp_Qc g QB a) (fun q => g.2.1 ≤ q)) (hS : va_S (fun q => g.2.1 ≤ q) s.heap H locs)
    (kk : ∀ (v : Option Value) (cs' : List va_E) (H1 : Heap) (locs1 : List Loc), QB v cs' → lp_Wo g cs' H1 → va_S (fun q => g.2.1 ≤ q) s.heap H1 locs1 → W p g.1 e R s m args below meth c H1 locs1 (cells + mc) (slots + ms) Q (F0 m (pc + 3) ls (v.toList ++ rest))) : W p g.1 e R s m args below meth c H locs cells slots Q (F0 m pc ls st0) := by
  intro T hT X
  obtain ⟨v, st₀, t, T', L, h0, X', hL, e1, e2, ⟨⟨v', cs', hv, hq, hwo⟩, hz, hk⟩, hgo⟩ := hr T hT X
  cases hv
  rw [h0] at hz hk
  obtain ⟨t2, a1, b1⟩ := kk v cs' T'.heap (locs ++ L) hq (by rw [e1]; exact hwo)
    ⟨Nat.le_trans hS.1 (by rw [e1]; exact hz), fun q h1 h2 => by rw [e1, hk q (Nat.lt_of_lt_of_le h1 hS.1) h2]; exact hS.2.1 q h1 h2, fun q hq => by
      rcases List.mem_append.mp hq with h | h
      · exact hS.2.2 q h
      · exact hL q h⟩ T' rfl X'
  exact ⟨t2, hgo t2 a1, b1⟩
theorem ab_callV {index k ci d mc ms : Nat} {w : lp_M} {As rest fs : List Value} {q0 : vw_C} {QB : Option Value → List va_E → Prop} (hcw : lp_cV u.1.cls index w As.length) (hd : decode u.2.1 pc = .ok (.invokevirtual index, 3)) (he : cs[k]? = some (.inr (ci, fs))) (hci : vwCl[ci]? = some q0) (hcn : q0.1 = w.1.cls) (hst : st = As.reverse ++ .ref (g.2.1 + k) :: rest) (hrs : (rest.map fun v => v.category).sum ≤ 8)
    (hR : d + 1 ≤ M.1.frames ∧ 8 + (w.2.2.1 + 11) + 34 * d ≤ M.1.locals) (hC : cells + mc ≤ M.1.cells ∧ slots + ms ≤ M.1.slots) (hM : Mb g w d mc ms (.ref (g.2.1 + k) :: As) cs QB) (kk : ∀ v cs', QB v cs' → Ab g u M (cells + mc) (slots + ms) (pc + 3) lv (v.toList ++ rest) cs') : Ab g u M cells slots pc lv st cs := by
  intro p e s m args below meth c X ls H locs hl hw hS
  subst hst
  obtain ⟨⟨hini, hcode, hdd⟩, hlink, hinst, hsel⟩ := hcw
  have hts := X.2.2.2.2.2.1
  have hK := X.2.2.2.2.2.2.1
  refine lp_after (va_runV (As := As) (rest := rest) (nL := u.2.2.1) (C := w.1.cls) ⟨X.1, X.2.1, X.2.2.1, X.2.2.2.2.1, hts⟩ hM ⟨callB_of (ws' := lp_W) As.length hts (lp_gi hcode) rfl rfl rfl (hts _ hini) (hts _ hlink) hdd hR, hts _ hinst, hts _ hsel⟩ ⟨lp_blind, by rw [← hcn]; exact va_recv hK.1 hw.1 hci (lp_ws_at he), fun U hU hW => ⟨rfl, by rw [hU]; exact hw, lp_K.warm hW hK⟩⟩ rfl rfl hl.1 rfl (lv_room hrs) hd hC) hS ?_
  intro v cs' H1 locs1 hq hwo hS1
  exact kk v cs' hq p e s m args below meth c X ls H1 locs1 hl hwo hS1
theorem ab_callVN {index k ci d mc ms : Nat} {w : lp_M} {As rest fs : List Value} {q0 : vw_C} {QB : Option Value → List va_E → Prop} (hcw : lp_cVN u.1.cls index w As.length) (hd : decode u.2.1 pc = .ok (.invokevirtual index, 3)) (he : cs[k]? = some (.inr (ci, fs))) (hci : vwCl[ci]? = some q0) (hcn : q0.1 = w.1.cls) (hst : st = As.reverse ++ .ref (g.2.1 + k) :: rest) (hrs : (rest.map fun v => v.category).sum ≤ 8)
    (hR : d + 1 ≤ M.1.frames ∧ 8 + (w.2.2.1 + 11) + 34 * d ≤ M.1.locals) (hC : cells + mc ≤ M.1.cells ∧ slots + ms ≤ M.1.slots) (hM : Mb g w d mc ms (.ref (g.2.1 + k) :: As) cs QB) (kk : ∀ v cs', QB v cs' → Ab g u M (cells + mc) (slots + ms) (pc + 3) lv (v.toList ++ rest) cs') : Ab g u M cells slots pc lv st cs := by
  intro p e s m args below meth c X ls H locs hl hw hS
  subst hst
  obtain ⟨⟨hini, hcode, hdd⟩, ⟨host, hlink⟩, hinst, hsel⟩ := hcw
  have hts := X.2.2.2.2.2.1
  have hK := X.2.2.2.2.2.2.1
  refine lp_after (va_runVN (As := As) (rest := rest) (nL := u.2.2.1) (C := w.1.cls) ⟨X.1, X.2.1, X.2.2.1, X.2.2.2.2.1, hts⟩ hM ⟨va_cnB (ws' := lp_W) As.length hts (lp_gi hcode) rfl rfl rfl (hK.2.1 _ hlink) (hts _ hini) hdd hR, hts _ hinst, hts _ hsel⟩ ⟨lp_blind, by rw [← hcn]; exact va_recv hK.1 hw.1 hci (lp_ws_at he), fun U hU hW => ⟨rfl, by rw [hU]; exact hw, lp_K.warm hW hK⟩⟩ rfl rfl hl.1 rfl (lv_room hrs) hd hC) hS ?_
  intro v cs' H1 locs1 hq hwo hS1
  exact kk v cs' hq p e s m args below meth c X ls H1 locs1 hl hwo hS1
theorem ab_callS {index d mc ms : Nat} {w : lp_M} {As rest : List Value} {QB : Option Value → List va_E → Prop} (hcw : lp_cS u.1.cls index w As.length) (hd : decode u.2.1 pc = .ok (.invokestatic index, 3)) (hst : st = As.reverse ++ rest) (hrs : (rest.map fun v => v.category).sum ≤ 8)
    (hR : d + 1 ≤ M.1.frames ∧ 8 + (w.2.2.1 + 11) + 34 * d ≤ M.1.locals) (hC : cells + mc ≤ M.1.cells ∧ slots + ms ≤ M.1.slots) (hM : Mb g w d mc ms As cs QB) (kk : ∀ v cs', QB v cs' → Ab g u M (cells + mc) (slots + ms) (pc + 3) lv (v.toList ++ rest) cs') : Ab g u M cells slots pc lv st cs := by
  intro p e s m args below meth c X ls H locs hl hw hS
  subst hst
  obtain ⟨⟨hini, hcode, hdd⟩, hlink, hstat⟩ := hcw
  have hts := X.2.2.2.2.2.1
  have hK := X.2.2.2.2.2.2.1
  refine lp_after (va_runS (As := As) (rest := rest) (nL := u.2.2.1) ⟨X.1, X.2.1, X.2.2.1, X.2.2.2.2.1, hts⟩ hM ⟨callB_of (ws' := lp_W) As.length hts (lp_gi hcode) rfl rfl rfl (hts _ hini) (hts _ hlink) hdd hR, hts _ hstat⟩ ⟨lp_blind, fun U hU hW => ⟨rfl, by rw [hU]; exact hw, lp_K.warm hW hK⟩⟩ rfl rfl hl.1 rfl (lv_room hrs) hd hC) hS ?_
  intro v cs' H1 locs1 hq hwo hS1
  exact kk v cs' hq p e s m args below meth c X ls H1 locs1 hl hwo hS1
theorem ab_callSN {index d mc ms : Nat} {w : lp_M} {As rest : List Value} {QB : Option Value → List va_E → Prop} (hcw : lp_cSN u.1.cls index w As.length) (hd : decode u.2.1 pc = .ok (.invokestatic index, 3)) (hst : st = As.reverse ++ rest) (hrs : (rest.map fun v => v.category).sum ≤ 8)
    (hR : d + 1 ≤ M.1.frames ∧ 8 + (w.2.2.1 + 11) + 34 * d ≤ M.1.locals) (hC : cells + mc ≤ M.1.cells ∧ slots + ms ≤ M.1.slots) (hM : Mb g w d mc ms As cs QB) (kk : ∀ v cs', QB v cs' → Ab g u M (cells + mc) (slots + ms) (pc + 3) lv (v.toList ++ rest) cs') : Ab g u M cells slots pc lv st cs := by
  intro p e s m args below meth c X ls H locs hl hw hS
  subst hst
  obtain ⟨⟨hini, hcode, hdd⟩, ⟨host, hlink⟩, hstat⟩ := hcw
  have hts := X.2.2.2.2.2.1
  have hK := X.2.2.2.2.2.2.1
  refine lp_after (va_runSN (As := As) (rest := rest) (nL := u.2.2.1) ⟨X.1, X.2.1, X.2.2.1, X.2.2.2.2.1, hts⟩ hM ⟨va_cnB (ws' := lp_W) As.length hts (lp_gi hcode) rfl rfl rfl (hK.2.1 _ hlink) (hts _ hini) hdd hR, hts _ hstat, trivial⟩ ⟨lp_blind, fun U hU hW => ⟨rfl, by rw [hU]; exact hw, lp_K.warm hW hK⟩⟩ rfl rfl hl.1 rfl (lv_room hrs) hd hC) hS ?_
  intro v cs' H1 locs1 hq hwo hS1
  exact kk v cs' hq p e s m args below meth c X ls H1 locs1 hl hwo hS1
theorem ab_callI {index d mc ms : Nat} {b : Nat} {w : lp_M} {As rest : List Value} {QB : Option Value → List va_E → Prop} (hcw : lp_cI u.1.cls index w As.length) (hd : decode u.2.1 pc = .ok (.invokespecial index, 3)) (hst : st = As.reverse ++ .ref b :: rest) (hrs : (rest.map fun v => v.category).sum ≤ 8)
    (hR : d + 1 ≤ M.1.frames ∧ 8 + (w.2.2.1 + 11) + 34 * d ≤ M.1.locals) (hC : cells + mc ≤ M.1.cells ∧ slots + ms ≤ M.1.slots) (hM : Mb g w d mc ms (.ref b :: As) cs QB) (kk : ∀ v cs', QB v cs' → Ab g u M (cells + mc) (slots + ms) (pc + 3) lv (v.toList ++ rest) cs') : Ab g u M cells slots pc lv st cs := by
  intro p e s m args below meth c X ls H locs hl hw hS
  subst hst
  obtain ⟨⟨hini, hcode, hdd⟩, hlink, hinst, hnm, hnn⟩ := hcw
  have hts := X.2.2.2.2.2.1
  have hK := X.2.2.2.2.2.2.1
  refine lp_after (va_runI (As := As) (rest := rest) (nL := u.2.2.1) (b := b) (bytes := w.2.1) (maxL := w.2.2.1) (n := As.length) ⟨X.1, X.2.1, X.2.2.1, X.2.2.2.2.1, hts⟩ hM ⟨callB_of (ws' := lp_W) As.length hts (lp_gi hcode) (by rw [← hnn]; rfl) rfl rfl (hts _ hini) (hts _ hlink) hdd hR, hnm, hts _ hinst⟩ ⟨lp_blind, fun U hU hW => ⟨rfl, by rw [hU]; exact hw, lp_K.warm hW hK⟩⟩ rfl rfl hl.1 rfl (lv_room hrs) hd hC) hS ?_
  intro v cs' H1 locs1 hq hwo hS1
  exact kk v cs' hq p e s m args below meth c X ls H1 locs1 hl hwo hS1
theorem ab_callIN {index d mc ms : Nat} {b : Nat} {w : lp_M} {As rest : List Value} {QB : Option Value → List va_E → Prop} (hcw : lp_cIN u.1.cls index w As.length) (hd : decode u.2.1 pc = .ok (.invokespecial index, 3)) (hst : st = As.reverse ++ .ref b :: rest) (hrs : (rest.map fun v => v.category).sum ≤ 8)
    (hR : d + 1 ≤ M.1.frames ∧ 8 + (w.2.2.1 + 11) + 34 * d ≤ M.1.locals) (hC : cells + mc ≤ M.1.cells ∧ slots + ms ≤ M.1.slots) (hM : Mb g w d mc ms (.ref b :: As) cs QB) (kk : ∀ v cs', QB v cs' → Ab g u M (cells + mc) (slots + ms) (pc + 3) lv (v.toList ++ rest) cs') : Ab g u M cells slots pc lv st cs := by
  intro p e s m args below meth c X ls H locs hl hw hS
  subst hst
  obtain ⟨⟨hini, hcode, hdd⟩, ⟨host, hlink⟩, hinst, hnm, hnn⟩ := hcw
  have hts := X.2.2.2.2.2.1
  have hK := X.2.2.2.2.2.2.1
  refine lp_after (va_runIN (As := As) (rest := rest) (nL := u.2.2.1) (b := b) (bytes := w.2.1) (maxL := w.2.2.1) (n := As.length) ⟨X.1, X.2.1, X.2.2.1, X.2.2.2.2.1, hts⟩ hM ⟨va_cnB (ws' := lp_W) As.length hts (lp_gi hcode) (by rw [← hnn]; rfl) rfl rfl (hK.2.1 _ hlink) (hts _ hini) hdd hR, hnm, hts _ hinst⟩ ⟨lp_blind, fun U hU hW => ⟨rfl, by rw [hU]; exact hw, lp_K.warm hW hK⟩⟩ rfl rfl hl.1 rfl (lv_room hrs) hd hC) hS ?_
  intro v cs' H1 locs1 hq hwo hS1
  exact kk v cs' hq p e s m args below meth c X ls H1 locs1 hl hwo hS1
def lp_cM (own : String) (index : Nat) (y : MethodName) (code : ByteArray) (n : Nat) : Prop := Cond.methodLink own index y ∈ lp_W ∧ Cond.static y ∈ lp_W ∧ Cond.initialized "java/lang/Math" ∈ lp_W ∧ Cond.code y code n (some .int) ∈ lp_W
theorem ab_mmax {index : Nat} {x y : Int32} (hcw : lp_cM u.1.cls index Lib.Math.max.name Lib.Math.max.code 2) (hd : decode u.2.1 pc = .ok (.invokestatic index, 3)) (hf : 1 ≤ M.1.frames) (hlo : (st.map fun v => v.category).sum + 13 ≤ M.1.locals) (hC : cells ≤ M.1.cells ∧ slots ≤ M.1.slots) (kk : Ab g u M cells slots (pc + 3) lv (.int (if x < y then y else x) :: st) cs) : Ab g u M cells slots pc lv (.int y :: .int x :: st) cs :=
  fun p e s m args below meth c X ls H locs hl hw hS => va_mmax X.1 X.2.1 (X.2.2.1.trans hl.1.symm) X.2.2.2.2.1 (X.2.2.2.2.2.1 _ hcw.1) (X.2.2.2.2.2.1 _ hcw.2.1) (X.2.2.2.2.2.1 _ hcw.2.2.1) (X.2.2.2.2.2.1 _ hcw.2.2.2) hf hlo hC.1 hC.2 hd (kk p e s m args below meth c X ls H locs hl hw hS)
theorem ab_mmin {index : Nat} {x y : Int32} (hcw : lp_cM u.1.cls index Lib.Math.min.name Lib.Math.min.code 2) (hd : decode u.2.1 pc = .ok (.invokestatic index, 3)) (hf : 1 ≤ M.1.frames) (hlo : (st.map fun v => v.category).sum + 13 ≤ M.1.locals) (hC : cells ≤ M.1.cells ∧ slots ≤ M.1.slots) (kk : Ab g u M cells slots (pc + 3) lv (.int (if y < x then y else x) :: st) cs) : Ab g u M cells slots pc lv (.int y :: .int x :: st) cs :=
  fun p e s m args below meth c X ls H locs hl hw hS => va_mmin X.1 X.2.1 (X.2.2.1.trans hl.1.symm) X.2.2.2.2.1 (X.2.2.2.2.2.1 _ hcw.1) (X.2.2.2.2.2.1 _ hcw.2.1) (X.2.2.2.2.2.1 _ hcw.2.2.1) (X.2.2.2.2.2.1 _ hcw.2.2.2) hf hlo hC.1 hC.2 hd (kk p e s m args below meth c X ls H locs hl hw hS)
theorem ab_mabs {index : Nat} {x : Int32} (hcw : lp_cM u.1.cls index Lib.Math.abs.name Lib.Math.abs.code 1) (hd : decode u.2.1 pc = .ok (.invokestatic index, 3)) (hf : 1 ≤ M.1.frames) (hlo : (st.map fun v => v.category).sum + 13 ≤ M.1.locals) (hC : cells ≤ M.1.cells ∧ slots ≤ M.1.slots) (kk : Ab g u M cells slots (pc + 3) lv (.int (if 0 ≤ x then x else 0 - x) :: st) cs) : Ab g u M cells slots pc lv (.int x :: st) cs :=
  fun p e s m args below meth c X ls H locs hl hw hS => va_mabs X.1 X.2.1 (X.2.2.1.trans hl.1.symm) X.2.2.2.2.1 (X.2.2.2.2.2.1 _ hcw.1) (X.2.2.2.2.2.1 _ hcw.2.1) (X.2.2.2.2.2.1 _ hcw.2.2.1) (X.2.2.2.2.2.1 _ hcw.2.2.2) hf hlo hC.1 hC.2 hd (kk p e s m args below meth c X ls H locs hl hw hS)
end LPB
end
section
abbrev lp_Sh : Type := (Nat × Option (Nat × Nat × Nat)) ⊕ (Nat × List (Option Nat))
def lp_sh : List lp_Sh := [.inr (0, [some 1, some 2, none, some 8, some 36, some 90, some 92, some 119, some 122, some 125]), .inl (4, some (1, 143, 2)), .inr (2, [some 3, some 5, some 7, none]), .inr (1, [some 4, none]), .inl (24, none), .inr (1, [some 6, none]), .inl (24, none), .inl (24, none), .inr (4, [some 9, some 35]), .inl (25, some (3, 10, 1)), .inl (25, none), .inl (25, none), .inl (25, none), .inl (25, none), .inl (25, none), .inl (25, none), .inl (25, none), .inl (25, none), .inl (25, none), .inl (25, none), .inl (25, none), .inl (25, none), .inl (25, none), .inl (25, none), .inl (25, none), .inl (25, none), .inl (25, none), .inl (25, none), .inl (25, none), .inl (25, none), .inl (25, none), .inl (25, none), .inl (25, none), .inl (25, none), .inl (25, none), .inr (3, [none, none, none, none]), .inr (5, [some 8, some 37, none, some 38, some 39, some 40, none]), .inl (49, some (2, 41, 1)), .inl (24, none), .inl (24, none), .inl (24, none), .inr (3, [none, none, none, none]), .inr (3, [none, none, none, none]), .inr (3, [none, none, none, none]), .inr (3, [none, none, none, none]), .inr (3, [none, none, none, none]), .inr (3, [none, none, none, none]), .inr (3, [none, none, none, none]), .inr (3, [none, none, none, none]), .inr (3, [none, none, none, none]), .inr (3, [none, none, none, none]), .inr (3, [none, none, none, none]), .inr (3, [none, none, none, none]), .inr (3, [none, none, none, none]), .inr (3, [none, none, none, none]), .inr (3, [none, none, none, none]), .inr (3, [none, none, none, none]), .inr (3, [none, none, none, none]), .inr (3, [none, none, none, none]), .inr (3, [none, none, none, none]), .inr (3, [none, none, none, none]), .inr (3, [none, none, none, none]), .inr (3, [none, none, none, none]), .inr (3, [none, none, none, none]), .inr (3, [none, none, none, none]), .inr (3, [none, none, none, none]), .inr (3, [none, none, none, none]), .inr (3, [none, none, none, none]), .inr (3, [none, none, none, none]), .inr (3, [none, none, none, none]), .inr (3, [none, none, none, none]), .inr (3, [none, none, none, none]), .inr (3, [none, none, none, none]), .inr (3, [none, none, none, none]), .inr (3, [none, none, none, none]), .inr (3, [none, none, none, none]), .inr (3, [none, none, none, none]), .inr (3, [none, none, none, none]), .inr (3, [none, none, none, none]), .inr (3, [none, none, none, none]), .inr (3, [none, none, none, none]), .inr (3, [none, none, none, none]), .inr (3, [none, none, none, none]), .inr (3, [none, none, none, none]), .inr (3, [none, none, none, none]), .inr (3, [none, none, none, none]), .inr (3, [none, none, none, none]), .inr (3, [none, none, none, none]), .inr (3, [none, none, none, none]), .inr (3, [none, none, none, none]), .inr (6, [some 91, none]), .inl (900, none), .inr (7, [some 2, some 90, some 93, none]), .inl (25, some (2, 94, 1)), .inr (3, [none, none, none, none]), .inr (3, [none, none, none, none]), .inr (3, [none, none, none, none]), .inr (3, [none, none, none, none]), .inr (3, [none, none, none, none]), .inr (3, [none, none, none, none]), .inr (3, [none, none, none, none]), .inr (3, [none, none, none, none]), .inr (3, [none, none, none, none]), .inr (3, [none, none, none, none]), .inr (3, [none, none, none, none]), .inr (3, [none, none, none, none]), .inr (3, [none, none, none, none]), .inr (3, [none, none, none, none]), .inr (3, [none, none, none, none]), .inr (3, [none, none, none, none]), .inr (3, [none, none, none, none]), .inr (3, [none, none, none, none]), .inr (3, [none, none, none, none]), .inr (3, [none, none, none, none]), .inr (3, [none, none, none, none]), .inr (3, [none, none, none, none]), .inr (3, [none, none, none, none]), .inr (3, [none, none, none, none]), .inr (3, [none, none, none, none]), .inr (8, [some 90, none, none, none, none, some 120, none, some 121, none]), .inl (99, none), .inl (99, none), .inr (9, [some 119, some 123]), .inr (1, [some 124, none]), .inl (24, none), .inr (11, [some 8, some 126, some 132, some 138, some 139, some 140, some 141, none, none]), .inr (2, [some 127, some 129, some 131, none]), .inr (1, [some 128, none]), .inl (24, none), .inr (1, [some 130, none]), .inl (24, none), .inl (24, none), .inr (2, [some 133, some 135, some 137, none]), .inr (1, [some 134, none]), .inl (24, none), .inr (1, [some 136, none]), .inl (24, none), .inl (24, none), .inr (10, [some 127, none, none]), .inr (10, [some 129, none, none]), .inr (10, [some 135, none, none]), .inr (1, [some 142, none]), .inl (24, none), .inr (1, [some 144, none]), .inl (24, none), .inr (1, [some 146, none]), .inl (24, none), .inr (1, [some 148, none]), .inl (24, none), .inr (1, [some 150, none]), .inl (24, none), .inr (12, [some 152, some 153, none, none, some 154, some 155, some 156, some 157, none, some 158, some 159, some 160, some 161, some 162, some 163, none, none, none, some 164, some 165, some 166, none, some 167, some 168, none, some 169, none, some 170, some 171, some 172, some 173, some 174, some 175, none, none, none, some 176, some 177]), .inl (96, none), .inl (4, none), .inl (24, none), .inl (24, none), .inl (24, none), .inl (625, none), .inl (60, none), .inl (60, none), .inl (60, none), .inl (60, none), .inl (24, none), .inl (24, none), .inl (24, none), .inl (24, none), .inl (24, none), .inl (48, none), .inl (48, none), .inl (900, none), .inl (80, none), .inl (80, none), .inl (80, none), .inl (80, none), .inl (80, none), .inl (80, none), .inl (24, none), .inl (24, none)]
/-! the cells after both objects are made: their kinds never change; what changes are ints: a state is two functions, place and slot to int, place and index to int -/
abbrev SS : Type := (Nat → Nat → Int32) × (Nat → Nat → Int32)
def setI (S : SS) (k j : Nat) (v : Int32) : SS := (fun a b => if a = k ∧ b = j then v else S.1 a b, S.2)
def setA (S : SS) (k i : Nat) (v : Int32) : SS := (S.1, fun a b => if a = k ∧ b = i then v else S.2 a b)
def lp_fv (g : lp_G) (S : SS) (k j : Nat) (o : Option Nat) : Value := match o with
  | none => .int (S.1 k j)
  | some r => .ref (g.2.1 + r)
def lp_cell (g : lp_G) (S : SS) (k : Nat) (x : lp_Sh) : va_E := match x with
  | .inl (n, none) => .inl (g.2.2.1 0, n, .inl (S.2 k))
  | .inl (n, some (t, b, w)) => .inl (g.2.2.1 t, n, .inr (.inr (.inr (.inr (fun j => if j < n then some (g.2.1 + (b + w * j)) else none)))))
  | .inr (ci, T) => .inr (ci, T.mapIdx (lp_fv g S k))
def wc (g : lp_G) (S : SS) : List va_E := lp_sh.mapIdx (lp_cell g S)
theorem wc_at {g : lp_G} {S : SS} {k : Nat} {x : lp_Sh} (h : lp_sh[k]? = some x) : (wc g S)[k]? = some (lp_cell g S k x) := by
  simp [wc, h]
theorem wc_len (g : lp_G) (S : SS) : (wc g S).length = lp_sh.length := by simp [wc]
theorem lp_cell_ne {g : lp_G} {S S' : SS} {k : Nat} {x : lp_Sh} (h1 : S'.1 k = S.1 k) (h2 : S'.2 k = S.2 k) : lp_cell g S' k x = lp_cell g S k x := by
  rcases x with ⟨n, _ | ⟨t, b, w⟩⟩ | ⟨ci, T⟩
  · simp only [lp_cell, h2]
  · rfl
  · have e : lp_fv g S' k = lp_fv g S k := by
      funext j o
      cases o
      · simp only [lp_fv, h1]
      · rfl
    simp only [lp_cell, e]
theorem wc_set {g : lp_G} {S S' : SS} {k : Nat} {x : lp_Sh} {e : va_E} (h : ∀ j, j ≠ k → S'.1 j = S.1 j ∧ S'.2 j = S.2 j) (hk : lp_sh[k]? = some x) (he : lp_cell g S' k x = e) : (wc g S).set k e = wc g S' := by
  apply List.ext_getElem?
  intro j
  rw [List.getElem?_set]
  by_cases hj : k = j
  · subst hj
    rw [if_pos rfl, wc_len, if_pos (List.getElem?_eq_some_iff.mp hk).1, wc_at hk, he]
  · rw [if_neg hj]
    simp only [wc, List.getElem?_mapIdx]
    cases lp_sh[j]? with
    | none => rfl
    | some y => simp only [Option.map_some, lp_cell_ne (h j (fun q => hj q.symm)).1 (h j (fun q => hj q.symm)).2]
theorem wc_setI {g : lp_G} {S : SS} {k j ci : Nat} {T : List (Option Nat)} {v : Int32} (hk : lp_sh[k]? = some (.inr (ci, T))) (hT : T[j]? = some none) : (wc g S).set k (.inr (ci, (T.mapIdx (lp_fv g S k)).set j (.int v))) = wc g (setI S k j v) := by
  refine wc_set (fun i hi => ⟨?_, rfl⟩) hk ?_
  · funext b
    simp [setI, hi]
  · show Sum.inr (ci, _) = Sum.inr (ci, _)
    congr 2
    apply List.ext_getElem?
    intro i
    rw [List.getElem?_set, List.getElem?_mapIdx]
    by_cases hi : j = i
    · subst hi
      have hl : j < T.length := (List.getElem?_eq_some_iff.mp hT).1
      rw [if_pos rfl, List.length_mapIdx, if_pos hl, hT]
      simp [lp_fv, setI]
    · simp only [hi, if_false, List.getElem?_mapIdx]
      cases T[i]? with
      | none => rfl
      | some o =>
        cases o with
        | none => simp [lp_fv, setI, Ne.symm hi]
        | some r => rfl
theorem wc_setA {g : lp_G} {S : SS} {k n i : Nat} {v : Int32} (hk : lp_sh[k]? = some (.inl (n, none))) : (wc g S).set k (.inl (g.2.2.1 0, n, .inl (upd (S.2 k) i v))) = wc g (setA S k i v) := by
  refine wc_set (fun j hj => ⟨rfl, ?_⟩) hk ?_
  · funext b
    simp [setA, hj]
  · show Sum.inl (g.2.2.1 0, n, Sum.inl _) = Sum.inl (g.2.2.1 0, n, Sum.inl _)
    congr 3
    refine congrArg Sum.inl (funext fun b => ?_)
    simp [setA, upd]
def lp_QS (g : lp_G) (QS : Option Value → SS → Prop) : Option Value → List va_E → Prop := fun v cs => ∃ S, cs = wc g S ∧ QS v S
theorem lp_QS.use {g : lp_G} {QS : Option Value → SS → Prop} {v : Option Value} {cs : List va_E} (P : Option Value → List va_E → Prop) (h : lp_QS g QS v cs) (k : ∀ S', QS v S' → P v (wc g S')) : P v cs := by
  obtain ⟨S', h1, h2⟩ := h
  rw [h1]
  exact k S' h2
/-- a method that answers an int (or a boolean), one that answers nothing -/
def MtI (g : lp_G) (w : lp_M) (d : Nat) (av : List Value) (S : SS) (Q : Int32 → SS → Prop) : Prop := Mb g w d 0 0 av (wc g S) (lp_QS g (fun v S' => ∃ r, v = some (.int r) ∧ Q r S'))
def MtV (g : lp_G) (w : lp_M) (d : Nat) (av : List Value) (S : SS) (Q : SS → Prop) : Prop := Mb g w d 0 0 av (wc g S) (lp_QS g (fun v S' => v = none ∧ Q S'))
theorem MtI.mono {g : lp_G} {w : lp_M} {d : Nat} {av : List Value} {S : SS} {Q Q' : Int32 → SS → Prop} (h : MtI g w d av S Q) (hq : ∀ r S', Q r S' → Q' r S') : MtI g w d av S Q' :=
  Mb.mono h (fun _ _ ⟨S', e, r, hv, hQ⟩ => ⟨S', e, r, hv, hq r S' hQ⟩)
theorem MtV.mono {g : lp_G} {w : lp_M} {d : Nat} {av : List Value} {S : SS} {Q Q' : SS → Prop} (h : MtV g w d av S Q) (hq : ∀ S', Q S' → Q' S') : MtV g w d av S Q' :=
  Mb.mono h (fun _ _ ⟨S', e, hv, hQ⟩ => ⟨S', e, hv, hq S' hQ⟩)
def mdI (g : lp_G) (d : Nat) (Q : Int32 → SS → Prop) : lp_O := lp_md g d 0 0 (lp_QS g (fun v S' => ∃ r, v = some (.int r) ∧ Q r S'))
def mdV (g : lp_G) (d : Nat) (Q : SS → Prop) : lp_O := lp_md g d 0 0 (lp_QS g (fun v S' => v = none ∧ Q S'))
abbrev AtI (g : lp_G) (u : lp_M) (d : Nat) (Q : Int32 → SS → Prop) (pc : Nat) (lv : List (Nat × Value)) (st : List Value) (S : SS) : Prop := Ab g u (mdI g d Q) 0 0 pc lv st (wc g S)
abbrev AtV (g : lp_G) (u : lp_M) (d : Nat) (Q : SS → Prop) (pc : Nat) (lv : List (Nat × Value)) (st : List Value) (S : SS) : Prop := Ab g u (mdV g d Q) 0 0 pc lv st (wc g S)
/-- the room for a call of depth d -/
def lp_en (M : lp_O) (d : Nat) : Prop := d ≤ M.1.frames ∧ 34 * d ≤ M.1.locals
theorem enI {g : lp_G} {d : Nat} {Q : Int32 → SS → Prop} : lp_en (mdI g d Q) d := ⟨Nat.le_refl _, Nat.le_refl _⟩
theorem enV {g : lp_G} {d : Nat} {Q : SS → Prop} : lp_en (mdV g d Q) d := ⟨Nat.le_refl _, Nat.le_refl _⟩
theorem lp_en.call {M : lp_O} {d : Nat} (h : lp_en M (d + 1)) {w : lp_M} (hm : w.2.2.1 ≤ 15) : d + 1 ≤ M.1.frames ∧ 8 + (w.2.2.1 + 11) + 34 * d ≤ M.1.locals := ⟨h.1, by have := h.2; omega⟩
section LPC
variable {g : lp_G} {u : lp_M} {M : lp_O} {cells slots pc : Nat} {lv : List (Nat × Value)} {st : List Value} {S : SS}
theorem sa_getI {index ci j k : Nat} {T : List (Option Nat)} (hf : lp_F u.1.cls index ci j) (hd : decode u.2.1 pc = .ok (.getfield index, 3)) (hs : lp_sh[k]? = some (.inr (ci, T))) (hT : T[j]? = some none) (kk : Ab g u M cells slots (pc + 3) lv (.int (S.1 k j) :: st) (wc g S)) : Ab g u M cells slots pc lv (.ref (g.2.1 + k) :: st) (wc g S) :=
  ab_get (v := .int (S.1 k j)) hf hd (wc_at hs) (by rw [List.getElem?_mapIdx, hT]; rfl) kk
theorem sa_getR {index ci j k r : Nat} {T : List (Option Nat)} (hf : lp_F u.1.cls index ci j) (hd : decode u.2.1 pc = .ok (.getfield index, 3)) (hs : lp_sh[k]? = some (.inr (ci, T))) (hT : T[j]? = some (some r)) (kk : Ab g u M cells slots (pc + 3) lv (.ref (g.2.1 + r) :: st) (wc g S)) : Ab g u M cells slots pc lv (.ref (g.2.1 + k) :: st) (wc g S) :=
  ab_get (v := .ref (g.2.1 + r)) hf hd (wc_at hs) (by rw [List.getElem?_mapIdx, hT]; rfl) kk
theorem sa_putI {index ci j k : Nat} {T : List (Option Nat)} {v : Int32} (hf : lp_Fp u.1.cls index ci j .int false) (hd : decode u.2.1 pc = .ok (.putfield index, 3)) (hs : lp_sh[k]? = some (.inr (ci, T))) (hT : T[j]? = some none) (kk : Ab g u M cells slots (pc + 3) lv st (wc g (setI S k j v))) : Ab g u M cells slots pc lv (.int v :: .ref (g.2.1 + k) :: st) (wc g S) :=
  ab_put hf hd (wc_at hs) (by rw [List.length_mapIdx]; exact (List.getElem?_eq_some_iff.mp hT).1) rfl rfl (by rw [wc_setI hs hT]; exact kk)
theorem sa_putZ {index ci j k : Nat} {T : List (Option Nat)} {v : Int32} (hf : lp_Fp u.1.cls index ci j .boolean false) (hd : decode u.2.1 pc = .ok (.putfield index, 3)) (hs : lp_sh[k]? = some (.inr (ci, T))) (hT : T[j]? = some none) (hn : narrow .boolean (.int v) = .int v) (hfit : fits .boolean (.int v) = true) (kk : Ab g u M cells slots (pc + 3) lv st (wc g (setI S k j v))) : Ab g u M cells slots pc lv (.int v :: .ref (g.2.1 + k) :: st) (wc g S) :=
  ab_put hf hd (wc_at hs) (by rw [List.length_mapIdx]; exact (List.getElem?_eq_some_iff.mp hT).1) hn hfit (by rw [wc_setI hs hT]; exact kk)
theorem sa_iald {k n : Nat} {i : Int32} (hd : decode u.2.1 pc = .ok (.iaload, 1)) (hs : lp_sh[k]? = some (.inl (n, none))) (hin : vp_in i n) (kk : Ab g u M cells slots (pc + 1) lv (.int (S.2 k i.toNatClampNeg) :: st) (wc g S)) : Ab g u M cells slots pc lv (.int i :: .ref (g.2.1 + k) :: st) (wc g S) :=
  ab_iald (f := S.2 k) hd (wc_at hs) hin kk
theorem sa_iast {k n : Nat} {i x : Int32} (hd : decode u.2.1 pc = .ok (.iastore, 1)) (hs : lp_sh[k]? = some (.inl (n, none))) (hin : vp_in i n) (kk : Ab g u M cells slots (pc + 1) lv st (wc g (setA S k i.toNatClampNeg x))) : Ab g u M cells slots pc lv (.int x :: .int i :: .ref (g.2.1 + k) :: st) (wc g S) :=
  ab_iast (f := S.2 k) hd (wc_at hs) hin (by rw [wc_setA hs]; exact kk)
theorem sa_aald {k n t b w : Nat} {i : Int32} {ty : FieldType} (hd : decode u.2.1 pc = .ok (.aaload, 1)) (hs : lp_sh[k]? = some (.inl (n, some (t, b, w)))) (ht : (lp_tys g.2.2.1)[t]? = some (g.2.2.1 t, ty)) (hty : ty.isReference = true) (hin : vp_in i n) (kk : Ab g u M cells slots (pc + 1) lv (.ref (g.2.1 + (b + w * i.toNatClampNeg)) :: st) (wc g S)) : Ab g u M cells slots pc lv (.int i :: .ref (g.2.1 + k) :: st) (wc g S) :=
  ab_aald hd (wc_at hs) ht hty hin (if_pos (Nat.not_le.mp fun q => hin (Or.inr q))) kk
theorem sa_iretI {d : Nat} {Q : Int32 → SS → Prop} {v : Int32} (hr : u.2.2.2 = some .int) (hd : decode u.2.1 pc = .ok (.ireturn, 1)) (hq : Q v S) : Ab g u (mdI g d Q) 0 0 pc lv [.int v] (wc g S) := ab_iret hr hd ⟨S, rfl, v, rfl, hq⟩
theorem sa_iretZ {d : Nat} {Q : Int32 → SS → Prop} {v : Int32} (hr : u.2.2.2 = some .boolean) (hn : narrow .boolean (.int v) = .int v) (hd : decode u.2.1 pc = .ok (.ireturn, 1)) (hq : Q v S) : Ab g u (mdI g d Q) 0 0 pc lv [.int v] (wc g S) := ab_zret hr hn hd ⟨S, rfl, v, rfl, hq⟩
theorem sa_ret {d : Nat} {Q : SS → Prop} (hr : u.2.2.2 = none) (hd : decode u.2.1 pc = .ok (.return_, 1)) (hq : Q S) : Ab g u (mdV g d Q) 0 0 pc lv [] (wc g S) := ab_vret hr hd ⟨S, rfl, rfl, hq⟩
theorem sa_entryI {d : Nat} {Q : Int32 → SS → Prop} {av : List Value} {lv' : List (Nat × Value)} (hy : plainName u.1.cls = true) (hn : (lg_sl av).length ≤ u.2.2.1) (hlv : lv_args 0 av = lv') (h : Ab g u (mdI g d Q) 0 0 0 lv' [] (wc g S)) : MtI g u d av S Q := ab_entry hy hn (by rw [hlv]; exact h)
theorem sa_entryV {d : Nat} {Q : SS → Prop} {av : List Value} {lv' : List (Nat × Value)} (hy : plainName u.1.cls = true) (hn : (lg_sl av).length ≤ u.2.2.1) (hlv : lv_args 0 av = lv') (h : Ab g u (mdV g d Q) 0 0 0 lv' [] (wc g S)) : MtV g u d av S Q := ab_entry hy hn (by rw [hlv]; exact h)
theorem sa_callVi {index k ci d : Nat} {w : lp_M} {T : List (Option Nat)} {As rest : List Value} {q0 : vw_C} {Q : Int32 → SS → Prop} (hcw : lp_cV u.1.cls index w As.length) (hd : decode u.2.1 pc = .ok (.invokevirtual index, 3)) (hs : lp_sh[k]? = some (.inr (ci, T))) (hci : vwCl[ci]? = some q0) (hcn : q0.1 = w.1.cls) (hst : st = As.reverse ++ .ref (g.2.1 + k) :: rest) (hrs : (rest.map fun v => v.category).sum ≤ 8)
    (hE : lp_en M (d + 1)) (hm : w.2.2.1 ≤ 15) (hC : cells ≤ M.1.cells ∧ slots ≤ M.1.slots) (hM : MtI g w d (.ref (g.2.1 + k) :: As) S Q) (kk : ∀ r S', Q r S' → Ab g u M cells slots (pc + 3) lv (.int r :: rest) (wc g S')) : Ab g u M cells slots pc lv st (wc g S) :=
  ab_callV hcw hd (wc_at hs) hci hcn hst hrs (hE.call hm) hC hM (fun v cs' h => lp_QS.use (fun v cs => Ab g u M cells slots (pc + 3) lv (v.toList ++ rest) cs) h (fun S' ⟨r, hv, hQ⟩ => by rw [hv]; exact kk r S' hQ))
theorem sa_callVv {index k ci d : Nat} {w : lp_M} {T : List (Option Nat)} {As rest : List Value} {q0 : vw_C} {Q : SS → Prop} (hcw : lp_cV u.1.cls index w As.length) (hd : decode u.2.1 pc = .ok (.invokevirtual index, 3)) (hs : lp_sh[k]? = some (.inr (ci, T))) (hci : vwCl[ci]? = some q0) (hcn : q0.1 = w.1.cls) (hst : st = As.reverse ++ .ref (g.2.1 + k) :: rest) (hrs : (rest.map fun v => v.category).sum ≤ 8)
    (hE : lp_en M (d + 1)) (hm : w.2.2.1 ≤ 15) (hC : cells ≤ M.1.cells ∧ slots ≤ M.1.slots) (hM : MtV g w d (.ref (g.2.1 + k) :: As) S Q) (kk : ∀ S', Q S' → Ab g u M cells slots (pc + 3) lv rest (wc g S')) : Ab g u M cells slots pc lv st (wc g S) :=
  ab_callV hcw hd (wc_at hs) hci hcn hst hrs (hE.call hm) hC hM (fun v cs' h => lp_QS.use (fun v cs => Ab g u M cells slots (pc + 3) lv (v.toList ++ rest) cs) h (fun S' ⟨hv, hQ⟩ => by rw [hv]; exact kk S' hQ))
theorem sa_callVNi {index k ci d : Nat} {w : lp_M} {T : List (Option Nat)} {As rest : List Value} {q0 : vw_C} {Q : Int32 → SS → Prop} (hcw : lp_cVN u.1.cls index w As.length) (hd : decode u.2.1 pc = .ok (.invokevirtual index, 3)) (hs : lp_sh[k]? = some (.inr (ci, T))) (hci : vwCl[ci]? = some q0) (hcn : q0.1 = w.1.cls) (hst : st = As.reverse ++ .ref (g.2.1 + k) :: rest) (hrs : (rest.map fun v => v.category).sum ≤ 8)
    (hE : lp_en M (d + 1)) (hm : w.2.2.1 ≤ 15) (hC : cells ≤ M.1.cells ∧ slots ≤ M.1.slots) (hM : MtI g w d (.ref (g.2.1 + k) :: As) S Q) (kk : ∀ r S', Q r S' → Ab g u M cells slots (pc + 3) lv (.int r :: rest) (wc g S')) : Ab g u M cells slots pc lv st (wc g S) :=
  ab_callVN hcw hd (wc_at hs) hci hcn hst hrs (hE.call hm) hC hM (fun v cs' h => lp_QS.use (fun v cs => Ab g u M cells slots (pc + 3) lv (v.toList ++ rest) cs) h (fun S' ⟨r, hv, hQ⟩ => by rw [hv]; exact kk r S' hQ))
theorem sa_callVNv {index k ci d : Nat} {w : lp_M} {T : List (Option Nat)} {As rest : List Value} {q0 : vw_C} {Q : SS → Prop} (hcw : lp_cVN u.1.cls index w As.length) (hd : decode u.2.1 pc = .ok (.invokevirtual index, 3)) (hs : lp_sh[k]? = some (.inr (ci, T))) (hci : vwCl[ci]? = some q0) (hcn : q0.1 = w.1.cls) (hst : st = As.reverse ++ .ref (g.2.1 + k) :: rest) (hrs : (rest.map fun v => v.category).sum ≤ 8)
    (hE : lp_en M (d + 1)) (hm : w.2.2.1 ≤ 15) (hC : cells ≤ M.1.cells ∧ slots ≤ M.1.slots) (hM : MtV g w d (.ref (g.2.1 + k) :: As) S Q) (kk : ∀ S', Q S' → Ab g u M cells slots (pc + 3) lv rest (wc g S')) : Ab g u M cells slots pc lv st (wc g S) :=
  ab_callVN hcw hd (wc_at hs) hci hcn hst hrs (hE.call hm) hC hM (fun v cs' h => lp_QS.use (fun v cs => Ab g u M cells slots (pc + 3) lv (v.toList ++ rest) cs) h (fun S' ⟨hv, hQ⟩ => by rw [hv]; exact kk S' hQ))
theorem sa_callSi {index d : Nat} {w : lp_M} {As rest : List Value} {Q : Int32 → SS → Prop} (hcw : lp_cS u.1.cls index w As.length) (hd : decode u.2.1 pc = .ok (.invokestatic index, 3)) (hst : st = As.reverse ++ rest) (hrs : (rest.map fun v => v.category).sum ≤ 8)
    (hE : lp_en M (d + 1)) (hm : w.2.2.1 ≤ 15) (hC : cells ≤ M.1.cells ∧ slots ≤ M.1.slots) (hM : MtI g w d As S Q) (kk : ∀ r S', Q r S' → Ab g u M cells slots (pc + 3) lv (.int r :: rest) (wc g S')) : Ab g u M cells slots pc lv st (wc g S) :=
  ab_callS hcw hd hst hrs (hE.call hm) hC hM (fun v cs' h => lp_QS.use (fun v cs => Ab g u M cells slots (pc + 3) lv (v.toList ++ rest) cs) h (fun S' ⟨r, hv, hQ⟩ => by rw [hv]; exact kk r S' hQ))
theorem sa_callSNi {index d : Nat} {w : lp_M} {As rest : List Value} {Q : Int32 → SS → Prop} (hcw : lp_cSN u.1.cls index w As.length) (hd : decode u.2.1 pc = .ok (.invokestatic index, 3)) (hst : st = As.reverse ++ rest) (hrs : (rest.map fun v => v.category).sum ≤ 8)
    (hE : lp_en M (d + 1)) (hm : w.2.2.1 ≤ 15) (hC : cells ≤ M.1.cells ∧ slots ≤ M.1.slots) (hM : MtI g w d As S Q) (kk : ∀ r S', Q r S' → Ab g u M cells slots (pc + 3) lv (.int r :: rest) (wc g S')) : Ab g u M cells slots pc lv st (wc g S) :=
  ab_callSN hcw hd hst hrs (hE.call hm) hC hM (fun v cs' h => lp_QS.use (fun v cs => Ab g u M cells slots (pc + 3) lv (v.toList ++ rest) cs) h (fun S' ⟨r, hv, hQ⟩ => by rw [hv]; exact kk r S' hQ))
end LPC
theorem sh_0 : lp_sh[0]? = some (.inr (0, [some 1, some 2, none, some 8, some 36, some 90, some 92, some 119, some 122, some 125])) := rfl
theorem sh_1 : lp_sh[1]? = some (.inl (4, some (1, 143, 2))) := rfl
theorem sh_2 : lp_sh[2]? = some (.inr (2, [some 3, some 5, some 7, none])) := rfl
theorem sh_3 : lp_sh[3]? = some (.inr (1, [some 4, none])) := rfl
theorem sh_4 : lp_sh[4]? = some (.inl (24, none)) := rfl
theorem sh_5 : lp_sh[5]? = some (.inr (1, [some 6, none])) := rfl
theorem sh_6 : lp_sh[6]? = some (.inl (24, none)) := rfl
theorem sh_7 : lp_sh[7]? = some (.inl (24, none)) := rfl
theorem sh_8 : lp_sh[8]? = some (.inr (4, [some 9, some 35])) := rfl
theorem sh_9 : lp_sh[9]? = some (.inl (25, some (3, 10, 1))) := rfl
theorem sh_10 : lp_sh[10]? = some (.inl (25, none)) := rfl
theorem sh_11 : lp_sh[11]? = some (.inl (25, none)) := rfl
theorem sh_12 : lp_sh[12]? = some (.inl (25, none)) := rfl
theorem sh_13 : lp_sh[13]? = some (.inl (25, none)) := rfl
theorem sh_14 : lp_sh[14]? = some (.inl (25, none)) := rfl
theorem sh_15 : lp_sh[15]? = some (.inl (25, none)) := rfl
theorem sh_16 : lp_sh[16]? = some (.inl (25, none)) := rfl
theorem sh_17 : lp_sh[17]? = some (.inl (25, none)) := rfl
theorem sh_18 : lp_sh[18]? = some (.inl (25, none)) := rfl
theorem sh_19 : lp_sh[19]? = some (.inl (25, none)) := rfl
theorem sh_20 : lp_sh[20]? = some (.inl (25, none)) := rfl
theorem sh_21 : lp_sh[21]? = some (.inl (25, none)) := rfl
theorem sh_22 : lp_sh[22]? = some (.inl (25, none)) := rfl
theorem sh_23 : lp_sh[23]? = some (.inl (25, none)) := rfl
theorem sh_24 : lp_sh[24]? = some (.inl (25, none)) := rfl
theorem sh_25 : lp_sh[25]? = some (.inl (25, none)) := rfl
theorem sh_26 : lp_sh[26]? = some (.inl (25, none)) := rfl
theorem sh_27 : lp_sh[27]? = some (.inl (25, none)) := rfl
theorem sh_28 : lp_sh[28]? = some (.inl (25, none)) := rfl
theorem sh_29 : lp_sh[29]? = some (.inl (25, none)) := rfl
theorem sh_30 : lp_sh[30]? = some (.inl (25, none)) := rfl
theorem sh_31 : lp_sh[31]? = some (.inl (25, none)) := rfl
theorem sh_32 : lp_sh[32]? = some (.inl (25, none)) := rfl
theorem sh_33 : lp_sh[33]? = some (.inl (25, none)) := rfl
theorem sh_34 : lp_sh[34]? = some (.inl (25, none)) := rfl
theorem sh_35 : lp_sh[35]? = some (.inr (3, [none, none, none, none])) := rfl
theorem sh_36 : lp_sh[36]? = some (.inr (5, [some 8, some 37, none, some 38, some 39, some 40, none])) := rfl
theorem sh_37 : lp_sh[37]? = some (.inl (49, some (2, 41, 1))) := rfl
theorem sh_38 : lp_sh[38]? = some (.inl (24, none)) := rfl
theorem sh_39 : lp_sh[39]? = some (.inl (24, none)) := rfl
theorem sh_40 : lp_sh[40]? = some (.inl (24, none)) := rfl
theorem sh_41 : lp_sh[41]? = some (.inr (3, [none, none, none, none])) := rfl
theorem sh_42 : lp_sh[42]? = some (.inr (3, [none, none, none, none])) := rfl
theorem sh_43 : lp_sh[43]? = some (.inr (3, [none, none, none, none])) := rfl
theorem sh_44 : lp_sh[44]? = some (.inr (3, [none, none, none, none])) := rfl
theorem sh_45 : lp_sh[45]? = some (.inr (3, [none, none, none, none])) := rfl
theorem sh_46 : lp_sh[46]? = some (.inr (3, [none, none, none, none])) := rfl
theorem sh_47 : lp_sh[47]? = some (.inr (3, [none, none, none, none])) := rfl
theorem sh_48 : lp_sh[48]? = some (.inr (3, [none, none, none, none])) := rfl
theorem sh_49 : lp_sh[49]? = some (.inr (3, [none, none, none, none])) := rfl
theorem sh_50 : lp_sh[50]? = some (.inr (3, [none, none, none, none])) := rfl
theorem sh_51 : lp_sh[51]? = some (.inr (3, [none, none, none, none])) := rfl
theorem sh_52 : lp_sh[52]? = some (.inr (3, [none, none, none, none])) := rfl
theorem sh_53 : lp_sh[53]? = some (.inr (3, [none, none, none, none])) := rfl
theorem sh_54 : lp_sh[54]? = some (.inr (3, [none, none, none, none])) := rfl
theorem sh_55 : lp_sh[55]? = some (.inr (3, [none, none, none, none])) := rfl
theorem sh_56 : lp_sh[56]? = some (.inr (3, [none, none, none, none])) := rfl
theorem sh_57 : lp_sh[57]? = some (.inr (3, [none, none, none, none])) := rfl
theorem sh_58 : lp_sh[58]? = some (.inr (3, [none, none, none, none])) := rfl
theorem sh_59 : lp_sh[59]? = some (.inr (3, [none, none, none, none])) := rfl
theorem sh_60 : lp_sh[60]? = some (.inr (3, [none, none, none, none])) := rfl
theorem sh_61 : lp_sh[61]? = some (.inr (3, [none, none, none, none])) := rfl
theorem sh_62 : lp_sh[62]? = some (.inr (3, [none, none, none, none])) := rfl
theorem sh_63 : lp_sh[63]? = some (.inr (3, [none, none, none, none])) := rfl
theorem sh_64 : lp_sh[64]? = some (.inr (3, [none, none, none, none])) := rfl
theorem sh_65 : lp_sh[65]? = some (.inr (3, [none, none, none, none])) := rfl
theorem sh_66 : lp_sh[66]? = some (.inr (3, [none, none, none, none])) := rfl
theorem sh_67 : lp_sh[67]? = some (.inr (3, [none, none, none, none])) := rfl
theorem sh_68 : lp_sh[68]? = some (.inr (3, [none, none, none, none])) := rfl
theorem sh_69 : lp_sh[69]? = some (.inr (3, [none, none, none, none])) := rfl
theorem sh_70 : lp_sh[70]? = some (.inr (3, [none, none, none, none])) := rfl
theorem sh_71 : lp_sh[71]? = some (.inr (3, [none, none, none, none])) := rfl
theorem sh_72 : lp_sh[72]? = some (.inr (3, [none, none, none, none])) := rfl
theorem sh_73 : lp_sh[73]? = some (.inr (3, [none, none, none, none])) := rfl
theorem sh_74 : lp_sh[74]? = some (.inr (3, [none, none, none, none])) := rfl
theorem sh_75 : lp_sh[75]? = some (.inr (3, [none, none, none, none])) := rfl
theorem sh_76 : lp_sh[76]? = some (.inr (3, [none, none, none, none])) := rfl
theorem sh_77 : lp_sh[77]? = some (.inr (3, [none, none, none, none])) := rfl
theorem sh_78 : lp_sh[78]? = some (.inr (3, [none, none, none, none])) := rfl
theorem sh_79 : lp_sh[79]? = some (.inr (3, [none, none, none, none])) := rfl
theorem sh_80 : lp_sh[80]? = some (.inr (3, [none, none, none, none])) := rfl
theorem sh_81 : lp_sh[81]? = some (.inr (3, [none, none, none, none])) := rfl
theorem sh_82 : lp_sh[82]? = some (.inr (3, [none, none, none, none])) := rfl
theorem sh_83 : lp_sh[83]? = some (.inr (3, [none, none, none, none])) := rfl
theorem sh_84 : lp_sh[84]? = some (.inr (3, [none, none, none, none])) := rfl
theorem sh_85 : lp_sh[85]? = some (.inr (3, [none, none, none, none])) := rfl
theorem sh_86 : lp_sh[86]? = some (.inr (3, [none, none, none, none])) := rfl
theorem sh_87 : lp_sh[87]? = some (.inr (3, [none, none, none, none])) := rfl
theorem sh_88 : lp_sh[88]? = some (.inr (3, [none, none, none, none])) := rfl
theorem sh_89 : lp_sh[89]? = some (.inr (3, [none, none, none, none])) := rfl
theorem sh_90 : lp_sh[90]? = some (.inr (6, [some 91, none])) := rfl
theorem sh_91 : lp_sh[91]? = some (.inl (900, none)) := rfl
theorem sh_92 : lp_sh[92]? = some (.inr (7, [some 2, some 90, some 93, none])) := rfl
theorem sh_93 : lp_sh[93]? = some (.inl (25, some (2, 94, 1))) := rfl
theorem sh_94 : lp_sh[94]? = some (.inr (3, [none, none, none, none])) := rfl
theorem sh_95 : lp_sh[95]? = some (.inr (3, [none, none, none, none])) := rfl
theorem sh_96 : lp_sh[96]? = some (.inr (3, [none, none, none, none])) := rfl
theorem sh_97 : lp_sh[97]? = some (.inr (3, [none, none, none, none])) := rfl
theorem sh_98 : lp_sh[98]? = some (.inr (3, [none, none, none, none])) := rfl
theorem sh_99 : lp_sh[99]? = some (.inr (3, [none, none, none, none])) := rfl
theorem sh_100 : lp_sh[100]? = some (.inr (3, [none, none, none, none])) := rfl
theorem sh_101 : lp_sh[101]? = some (.inr (3, [none, none, none, none])) := rfl
theorem sh_102 : lp_sh[102]? = some (.inr (3, [none, none, none, none])) := rfl
theorem sh_103 : lp_sh[103]? = some (.inr (3, [none, none, none, none])) := rfl
theorem sh_104 : lp_sh[104]? = some (.inr (3, [none, none, none, none])) := rfl
theorem sh_105 : lp_sh[105]? = some (.inr (3, [none, none, none, none])) := rfl
theorem sh_106 : lp_sh[106]? = some (.inr (3, [none, none, none, none])) := rfl
theorem sh_107 : lp_sh[107]? = some (.inr (3, [none, none, none, none])) := rfl
theorem sh_108 : lp_sh[108]? = some (.inr (3, [none, none, none, none])) := rfl
theorem sh_109 : lp_sh[109]? = some (.inr (3, [none, none, none, none])) := rfl
theorem sh_110 : lp_sh[110]? = some (.inr (3, [none, none, none, none])) := rfl
theorem sh_111 : lp_sh[111]? = some (.inr (3, [none, none, none, none])) := rfl
theorem sh_112 : lp_sh[112]? = some (.inr (3, [none, none, none, none])) := rfl
theorem sh_113 : lp_sh[113]? = some (.inr (3, [none, none, none, none])) := rfl
theorem sh_114 : lp_sh[114]? = some (.inr (3, [none, none, none, none])) := rfl
theorem sh_115 : lp_sh[115]? = some (.inr (3, [none, none, none, none])) := rfl
theorem sh_116 : lp_sh[116]? = some (.inr (3, [none, none, none, none])) := rfl
theorem sh_117 : lp_sh[117]? = some (.inr (3, [none, none, none, none])) := rfl
theorem sh_118 : lp_sh[118]? = some (.inr (3, [none, none, none, none])) := rfl
theorem sh_119 : lp_sh[119]? = some (.inr (8, [some 90, none, none, none, none, some 120, none, some 121, none])) := rfl
theorem sh_120 : lp_sh[120]? = some (.inl (99, none)) := rfl
theorem sh_121 : lp_sh[121]? = some (.inl (99, none)) := rfl
theorem sh_122 : lp_sh[122]? = some (.inr (9, [some 119, some 123])) := rfl
theorem sh_123 : lp_sh[123]? = some (.inr (1, [some 124, none])) := rfl
theorem sh_124 : lp_sh[124]? = some (.inl (24, none)) := rfl
theorem sh_125 : lp_sh[125]? = some (.inr (11, [some 8, some 126, some 132, some 138, some 139, some 140, some 141, none, none])) := rfl
theorem sh_126 : lp_sh[126]? = some (.inr (2, [some 127, some 129, some 131, none])) := rfl
theorem sh_127 : lp_sh[127]? = some (.inr (1, [some 128, none])) := rfl
theorem sh_128 : lp_sh[128]? = some (.inl (24, none)) := rfl
theorem sh_129 : lp_sh[129]? = some (.inr (1, [some 130, none])) := rfl
theorem sh_130 : lp_sh[130]? = some (.inl (24, none)) := rfl
theorem sh_131 : lp_sh[131]? = some (.inl (24, none)) := rfl
theorem sh_132 : lp_sh[132]? = some (.inr (2, [some 133, some 135, some 137, none])) := rfl
theorem sh_133 : lp_sh[133]? = some (.inr (1, [some 134, none])) := rfl
theorem sh_134 : lp_sh[134]? = some (.inl (24, none)) := rfl
theorem sh_135 : lp_sh[135]? = some (.inr (1, [some 136, none])) := rfl
theorem sh_136 : lp_sh[136]? = some (.inl (24, none)) := rfl
theorem sh_137 : lp_sh[137]? = some (.inl (24, none)) := rfl
theorem sh_138 : lp_sh[138]? = some (.inr (10, [some 127, none, none])) := rfl
theorem sh_139 : lp_sh[139]? = some (.inr (10, [some 129, none, none])) := rfl
theorem sh_140 : lp_sh[140]? = some (.inr (10, [some 135, none, none])) := rfl
theorem sh_141 : lp_sh[141]? = some (.inr (1, [some 142, none])) := rfl
theorem sh_142 : lp_sh[142]? = some (.inl (24, none)) := rfl
theorem sh_143 : lp_sh[143]? = some (.inr (1, [some 144, none])) := rfl
theorem sh_144 : lp_sh[144]? = some (.inl (24, none)) := rfl
theorem sh_145 : lp_sh[145]? = some (.inr (1, [some 146, none])) := rfl
theorem sh_146 : lp_sh[146]? = some (.inl (24, none)) := rfl
theorem sh_147 : lp_sh[147]? = some (.inr (1, [some 148, none])) := rfl
theorem sh_148 : lp_sh[148]? = some (.inl (24, none)) := rfl
theorem sh_149 : lp_sh[149]? = some (.inr (1, [some 150, none])) := rfl
theorem sh_150 : lp_sh[150]? = some (.inl (24, none)) := rfl
theorem sh_151 : lp_sh[151]? = some (.inr (12, [some 152, some 153, none, none, some 154, some 155, some 156, some 157, none, some 158, some 159, some 160, some 161, some 162, some 163, none, none, none, some 164, some 165, some 166, none, some 167, some 168, none, some 169, none, some 170, some 171, some 172, some 173, some 174, some 175, none, none, none, some 176, some 177])) := rfl
theorem sh_152 : lp_sh[152]? = some (.inl (96, none)) := rfl
theorem sh_153 : lp_sh[153]? = some (.inl (4, none)) := rfl
theorem sh_154 : lp_sh[154]? = some (.inl (24, none)) := rfl
theorem sh_155 : lp_sh[155]? = some (.inl (24, none)) := rfl
theorem sh_156 : lp_sh[156]? = some (.inl (24, none)) := rfl
theorem sh_157 : lp_sh[157]? = some (.inl (625, none)) := rfl
theorem sh_158 : lp_sh[158]? = some (.inl (60, none)) := rfl
theorem sh_159 : lp_sh[159]? = some (.inl (60, none)) := rfl
theorem sh_160 : lp_sh[160]? = some (.inl (60, none)) := rfl
theorem sh_161 : lp_sh[161]? = some (.inl (60, none)) := rfl
theorem sh_162 : lp_sh[162]? = some (.inl (24, none)) := rfl
theorem sh_163 : lp_sh[163]? = some (.inl (24, none)) := rfl
theorem sh_164 : lp_sh[164]? = some (.inl (24, none)) := rfl
theorem sh_165 : lp_sh[165]? = some (.inl (24, none)) := rfl
theorem sh_166 : lp_sh[166]? = some (.inl (24, none)) := rfl
theorem sh_167 : lp_sh[167]? = some (.inl (48, none)) := rfl
theorem sh_168 : lp_sh[168]? = some (.inl (48, none)) := rfl
theorem sh_169 : lp_sh[169]? = some (.inl (900, none)) := rfl
theorem sh_170 : lp_sh[170]? = some (.inl (80, none)) := rfl
theorem sh_171 : lp_sh[171]? = some (.inl (80, none)) := rfl
theorem sh_172 : lp_sh[172]? = some (.inl (80, none)) := rfl
theorem sh_173 : lp_sh[173]? = some (.inl (80, none)) := rfl
theorem sh_174 : lp_sh[174]? = some (.inl (80, none)) := rfl
theorem sh_175 : lp_sh[175]? = some (.inl (80, none)) := rfl
theorem sh_176 : lp_sh[176]? = some (.inl (24, none)) := rfl
theorem sh_177 : lp_sh[177]? = some (.inl (24, none)) := rfl
theorem sr_1 (i : Nat) (hi : i < 4) : lp_sh[143 + 2 * i]? = some (.inr (1, [some (143 + 2 * i + 1), none])) := match i, hi with
  | 0, _ => rfl
  | 1, _ => rfl
  | 2, _ => rfl
  | 3, _ => rfl
  | i + 4, hi => absurd hi (by omega)
theorem sr_1_1 (i : Nat) (hi : i < 4) : lp_sh[143 + 2 * i + 1]? = some (.inl (24, none)) := match i, hi with
  | 0, _ => rfl
  | 1, _ => rfl
  | 2, _ => rfl
  | 3, _ => rfl
  | i + 4, hi => absurd hi (by omega)
theorem sr_9 (i : Nat) (hi : i < 25) : lp_sh[10 + 1 * i]? = some (.inl (25, none)) := match i, hi with
  | 0, _ => rfl
  | 1, _ => rfl
  | 2, _ => rfl
  | 3, _ => rfl
  | 4, _ => rfl
  | 5, _ => rfl
  | 6, _ => rfl
  | 7, _ => rfl
  | 8, _ => rfl
  | 9, _ => rfl
  | 10, _ => rfl
  | 11, _ => rfl
  | 12, _ => rfl
  | 13, _ => rfl
  | 14, _ => rfl
  | 15, _ => rfl
  | 16, _ => rfl
  | 17, _ => rfl
  | 18, _ => rfl
  | 19, _ => rfl
  | 20, _ => rfl
  | 21, _ => rfl
  | 22, _ => rfl
  | 23, _ => rfl
  | 24, _ => rfl
  | i + 25, hi => absurd hi (by omega)
theorem sr_37 (i : Nat) (hi : i < 49) : lp_sh[41 + 1 * i]? = some (.inr (3, [none, none, none, none])) := match i, hi with
  | 0, _ => rfl
  | 1, _ => rfl
  | 2, _ => rfl
  | 3, _ => rfl
  | 4, _ => rfl
  | 5, _ => rfl
  | 6, _ => rfl
  | 7, _ => rfl
  | 8, _ => rfl
  | 9, _ => rfl
  | 10, _ => rfl
  | 11, _ => rfl
  | 12, _ => rfl
  | 13, _ => rfl
  | 14, _ => rfl
  | 15, _ => rfl
  | 16, _ => rfl
  | 17, _ => rfl
  | 18, _ => rfl
  | 19, _ => rfl
  | 20, _ => rfl
  | 21, _ => rfl
  | 22, _ => rfl
  | 23, _ => rfl
  | 24, _ => rfl
  | 25, _ => rfl
  | 26, _ => rfl
  | 27, _ => rfl
  | 28, _ => rfl
  | 29, _ => rfl
  | 30, _ => rfl
  | 31, _ => rfl
  | 32, _ => rfl
  | 33, _ => rfl
  | 34, _ => rfl
  | 35, _ => rfl
  | 36, _ => rfl
  | 37, _ => rfl
  | 38, _ => rfl
  | 39, _ => rfl
  | 40, _ => rfl
  | 41, _ => rfl
  | 42, _ => rfl
  | 43, _ => rfl
  | 44, _ => rfl
  | 45, _ => rfl
  | 46, _ => rfl
  | 47, _ => rfl
  | 48, _ => rfl
  | i + 49, hi => absurd hi (by omega)
theorem sr_93 (i : Nat) (hi : i < 25) : lp_sh[94 + 1 * i]? = some (.inr (3, [none, none, none, none])) := match i, hi with
  | 0, _ => rfl
  | 1, _ => rfl
  | 2, _ => rfl
  | 3, _ => rfl
  | 4, _ => rfl
  | 5, _ => rfl
  | 6, _ => rfl
  | 7, _ => rfl
  | 8, _ => rfl
  | 9, _ => rfl
  | 10, _ => rfl
  | 11, _ => rfl
  | 12, _ => rfl
  | 13, _ => rfl
  | 14, _ => rfl
  | 15, _ => rfl
  | 16, _ => rfl
  | 17, _ => rfl
  | 18, _ => rfl
  | 19, _ => rfl
  | 20, _ => rfl
  | 21, _ => rfl
  | 22, _ => rfl
  | 23, _ => rfl
  | 24, _ => rfl
  | i + 25, hi => absurd hi (by omega)
end
section
theorem in_P : ∀ w ∈ u_ws "LinePatcher" ff_P 10, w ∈ lp_W := by
  intro w h
  obtain ⟨k, hk, rfl⟩ := List.mem_map.mp h
  have hk := List.mem_range.mp hk
  match k, hk with
  | 0, _ => exact lp_in 375 (by decide +kernel) rfl
  | 1, _ => exact lp_in 377 (by decide +kernel) rfl
  | 2, _ => exact lp_in 379 (by decide +kernel) rfl
  | 3, _ => exact lp_in 381 (by decide +kernel) rfl
  | 4, _ => exact lp_in 383 (by decide +kernel) rfl
  | 5, _ => exact lp_in 385 (by decide +kernel) rfl
  | 6, _ => exact lp_in 387 (by decide +kernel) rfl
  | 7, _ => exact lp_in 389 (by decide +kernel) rfl
  | 8, _ => exact lp_in 391 (by decide +kernel) rfl
  | 9, _ => exact lp_in 393 (by decide +kernel) rfl
  | k + 10, hk => exact absurd hk (by omega)
theorem ok_P : lp_C 0 "LinePatcher" ff_P 10 := ⟨rfl, in_P, ⟨tf_P, by decide +kernel⟩, by decide +kernel⟩
theorem in_T : ∀ w ∈ u_ws "LinePatcher$Text" ff_T 2, w ∈ lp_W := by
  intro w h
  obtain ⟨k, hk, rfl⟩ := List.mem_map.mp h
  have hk := List.mem_range.mp hk
  match k, hk with
  | 0, _ => exact lp_in 110 (by decide +kernel) rfl
  | 1, _ => exact lp_in 112 (by decide +kernel) rfl
  | k + 2, hk => exact absurd hk (by omega)
theorem ok_T : lp_C 1 "LinePatcher$Text" ff_T 2 := ⟨rfl, in_T, ⟨tf_T, by decide +kernel⟩, by decide +kernel⟩
theorem in_C : ∀ w ∈ u_ws "LinePatcher$Comparison" ff_C 4, w ∈ lp_W := by
  intro w h
  obtain ⟨k, hk, rfl⟩ := List.mem_map.mp h
  have hk := List.mem_range.mp hk
  match k, hk with
  | 0, _ => exact lp_in 128 (by decide +kernel) rfl
  | 1, _ => exact lp_in 130 (by decide +kernel) rfl
  | 2, _ => exact lp_in 132 (by decide +kernel) rfl
  | 3, _ => exact lp_in 134 (by decide +kernel) rfl
  | k + 4, hk => exact absurd hk (by omega)
theorem ok_C : lp_C 2 "LinePatcher$Comparison" ff_C 4 := ⟨rfl, in_C, ⟨tf_C, by decide +kernel⟩, by decide +kernel⟩
theorem in_R : ∀ w ∈ u_ws "LinePatcher$Range" ff_R 4, w ∈ lp_W := by
  intro w h
  obtain ⟨k, hk, rfl⟩ := List.mem_map.mp h
  have hk := List.mem_range.mp hk
  match k, hk with
  | 0, _ => exact lp_in 167 (by decide +kernel) rfl
  | 1, _ => exact lp_in 169 (by decide +kernel) rfl
  | 2, _ => exact lp_in 171 (by decide +kernel) rfl
  | 3, _ => exact lp_in 173 (by decide +kernel) rfl
  | k + 4, hk => exact absurd hk (by omega)
theorem ok_R : lp_C 3 "LinePatcher$Range" ff_R 4 := ⟨rfl, in_R, ⟨tf_R, by decide +kernel⟩, by decide +kernel⟩
theorem in_S : ∀ w ∈ u_ws "LinePatcher$Shortest" ff_S 2, w ∈ lp_W := by
  intro w h
  obtain ⟨k, hk, rfl⟩ := List.mem_map.mp h
  have hk := List.mem_range.mp hk
  match k, hk with
  | 0, _ => exact lp_in 178 (by decide +kernel) rfl
  | 1, _ => exact lp_in 180 (by decide +kernel) rfl
  | k + 2, hk => exact absurd hk (by omega)
theorem ok_S : lp_C 4 "LinePatcher$Shortest" ff_S 2 := ⟨rfl, in_S, ⟨tf_S, by decide +kernel⟩, by decide +kernel⟩
theorem in_O : ∀ w ∈ u_ws "LinePatcher$StandingOut" ff_O 7, w ∈ lp_W := by
  intro w h
  obtain ⟨k, hk, rfl⟩ := List.mem_map.mp h
  have hk := List.mem_range.mp hk
  match k, hk with
  | 0, _ => exact lp_in 199 (by decide +kernel) rfl
  | 1, _ => exact lp_in 201 (by decide +kernel) rfl
  | 2, _ => exact lp_in 203 (by decide +kernel) rfl
  | 3, _ => exact lp_in 205 (by decide +kernel) rfl
  | 4, _ => exact lp_in 207 (by decide +kernel) rfl
  | 5, _ => exact lp_in 209 (by decide +kernel) rfl
  | 6, _ => exact lp_in 211 (by decide +kernel) rfl
  | k + 7, hk => exact absurd hk (by omega)
theorem ok_O : lp_C 5 "LinePatcher$StandingOut" ff_O 7 := ⟨rfl, in_O, ⟨tf_O, by decide +kernel⟩, by decide +kernel⟩
theorem in_A : ∀ w ∈ u_ws "LinePatcher$Paper" ff_A 2, w ∈ lp_W := by
  intro w h
  obtain ⟨k, hk, rfl⟩ := List.mem_map.mp h
  have hk := List.mem_range.mp hk
  match k, hk with
  | 0, _ => exact lp_in 227 (by decide +kernel) rfl
  | 1, _ => exact lp_in 229 (by decide +kernel) rfl
  | k + 2, hk => exact absurd hk (by omega)
theorem ok_A : lp_C 6 "LinePatcher$Paper" ff_A 2 := ⟨rfl, in_A, ⟨tf_A, by decide +kernel⟩, by decide +kernel⟩
theorem in_W : ∀ w ∈ u_ws "LinePatcher$PatchWriter" ff_W 4, w ∈ lp_W := by
  intro w h
  obtain ⟨k, hk, rfl⟩ := List.mem_map.mp h
  have hk := List.mem_range.mp hk
  match k, hk with
  | 0, _ => exact lp_in 244 (by decide +kernel) rfl
  | 1, _ => exact lp_in 246 (by decide +kernel) rfl
  | 2, _ => exact lp_in 248 (by decide +kernel) rfl
  | 3, _ => exact lp_in 250 (by decide +kernel) rfl
  | k + 4, hk => exact absurd hk (by omega)
theorem ok_W : lp_C 7 "LinePatcher$PatchWriter" ff_W 4 := ⟨rfl, in_W, ⟨tf_W, by decide +kernel⟩, by decide +kernel⟩
theorem in_D : ∀ w ∈ u_ws "LinePatcher$PatchReader" ff_D 9, w ∈ lp_W := by
  intro w h
  obtain ⟨k, hk, rfl⟩ := List.mem_map.mp h
  have hk := List.mem_range.mp hk
  match k, hk with
  | 0, _ => exact lp_in 273 (by decide +kernel) rfl
  | 1, _ => exact lp_in 275 (by decide +kernel) rfl
  | 2, _ => exact lp_in 277 (by decide +kernel) rfl
  | 3, _ => exact lp_in 279 (by decide +kernel) rfl
  | 4, _ => exact lp_in 281 (by decide +kernel) rfl
  | 5, _ => exact lp_in 283 (by decide +kernel) rfl
  | 6, _ => exact lp_in 285 (by decide +kernel) rfl
  | 7, _ => exact lp_in 287 (by decide +kernel) rfl
  | 8, _ => exact lp_in 289 (by decide +kernel) rfl
  | k + 9, hk => exact absurd hk (by omega)
theorem ok_D : lp_C 8 "LinePatcher$PatchReader" ff_D 9 := ⟨rfl, in_D, ⟨tf_D, by decide +kernel⟩, by decide +kernel⟩
theorem in_F : ∀ w ∈ u_ws "LinePatcher$PatchFitter" ff_F 2, w ∈ lp_W := by
  intro w h
  obtain ⟨k, hk, rfl⟩ := List.mem_map.mp h
  have hk := List.mem_range.mp hk
  match k, hk with
  | 0, _ => exact lp_in 302 (by decide +kernel) rfl
  | 1, _ => exact lp_in 304 (by decide +kernel) rfl
  | k + 2, hk => exact absurd hk (by omega)
theorem ok_F : lp_C 9 "LinePatcher$PatchFitter" ff_F 2 := ⟨rfl, in_F, ⟨tf_F, by decide +kernel⟩, by decide +kernel⟩
theorem in_Q : ∀ w ∈ u_ws "LinePatcher$Part" ff_Q 3, w ∈ lp_W := by
  intro w h
  obtain ⟨k, hk, rfl⟩ := List.mem_map.mp h
  have hk := List.mem_range.mp hk
  match k, hk with
  | 0, _ => exact lp_in 327 (by decide +kernel) rfl
  | 1, _ => exact lp_in 329 (by decide +kernel) rfl
  | 2, _ => exact lp_in 331 (by decide +kernel) rfl
  | k + 3, hk => exact absurd hk (by omega)
theorem ok_Q : lp_C 10 "LinePatcher$Part" ff_Q 3 := ⟨rfl, in_Q, ⟨tf_Q, by decide +kernel⟩, by decide +kernel⟩
theorem in_G : ∀ w ∈ u_ws "LinePatcher$Merger" ff_G 9, w ∈ lp_W := by
  intro w h
  obtain ⟨k, hk, rfl⟩ := List.mem_map.mp h
  have hk := List.mem_range.mp hk
  match k, hk with
  | 0, _ => exact lp_in 345 (by decide +kernel) rfl
  | 1, _ => exact lp_in 347 (by decide +kernel) rfl
  | 2, _ => exact lp_in 349 (by decide +kernel) rfl
  | 3, _ => exact lp_in 351 (by decide +kernel) rfl
  | 4, _ => exact lp_in 353 (by decide +kernel) rfl
  | 5, _ => exact lp_in 355 (by decide +kernel) rfl
  | 6, _ => exact lp_in 357 (by decide +kernel) rfl
  | 7, _ => exact lp_in 359 (by decide +kernel) rfl
  | 8, _ => exact lp_in 361 (by decide +kernel) rfl
  | k + 9, hk => exact absurd hk (by omega)
theorem ok_G : lp_C 11 "LinePatcher$Merger" ff_G 9 := ⟨rfl, in_G, ⟨tf_G, by decide +kernel⟩, by decide +kernel⟩
theorem in_M : ∀ w ∈ u_ws "LinePatcherModel" ff_M 38, w ∈ lp_W := by
  intro w h
  obtain ⟨k, hk, rfl⟩ := List.mem_map.mp h
  have hk := List.mem_range.mp hk
  match k, hk with
  | 0, _ => exact lp_in 768 (by decide +kernel) rfl
  | 1, _ => exact lp_in 770 (by decide +kernel) rfl
  | 2, _ => exact lp_in 772 (by decide +kernel) rfl
  | 3, _ => exact lp_in 774 (by decide +kernel) rfl
  | 4, _ => exact lp_in 776 (by decide +kernel) rfl
  | 5, _ => exact lp_in 778 (by decide +kernel) rfl
  | 6, _ => exact lp_in 780 (by decide +kernel) rfl
  | 7, _ => exact lp_in 782 (by decide +kernel) rfl
  | 8, _ => exact lp_in 784 (by decide +kernel) rfl
  | 9, _ => exact lp_in 786 (by decide +kernel) rfl
  | 10, _ => exact lp_in 788 (by decide +kernel) rfl
  | 11, _ => exact lp_in 790 (by decide +kernel) rfl
  | 12, _ => exact lp_in 792 (by decide +kernel) rfl
  | 13, _ => exact lp_in 794 (by decide +kernel) rfl
  | 14, _ => exact lp_in 796 (by decide +kernel) rfl
  | 15, _ => exact lp_in 798 (by decide +kernel) rfl
  | 16, _ => exact lp_in 800 (by decide +kernel) rfl
  | 17, _ => exact lp_in 802 (by decide +kernel) rfl
  | 18, _ => exact lp_in 804 (by decide +kernel) rfl
  | 19, _ => exact lp_in 806 (by decide +kernel) rfl
  | 20, _ => exact lp_in 808 (by decide +kernel) rfl
  | 21, _ => exact lp_in 810 (by decide +kernel) rfl
  | 22, _ => exact lp_in 812 (by decide +kernel) rfl
  | 23, _ => exact lp_in 814 (by decide +kernel) rfl
  | 24, _ => exact lp_in 816 (by decide +kernel) rfl
  | 25, _ => exact lp_in 818 (by decide +kernel) rfl
  | 26, _ => exact lp_in 820 (by decide +kernel) rfl
  | 27, _ => exact lp_in 822 (by decide +kernel) rfl
  | 28, _ => exact lp_in 824 (by decide +kernel) rfl
  | 29, _ => exact lp_in 826 (by decide +kernel) rfl
  | 30, _ => exact lp_in 828 (by decide +kernel) rfl
  | 31, _ => exact lp_in 830 (by decide +kernel) rfl
  | 32, _ => exact lp_in 832 (by decide +kernel) rfl
  | 33, _ => exact lp_in 834 (by decide +kernel) rfl
  | 34, _ => exact lp_in 836 (by decide +kernel) rfl
  | 35, _ => exact lp_in 838 (by decide +kernel) rfl
  | 36, _ => exact lp_in 840 (by decide +kernel) rfl
  | 37, _ => exact lp_in 842 (by decide +kernel) rfl
  | k + 38, hk => exact absurd hk (by omega)
theorem ok_M : lp_C 12 "LinePatcherModel" ff_M 38 := ⟨rfl, in_M, ⟨tf_M, by decide +kernel⟩, by decide +kernel⟩
abbrev um_P_init : lp_M := (⟨"LinePatcher", "<init>", "()V"⟩, prog_1_method_1_code, 2, none)
abbrev um_P_add : lp_M := (⟨"LinePatcher", "add", "(IJI)I"⟩, prog_1_method_2_code, 6, some .int)
abbrev um_P_clear : lp_M := (⟨"LinePatcher", "clear", "(I)I"⟩, prog_1_method_3_code, 3, some .int)
abbrev um_P_size : lp_M := (⟨"LinePatcher", "size", "(I)I"⟩, prog_1_method_4_code, 2, some .int)
abbrev um_P_line : lp_M := (⟨"LinePatcher", "line", "(II)I"⟩, prog_1_method_5_code, 3, some .int)
abbrev um_P_compare : lp_M := (⟨"LinePatcher", "compare", "(III)I"⟩, prog_1_method_6_code, 4, some .int)
abbrev um_P_match : lp_M := (⟨"LinePatcher", "match", "(I)I"⟩, prog_1_method_7_code, 2, some .int)
abbrev um_P_write : lp_M := (⟨"LinePatcher", "write", "(I)I"⟩, prog_1_method_8_code, 2, some .int)
abbrev um_P_type : lp_M := (⟨"LinePatcher", "type", "(JI)I"⟩, prog_1_method_9_code, 5, some .int)
abbrev um_P_wipe : lp_M := (⟨"LinePatcher", "wipe", "()I"⟩, prog_1_method_10_code, 2, some .int)
abbrev um_P_character : lp_M := (⟨"LinePatcher", "character", "(I)I"⟩, prog_1_method_11_code, 2, some .int)
abbrev um_P_read : lp_M := (⟨"LinePatcher", "read", "()I"⟩, prog_1_method_12_code, 1, some .int)
abbrev um_P_apply : lp_M := (⟨"LinePatcher", "apply", "(I)I"⟩, prog_1_method_13_code, 2, some .int)
abbrev um_P_merge : lp_M := (⟨"LinePatcher", "merge", "()I"⟩, prog_1_method_14_code, 2, some .int)
abbrev um_P_isText : lp_M := (⟨"LinePatcher", "isText", "(I)Z"⟩, prog_1_method_15_code, 1, some .boolean)
abbrev um_P_areLetters : lp_M := (⟨"LinePatcher", "areLetters", "(JI)Z"⟩, prog_1_method_16_code, 4, some .boolean)
abbrev um_P_isLetter : lp_M := (⟨"LinePatcher", "isLetter", "(I)Z"⟩, prog_1_method_17_code, 1, some .boolean)
abbrev um_P_byteOf : lp_M := (⟨"LinePatcher", "byteOf", "(JI)I"⟩, prog_1_method_18_code, 3, some .int)
abbrev um_T_init : lp_M := (⟨"LinePatcher$Text", "<init>", "()V"⟩, prog_12_method_1_code, 1, none)
abbrev um_T_append : lp_M := (⟨"LinePatcher$Text", "append", "(I)V"⟩, prog_12_method_2_code, 2, none)
abbrev um_T_appendPart : lp_M := (⟨"LinePatcher$Text", "appendPart", "(LLinePatcher$Text;II)V"⟩, prog_12_method_3_code, 5, none)
abbrev um_T_become : lp_M := (⟨"LinePatcher$Text", "become", "(LLinePatcher$Text;)V"⟩, prog_12_method_4_code, 2, none)
abbrev um_T_hasOnlyLetters : lp_M := (⟨"LinePatcher$Text", "hasOnlyLetters", "()Z"⟩, prog_12_method_5_code, 2, some .boolean)
abbrev um_T_onlyPlace : lp_M := (⟨"LinePatcher$Text", "onlyPlace", "(III)I"⟩, prog_12_method_6_code, 6, some .int)
abbrev um_C_init : lp_M := (⟨"LinePatcher$Comparison", "<init>", "()V"⟩, prog_2_method_1_code, 1, none)
abbrev um_C_begin : lp_M := (⟨"LinePatcher$Comparison", "begin", "(LLinePatcher$Text;LLinePatcher$Text;)V"⟩, prog_2_method_2_code, 4, none)
abbrev um_C_pair : lp_M := (⟨"LinePatcher$Comparison", "pair", "(II)V"⟩, prog_2_method_3_code, 3, none)
abbrev um_C_areEqual : lp_M := (⟨"LinePatcher$Comparison", "areEqual", "(II)Z"⟩, prog_2_method_4_code, 3, some .boolean)
abbrev um_C_partnerOf : lp_M := (⟨"LinePatcher$Comparison", "partnerOf", "(I)I"⟩, prog_2_method_5_code, 2, some .int)
abbrev um_C_linesChanged : lp_M := (⟨"LinePatcher$Comparison", "linesChanged", "()I"⟩, prog_2_method_6_code, 1, some .int)
abbrev um_R_init : lp_M := (⟨"LinePatcher$Range", "<init>", "()V"⟩, prog_9_method_1_code, 1, none)
abbrev um_R_span : lp_M := (⟨"LinePatcher$Range", "span", "(IIII)V"⟩, prog_9_method_2_code, 5, none)
abbrev um_S_init : lp_M := (⟨"LinePatcher$Shortest", "<init>", "()V"⟩, prog_10_method_1_code, 1, none)
abbrev um_S_matchTexts : lp_M := (⟨"LinePatcher$Shortest", "matchTexts", "(LLinePatcher$Comparison;)V"⟩, prog_10_method_2_code, 2, none)
abbrev um_S_matchRange : lp_M := (⟨"LinePatcher$Shortest", "matchRange", "(LLinePatcher$Comparison;LLinePatcher$Range;)V"⟩, prog_10_method_3_code, 5, none)
abbrev um_S_countMost : lp_M := (⟨"LinePatcher$Shortest", "countMost", "(LLinePatcher$Comparison;LLinePatcher$Range;)V"⟩, prog_10_method_4_code, 5, none)
abbrev um_O_init : lp_M := (⟨"LinePatcher$StandingOut", "<init>", "(LLinePatcher$Shortest;)V"⟩, prog_11_method_1_code, 3, none)
abbrev um_O_matchTexts : lp_M := (⟨"LinePatcher$StandingOut", "matchTexts", "(LLinePatcher$Comparison;)V"⟩, prog_11_method_2_code, 3, none)
abbrev um_O_keepForLater : lp_M := (⟨"LinePatcher$StandingOut", "keepForLater", "(IIII)V"⟩, prog_11_method_3_code, 5, none)
abbrev um_O_matchRange : lp_M := (⟨"LinePatcher$StandingOut", "matchRange", "(LLinePatcher$Comparison;LLinePatcher$Range;)V"⟩, prog_11_method_4_code, 3, none)
abbrev um_O_matchBeginning : lp_M := (⟨"LinePatcher$StandingOut", "matchBeginning", "(LLinePatcher$Comparison;LLinePatcher$Range;)V"⟩, prog_11_method_5_code, 3, none)
abbrev um_O_matchEnd : lp_M := (⟨"LinePatcher$StandingOut", "matchEnd", "(LLinePatcher$Comparison;LLinePatcher$Range;)V"⟩, prog_11_method_6_code, 3, none)
abbrev um_O_findPairs : lp_M := (⟨"LinePatcher$StandingOut", "findPairs", "(LLinePatcher$Comparison;LLinePatcher$Range;)V"⟩, prog_11_method_7_code, 6, none)
abbrev um_O_rankPairs : lp_M := (⟨"LinePatcher$StandingOut", "rankPairs", "()I"⟩, prog_11_method_8_code, 5, some .int)
abbrev um_O_matchAnchors : lp_M := (⟨"LinePatcher$StandingOut", "matchAnchors", "(LLinePatcher$Comparison;LLinePatcher$Range;I)V"⟩, prog_11_method_9_code, 8, none)
abbrev um_A_init : lp_M := (⟨"LinePatcher$Paper", "<init>", "()V"⟩, prog_4_method_1_code, 1, none)
abbrev um_A_append : lp_M := (⟨"LinePatcher$Paper", "append", "(I)V"⟩, prog_4_method_2_code, 2, none)
abbrev um_A_appendNumber : lp_M := (⟨"LinePatcher$Paper", "appendNumber", "(I)V"⟩, prog_4_method_3_code, 2, none)
abbrev um_A_appendLine : lp_M := (⟨"LinePatcher$Paper", "appendLine", "(II)V"⟩, prog_4_method_4_code, 3, none)
abbrev um_W_init : lp_M := (⟨"LinePatcher$PatchWriter", "<init>", "(LLinePatcher$Comparison;LLinePatcher$Paper;)V"⟩, prog_8_method_1_code, 4, none)
abbrev um_W_writePatch : lp_M := (⟨"LinePatcher$PatchWriter", "writePatch", "(I)I"⟩, prog_8_method_2_code, 6, some .int)
abbrev um_W_findChanges : lp_M := (⟨"LinePatcher$PatchWriter", "findChanges", "()V"⟩, prog_8_method_3_code, 5, none)
abbrev um_W_keepChange : lp_M := (⟨"LinePatcher$PatchWriter", "keepChange", "(IIII)V"⟩, prog_8_method_4_code, 5, none)
abbrev um_W_matchedBefore : lp_M := (⟨"LinePatcher$PatchWriter", "matchedBefore", "(I)I"⟩, prog_8_method_5_code, 2, some .int)
abbrev um_W_matchedBehind : lp_M := (⟨"LinePatcher$PatchWriter", "matchedBehind", "(I)I"⟩, prog_8_method_6_code, 4, some .int)
abbrev um_W_writeHunk : lp_M := (⟨"LinePatcher$PatchWriter", "writeHunk", "(III)V"⟩, prog_8_method_7_code, 11, none)
abbrev um_W_writeHead : lp_M := (⟨"LinePatcher$PatchWriter", "writeHead", "(IIII)V"⟩, prog_8_method_8_code, 5, none)
abbrev um_W_writeLines : lp_M := (⟨"LinePatcher$PatchWriter", "writeLines", "(ILLinePatcher$Text;II)V"⟩, prog_8_method_9_code, 6, none)
abbrev um_D_init : lp_M := (⟨"LinePatcher$PatchReader", "<init>", "(LLinePatcher$Paper;)V"⟩, prog_7_method_1_code, 2, none)
abbrev um_D_placeOfFailure : lp_M := (⟨"LinePatcher$PatchReader", "placeOfFailure", "()I"⟩, prog_7_method_2_code, 2, some .int)
abbrev um_D_goToBeginning : lp_M := (⟨"LinePatcher$PatchReader", "goToBeginning", "()V"⟩, prog_7_method_3_code, 1, none)
abbrev um_D_hasMore : lp_M := (⟨"LinePatcher$PatchReader", "hasMore", "()Z"⟩, prog_7_method_4_code, 1, some .boolean)
abbrev um_D_takeHunk : lp_M := (⟨"LinePatcher$PatchReader", "takeHunk", "()Z"⟩, prog_7_method_5_code, 1, some .boolean)
abbrev um_D_takeHead : lp_M := (⟨"LinePatcher$PatchReader", "takeHead", "()Z"⟩, prog_7_method_6_code, 1, some .boolean)
abbrev um_D_takeLines : lp_M := (⟨"LinePatcher$PatchReader", "takeLines", "()Z"⟩, prog_7_method_7_code, 2, some .boolean)
abbrev um_D_hasLinesDue : lp_M := (⟨"LinePatcher$PatchReader", "hasLinesDue", "()Z"⟩, prog_7_method_8_code, 1, some .boolean)
abbrev um_D_takeLine : lp_M := (⟨"LinePatcher$PatchReader", "takeLine", "()Z"⟩, prog_7_method_9_code, 6, some .boolean)
abbrev um_D_takeSign : lp_M := (⟨"LinePatcher$PatchReader", "takeSign", "(I)Z"⟩, prog_7_method_10_code, 2, some .boolean)
abbrev um_D_takeNumber : lp_M := (⟨"LinePatcher$PatchReader", "takeNumber", "()I"⟩, prog_7_method_11_code, 2, some .int)
abbrev um_D_here : lp_M := (⟨"LinePatcher$PatchReader", "here", "()I"⟩, prog_7_method_12_code, 1, some .int)
abbrev um_D_isDigit : lp_M := (⟨"LinePatcher$PatchReader", "isDigit", "(I)Z"⟩, prog_7_method_13_code, 1, some .boolean)
abbrev um_F_init : lp_M := (⟨"LinePatcher$PatchFitter", "<init>", "(LLinePatcher$PatchReader;)V"⟩, prog_6_method_1_code, 2, none)
abbrev um_F_patch : lp_M := (⟨"LinePatcher$PatchFitter", "patch", "(LLinePatcher$Text;)I"⟩, prog_6_method_2_code, 6, some .int)
abbrev um_F_appendNewLines : lp_M := (⟨"LinePatcher$PatchFitter", "appendNewLines", "()V"⟩, prog_6_method_3_code, 2, none)
abbrev um_F_nearestPlace : lp_M := (⟨"LinePatcher$PatchFitter", "nearestPlace", "(LLinePatcher$Text;I)I"⟩, prog_6_method_4_code, 6, some .int)
abbrev um_F_distance : lp_M := (⟨"LinePatcher$PatchFitter", "distance", "(I)I"⟩, prog_6_method_5_code, 2, some .int)
abbrev um_F_fitsAt : lp_M := (⟨"LinePatcher$PatchFitter", "fitsAt", "(LLinePatcher$Text;I)Z"⟩, prog_6_method_6_code, 4, some .boolean)
abbrev um_Q_init : lp_M := (⟨"LinePatcher$Part", "<init>", "(LLinePatcher$Text;)V"⟩, prog_5_method_1_code, 2, none)
abbrev um_Q_skipFirmLine : lp_M := (⟨"LinePatcher$Part", "skipFirmLine", "()V"⟩, prog_5_method_2_code, 1, none)
abbrev um_Q_isEqualTo : lp_M := (⟨"LinePatcher$Part", "isEqualTo", "(LLinePatcher$Part;)Z"⟩, prog_5_method_3_code, 3, some .boolean)
abbrev um_G_init : lp_M := (⟨"LinePatcher$Merger", "<init>", "(LLinePatcher$Shortest;)V"⟩, prog_3_method_1_code, 2, none)
abbrev um_G_bringTogether : lp_M := (⟨"LinePatcher$Merger", "bringTogether", "(LLinePatcher$Text;LLinePatcher$Text;LLinePatcher$Text;)I"⟩, prog_3_method_2_code, 5, some .int)
abbrev um_G_handOver : lp_M := (⟨"LinePatcher$Merger", "handOver", "(LLinePatcher$Text;)Z"⟩, prog_3_method_3_code, 2, some .boolean)
abbrev um_G_settleParts : lp_M := (⟨"LinePatcher$Merger", "settleParts", "(III)V"⟩, prog_3_method_4_code, 4, none)
abbrev um_G_putConflict : lp_M := (⟨"LinePatcher$Merger", "putConflict", "()V"⟩, prog_3_method_5_code, 1, none)
abbrev um_G_putPart : lp_M := (⟨"LinePatcher$Merger", "putPart", "(LLinePatcher$Part;)V"⟩, prog_3_method_6_code, 3, none)
abbrev um_G_put : lp_M := (⟨"LinePatcher$Merger", "put", "(I)V"⟩, prog_3_method_7_code, 2, none)
abbrev um_M_init : lp_M := (⟨"LinePatcherModel", "<init>", "()V"⟩, prog_14_method_1_code, 1, none)
abbrev um_M_within : lp_M := (⟨"LinePatcherModel", "within", "(III)Z"⟩, prog_14_method_2_code, 3, some .boolean)
abbrev um_M_isLetter : lp_M := (⟨"LinePatcherModel", "isLetter", "(I)Z"⟩, prog_14_method_3_code, 1, some .boolean)
abbrev um_M_add : lp_M := (⟨"LinePatcherModel", "add", "(IJI)I"⟩, prog_14_method_4_code, 7, some .int)
abbrev um_M_clear : lp_M := (⟨"LinePatcherModel", "clear", "(I)I"⟩, prog_14_method_5_code, 3, some .int)
abbrev um_M_size : lp_M := (⟨"LinePatcherModel", "size", "(I)I"⟩, prog_14_method_6_code, 2, some .int)
abbrev um_M_line : lp_M := (⟨"LinePatcherModel", "line", "(II)I"⟩, prog_14_method_7_code, 3, some .int)
abbrev um_M_allLetters : lp_M := (⟨"LinePatcherModel", "allLetters", "(I)Z"⟩, prog_14_method_8_code, 4, some .boolean)
abbrev um_M_take : lp_M := (⟨"LinePatcherModel", "take", "(II)V"⟩, prog_14_method_9_code, 4, none)
abbrev um_M_compareShort : lp_M := (⟨"LinePatcherModel", "compareShort", "(IIII)V"⟩, prog_14_method_10_code, 11, none)
abbrev um_M_await : lp_M := (⟨"LinePatcherModel", "await", "(IIII)V"⟩, prog_14_method_11_code, 5, none)
abbrev um_M_partner : lp_M := (⟨"LinePatcherModel", "partner", "(IIIII)I"⟩, prog_14_method_12_code, 10, some .int)
abbrev um_M_findRanks : lp_M := (⟨"LinePatcherModel", "findRanks", "(IIII)I"⟩, prog_14_method_13_code, 9, some .int)
abbrev um_M_standOut : lp_M := (⟨"LinePatcherModel", "standOut", "(IIII)V"⟩, prog_14_method_14_code, 13, none)
abbrev um_M_compareAll : lp_M := (⟨"LinePatcherModel", "compareAll", "(I)V"⟩, prog_14_method_15_code, 2, none)
abbrev um_M_compare : lp_M := (⟨"LinePatcherModel", "compare", "(III)I"⟩, prog_14_method_16_code, 6, some .int)
abbrev um_M_match : lp_M := (⟨"LinePatcherModel", "match", "(I)I"⟩, prog_14_method_17_code, 2, some .int)
abbrev um_M_op : lp_M := (⟨"LinePatcherModel", "op", "(II)V"⟩, prog_14_method_18_code, 3, none)
abbrev um_M_row : lp_M := (⟨"LinePatcherModel", "row", "()V"⟩, prog_14_method_19_code, 4, none)
abbrev um_M_put : lp_M := (⟨"LinePatcherModel", "put", "(I)V"⟩, prog_14_method_20_code, 2, none)
abbrev um_M_putNumber : lp_M := (⟨"LinePatcherModel", "putNumber", "(I)V"⟩, prog_14_method_21_code, 2, none)
abbrev um_M_others : lp_M := (⟨"LinePatcherModel", "others", "(III)I"⟩, prog_14_method_22_code, 6, some .int)
abbrev um_M_putHunk : lp_M := (⟨"LinePatcherModel", "putHunk", "(II)V"⟩, prog_14_method_23_code, 4, none)
abbrev um_M_lastOf : lp_M := (⟨"LinePatcherModel", "lastOf", "(II)I"⟩, prog_14_method_24_code, 5, some .int)
abbrev um_M_write : lp_M := (⟨"LinePatcherModel", "write", "(I)I"⟩, prog_14_method_25_code, 7, some .int)
abbrev um_M_type : lp_M := (⟨"LinePatcherModel", "type", "(JI)I"⟩, prog_14_method_26_code, 5, some .int)
abbrev um_M_wipe : lp_M := (⟨"LinePatcherModel", "wipe", "()I"⟩, prog_14_method_27_code, 2, some .int)
abbrev um_M_character : lp_M := (⟨"LinePatcherModel", "character", "(I)I"⟩, prog_14_method_28_code, 2, some .int)
abbrev um_M_look : lp_M := (⟨"LinePatcherModel", "look", "()I"⟩, prog_14_method_29_code, 1, some .int)
abbrev um_M_want : lp_M := (⟨"LinePatcherModel", "want", "(I)V"⟩, prog_14_method_30_code, 2, none)
abbrev um_M_number : lp_M := (⟨"LinePatcherModel", "number", "()I"⟩, prog_14_method_31_code, 2, some .int)
abbrev um_M_readHunk : lp_M := (⟨"LinePatcherModel", "readHunk", "()V"⟩, prog_14_method_32_code, 6, none)
abbrev um_M_read : lp_M := (⟨"LinePatcherModel", "read", "()I"⟩, prog_14_method_33_code, 1, some .int)
abbrev um_M_stands : lp_M := (⟨"LinePatcherModel", "stands", "(III)Z"⟩, prog_14_method_34_code, 8, some .boolean)
abbrev um_M_fit : lp_M := (⟨"LinePatcherModel", "fit", "(III)I"⟩, prog_14_method_35_code, 8, some .int)
abbrev um_M_emit : lp_M := (⟨"LinePatcherModel", "emit", "(I)V"⟩, prog_14_method_36_code, 2, none)
abbrev um_M_apply : lp_M := (⟨"LinePatcherModel", "apply", "(I)I"⟩, prog_14_method_37_code, 8, some .int)
abbrev um_M_keep : lp_M := (⟨"LinePatcherModel", "keep", "(I)V"⟩, prog_14_method_38_code, 3, none)
abbrev um_M_sameParts : lp_M := (⟨"LinePatcherModel", "sameParts", "(IIIIII)Z"⟩, prog_14_method_39_code, 9, some .boolean)
abbrev um_M_tryEmit : lp_M := (⟨"LinePatcherModel", "tryEmit", "(I)Z"⟩, prog_14_method_40_code, 2, some .boolean)
abbrev um_M_emitPart : lp_M := (⟨"LinePatcherModel", "emitPart", "(III)Z"⟩, prog_14_method_41_code, 6, some .boolean)
abbrev um_M_mergeParts : lp_M := (⟨"LinePatcherModel", "mergeParts", "(IIIIII)I"⟩, prog_14_method_42_code, 8, some .int)
abbrev um_M_merge : lp_M := (⟨"LinePatcherModel", "merge", "()I"⟩, prog_14_method_43_code, 8, some .int)
theorem k0_P_init : lp_c0 um_P_init 0 := ⟨lp_in 58 (by decide +kernel) rfl, lp_in 76 (by decide +kernel) rfl, by decide +kernel, by decide +kernel, by decide +kernel⟩
theorem k0_P_add : lp_c0 um_P_add 3 := ⟨lp_in 58 (by decide +kernel) rfl, lp_in 399 (by decide +kernel) rfl, by decide +kernel, by decide +kernel, by decide +kernel⟩
theorem k0_P_clear : lp_c0 um_P_clear 1 := ⟨lp_in 58 (by decide +kernel) rfl, lp_in 420 (by decide +kernel) rfl, by decide +kernel, by decide +kernel, by decide +kernel⟩
theorem k0_P_size : lp_c0 um_P_size 1 := ⟨lp_in 58 (by decide +kernel) rfl, lp_in 424 (by decide +kernel) rfl, by decide +kernel, by decide +kernel, by decide +kernel⟩
theorem k0_P_line : lp_c0 um_P_line 2 := ⟨lp_in 58 (by decide +kernel) rfl, lp_in 428 (by decide +kernel) rfl, by decide +kernel, by decide +kernel, by decide +kernel⟩
theorem k0_P_compare : lp_c0 um_P_compare 3 := ⟨lp_in 58 (by decide +kernel) rfl, lp_in 432 (by decide +kernel) rfl, by decide +kernel, by decide +kernel, by decide +kernel⟩
theorem k0_P_match : lp_c0 um_P_match 1 := ⟨lp_in 58 (by decide +kernel) rfl, lp_in 526 (by decide +kernel) rfl, by decide +kernel, by decide +kernel, by decide +kernel⟩
theorem k0_P_write : lp_c0 um_P_write 1 := ⟨lp_in 58 (by decide +kernel) rfl, lp_in 534 (by decide +kernel) rfl, by decide +kernel, by decide +kernel, by decide +kernel⟩
theorem k0_P_type : lp_c0 um_P_type 2 := ⟨lp_in 58 (by decide +kernel) rfl, lp_in 588 (by decide +kernel) rfl, by decide +kernel, by decide +kernel, by decide +kernel⟩
theorem k0_P_wipe : lp_c0 um_P_wipe 0 := ⟨lp_in 58 (by decide +kernel) rfl, lp_in 593 (by decide +kernel) rfl, by decide +kernel, by decide +kernel, by decide +kernel⟩
theorem k0_P_character : lp_c0 um_P_character 1 := ⟨lp_in 58 (by decide +kernel) rfl, lp_in 597 (by decide +kernel) rfl, by decide +kernel, by decide +kernel, by decide +kernel⟩
theorem k0_P_read : lp_c0 um_P_read 0 := ⟨lp_in 58 (by decide +kernel) rfl, lp_in 601 (by decide +kernel) rfl, by decide +kernel, by decide +kernel, by decide +kernel⟩
theorem k0_P_apply : lp_c0 um_P_apply 1 := ⟨lp_in 58 (by decide +kernel) rfl, lp_in 653 (by decide +kernel) rfl, by decide +kernel, by decide +kernel, by decide +kernel⟩
theorem k0_P_merge : lp_c0 um_P_merge 0 := ⟨lp_in 58 (by decide +kernel) rfl, lp_in 686 (by decide +kernel) rfl, by decide +kernel, by decide +kernel, by decide +kernel⟩
theorem k0_P_isText : lp_c0 um_P_isText 1 := ⟨lp_in 58 (by decide +kernel) rfl, lp_in 402 (by decide +kernel) rfl, by decide +kernel, by decide +kernel, by decide +kernel⟩
theorem k0_P_areLetters : lp_c0 um_P_areLetters 2 := ⟨lp_in 58 (by decide +kernel) rfl, lp_in 405 (by decide +kernel) rfl, by decide +kernel, by decide +kernel, by decide +kernel⟩
theorem k0_P_isLetter : lp_c0 um_P_isLetter 1 := ⟨lp_in 58 (by decide +kernel) rfl, lp_in 412 (by decide +kernel) rfl, by decide +kernel, by decide +kernel, by decide +kernel⟩
theorem k0_P_byteOf : lp_c0 um_P_byteOf 2 := ⟨lp_in 58 (by decide +kernel) rfl, lp_in 408 (by decide +kernel) rfl, by decide +kernel, by decide +kernel, by decide +kernel⟩
theorem k0_T_init : lp_c0 um_T_init 0 := ⟨lp_in 60 (by decide +kernel) rfl, lp_in 92 (by decide +kernel) rfl, by decide +kernel, by decide +kernel, by decide +kernel⟩
theorem k0_T_append : lp_c0 um_T_append 1 := ⟨lp_in 60 (by decide +kernel) rfl, lp_in 416 (by decide +kernel) rfl, by decide +kernel, by decide +kernel, by decide +kernel⟩
theorem k0_T_appendPart : lp_c0 um_T_appendPart 3 := ⟨lp_in 60 (by decide +kernel) rfl, lp_in 449 (by decide +kernel) rfl, by decide +kernel, by decide +kernel, by decide +kernel⟩
theorem k0_T_become : lp_c0 um_T_become 1 := ⟨lp_in 60 (by decide +kernel) rfl, lp_in 445 (by decide +kernel) rfl, by decide +kernel, by decide +kernel, by decide +kernel⟩
theorem k0_T_hasOnlyLetters : lp_c0 um_T_hasOnlyLetters 0 := ⟨lp_in 60 (by decide +kernel) rfl, lp_in 436 (by decide +kernel) rfl, by decide +kernel, by decide +kernel, by decide +kernel⟩
theorem k0_T_onlyPlace : lp_c0 um_T_onlyPlace 3 := ⟨lp_in 60 (by decide +kernel) rfl, lp_in 508 (by decide +kernel) rfl, by decide +kernel, by decide +kernel, by decide +kernel⟩
theorem k0_C_init : lp_c0 um_C_init 0 := ⟨lp_in 59 (by decide +kernel) rfl, lp_in 86 (by decide +kernel) rfl, by decide +kernel, by decide +kernel, by decide +kernel⟩
theorem k0_C_begin : lp_c0 um_C_begin 2 := ⟨lp_in 59 (by decide +kernel) rfl, lp_in 441 (by decide +kernel) rfl, by decide +kernel, by decide +kernel, by decide +kernel⟩
theorem k0_C_pair : lp_c0 um_C_pair 2 := ⟨lp_in 59 (by decide +kernel) rfl, lp_in 477 (by decide +kernel) rfl, by decide +kernel, by decide +kernel, by decide +kernel⟩
theorem k0_C_areEqual : lp_c0 um_C_areEqual 2 := ⟨lp_in 59 (by decide +kernel) rfl, lp_in 470 (by decide +kernel) rfl, by decide +kernel, by decide +kernel, by decide +kernel⟩
theorem k0_C_partnerOf : lp_c0 um_C_partnerOf 1 := ⟨lp_in 59 (by decide +kernel) rfl, lp_in 530 (by decide +kernel) rfl, by decide +kernel, by decide +kernel, by decide +kernel⟩
theorem k0_C_linesChanged : lp_c0 um_C_linesChanged 0 := ⟨lp_in 59 (by decide +kernel) rfl, lp_in 522 (by decide +kernel) rfl, by decide +kernel, by decide +kernel, by decide +kernel⟩
theorem k0_R_init : lp_c0 um_R_init 0 := ⟨lp_in 62 (by decide +kernel) rfl, lp_in 149 (by decide +kernel) rfl, by decide +kernel, by decide +kernel, by decide +kernel⟩
theorem k0_R_span : lp_c0 um_R_span 4 := ⟨lp_in 62 (by decide +kernel) rfl, lp_in 458 (by decide +kernel) rfl, by decide +kernel, by decide +kernel, by decide +kernel⟩
theorem k0_S_init : lp_c0 um_S_init 0 := ⟨lp_in 61 (by decide +kernel) rfl, lp_in 141 (by decide +kernel) rfl, by decide +kernel, by decide +kernel, by decide +kernel⟩
theorem k0_S_matchTexts : lp_c0 um_S_matchTexts 1 := ⟨lp_in 61 (by decide +kernel) rfl, lp_in 454 (by decide +kernel) rfl, by decide +kernel, by decide +kernel, by decide +kernel⟩
theorem k0_S_matchRange : lp_c0 um_S_matchRange 2 := ⟨lp_in 61 (by decide +kernel) rfl, lp_in 462 (by decide +kernel) rfl, by decide +kernel, by decide +kernel, by decide +kernel⟩
theorem k0_S_countMost : lp_c0 um_S_countMost 2 := ⟨lp_in 61 (by decide +kernel) rfl, lp_in 466 (by decide +kernel) rfl, by decide +kernel, by decide +kernel, by decide +kernel⟩
theorem k0_O_init : lp_c0 um_O_init 1 := ⟨lp_in 63 (by decide +kernel) rfl, lp_in 187 (by decide +kernel) rfl, by decide +kernel, by decide +kernel, by decide +kernel⟩
theorem k0_O_matchTexts : lp_c0 um_O_matchTexts 1 := ⟨lp_in 63 (by decide +kernel) rfl, lp_in 481 (by decide +kernel) rfl, by decide +kernel, by decide +kernel, by decide +kernel⟩
theorem k0_O_keepForLater : lp_c0 um_O_keepForLater 4 := ⟨lp_in 63 (by decide +kernel) rfl, lp_in 485 (by decide +kernel) rfl, by decide +kernel, by decide +kernel, by decide +kernel⟩
theorem k0_O_matchRange : lp_c0 um_O_matchRange 2 := ⟨lp_in 63 (by decide +kernel) rfl, lp_in 490 (by decide +kernel) rfl, by decide +kernel, by decide +kernel, by decide +kernel⟩
theorem k0_O_matchBeginning : lp_c0 um_O_matchBeginning 2 := ⟨lp_in 63 (by decide +kernel) rfl, lp_in 494 (by decide +kernel) rfl, by decide +kernel, by decide +kernel, by decide +kernel⟩
theorem k0_O_matchEnd : lp_c0 um_O_matchEnd 2 := ⟨lp_in 63 (by decide +kernel) rfl, lp_in 500 (by decide +kernel) rfl, by decide +kernel, by decide +kernel, by decide +kernel⟩
theorem k0_O_findPairs : lp_c0 um_O_findPairs 2 := ⟨lp_in 63 (by decide +kernel) rfl, lp_in 504 (by decide +kernel) rfl, by decide +kernel, by decide +kernel, by decide +kernel⟩
theorem k0_O_rankPairs : lp_c0 um_O_rankPairs 0 := ⟨lp_in 63 (by decide +kernel) rfl, lp_in 513 (by decide +kernel) rfl, by decide +kernel, by decide +kernel, by decide +kernel⟩
theorem k0_O_matchAnchors : lp_c0 um_O_matchAnchors 3 := ⟨lp_in 63 (by decide +kernel) rfl, lp_in 518 (by decide +kernel) rfl, by decide +kernel, by decide +kernel, by decide +kernel⟩
theorem k0_A_init : lp_c0 um_A_init 0 := ⟨lp_in 64 (by decide +kernel) rfl, lp_in 218 (by decide +kernel) rfl, by decide +kernel, by decide +kernel, by decide +kernel⟩
theorem k0_A_append : lp_c0 um_A_append 1 := ⟨lp_in 64 (by decide +kernel) rfl, lp_in 571 (by decide +kernel) rfl, by decide +kernel, by decide +kernel, by decide +kernel⟩
theorem k0_A_appendNumber : lp_c0 um_A_appendNumber 1 := ⟨lp_in 64 (by decide +kernel) rfl, lp_in 575 (by decide +kernel) rfl, by decide +kernel, by decide +kernel, by decide +kernel⟩
theorem k0_A_appendLine : lp_c0 um_A_appendLine 2 := ⟨lp_in 64 (by decide +kernel) rfl, lp_in 584 (by decide +kernel) rfl, by decide +kernel, by decide +kernel, by decide +kernel⟩
theorem k0_W_init : lp_c0 um_W_init 2 := ⟨lp_in 65 (by decide +kernel) rfl, lp_in 236 (by decide +kernel) rfl, by decide +kernel, by decide +kernel, by decide +kernel⟩
theorem k0_W_writePatch : lp_c0 um_W_writePatch 1 := ⟨lp_in 65 (by decide +kernel) rfl, lp_in 538 (by decide +kernel) rfl, by decide +kernel, by decide +kernel, by decide +kernel⟩
theorem k0_W_findChanges : lp_c0 um_W_findChanges 0 := ⟨lp_in 65 (by decide +kernel) rfl, lp_in 542 (by decide +kernel) rfl, by decide +kernel, by decide +kernel, by decide +kernel⟩
theorem k0_W_keepChange : lp_c0 um_W_keepChange 4 := ⟨lp_in 65 (by decide +kernel) rfl, lp_in 547 (by decide +kernel) rfl, by decide +kernel, by decide +kernel, by decide +kernel⟩
theorem k0_W_matchedBefore : lp_c0 um_W_matchedBefore 1 := ⟨lp_in 65 (by decide +kernel) rfl, lp_in 560 (by decide +kernel) rfl, by decide +kernel, by decide +kernel, by decide +kernel⟩
theorem k0_W_matchedBehind : lp_c0 um_W_matchedBehind 1 := ⟨lp_in 65 (by decide +kernel) rfl, lp_in 552 (by decide +kernel) rfl, by decide +kernel, by decide +kernel, by decide +kernel⟩
theorem k0_W_writeHunk : lp_c0 um_W_writeHunk 3 := ⟨lp_in 65 (by decide +kernel) rfl, lp_in 556 (by decide +kernel) rfl, by decide +kernel, by decide +kernel, by decide +kernel⟩
theorem k0_W_writeHead : lp_c0 um_W_writeHead 4 := ⟨lp_in 65 (by decide +kernel) rfl, lp_in 567 (by decide +kernel) rfl, by decide +kernel, by decide +kernel, by decide +kernel⟩
theorem k0_W_writeLines : lp_c0 um_W_writeLines 4 := ⟨lp_in 65 (by decide +kernel) rfl, lp_in 580 (by decide +kernel) rfl, by decide +kernel, by decide +kernel, by decide +kernel⟩
theorem k0_D_init : lp_c0 um_D_init 1 := ⟨lp_in 66 (by decide +kernel) rfl, lp_in 257 (by decide +kernel) rfl, by decide +kernel, by decide +kernel, by decide +kernel⟩
theorem k0_D_placeOfFailure : lp_c0 um_D_placeOfFailure 0 := ⟨lp_in 66 (by decide +kernel) rfl, lp_in 605 (by decide +kernel) rfl, by decide +kernel, by decide +kernel, by decide +kernel⟩
theorem k0_D_goToBeginning : lp_c0 um_D_goToBeginning 0 := ⟨lp_in 66 (by decide +kernel) rfl, lp_in 609 (by decide +kernel) rfl, by decide +kernel, by decide +kernel, by decide +kernel⟩
theorem k0_D_hasMore : lp_c0 um_D_hasMore 0 := ⟨lp_in 66 (by decide +kernel) rfl, lp_in 613 (by decide +kernel) rfl, by decide +kernel, by decide +kernel, by decide +kernel⟩
theorem k0_D_takeHunk : lp_c0 um_D_takeHunk 0 := ⟨lp_in 66 (by decide +kernel) rfl, lp_in 617 (by decide +kernel) rfl, by decide +kernel, by decide +kernel, by decide +kernel⟩
theorem k0_D_takeHead : lp_c0 um_D_takeHead 0 := ⟨lp_in 66 (by decide +kernel) rfl, lp_in 621 (by decide +kernel) rfl, by decide +kernel, by decide +kernel, by decide +kernel⟩
theorem k0_D_takeLines : lp_c0 um_D_takeLines 0 := ⟨lp_in 66 (by decide +kernel) rfl, lp_in 640 (by decide +kernel) rfl, by decide +kernel, by decide +kernel, by decide +kernel⟩
theorem k0_D_hasLinesDue : lp_c0 um_D_hasLinesDue 0 := ⟨lp_in 66 (by decide +kernel) rfl, lp_in 644 (by decide +kernel) rfl, by decide +kernel, by decide +kernel, by decide +kernel⟩
theorem k0_D_takeLine : lp_c0 um_D_takeLine 0 := ⟨lp_in 66 (by decide +kernel) rfl, lp_in 648 (by decide +kernel) rfl, by decide +kernel, by decide +kernel, by decide +kernel⟩
theorem k0_D_takeSign : lp_c0 um_D_takeSign 1 := ⟨lp_in 66 (by decide +kernel) rfl, lp_in 625 (by decide +kernel) rfl, by decide +kernel, by decide +kernel, by decide +kernel⟩
theorem k0_D_takeNumber : lp_c0 um_D_takeNumber 0 := ⟨lp_in 66 (by decide +kernel) rfl, lp_in 633 (by decide +kernel) rfl, by decide +kernel, by decide +kernel, by decide +kernel⟩
theorem k0_D_here : lp_c0 um_D_here 0 := ⟨lp_in 66 (by decide +kernel) rfl, lp_in 629 (by decide +kernel) rfl, by decide +kernel, by decide +kernel, by decide +kernel⟩
theorem k0_D_isDigit : lp_c0 um_D_isDigit 1 := ⟨lp_in 66 (by decide +kernel) rfl, lp_in 636 (by decide +kernel) rfl, by decide +kernel, by decide +kernel, by decide +kernel⟩
theorem k0_F_init : lp_c0 um_F_init 1 := ⟨lp_in 67 (by decide +kernel) rfl, lp_in 296 (by decide +kernel) rfl, by decide +kernel, by decide +kernel, by decide +kernel⟩
theorem k0_F_patch : lp_c0 um_F_patch 1 := ⟨lp_in 67 (by decide +kernel) rfl, lp_in 657 (by decide +kernel) rfl, by decide +kernel, by decide +kernel, by decide +kernel⟩
theorem k0_F_appendNewLines : lp_c0 um_F_appendNewLines 0 := ⟨lp_in 67 (by decide +kernel) rfl, lp_in 680 (by decide +kernel) rfl, by decide +kernel, by decide +kernel, by decide +kernel⟩
theorem k0_F_nearestPlace : lp_c0 um_F_nearestPlace 2 := ⟨lp_in 67 (by decide +kernel) rfl, lp_in 664 (by decide +kernel) rfl, by decide +kernel, by decide +kernel, by decide +kernel⟩
theorem k0_F_distance : lp_c0 um_F_distance 1 := ⟨lp_in 67 (by decide +kernel) rfl, lp_in 668 (by decide +kernel) rfl, by decide +kernel, by decide +kernel, by decide +kernel⟩
theorem k0_F_fitsAt : lp_c0 um_F_fitsAt 2 := ⟨lp_in 67 (by decide +kernel) rfl, lp_in 675 (by decide +kernel) rfl, by decide +kernel, by decide +kernel, by decide +kernel⟩
theorem k0_Q_init : lp_c0 um_Q_init 1 := ⟨lp_in 69 (by decide +kernel) rfl, lp_in 319 (by decide +kernel) rfl, by decide +kernel, by decide +kernel, by decide +kernel⟩
theorem k0_Q_skipFirmLine : lp_c0 um_Q_skipFirmLine 0 := ⟨lp_in 69 (by decide +kernel) rfl, lp_in 718 (by decide +kernel) rfl, by decide +kernel, by decide +kernel, by decide +kernel⟩
theorem k0_Q_isEqualTo : lp_c0 um_Q_isEqualTo 1 := ⟨lp_in 69 (by decide +kernel) rfl, lp_in 701 (by decide +kernel) rfl, by decide +kernel, by decide +kernel, by decide +kernel⟩
theorem k0_G_init : lp_c0 um_G_init 1 := ⟨lp_in 68 (by decide +kernel) rfl, lp_in 311 (by decide +kernel) rfl, by decide +kernel, by decide +kernel, by decide +kernel⟩
theorem k0_G_bringTogether : lp_c0 um_G_bringTogether 3 := ⟨lp_in 68 (by decide +kernel) rfl, lp_in 690 (by decide +kernel) rfl, by decide +kernel, by decide +kernel, by decide +kernel⟩
theorem k0_G_handOver : lp_c0 um_G_handOver 1 := ⟨lp_in 68 (by decide +kernel) rfl, lp_in 722 (by decide +kernel) rfl, by decide +kernel, by decide +kernel, by decide +kernel⟩
theorem k0_G_settleParts : lp_c0 um_G_settleParts 3 := ⟨lp_in 68 (by decide +kernel) rfl, lp_in 697 (by decide +kernel) rfl, by decide +kernel, by decide +kernel, by decide +kernel⟩
theorem k0_G_putConflict : lp_c0 um_G_putConflict 0 := ⟨lp_in 68 (by decide +kernel) rfl, lp_in 714 (by decide +kernel) rfl, by decide +kernel, by decide +kernel, by decide +kernel⟩
theorem k0_G_putPart : lp_c0 um_G_putPart 1 := ⟨lp_in 68 (by decide +kernel) rfl, lp_in 705 (by decide +kernel) rfl, by decide +kernel, by decide +kernel, by decide +kernel⟩
theorem k0_G_put : lp_c0 um_G_put 1 := ⟨lp_in 68 (by decide +kernel) rfl, lp_in 709 (by decide +kernel) rfl, by decide +kernel, by decide +kernel, by decide +kernel⟩
theorem k0_M_init : lp_c0 um_M_init 0 := ⟨lp_in 70 (by decide +kernel) rfl, lp_in 728 (by decide +kernel) rfl, by decide +kernel, by decide +kernel, by decide +kernel⟩
theorem k0_M_within : lp_c0 um_M_within 3 := ⟨lp_in 70 (by decide +kernel) rfl, lp_in 851 (by decide +kernel) rfl, by decide +kernel, by decide +kernel, by decide +kernel⟩
theorem k0_M_isLetter : lp_c0 um_M_isLetter 1 := ⟨lp_in 70 (by decide +kernel) rfl, lp_in 854 (by decide +kernel) rfl, by decide +kernel, by decide +kernel, by decide +kernel⟩
theorem k0_M_add : lp_c0 um_M_add 3 := ⟨lp_in 70 (by decide +kernel) rfl, lp_in 848 (by decide +kernel) rfl, by decide +kernel, by decide +kernel, by decide +kernel⟩
theorem k0_M_clear : lp_c0 um_M_clear 1 := ⟨lp_in 70 (by decide +kernel) rfl, lp_in 858 (by decide +kernel) rfl, by decide +kernel, by decide +kernel, by decide +kernel⟩
theorem k0_M_size : lp_c0 um_M_size 1 := ⟨lp_in 70 (by decide +kernel) rfl, lp_in 862 (by decide +kernel) rfl, by decide +kernel, by decide +kernel, by decide +kernel⟩
theorem k0_M_line : lp_c0 um_M_line 2 := ⟨lp_in 70 (by decide +kernel) rfl, lp_in 866 (by decide +kernel) rfl, by decide +kernel, by decide +kernel, by decide +kernel⟩
theorem k0_M_allLetters : lp_c0 um_M_allLetters 1 := ⟨lp_in 70 (by decide +kernel) rfl, lp_in 874 (by decide +kernel) rfl, by decide +kernel, by decide +kernel, by decide +kernel⟩
theorem k0_M_take : lp_c0 um_M_take 2 := ⟨lp_in 70 (by decide +kernel) rfl, lp_in 878 (by decide +kernel) rfl, by decide +kernel, by decide +kernel, by decide +kernel⟩
theorem k0_M_compareShort : lp_c0 um_M_compareShort 4 := ⟨lp_in 70 (by decide +kernel) rfl, lp_in 886 (by decide +kernel) rfl, by decide +kernel, by decide +kernel, by decide +kernel⟩
theorem k0_M_await : lp_c0 um_M_await 4 := ⟨lp_in 70 (by decide +kernel) rfl, lp_in 890 (by decide +kernel) rfl, by decide +kernel, by decide +kernel, by decide +kernel⟩
theorem k0_M_partner : lp_c0 um_M_partner 5 := ⟨lp_in 70 (by decide +kernel) rfl, lp_in 902 (by decide +kernel) rfl, by decide +kernel, by decide +kernel, by decide +kernel⟩
theorem k0_M_findRanks : lp_c0 um_M_findRanks 4 := ⟨lp_in 70 (by decide +kernel) rfl, lp_in 898 (by decide +kernel) rfl, by decide +kernel, by decide +kernel, by decide +kernel⟩
theorem k0_M_standOut : lp_c0 um_M_standOut 4 := ⟨lp_in 70 (by decide +kernel) rfl, lp_in 894 (by decide +kernel) rfl, by decide +kernel, by decide +kernel, by decide +kernel⟩
theorem k0_M_compareAll : lp_c0 um_M_compareAll 1 := ⟨lp_in 70 (by decide +kernel) rfl, lp_in 882 (by decide +kernel) rfl, by decide +kernel, by decide +kernel, by decide +kernel⟩
theorem k0_M_compare : lp_c0 um_M_compare 3 := ⟨lp_in 70 (by decide +kernel) rfl, lp_in 870 (by decide +kernel) rfl, by decide +kernel, by decide +kernel, by decide +kernel⟩
theorem k0_M_match : lp_c0 um_M_match 1 := ⟨lp_in 70 (by decide +kernel) rfl, lp_in 906 (by decide +kernel) rfl, by decide +kernel, by decide +kernel, by decide +kernel⟩
theorem k0_M_op : lp_c0 um_M_op 2 := ⟨lp_in 70 (by decide +kernel) rfl, lp_in 918 (by decide +kernel) rfl, by decide +kernel, by decide +kernel, by decide +kernel⟩
theorem k0_M_row : lp_c0 um_M_row 0 := ⟨lp_in 70 (by decide +kernel) rfl, lp_in 914 (by decide +kernel) rfl, by decide +kernel, by decide +kernel, by decide +kernel⟩
theorem k0_M_put : lp_c0 um_M_put 1 := ⟨lp_in 70 (by decide +kernel) rfl, lp_in 930 (by decide +kernel) rfl, by decide +kernel, by decide +kernel, by decide +kernel⟩
theorem k0_M_putNumber : lp_c0 um_M_putNumber 1 := ⟨lp_in 70 (by decide +kernel) rfl, lp_in 938 (by decide +kernel) rfl, by decide +kernel, by decide +kernel, by decide +kernel⟩
theorem k0_M_others : lp_c0 um_M_others 3 := ⟨lp_in 70 (by decide +kernel) rfl, lp_in 934 (by decide +kernel) rfl, by decide +kernel, by decide +kernel, by decide +kernel⟩
theorem k0_M_putHunk : lp_c0 um_M_putHunk 2 := ⟨lp_in 70 (by decide +kernel) rfl, lp_in 926 (by decide +kernel) rfl, by decide +kernel, by decide +kernel, by decide +kernel⟩
theorem k0_M_lastOf : lp_c0 um_M_lastOf 2 := ⟨lp_in 70 (by decide +kernel) rfl, lp_in 922 (by decide +kernel) rfl, by decide +kernel, by decide +kernel, by decide +kernel⟩
theorem k0_M_write : lp_c0 um_M_write 1 := ⟨lp_in 70 (by decide +kernel) rfl, lp_in 910 (by decide +kernel) rfl, by decide +kernel, by decide +kernel, by decide +kernel⟩
theorem k0_M_type : lp_c0 um_M_type 2 := ⟨lp_in 70 (by decide +kernel) rfl, lp_in 942 (by decide +kernel) rfl, by decide +kernel, by decide +kernel, by decide +kernel⟩
theorem k0_M_wipe : lp_c0 um_M_wipe 0 := ⟨lp_in 70 (by decide +kernel) rfl, lp_in 946 (by decide +kernel) rfl, by decide +kernel, by decide +kernel, by decide +kernel⟩
theorem k0_M_character : lp_c0 um_M_character 1 := ⟨lp_in 70 (by decide +kernel) rfl, lp_in 950 (by decide +kernel) rfl, by decide +kernel, by decide +kernel, by decide +kernel⟩
theorem k0_M_look : lp_c0 um_M_look 0 := ⟨lp_in 70 (by decide +kernel) rfl, lp_in 966 (by decide +kernel) rfl, by decide +kernel, by decide +kernel, by decide +kernel⟩
theorem k0_M_want : lp_c0 um_M_want 1 := ⟨lp_in 70 (by decide +kernel) rfl, lp_in 962 (by decide +kernel) rfl, by decide +kernel, by decide +kernel, by decide +kernel⟩
theorem k0_M_number : lp_c0 um_M_number 0 := ⟨lp_in 70 (by decide +kernel) rfl, lp_in 970 (by decide +kernel) rfl, by decide +kernel, by decide +kernel, by decide +kernel⟩
theorem k0_M_readHunk : lp_c0 um_M_readHunk 0 := ⟨lp_in 70 (by decide +kernel) rfl, lp_in 958 (by decide +kernel) rfl, by decide +kernel, by decide +kernel, by decide +kernel⟩
theorem k0_M_read : lp_c0 um_M_read 0 := ⟨lp_in 70 (by decide +kernel) rfl, lp_in 954 (by decide +kernel) rfl, by decide +kernel, by decide +kernel, by decide +kernel⟩
theorem k0_M_stands : lp_c0 um_M_stands 3 := ⟨lp_in 70 (by decide +kernel) rfl, lp_in 983 (by decide +kernel) rfl, by decide +kernel, by decide +kernel, by decide +kernel⟩
theorem k0_M_fit : lp_c0 um_M_fit 3 := ⟨lp_in 70 (by decide +kernel) rfl, lp_in 979 (by decide +kernel) rfl, by decide +kernel, by decide +kernel, by decide +kernel⟩
theorem k0_M_emit : lp_c0 um_M_emit 1 := ⟨lp_in 70 (by decide +kernel) rfl, lp_in 987 (by decide +kernel) rfl, by decide +kernel, by decide +kernel, by decide +kernel⟩
theorem k0_M_apply : lp_c0 um_M_apply 1 := ⟨lp_in 70 (by decide +kernel) rfl, lp_in 974 (by decide +kernel) rfl, by decide +kernel, by decide +kernel, by decide +kernel⟩
theorem k0_M_keep : lp_c0 um_M_keep 1 := ⟨lp_in 70 (by decide +kernel) rfl, lp_in 991 (by decide +kernel) rfl, by decide +kernel, by decide +kernel, by decide +kernel⟩
theorem k0_M_sameParts : lp_c0 um_M_sameParts 6 := ⟨lp_in 70 (by decide +kernel) rfl, lp_in 1003 (by decide +kernel) rfl, by decide +kernel, by decide +kernel, by decide +kernel⟩
theorem k0_M_tryEmit : lp_c0 um_M_tryEmit 1 := ⟨lp_in 70 (by decide +kernel) rfl, lp_in 1011 (by decide +kernel) rfl, by decide +kernel, by decide +kernel, by decide +kernel⟩
theorem k0_M_emitPart : lp_c0 um_M_emitPart 3 := ⟨lp_in 70 (by decide +kernel) rfl, lp_in 1007 (by decide +kernel) rfl, by decide +kernel, by decide +kernel, by decide +kernel⟩
theorem k0_M_mergeParts : lp_c0 um_M_mergeParts 6 := ⟨lp_in 70 (by decide +kernel) rfl, lp_in 999 (by decide +kernel) rfl, by decide +kernel, by decide +kernel, by decide +kernel⟩
theorem k0_M_merge : lp_c0 um_M_merge 0 := ⟨lp_in 70 (by decide +kernel) rfl, lp_in 995 (by decide +kernel) rfl, by decide +kernel, by decide +kernel, by decide +kernel⟩
theorem kf_P_100 : lp_F "LinePatcher" 100 1 0 := ⟨"LinePatcher$Text", ff_T, 2, rfl, in_T, by decide, lp_in 98 (by decide +kernel) rfl, rfl⟩
theorem kf_P_88 : lp_F "LinePatcher" 88 1 1 := ⟨"LinePatcher$Text", ff_T, 2, rfl, in_T, by decide, lp_in 106 (by decide +kernel) rfl, rfl⟩
theorem kp_P_88 : lp_Fp "LinePatcher" 88 1 1 (.int) false := ⟨"LinePatcher$Text", ff_T, 2, ok_T, by decide, lp_in 106 (by decide +kernel) rfl, rfl, rfl, by decide +kernel, fun h => by cases h⟩
theorem kf_P_136 : lp_F "LinePatcher" 136 6 0 := ⟨"LinePatcher$Paper", ff_A, 2, rfl, in_A, by decide, lp_in 221 (by decide +kernel) rfl, rfl⟩
theorem kf_P_132 : lp_F "LinePatcher" 132 6 1 := ⟨"LinePatcher$Paper", ff_A, 2, rfl, in_A, by decide, lp_in 226 (by decide +kernel) rfl, rfl⟩
theorem kp_P_132 : lp_Fp "LinePatcher" 132 6 1 (.int) false := ⟨"LinePatcher$Paper", ff_A, 2, ok_A, by decide, lp_in 226 (by decide +kernel) rfl, rfl, rfl, by decide +kernel, fun h => by cases h⟩
theorem kf_P_11 : lp_F "LinePatcher" 11 0 0 := ⟨"LinePatcher", ff_P, 10, rfl, in_P, by decide, lp_in 365 (by decide +kernel) rfl, rfl⟩
theorem kp_P_11 : lp_Fp "LinePatcher" 11 0 0 (.array (.object "LinePatcher$Text")) true := ⟨"LinePatcher", ff_P, 10, ok_P, by decide, lp_in 365 (by decide +kernel) rfl, rfl, rfl, by decide +kernel, fun _ => rfl⟩
theorem kf_P_18 : lp_F "LinePatcher" 18 0 1 := ⟨"LinePatcher", ff_P, 10, rfl, in_P, by decide, lp_in 366 (by decide +kernel) rfl, rfl⟩
theorem kp_P_18 : lp_Fp "LinePatcher" 18 0 1 (.object "LinePatcher$Comparison") true := ⟨"LinePatcher", ff_P, 10, ok_P, by decide, lp_in 366 (by decide +kernel) rfl, rfl, rfl, by decide +kernel, fun _ => rfl⟩
theorem kf_P_117 : lp_F "LinePatcher" 117 0 2 := ⟨"LinePatcher", ff_P, 10, rfl, in_P, by decide, lp_in 367 (by decide +kernel) rfl, rfl⟩
theorem kp_P_117 : lp_Fp "LinePatcher" 117 0 2 (.boolean) false := ⟨"LinePatcher", ff_P, 10, ok_P, by decide, lp_in 367 (by decide +kernel) rfl, rfl, rfl, by decide +kernel, fun h => by cases h⟩
theorem kf_P_25 : lp_F "LinePatcher" 25 0 3 := ⟨"LinePatcher", ff_P, 10, rfl, in_P, by decide, lp_in 368 (by decide +kernel) rfl, rfl⟩
theorem kp_P_25 : lp_Fp "LinePatcher" 25 0 3 (.object "LinePatcher$Shortest") true := ⟨"LinePatcher", ff_P, 10, ok_P, by decide, lp_in 368 (by decide +kernel) rfl, rfl, rfl, by decide +kernel, fun _ => rfl⟩
theorem kf_P_34 : lp_F "LinePatcher" 34 0 4 := ⟨"LinePatcher", ff_P, 10, rfl, in_P, by decide, lp_in 369 (by decide +kernel) rfl, rfl⟩
theorem kp_P_34 : lp_Fp "LinePatcher" 34 0 4 (.object "LinePatcher$StandingOut") true := ⟨"LinePatcher", ff_P, 10, ok_P, by decide, lp_in 369 (by decide +kernel) rfl, rfl, rfl, by decide +kernel, fun _ => rfl⟩
theorem kf_P_41 : lp_F "LinePatcher" 41 0 5 := ⟨"LinePatcher", ff_P, 10, rfl, in_P, by decide, lp_in 370 (by decide +kernel) rfl, rfl⟩
theorem kp_P_41 : lp_Fp "LinePatcher" 41 0 5 (.object "LinePatcher$Paper") true := ⟨"LinePatcher", ff_P, 10, ok_P, by decide, lp_in 370 (by decide +kernel) rfl, rfl, rfl, by decide +kernel, fun _ => rfl⟩
theorem kf_P_50 : lp_F "LinePatcher" 50 0 6 := ⟨"LinePatcher", ff_P, 10, rfl, in_P, by decide, lp_in 371 (by decide +kernel) rfl, rfl⟩
theorem kp_P_50 : lp_Fp "LinePatcher" 50 0 6 (.object "LinePatcher$PatchWriter") true := ⟨"LinePatcher", ff_P, 10, ok_P, by decide, lp_in 371 (by decide +kernel) rfl, rfl, rfl, by decide +kernel, fun _ => rfl⟩
theorem kf_P_59 : lp_F "LinePatcher" 59 0 7 := ⟨"LinePatcher", ff_P, 10, rfl, in_P, by decide, lp_in 372 (by decide +kernel) rfl, rfl⟩
theorem kp_P_59 : lp_Fp "LinePatcher" 59 0 7 (.object "LinePatcher$PatchReader") true := ⟨"LinePatcher", ff_P, 10, ok_P, by decide, lp_in 372 (by decide +kernel) rfl, rfl, rfl, by decide +kernel, fun _ => rfl⟩
theorem kf_P_68 : lp_F "LinePatcher" 68 0 8 := ⟨"LinePatcher", ff_P, 10, rfl, in_P, by decide, lp_in 373 (by decide +kernel) rfl, rfl⟩
theorem kp_P_68 : lp_Fp "LinePatcher" 68 0 8 (.object "LinePatcher$PatchFitter") true := ⟨"LinePatcher", ff_P, 10, ok_P, by decide, lp_in 373 (by decide +kernel) rfl, rfl, rfl, by decide +kernel, fun _ => rfl⟩
theorem kf_P_75 : lp_F "LinePatcher" 75 0 9 := ⟨"LinePatcher", ff_P, 10, rfl, in_P, by decide, lp_in 374 (by decide +kernel) rfl, rfl⟩
theorem kp_P_75 : lp_Fp "LinePatcher" 75 0 9 (.object "LinePatcher$Merger") true := ⟨"LinePatcher", ff_P, 10, ok_P, by decide, lp_in 374 (by decide +kernel) rfl, rfl, rfl, by decide +kernel, fun _ => rfl⟩
theorem kf_T_9 : lp_F "LinePatcher$Text" 9 1 0 := ⟨"LinePatcher$Text", ff_T, 2, rfl, in_T, by decide, lp_in 94 (by decide +kernel) rfl, rfl⟩
theorem kp_T_9 : lp_Fp "LinePatcher$Text" 9 1 0 (.array .int) true := ⟨"LinePatcher$Text", ff_T, 2, ok_T, by decide, lp_in 94 (by decide +kernel) rfl, rfl, rfl, by decide +kernel, fun _ => rfl⟩
theorem kf_T_15 : lp_F "LinePatcher$Text" 15 1 1 := ⟨"LinePatcher$Text", ff_T, 2, rfl, in_T, by decide, lp_in 102 (by decide +kernel) rfl, rfl⟩
theorem kp_T_15 : lp_Fp "LinePatcher$Text" 15 1 1 (.int) false := ⟨"LinePatcher$Text", ff_T, 2, ok_T, by decide, lp_in 102 (by decide +kernel) rfl, rfl, rfl, by decide +kernel, fun h => by cases h⟩
theorem kf_C_33 : lp_F "LinePatcher$Comparison" 33 1 0 := ⟨"LinePatcher$Text", ff_T, 2, rfl, in_T, by decide, lp_in 97 (by decide +kernel) rfl, rfl⟩
theorem kf_C_36 : lp_F "LinePatcher$Comparison" 36 1 1 := ⟨"LinePatcher$Text", ff_T, 2, rfl, in_T, by decide, lp_in 109 (by decide +kernel) rfl, rfl⟩
theorem kp_C_36 : lp_Fp "LinePatcher$Comparison" 36 1 1 (.int) false := ⟨"LinePatcher$Text", ff_T, 2, ok_T, by decide, lp_in 109 (by decide +kernel) rfl, rfl, rfl, by decide +kernel, fun h => by cases h⟩
theorem kf_C_12 : lp_F "LinePatcher$Comparison" 12 2 0 := ⟨"LinePatcher$Comparison", ff_C, 4, rfl, in_C, by decide, lp_in 116 (by decide +kernel) rfl, rfl⟩
theorem kp_C_12 : lp_Fp "LinePatcher$Comparison" 12 2 0 (.object "LinePatcher$Text") true := ⟨"LinePatcher$Comparison", ff_C, 4, ok_C, by decide, lp_in 116 (by decide +kernel) rfl, rfl, rfl, by decide +kernel, fun _ => rfl⟩
theorem kf_C_18 : lp_F "LinePatcher$Comparison" 18 2 1 := ⟨"LinePatcher$Comparison", ff_C, 4, rfl, in_C, by decide, lp_in 121 (by decide +kernel) rfl, rfl⟩
theorem kp_C_18 : lp_Fp "LinePatcher$Comparison" 18 2 1 (.object "LinePatcher$Text") true := ⟨"LinePatcher$Comparison", ff_C, 4, ok_C, by decide, lp_in 121 (by decide +kernel) rfl, rfl, rfl, by decide +kernel, fun _ => rfl⟩
theorem kf_C_21 : lp_F "LinePatcher$Comparison" 21 2 2 := ⟨"LinePatcher$Comparison", ff_C, 4, rfl, in_C, by decide, lp_in 126 (by decide +kernel) rfl, rfl⟩
theorem kp_C_21 : lp_Fp "LinePatcher$Comparison" 21 2 2 (.array .int) true := ⟨"LinePatcher$Comparison", ff_C, 4, ok_C, by decide, lp_in 126 (by decide +kernel) rfl, rfl, rfl, by decide +kernel, fun _ => rfl⟩
theorem kf_C_29 : lp_F "LinePatcher$Comparison" 29 2 3 := ⟨"LinePatcher$Comparison", ff_C, 4, rfl, in_C, by decide, lp_in 127 (by decide +kernel) rfl, rfl⟩
theorem kp_C_29 : lp_Fp "LinePatcher$Comparison" 29 2 3 (.int) false := ⟨"LinePatcher$Comparison", ff_C, 4, ok_C, by decide, lp_in 127 (by decide +kernel) rfl, rfl, rfl, by decide +kernel, fun h => by cases h⟩
theorem kf_R_7 : lp_F "LinePatcher$Range" 7 3 0 := ⟨"LinePatcher$Range", ff_R, 4, rfl, in_R, by decide, lp_in 151 (by decide +kernel) rfl, rfl⟩
theorem kp_R_7 : lp_Fp "LinePatcher$Range" 7 3 0 (.int) false := ⟨"LinePatcher$Range", ff_R, 4, ok_R, by decide, lp_in 151 (by decide +kernel) rfl, rfl, rfl, by decide +kernel, fun h => by cases h⟩
theorem kf_R_13 : lp_F "LinePatcher$Range" 13 3 1 := ⟨"LinePatcher$Range", ff_R, 4, rfl, in_R, by decide, lp_in 155 (by decide +kernel) rfl, rfl⟩
theorem kp_R_13 : lp_Fp "LinePatcher$Range" 13 3 1 (.int) false := ⟨"LinePatcher$Range", ff_R, 4, ok_R, by decide, lp_in 155 (by decide +kernel) rfl, rfl, rfl, by decide +kernel, fun h => by cases h⟩
theorem kf_R_16 : lp_F "LinePatcher$Range" 16 3 2 := ⟨"LinePatcher$Range", ff_R, 4, rfl, in_R, by decide, lp_in 159 (by decide +kernel) rfl, rfl⟩
theorem kp_R_16 : lp_Fp "LinePatcher$Range" 16 3 2 (.int) false := ⟨"LinePatcher$Range", ff_R, 4, ok_R, by decide, lp_in 159 (by decide +kernel) rfl, rfl, rfl, by decide +kernel, fun h => by cases h⟩
theorem kf_R_19 : lp_F "LinePatcher$Range" 19 3 3 := ⟨"LinePatcher$Range", ff_R, 4, rfl, in_R, by decide, lp_in 163 (by decide +kernel) rfl, rfl⟩
theorem kp_R_19 : lp_Fp "LinePatcher$Range" 19 3 3 (.int) false := ⟨"LinePatcher$Range", ff_R, 4, ok_R, by decide, lp_in 163 (by decide +kernel) rfl, rfl, rfl, by decide +kernel, fun h => by cases h⟩
theorem kf_S_29 : lp_F "LinePatcher$Shortest" 29 1 1 := ⟨"LinePatcher$Text", ff_T, 2, rfl, in_T, by decide, lp_in 104 (by decide +kernel) rfl, rfl⟩
theorem kp_S_29 : lp_Fp "LinePatcher$Shortest" 29 1 1 (.int) false := ⟨"LinePatcher$Text", ff_T, 2, ok_T, by decide, lp_in 104 (by decide +kernel) rfl, rfl, rfl, by decide +kernel, fun h => by cases h⟩
theorem kf_S_23 : lp_F "LinePatcher$Shortest" 23 2 0 := ⟨"LinePatcher$Comparison", ff_C, 4, rfl, in_C, by decide, lp_in 118 (by decide +kernel) rfl, rfl⟩
theorem kf_S_35 : lp_F "LinePatcher$Shortest" 35 2 1 := ⟨"LinePatcher$Comparison", ff_C, 4, rfl, in_C, by decide, lp_in 123 (by decide +kernel) rfl, rfl⟩
theorem kf_S_49 : lp_F "LinePatcher$Shortest" 49 3 0 := ⟨"LinePatcher$Range", ff_R, 4, rfl, in_R, by decide, lp_in 152 (by decide +kernel) rfl, rfl⟩
theorem kp_S_49 : lp_Fp "LinePatcher$Shortest" 49 3 0 (.int) false := ⟨"LinePatcher$Range", ff_R, 4, ok_R, by decide, lp_in 152 (by decide +kernel) rfl, rfl, rfl, by decide +kernel, fun h => by cases h⟩
theorem kf_S_53 : lp_F "LinePatcher$Shortest" 53 3 1 := ⟨"LinePatcher$Range", ff_R, 4, rfl, in_R, by decide, lp_in 156 (by decide +kernel) rfl, rfl⟩
theorem kp_S_53 : lp_Fp "LinePatcher$Shortest" 53 3 1 (.int) false := ⟨"LinePatcher$Range", ff_R, 4, ok_R, by decide, lp_in 156 (by decide +kernel) rfl, rfl, rfl, by decide +kernel, fun h => by cases h⟩
theorem kf_S_51 : lp_F "LinePatcher$Shortest" 51 3 2 := ⟨"LinePatcher$Range", ff_R, 4, rfl, in_R, by decide, lp_in 160 (by decide +kernel) rfl, rfl⟩
theorem kp_S_51 : lp_Fp "LinePatcher$Shortest" 51 3 2 (.int) false := ⟨"LinePatcher$Range", ff_R, 4, ok_R, by decide, lp_in 160 (by decide +kernel) rfl, rfl, rfl, by decide +kernel, fun h => by cases h⟩
theorem kf_S_56 : lp_F "LinePatcher$Shortest" 56 3 3 := ⟨"LinePatcher$Range", ff_R, 4, rfl, in_R, by decide, lp_in 164 (by decide +kernel) rfl, rfl⟩
theorem kp_S_56 : lp_Fp "LinePatcher$Shortest" 56 3 3 (.int) false := ⟨"LinePatcher$Range", ff_R, 4, ok_R, by decide, lp_in 164 (by decide +kernel) rfl, rfl, rfl, by decide +kernel, fun h => by cases h⟩
theorem kf_S_11 : lp_F "LinePatcher$Shortest" 11 4 0 := ⟨"LinePatcher$Shortest", ff_S, 2, rfl, in_S, by decide, lp_in 176 (by decide +kernel) rfl, rfl⟩
theorem kp_S_11 : lp_Fp "LinePatcher$Shortest" 11 4 0 (.array (.array .int)) true := ⟨"LinePatcher$Shortest", ff_S, 2, ok_S, by decide, lp_in 176 (by decide +kernel) rfl, rfl, rfl, by decide +kernel, fun _ => rfl⟩
theorem kf_S_19 : lp_F "LinePatcher$Shortest" 19 4 1 := ⟨"LinePatcher$Shortest", ff_S, 2, rfl, in_S, by decide, lp_in 177 (by decide +kernel) rfl, rfl⟩
theorem kp_S_19 : lp_Fp "LinePatcher$Shortest" 19 4 1 (.object "LinePatcher$Range") true := ⟨"LinePatcher$Shortest", ff_S, 2, ok_S, by decide, lp_in 177 (by decide +kernel) rfl, rfl, rfl, by decide +kernel, fun _ => rfl⟩
theorem kf_O_102 : lp_F "LinePatcher$StandingOut" 102 1 0 := ⟨"LinePatcher$Text", ff_T, 2, rfl, in_T, by decide, lp_in 100 (by decide +kernel) rfl, rfl⟩
theorem kf_O_42 : lp_F "LinePatcher$StandingOut" 42 1 1 := ⟨"LinePatcher$Text", ff_T, 2, rfl, in_T, by decide, lp_in 105 (by decide +kernel) rfl, rfl⟩
theorem kp_O_42 : lp_Fp "LinePatcher$StandingOut" 42 1 1 (.int) false := ⟨"LinePatcher$Text", ff_T, 2, ok_T, by decide, lp_in 105 (by decide +kernel) rfl, rfl, rfl, by decide +kernel, fun h => by cases h⟩
theorem kf_O_36 : lp_F "LinePatcher$StandingOut" 36 2 0 := ⟨"LinePatcher$Comparison", ff_C, 4, rfl, in_C, by decide, lp_in 119 (by decide +kernel) rfl, rfl⟩
theorem kf_O_47 : lp_F "LinePatcher$StandingOut" 47 2 1 := ⟨"LinePatcher$Comparison", ff_C, 4, rfl, in_C, by decide, lp_in 124 (by decide +kernel) rfl, rfl⟩
theorem kf_O_84 : lp_F "LinePatcher$StandingOut" 84 3 0 := ⟨"LinePatcher$Range", ff_R, 4, rfl, in_R, by decide, lp_in 153 (by decide +kernel) rfl, rfl⟩
theorem kp_O_84 : lp_Fp "LinePatcher$StandingOut" 84 3 0 (.int) false := ⟨"LinePatcher$Range", ff_R, 4, ok_R, by decide, lp_in 153 (by decide +kernel) rfl, rfl, rfl, by decide +kernel, fun h => by cases h⟩
theorem kf_O_86 : lp_F "LinePatcher$StandingOut" 86 3 1 := ⟨"LinePatcher$Range", ff_R, 4, rfl, in_R, by decide, lp_in 157 (by decide +kernel) rfl, rfl⟩
theorem kp_O_86 : lp_Fp "LinePatcher$StandingOut" 86 3 1 (.int) false := ⟨"LinePatcher$Range", ff_R, 4, ok_R, by decide, lp_in 157 (by decide +kernel) rfl, rfl, rfl, by decide +kernel, fun h => by cases h⟩
theorem kf_O_89 : lp_F "LinePatcher$StandingOut" 89 3 2 := ⟨"LinePatcher$Range", ff_R, 4, rfl, in_R, by decide, lp_in 161 (by decide +kernel) rfl, rfl⟩
theorem kp_O_89 : lp_Fp "LinePatcher$StandingOut" 89 3 2 (.int) false := ⟨"LinePatcher$Range", ff_R, 4, ok_R, by decide, lp_in 161 (by decide +kernel) rfl, rfl, rfl, by decide +kernel, fun h => by cases h⟩
theorem kf_O_91 : lp_F "LinePatcher$StandingOut" 91 3 3 := ⟨"LinePatcher$Range", ff_R, 4, rfl, in_R, by decide, lp_in 165 (by decide +kernel) rfl, rfl⟩
theorem kp_O_91 : lp_Fp "LinePatcher$StandingOut" 91 3 3 (.int) false := ⟨"LinePatcher$Range", ff_R, 4, ok_R, by decide, lp_in 165 (by decide +kernel) rfl, rfl, rfl, by decide +kernel, fun h => by cases h⟩
theorem kf_O_27 : lp_F "LinePatcher$StandingOut" 27 5 0 := ⟨"LinePatcher$StandingOut", ff_O, 7, rfl, in_O, by decide, lp_in 192 (by decide +kernel) rfl, rfl⟩
theorem kp_O_27 : lp_Fp "LinePatcher$StandingOut" 27 5 0 (.object "LinePatcher$Shortest") true := ⟨"LinePatcher$StandingOut", ff_O, 7, ok_O, by decide, lp_in 192 (by decide +kernel) rfl, rfl, rfl, by decide +kernel, fun _ => rfl⟩
theorem kf_O_13 : lp_F "LinePatcher$StandingOut" 13 5 1 := ⟨"LinePatcher$StandingOut", ff_O, 7, rfl, in_O, by decide, lp_in 193 (by decide +kernel) rfl, rfl⟩
theorem kp_O_13 : lp_Fp "LinePatcher$StandingOut" 13 5 1 (.array (.object "LinePatcher$Range")) true := ⟨"LinePatcher$StandingOut", ff_O, 7, ok_O, by decide, lp_in 193 (by decide +kernel) rfl, rfl, rfl, by decide +kernel, fun _ => rfl⟩
theorem kf_O_32 : lp_F "LinePatcher$StandingOut" 32 5 2 := ⟨"LinePatcher$StandingOut", ff_O, 7, rfl, in_O, by decide, lp_in 194 (by decide +kernel) rfl, rfl⟩
theorem kp_O_32 : lp_Fp "LinePatcher$StandingOut" 32 5 2 (.int) false := ⟨"LinePatcher$StandingOut", ff_O, 7, ok_O, by decide, lp_in 194 (by decide +kernel) rfl, rfl, rfl, by decide +kernel, fun h => by cases h⟩
theorem kf_O_17 : lp_F "LinePatcher$StandingOut" 17 5 3 := ⟨"LinePatcher$StandingOut", ff_O, 7, rfl, in_O, by decide, lp_in 195 (by decide +kernel) rfl, rfl⟩
theorem kp_O_17 : lp_Fp "LinePatcher$StandingOut" 17 5 3 (.array .int) true := ⟨"LinePatcher$StandingOut", ff_O, 7, ok_O, by decide, lp_in 195 (by decide +kernel) rfl, rfl, rfl, by decide +kernel, fun _ => rfl⟩
theorem kf_O_21 : lp_F "LinePatcher$StandingOut" 21 5 4 := ⟨"LinePatcher$StandingOut", ff_O, 7, rfl, in_O, by decide, lp_in 196 (by decide +kernel) rfl, rfl⟩
theorem kp_O_21 : lp_Fp "LinePatcher$StandingOut" 21 5 4 (.array .int) true := ⟨"LinePatcher$StandingOut", ff_O, 7, ok_O, by decide, lp_in 196 (by decide +kernel) rfl, rfl, rfl, by decide +kernel, fun _ => rfl⟩
theorem kf_O_24 : lp_F "LinePatcher$StandingOut" 24 5 5 := ⟨"LinePatcher$StandingOut", ff_O, 7, rfl, in_O, by decide, lp_in 197 (by decide +kernel) rfl, rfl⟩
theorem kp_O_24 : lp_Fp "LinePatcher$StandingOut" 24 5 5 (.array .int) true := ⟨"LinePatcher$StandingOut", ff_O, 7, ok_O, by decide, lp_in 197 (by decide +kernel) rfl, rfl, rfl, by decide +kernel, fun _ => rfl⟩
theorem kf_O_70 : lp_F "LinePatcher$StandingOut" 70 5 6 := ⟨"LinePatcher$StandingOut", ff_O, 7, rfl, in_O, by decide, lp_in 198 (by decide +kernel) rfl, rfl⟩
theorem kp_O_70 : lp_Fp "LinePatcher$StandingOut" 70 5 6 (.int) false := ⟨"LinePatcher$StandingOut", ff_O, 7, ok_O, by decide, lp_in 198 (by decide +kernel) rfl, rfl, rfl, by decide +kernel, fun h => by cases h⟩
theorem kf_A_9 : lp_F "LinePatcher$Paper" 9 6 0 := ⟨"LinePatcher$Paper", ff_A, 2, rfl, in_A, by decide, lp_in 220 (by decide +kernel) rfl, rfl⟩
theorem kp_A_9 : lp_Fp "LinePatcher$Paper" 9 6 0 (.array .int) true := ⟨"LinePatcher$Paper", ff_A, 2, ok_A, by decide, lp_in 220 (by decide +kernel) rfl, rfl, rfl, by decide +kernel, fun _ => rfl⟩
theorem kf_A_15 : lp_F "LinePatcher$Paper" 15 6 1 := ⟨"LinePatcher$Paper", ff_A, 2, rfl, in_A, by decide, lp_in 223 (by decide +kernel) rfl, rfl⟩
theorem kp_A_15 : lp_Fp "LinePatcher$Paper" 15 6 1 (.int) false := ⟨"LinePatcher$Paper", ff_A, 2, ok_A, by decide, lp_in 223 (by decide +kernel) rfl, rfl, rfl, by decide +kernel, fun h => by cases h⟩
theorem kf_W_103 : lp_F "LinePatcher$PatchWriter" 103 1 0 := ⟨"LinePatcher$Text", ff_T, 2, rfl, in_T, by decide, lp_in 101 (by decide +kernel) rfl, rfl⟩
theorem kf_W_52 : lp_F "LinePatcher$PatchWriter" 52 1 1 := ⟨"LinePatcher$Text", ff_T, 2, rfl, in_T, by decide, lp_in 108 (by decide +kernel) rfl, rfl⟩
theorem kp_W_52 : lp_Fp "LinePatcher$PatchWriter" 52 1 1 (.int) false := ⟨"LinePatcher$Text", ff_T, 2, ok_T, by decide, lp_in 108 (by decide +kernel) rfl, rfl, rfl, by decide +kernel, fun h => by cases h⟩
theorem kf_W_46 : lp_F "LinePatcher$PatchWriter" 46 2 0 := ⟨"LinePatcher$Comparison", ff_C, 4, rfl, in_C, by decide, lp_in 120 (by decide +kernel) rfl, rfl⟩
theorem kf_W_64 : lp_F "LinePatcher$PatchWriter" 64 2 1 := ⟨"LinePatcher$Comparison", ff_C, 4, rfl, in_C, by decide, lp_in 125 (by decide +kernel) rfl, rfl⟩
theorem kf_W_70 : lp_F "LinePatcher$PatchWriter" 70 3 0 := ⟨"LinePatcher$Range", ff_R, 4, rfl, in_R, by decide, lp_in 154 (by decide +kernel) rfl, rfl⟩
theorem kp_W_70 : lp_Fp "LinePatcher$PatchWriter" 70 3 0 (.int) false := ⟨"LinePatcher$Range", ff_R, 4, ok_R, by decide, lp_in 154 (by decide +kernel) rfl, rfl, rfl, by decide +kernel, fun h => by cases h⟩
theorem kf_W_72 : lp_F "LinePatcher$PatchWriter" 72 3 1 := ⟨"LinePatcher$Range", ff_R, 4, rfl, in_R, by decide, lp_in 158 (by decide +kernel) rfl, rfl⟩
theorem kp_W_72 : lp_Fp "LinePatcher$PatchWriter" 72 3 1 (.int) false := ⟨"LinePatcher$Range", ff_R, 4, ok_R, by decide, lp_in 158 (by decide +kernel) rfl, rfl, rfl, by decide +kernel, fun h => by cases h⟩
theorem kf_W_84 : lp_F "LinePatcher$PatchWriter" 84 3 2 := ⟨"LinePatcher$Range", ff_R, 4, rfl, in_R, by decide, lp_in 162 (by decide +kernel) rfl, rfl⟩
theorem kp_W_84 : lp_Fp "LinePatcher$PatchWriter" 84 3 2 (.int) false := ⟨"LinePatcher$Range", ff_R, 4, ok_R, by decide, lp_in 162 (by decide +kernel) rfl, rfl, rfl, by decide +kernel, fun h => by cases h⟩
theorem kf_W_86 : lp_F "LinePatcher$PatchWriter" 86 3 3 := ⟨"LinePatcher$Range", ff_R, 4, rfl, in_R, by decide, lp_in 166 (by decide +kernel) rfl, rfl⟩
theorem kp_W_86 : lp_Fp "LinePatcher$PatchWriter" 86 3 3 (.int) false := ⟨"LinePatcher$Range", ff_R, 4, ok_R, by decide, lp_in 166 (by decide +kernel) rfl, rfl, rfl, by decide +kernel, fun h => by cases h⟩
theorem kf_W_29 : lp_F "LinePatcher$PatchWriter" 29 6 1 := ⟨"LinePatcher$Paper", ff_A, 2, rfl, in_A, by decide, lp_in 224 (by decide +kernel) rfl, rfl⟩
theorem kp_W_29 : lp_Fp "LinePatcher$PatchWriter" 29 6 1 (.int) false := ⟨"LinePatcher$Paper", ff_A, 2, ok_A, by decide, lp_in 224 (by decide +kernel) rfl, rfl, rfl, by decide +kernel, fun h => by cases h⟩
theorem kf_W_17 : lp_F "LinePatcher$PatchWriter" 17 7 0 := ⟨"LinePatcher$PatchWriter", ff_W, 4, rfl, in_W, by decide, lp_in 240 (by decide +kernel) rfl, rfl⟩
theorem kp_W_17 : lp_Fp "LinePatcher$PatchWriter" 17 7 0 (.object "LinePatcher$Comparison") true := ⟨"LinePatcher$PatchWriter", ff_W, 4, ok_W, by decide, lp_in 240 (by decide +kernel) rfl, rfl, rfl, by decide +kernel, fun _ => rfl⟩
theorem kf_W_21 : lp_F "LinePatcher$PatchWriter" 21 7 1 := ⟨"LinePatcher$PatchWriter", ff_W, 4, rfl, in_W, by decide, lp_in 241 (by decide +kernel) rfl, rfl⟩
theorem kp_W_21 : lp_Fp "LinePatcher$PatchWriter" 21 7 1 (.object "LinePatcher$Paper") true := ⟨"LinePatcher$PatchWriter", ff_W, 4, ok_W, by decide, lp_in 241 (by decide +kernel) rfl, rfl, rfl, by decide +kernel, fun _ => rfl⟩
theorem kf_W_13 : lp_F "LinePatcher$PatchWriter" 13 7 2 := ⟨"LinePatcher$PatchWriter", ff_W, 4, rfl, in_W, by decide, lp_in 242 (by decide +kernel) rfl, rfl⟩
theorem kp_W_13 : lp_Fp "LinePatcher$PatchWriter" 13 7 2 (.array (.object "LinePatcher$Range")) true := ⟨"LinePatcher$PatchWriter", ff_W, 4, ok_W, by decide, lp_in 242 (by decide +kernel) rfl, rfl, rfl, by decide +kernel, fun _ => rfl⟩
theorem kf_W_35 : lp_F "LinePatcher$PatchWriter" 35 7 3 := ⟨"LinePatcher$PatchWriter", ff_W, 4, rfl, in_W, by decide, lp_in 243 (by decide +kernel) rfl, rfl⟩
theorem kp_W_35 : lp_Fp "LinePatcher$PatchWriter" 35 7 3 (.int) false := ⟨"LinePatcher$PatchWriter", ff_W, 4, ok_W, by decide, lp_in 243 (by decide +kernel) rfl, rfl, rfl, by decide +kernel, fun h => by cases h⟩
theorem kf_D_85 : lp_F "LinePatcher$PatchReader" 85 6 0 := ⟨"LinePatcher$Paper", ff_A, 2, rfl, in_A, by decide, lp_in 222 (by decide +kernel) rfl, rfl⟩
theorem kf_D_36 : lp_F "LinePatcher$PatchReader" 36 6 1 := ⟨"LinePatcher$Paper", ff_A, 2, rfl, in_A, by decide, lp_in 225 (by decide +kernel) rfl, rfl⟩
theorem kp_D_36 : lp_Fp "LinePatcher$PatchReader" 36 6 1 (.int) false := ⟨"LinePatcher$Paper", ff_A, 2, ok_A, by decide, lp_in 225 (by decide +kernel) rfl, rfl, rfl, by decide +kernel, fun h => by cases h⟩
theorem kf_D_18 : lp_F "LinePatcher$PatchReader" 18 8 0 := ⟨"LinePatcher$PatchReader", ff_D, 9, rfl, in_D, by decide, lp_in 259 (by decide +kernel) rfl, rfl⟩
theorem kp_D_18 : lp_Fp "LinePatcher$PatchReader" 18 8 0 (.object "LinePatcher$Paper") true := ⟨"LinePatcher$PatchReader", ff_D, 9, ok_D, by decide, lp_in 259 (by decide +kernel) rfl, rfl, rfl, by decide +kernel, fun _ => rfl⟩
theorem kf_D_32 : lp_F "LinePatcher$PatchReader" 32 8 1 := ⟨"LinePatcher$PatchReader", ff_D, 9, rfl, in_D, by decide, lp_in 260 (by decide +kernel) rfl, rfl⟩
theorem kp_D_32 : lp_Fp "LinePatcher$PatchReader" 32 8 1 (.int) false := ⟨"LinePatcher$PatchReader", ff_D, 9, ok_D, by decide, lp_in 260 (by decide +kernel) rfl, rfl, rfl, by decide +kernel, fun h => by cases h⟩
theorem kf_D_55 : lp_F "LinePatcher$PatchReader" 55 8 2 := ⟨"LinePatcher$PatchReader", ff_D, 9, rfl, in_D, by decide, lp_in 262 (by decide +kernel) rfl, rfl⟩
theorem kp_D_55 : lp_Fp "LinePatcher$PatchReader" 55 8 2 (.int) false := ⟨"LinePatcher$PatchReader", ff_D, 9, ok_D, by decide, lp_in 262 (by decide +kernel) rfl, rfl, rfl, by decide +kernel, fun h => by cases h⟩
theorem kf_D_58 : lp_F "LinePatcher$PatchReader" 58 8 3 := ⟨"LinePatcher$PatchReader", ff_D, 9, rfl, in_D, by decide, lp_in 263 (by decide +kernel) rfl, rfl⟩
theorem kp_D_58 : lp_Fp "LinePatcher$PatchReader" 58 8 3 (.int) false := ⟨"LinePatcher$PatchReader", ff_D, 9, ok_D, by decide, lp_in 263 (by decide +kernel) rfl, rfl, rfl, by decide +kernel, fun h => by cases h⟩
theorem kf_D_61 : lp_F "LinePatcher$PatchReader" 61 8 4 := ⟨"LinePatcher$PatchReader", ff_D, 9, rfl, in_D, by decide, lp_in 264 (by decide +kernel) rfl, rfl⟩
theorem kp_D_61 : lp_Fp "LinePatcher$PatchReader" 61 8 4 (.int) false := ⟨"LinePatcher$PatchReader", ff_D, 9, ok_D, by decide, lp_in 264 (by decide +kernel) rfl, rfl, rfl, by decide +kernel, fun h => by cases h⟩
theorem kf_D_11 : lp_F "LinePatcher$PatchReader" 11 8 5 := ⟨"LinePatcher$PatchReader", ff_D, 9, rfl, in_D, by decide, lp_in 265 (by decide +kernel) rfl, rfl⟩
theorem kp_D_11 : lp_Fp "LinePatcher$PatchReader" 11 8 5 (.array .int) true := ⟨"LinePatcher$PatchReader", ff_D, 9, ok_D, by decide, lp_in 265 (by decide +kernel) rfl, rfl, rfl, by decide +kernel, fun _ => rfl⟩
theorem kf_D_64 : lp_F "LinePatcher$PatchReader" 64 8 6 := ⟨"LinePatcher$PatchReader", ff_D, 9, rfl, in_D, by decide, lp_in 268 (by decide +kernel) rfl, rfl⟩
theorem kp_D_64 : lp_Fp "LinePatcher$PatchReader" 64 8 6 (.int) false := ⟨"LinePatcher$PatchReader", ff_D, 9, ok_D, by decide, lp_in 268 (by decide +kernel) rfl, rfl, rfl, by decide +kernel, fun h => by cases h⟩
theorem kf_D_15 : lp_F "LinePatcher$PatchReader" 15 8 7 := ⟨"LinePatcher$PatchReader", ff_D, 9, rfl, in_D, by decide, lp_in 269 (by decide +kernel) rfl, rfl⟩
theorem kp_D_15 : lp_Fp "LinePatcher$PatchReader" 15 8 7 (.array .int) true := ⟨"LinePatcher$PatchReader", ff_D, 9, ok_D, by decide, lp_in 269 (by decide +kernel) rfl, rfl, rfl, by decide +kernel, fun _ => rfl⟩
theorem kf_D_67 : lp_F "LinePatcher$PatchReader" 67 8 8 := ⟨"LinePatcher$PatchReader", ff_D, 9, rfl, in_D, by decide, lp_in 272 (by decide +kernel) rfl, rfl⟩
theorem kp_D_67 : lp_Fp "LinePatcher$PatchReader" 67 8 8 (.int) false := ⟨"LinePatcher$PatchReader", ff_D, 9, ok_D, by decide, lp_in 272 (by decide +kernel) rfl, rfl, rfl, by decide +kernel, fun h => by cases h⟩
theorem kf_F_83 : lp_F "LinePatcher$PatchFitter" 83 1 0 := ⟨"LinePatcher$Text", ff_T, 2, rfl, in_T, by decide, lp_in 99 (by decide +kernel) rfl, rfl⟩
theorem kf_F_22 : lp_F "LinePatcher$PatchFitter" 22 1 1 := ⟨"LinePatcher$Text", ff_T, 2, rfl, in_T, by decide, lp_in 103 (by decide +kernel) rfl, rfl⟩
theorem kp_F_22 : lp_Fp "LinePatcher$PatchFitter" 22 1 1 (.int) false := ⟨"LinePatcher$Text", ff_T, 2, ok_T, by decide, lp_in 103 (by decide +kernel) rfl, rfl, rfl, by decide +kernel, fun h => by cases h⟩
theorem kf_F_75 : lp_F "LinePatcher$PatchFitter" 75 8 2 := ⟨"LinePatcher$PatchReader", ff_D, 9, rfl, in_D, by decide, lp_in 261 (by decide +kernel) rfl, rfl⟩
theorem kp_F_75 : lp_Fp "LinePatcher$PatchFitter" 75 8 2 (.int) false := ⟨"LinePatcher$PatchReader", ff_D, 9, ok_D, by decide, lp_in 261 (by decide +kernel) rfl, rfl, rfl, by decide +kernel, fun h => by cases h⟩
theorem kf_F_86 : lp_F "LinePatcher$PatchFitter" 86 8 5 := ⟨"LinePatcher$PatchReader", ff_D, 9, rfl, in_D, by decide, lp_in 266 (by decide +kernel) rfl, rfl⟩
theorem kf_F_45 : lp_F "LinePatcher$PatchFitter" 45 8 6 := ⟨"LinePatcher$PatchReader", ff_D, 9, rfl, in_D, by decide, lp_in 267 (by decide +kernel) rfl, rfl⟩
theorem kp_F_45 : lp_Fp "LinePatcher$PatchFitter" 45 8 6 (.int) false := ⟨"LinePatcher$PatchReader", ff_D, 9, ok_D, by decide, lp_in 267 (by decide +kernel) rfl, rfl, rfl, by decide +kernel, fun h => by cases h⟩
theorem kf_F_59 : lp_F "LinePatcher$PatchFitter" 59 8 7 := ⟨"LinePatcher$PatchReader", ff_D, 9, rfl, in_D, by decide, lp_in 270 (by decide +kernel) rfl, rfl⟩
theorem kf_F_42 : lp_F "LinePatcher$PatchFitter" 42 8 8 := ⟨"LinePatcher$PatchReader", ff_D, 9, rfl, in_D, by decide, lp_in 271 (by decide +kernel) rfl, rfl⟩
theorem kp_F_42 : lp_Fp "LinePatcher$PatchFitter" 42 8 8 (.int) false := ⟨"LinePatcher$PatchReader", ff_D, 9, ok_D, by decide, lp_in 271 (by decide +kernel) rfl, rfl, rfl, by decide +kernel, fun h => by cases h⟩
theorem kf_F_18 : lp_F "LinePatcher$PatchFitter" 18 9 0 := ⟨"LinePatcher$PatchFitter", ff_F, 2, rfl, in_F, by decide, lp_in 300 (by decide +kernel) rfl, rfl⟩
theorem kp_F_18 : lp_Fp "LinePatcher$PatchFitter" 18 9 0 (.object "LinePatcher$PatchReader") true := ⟨"LinePatcher$PatchFitter", ff_F, 2, ok_F, by decide, lp_in 300 (by decide +kernel) rfl, rfl, rfl, by decide +kernel, fun _ => rfl⟩
theorem kf_F_12 : lp_F "LinePatcher$PatchFitter" 12 9 1 := ⟨"LinePatcher$PatchFitter", ff_F, 2, rfl, in_F, by decide, lp_in 301 (by decide +kernel) rfl, rfl⟩
theorem kp_F_12 : lp_Fp "LinePatcher$PatchFitter" 12 9 1 (.object "LinePatcher$Text") true := ⟨"LinePatcher$PatchFitter", ff_F, 2, ok_F, by decide, lp_in 301 (by decide +kernel) rfl, rfl, rfl, by decide +kernel, fun _ => rfl⟩
theorem kf_Q_20 : lp_F "LinePatcher$Part" 20 1 0 := ⟨"LinePatcher$Text", ff_T, 2, rfl, in_T, by decide, lp_in 96 (by decide +kernel) rfl, rfl⟩
theorem kf_Q_7 : lp_F "LinePatcher$Part" 7 10 0 := ⟨"LinePatcher$Part", ff_Q, 3, rfl, in_Q, by decide, lp_in 321 (by decide +kernel) rfl, rfl⟩
theorem kp_Q_7 : lp_Fp "LinePatcher$Part" 7 10 0 (.object "LinePatcher$Text") true := ⟨"LinePatcher$Part", ff_Q, 3, ok_Q, by decide, lp_in 321 (by decide +kernel) rfl, rfl, rfl, by decide +kernel, fun _ => rfl⟩
theorem kf_Q_17 : lp_F "LinePatcher$Part" 17 10 1 := ⟨"LinePatcher$Part", ff_Q, 3, rfl, in_Q, by decide, lp_in 323 (by decide +kernel) rfl, rfl⟩
theorem kp_Q_17 : lp_Fp "LinePatcher$Part" 17 10 1 (.int) false := ⟨"LinePatcher$Part", ff_Q, 3, ok_Q, by decide, lp_in 323 (by decide +kernel) rfl, rfl, rfl, by decide +kernel, fun h => by cases h⟩
theorem kf_Q_13 : lp_F "LinePatcher$Part" 13 10 2 := ⟨"LinePatcher$Part", ff_Q, 3, rfl, in_Q, by decide, lp_in 325 (by decide +kernel) rfl, rfl⟩
theorem kp_Q_13 : lp_Fp "LinePatcher$Part" 13 10 2 (.int) false := ⟨"LinePatcher$Part", ff_Q, 3, ok_Q, by decide, lp_in 325 (by decide +kernel) rfl, rfl, rfl, by decide +kernel, fun h => by cases h⟩
theorem kf_G_84 : lp_F "LinePatcher$Merger" 84 1 0 := ⟨"LinePatcher$Text", ff_T, 2, rfl, in_T, by decide, lp_in 95 (by decide +kernel) rfl, rfl⟩
theorem kf_G_67 : lp_F "LinePatcher$Merger" 67 1 1 := ⟨"LinePatcher$Text", ff_T, 2, rfl, in_T, by decide, lp_in 107 (by decide +kernel) rfl, rfl⟩
theorem kp_G_67 : lp_Fp "LinePatcher$Merger" 67 1 1 (.int) false := ⟨"LinePatcher$Text", ff_T, 2, ok_T, by decide, lp_in 107 (by decide +kernel) rfl, rfl, rfl, by decide +kernel, fun h => by cases h⟩
theorem kf_G_23 : lp_F "LinePatcher$Merger" 23 2 0 := ⟨"LinePatcher$Comparison", ff_C, 4, rfl, in_C, by decide, lp_in 117 (by decide +kernel) rfl, rfl⟩
theorem kf_G_34 : lp_F "LinePatcher$Merger" 34 2 1 := ⟨"LinePatcher$Comparison", ff_C, 4, rfl, in_C, by decide, lp_in 122 (by decide +kernel) rfl, rfl⟩
theorem kf_G_112 : lp_F "LinePatcher$Merger" 112 10 0 := ⟨"LinePatcher$Part", ff_Q, 3, rfl, in_Q, by decide, lp_in 322 (by decide +kernel) rfl, rfl⟩
theorem kf_G_63 : lp_F "LinePatcher$Merger" 63 10 1 := ⟨"LinePatcher$Part", ff_Q, 3, rfl, in_Q, by decide, lp_in 324 (by decide +kernel) rfl, rfl⟩
theorem kp_G_63 : lp_Fp "LinePatcher$Merger" 63 10 1 (.int) false := ⟨"LinePatcher$Part", ff_Q, 3, ok_Q, by decide, lp_in 324 (by decide +kernel) rfl, rfl, rfl, by decide +kernel, fun h => by cases h⟩
theorem kf_G_95 : lp_F "LinePatcher$Merger" 95 10 2 := ⟨"LinePatcher$Part", ff_Q, 3, rfl, in_Q, by decide, lp_in 326 (by decide +kernel) rfl, rfl⟩
theorem kp_G_95 : lp_Fp "LinePatcher$Merger" 95 10 2 (.int) false := ⟨"LinePatcher$Part", ff_Q, 3, ok_Q, by decide, lp_in 326 (by decide +kernel) rfl, rfl, rfl, by decide +kernel, fun h => by cases h⟩
theorem kf_G_49 : lp_F "LinePatcher$Merger" 49 11 0 := ⟨"LinePatcher$Merger", ff_G, 9, rfl, in_G, by decide, lp_in 336 (by decide +kernel) rfl, rfl⟩
theorem kp_G_49 : lp_Fp "LinePatcher$Merger" 49 11 0 (.object "LinePatcher$Shortest") true := ⟨"LinePatcher$Merger", ff_G, 9, ok_G, by decide, lp_in 336 (by decide +kernel) rfl, rfl, rfl, by decide +kernel, fun _ => rfl⟩
theorem kf_G_12 : lp_F "LinePatcher$Merger" 12 11 1 := ⟨"LinePatcher$Merger", ff_G, 9, rfl, in_G, by decide, lp_in 337 (by decide +kernel) rfl, rfl⟩
theorem kp_G_12 : lp_Fp "LinePatcher$Merger" 12 11 1 (.object "LinePatcher$Comparison") true := ⟨"LinePatcher$Merger", ff_G, 9, ok_G, by decide, lp_in 337 (by decide +kernel) rfl, rfl, rfl, by decide +kernel, fun _ => rfl⟩
theorem kf_G_18 : lp_F "LinePatcher$Merger" 18 11 2 := ⟨"LinePatcher$Merger", ff_G, 9, rfl, in_G, by decide, lp_in 338 (by decide +kernel) rfl, rfl⟩
theorem kp_G_18 : lp_Fp "LinePatcher$Merger" 18 11 2 (.object "LinePatcher$Comparison") true := ⟨"LinePatcher$Merger", ff_G, 9, ok_G, by decide, lp_in 338 (by decide +kernel) rfl, rfl, rfl, by decide +kernel, fun _ => rfl⟩
theorem kf_G_30 : lp_F "LinePatcher$Merger" 30 11 3 := ⟨"LinePatcher$Merger", ff_G, 9, rfl, in_G, by decide, lp_in 339 (by decide +kernel) rfl, rfl⟩
theorem kp_G_30 : lp_Fp "LinePatcher$Merger" 30 11 3 (.object "LinePatcher$Part") true := ⟨"LinePatcher$Merger", ff_G, 9, ok_G, by decide, lp_in 339 (by decide +kernel) rfl, rfl, rfl, by decide +kernel, fun _ => rfl⟩
theorem kf_G_37 : lp_F "LinePatcher$Merger" 37 11 4 := ⟨"LinePatcher$Merger", ff_G, 9, rfl, in_G, by decide, lp_in 340 (by decide +kernel) rfl, rfl⟩
theorem kp_G_37 : lp_Fp "LinePatcher$Merger" 37 11 4 (.object "LinePatcher$Part") true := ⟨"LinePatcher$Merger", ff_G, 9, ok_G, by decide, lp_in 340 (by decide +kernel) rfl, rfl, rfl, by decide +kernel, fun _ => rfl⟩
theorem kf_G_40 : lp_F "LinePatcher$Merger" 40 11 5 := ⟨"LinePatcher$Merger", ff_G, 9, rfl, in_G, by decide, lp_in 341 (by decide +kernel) rfl, rfl⟩
theorem kp_G_40 : lp_Fp "LinePatcher$Merger" 40 11 5 (.object "LinePatcher$Part") true := ⟨"LinePatcher$Merger", ff_G, 9, ok_G, by decide, lp_in 341 (by decide +kernel) rfl, rfl, rfl, by decide +kernel, fun _ => rfl⟩
theorem kf_G_46 : lp_F "LinePatcher$Merger" 46 11 6 := ⟨"LinePatcher$Merger", ff_G, 9, rfl, in_G, by decide, lp_in 342 (by decide +kernel) rfl, rfl⟩
theorem kp_G_46 : lp_Fp "LinePatcher$Merger" 46 11 6 (.object "LinePatcher$Text") true := ⟨"LinePatcher$Merger", ff_G, 9, ok_G, by decide, lp_in 342 (by decide +kernel) rfl, rfl, rfl, by decide +kernel, fun _ => rfl⟩
theorem kf_G_70 : lp_F "LinePatcher$Merger" 70 11 7 := ⟨"LinePatcher$Merger", ff_G, 9, rfl, in_G, by decide, lp_in 343 (by decide +kernel) rfl, rfl⟩
theorem kp_G_70 : lp_Fp "LinePatcher$Merger" 70 11 7 (.int) false := ⟨"LinePatcher$Merger", ff_G, 9, ok_G, by decide, lp_in 343 (by decide +kernel) rfl, rfl, rfl, by decide +kernel, fun h => by cases h⟩
theorem kf_G_73 : lp_F "LinePatcher$Merger" 73 11 8 := ⟨"LinePatcher$Merger", ff_G, 9, rfl, in_G, by decide, lp_in 344 (by decide +kernel) rfl, rfl⟩
theorem kp_G_73 : lp_Fp "LinePatcher$Merger" 73 11 8 (.int) false := ⟨"LinePatcher$Merger", ff_G, 9, ok_G, by decide, lp_in 344 (by decide +kernel) rfl, rfl, rfl, by decide +kernel, fun h => by cases h⟩
theorem kf_M_7 : lp_F "LinePatcherModel" 7 12 0 := ⟨"LinePatcherModel", ff_M, 38, rfl, in_M, by decide, lp_in 730 (by decide +kernel) rfl, rfl⟩
theorem kp_M_7 : lp_Fp "LinePatcherModel" 7 12 0 (.array .int) false := ⟨"LinePatcherModel", ff_M, 38, ok_M, by decide, lp_in 730 (by decide +kernel) rfl, rfl, rfl, by decide +kernel, fun h => by cases h⟩
theorem kf_M_13 : lp_F "LinePatcherModel" 13 12 1 := ⟨"LinePatcherModel", ff_M, 38, rfl, in_M, by decide, lp_in 731 (by decide +kernel) rfl, rfl⟩
theorem kp_M_13 : lp_Fp "LinePatcherModel" 13 12 1 (.array .int) false := ⟨"LinePatcherModel", ff_M, 38, ok_M, by decide, lp_in 731 (by decide +kernel) rfl, rfl, rfl, by decide +kernel, fun h => by cases h⟩
theorem kf_M_96 : lp_F "LinePatcherModel" 96 12 2 := ⟨"LinePatcherModel", ff_M, 38, rfl, in_M, by decide, lp_in 732 (by decide +kernel) rfl, rfl⟩
theorem kp_M_96 : lp_Fp "LinePatcherModel" 96 12 2 (.int) false := ⟨"LinePatcherModel", ff_M, 38, ok_M, by decide, lp_in 732 (by decide +kernel) rfl, rfl, rfl, by decide +kernel, fun h => by cases h⟩
theorem kf_M_100 : lp_F "LinePatcherModel" 100 12 3 := ⟨"LinePatcherModel", ff_M, 38, rfl, in_M, by decide, lp_in 733 (by decide +kernel) rfl, rfl⟩
theorem kp_M_100 : lp_Fp "LinePatcherModel" 100 12 3 (.int) false := ⟨"LinePatcherModel", ff_M, 38, ok_M, by decide, lp_in 733 (by decide +kernel) rfl, rfl, rfl, by decide +kernel, fun h => by cases h⟩
theorem kf_M_16 : lp_F "LinePatcherModel" 16 12 4 := ⟨"LinePatcherModel", ff_M, 38, rfl, in_M, by decide, lp_in 734 (by decide +kernel) rfl, rfl⟩
theorem kp_M_16 : lp_Fp "LinePatcherModel" 16 12 4 (.array .int) false := ⟨"LinePatcherModel", ff_M, 38, ok_M, by decide, lp_in 734 (by decide +kernel) rfl, rfl, rfl, by decide +kernel, fun h => by cases h⟩
theorem kf_M_19 : lp_F "LinePatcherModel" 19 12 5 := ⟨"LinePatcherModel", ff_M, 38, rfl, in_M, by decide, lp_in 735 (by decide +kernel) rfl, rfl⟩
theorem kp_M_19 : lp_Fp "LinePatcherModel" 19 12 5 (.array .int) false := ⟨"LinePatcherModel", ff_M, 38, ok_M, by decide, lp_in 735 (by decide +kernel) rfl, rfl, rfl, by decide +kernel, fun h => by cases h⟩
theorem kf_M_22 : lp_F "LinePatcherModel" 22 12 6 := ⟨"LinePatcherModel", ff_M, 38, rfl, in_M, by decide, lp_in 736 (by decide +kernel) rfl, rfl⟩
theorem kp_M_22 : lp_Fp "LinePatcherModel" 22 12 6 (.array .int) false := ⟨"LinePatcherModel", ff_M, 38, ok_M, by decide, lp_in 736 (by decide +kernel) rfl, rfl, rfl, by decide +kernel, fun h => by cases h⟩
theorem kf_M_25 : lp_F "LinePatcherModel" 25 12 7 := ⟨"LinePatcherModel", ff_M, 38, rfl, in_M, by decide, lp_in 737 (by decide +kernel) rfl, rfl⟩
theorem kp_M_25 : lp_Fp "LinePatcherModel" 25 12 7 (.array .int) false := ⟨"LinePatcherModel", ff_M, 38, ok_M, by decide, lp_in 737 (by decide +kernel) rfl, rfl, rfl, by decide +kernel, fun h => by cases h⟩
theorem kf_M_103 : lp_F "LinePatcherModel" 103 12 8 := ⟨"LinePatcherModel", ff_M, 38, rfl, in_M, by decide, lp_in 738 (by decide +kernel) rfl, rfl⟩
theorem kp_M_103 : lp_Fp "LinePatcherModel" 103 12 8 (.int) false := ⟨"LinePatcherModel", ff_M, 38, ok_M, by decide, lp_in 738 (by decide +kernel) rfl, rfl, rfl, by decide +kernel, fun h => by cases h⟩
theorem kf_M_28 : lp_F "LinePatcherModel" 28 12 9 := ⟨"LinePatcherModel", ff_M, 38, rfl, in_M, by decide, lp_in 739 (by decide +kernel) rfl, rfl⟩
theorem kp_M_28 : lp_Fp "LinePatcherModel" 28 12 9 (.array .int) false := ⟨"LinePatcherModel", ff_M, 38, ok_M, by decide, lp_in 739 (by decide +kernel) rfl, rfl, rfl, by decide +kernel, fun h => by cases h⟩
theorem kf_M_31 : lp_F "LinePatcherModel" 31 12 10 := ⟨"LinePatcherModel", ff_M, 38, rfl, in_M, by decide, lp_in 740 (by decide +kernel) rfl, rfl⟩
theorem kp_M_31 : lp_Fp "LinePatcherModel" 31 12 10 (.array .int) false := ⟨"LinePatcherModel", ff_M, 38, ok_M, by decide, lp_in 740 (by decide +kernel) rfl, rfl, rfl, by decide +kernel, fun h => by cases h⟩
theorem kf_M_34 : lp_F "LinePatcherModel" 34 12 11 := ⟨"LinePatcherModel", ff_M, 38, rfl, in_M, by decide, lp_in 741 (by decide +kernel) rfl, rfl⟩
theorem kp_M_34 : lp_Fp "LinePatcherModel" 34 12 11 (.array .int) false := ⟨"LinePatcherModel", ff_M, 38, ok_M, by decide, lp_in 741 (by decide +kernel) rfl, rfl, rfl, by decide +kernel, fun h => by cases h⟩
theorem kf_M_37 : lp_F "LinePatcherModel" 37 12 12 := ⟨"LinePatcherModel", ff_M, 38, rfl, in_M, by decide, lp_in 742 (by decide +kernel) rfl, rfl⟩
theorem kp_M_37 : lp_Fp "LinePatcherModel" 37 12 12 (.array .int) false := ⟨"LinePatcherModel", ff_M, 38, ok_M, by decide, lp_in 742 (by decide +kernel) rfl, rfl, rfl, by decide +kernel, fun h => by cases h⟩
theorem kf_M_40 : lp_F "LinePatcherModel" 40 12 13 := ⟨"LinePatcherModel", ff_M, 38, rfl, in_M, by decide, lp_in 743 (by decide +kernel) rfl, rfl⟩
theorem kp_M_40 : lp_Fp "LinePatcherModel" 40 12 13 (.array .int) false := ⟨"LinePatcherModel", ff_M, 38, ok_M, by decide, lp_in 743 (by decide +kernel) rfl, rfl, rfl, by decide +kernel, fun h => by cases h⟩
theorem kf_M_43 : lp_F "LinePatcherModel" 43 12 14 := ⟨"LinePatcherModel", ff_M, 38, rfl, in_M, by decide, lp_in 744 (by decide +kernel) rfl, rfl⟩
theorem kp_M_43 : lp_Fp "LinePatcherModel" 43 12 14 (.array .int) false := ⟨"LinePatcherModel", ff_M, 38, ok_M, by decide, lp_in 744 (by decide +kernel) rfl, rfl, rfl, by decide +kernel, fun h => by cases h⟩
theorem kf_M_135 : lp_F "LinePatcherModel" 135 12 15 := ⟨"LinePatcherModel", ff_M, 38, rfl, in_M, by decide, lp_in 745 (by decide +kernel) rfl, rfl⟩
theorem kp_M_135 : lp_Fp "LinePatcherModel" 135 12 15 (.boolean) false := ⟨"LinePatcherModel", ff_M, 38, ok_M, by decide, lp_in 745 (by decide +kernel) rfl, rfl, rfl, by decide +kernel, fun h => by cases h⟩
theorem kf_M_139 : lp_F "LinePatcherModel" 139 12 16 := ⟨"LinePatcherModel", ff_M, 38, rfl, in_M, by decide, lp_in 746 (by decide +kernel) rfl, rfl⟩
theorem kp_M_139 : lp_Fp "LinePatcherModel" 139 12 16 (.int) false := ⟨"LinePatcherModel", ff_M, 38, ok_M, by decide, lp_in 746 (by decide +kernel) rfl, rfl, rfl, by decide +kernel, fun h => by cases h⟩
theorem kf_M_142 : lp_F "LinePatcherModel" 142 12 17 := ⟨"LinePatcherModel", ff_M, 38, rfl, in_M, by decide, lp_in 747 (by decide +kernel) rfl, rfl⟩
theorem kp_M_142 : lp_Fp "LinePatcherModel" 142 12 17 (.int) false := ⟨"LinePatcherModel", ff_M, 38, ok_M, by decide, lp_in 747 (by decide +kernel) rfl, rfl, rfl, by decide +kernel, fun h => by cases h⟩
theorem kf_M_46 : lp_F "LinePatcherModel" 46 12 18 := ⟨"LinePatcherModel", ff_M, 38, rfl, in_M, by decide, lp_in 748 (by decide +kernel) rfl, rfl⟩
theorem kp_M_46 : lp_Fp "LinePatcherModel" 46 12 18 (.array .int) false := ⟨"LinePatcherModel", ff_M, 38, ok_M, by decide, lp_in 748 (by decide +kernel) rfl, rfl, rfl, by decide +kernel, fun h => by cases h⟩
theorem kf_M_49 : lp_F "LinePatcherModel" 49 12 19 := ⟨"LinePatcherModel", ff_M, 38, rfl, in_M, by decide, lp_in 749 (by decide +kernel) rfl, rfl⟩
theorem kp_M_49 : lp_Fp "LinePatcherModel" 49 12 19 (.array .int) false := ⟨"LinePatcherModel", ff_M, 38, ok_M, by decide, lp_in 749 (by decide +kernel) rfl, rfl, rfl, by decide +kernel, fun h => by cases h⟩
theorem kf_M_52 : lp_F "LinePatcherModel" 52 12 20 := ⟨"LinePatcherModel", ff_M, 38, rfl, in_M, by decide, lp_in 750 (by decide +kernel) rfl, rfl⟩
theorem kp_M_52 : lp_Fp "LinePatcherModel" 52 12 20 (.array .int) false := ⟨"LinePatcherModel", ff_M, 38, ok_M, by decide, lp_in 750 (by decide +kernel) rfl, rfl, rfl, by decide +kernel, fun h => by cases h⟩
theorem kf_M_145 : lp_F "LinePatcherModel" 145 12 21 := ⟨"LinePatcherModel", ff_M, 38, rfl, in_M, by decide, lp_in 751 (by decide +kernel) rfl, rfl⟩
theorem kp_M_145 : lp_Fp "LinePatcherModel" 145 12 21 (.int) false := ⟨"LinePatcherModel", ff_M, 38, ok_M, by decide, lp_in 751 (by decide +kernel) rfl, rfl, rfl, by decide +kernel, fun h => by cases h⟩
theorem kf_M_55 : lp_F "LinePatcherModel" 55 12 22 := ⟨"LinePatcherModel", ff_M, 38, rfl, in_M, by decide, lp_in 752 (by decide +kernel) rfl, rfl⟩
theorem kp_M_55 : lp_Fp "LinePatcherModel" 55 12 22 (.array .int) false := ⟨"LinePatcherModel", ff_M, 38, ok_M, by decide, lp_in 752 (by decide +kernel) rfl, rfl, rfl, by decide +kernel, fun h => by cases h⟩
theorem kf_M_58 : lp_F "LinePatcherModel" 58 12 23 := ⟨"LinePatcherModel", ff_M, 38, rfl, in_M, by decide, lp_in 753 (by decide +kernel) rfl, rfl⟩
theorem kp_M_58 : lp_Fp "LinePatcherModel" 58 12 23 (.array .int) false := ⟨"LinePatcherModel", ff_M, 38, ok_M, by decide, lp_in 753 (by decide +kernel) rfl, rfl, rfl, by decide +kernel, fun h => by cases h⟩
theorem kf_M_151 : lp_F "LinePatcherModel" 151 12 24 := ⟨"LinePatcherModel", ff_M, 38, rfl, in_M, by decide, lp_in 754 (by decide +kernel) rfl, rfl⟩
theorem kp_M_151 : lp_Fp "LinePatcherModel" 151 12 24 (.int) false := ⟨"LinePatcherModel", ff_M, 38, ok_M, by decide, lp_in 754 (by decide +kernel) rfl, rfl, rfl, by decide +kernel, fun h => by cases h⟩
theorem kf_M_61 : lp_F "LinePatcherModel" 61 12 25 := ⟨"LinePatcherModel", ff_M, 38, rfl, in_M, by decide, lp_in 755 (by decide +kernel) rfl, rfl⟩
theorem kp_M_61 : lp_Fp "LinePatcherModel" 61 12 25 (.array .int) false := ⟨"LinePatcherModel", ff_M, 38, ok_M, by decide, lp_in 755 (by decide +kernel) rfl, rfl, rfl, by decide +kernel, fun h => by cases h⟩
theorem kf_M_187 : lp_F "LinePatcherModel" 187 12 26 := ⟨"LinePatcherModel", ff_M, 38, rfl, in_M, by decide, lp_in 756 (by decide +kernel) rfl, rfl⟩
theorem kp_M_187 : lp_Fp "LinePatcherModel" 187 12 26 (.int) false := ⟨"LinePatcherModel", ff_M, 38, ok_M, by decide, lp_in 756 (by decide +kernel) rfl, rfl, rfl, by decide +kernel, fun h => by cases h⟩
theorem kf_M_64 : lp_F "LinePatcherModel" 64 12 27 := ⟨"LinePatcherModel", ff_M, 38, rfl, in_M, by decide, lp_in 757 (by decide +kernel) rfl, rfl⟩
theorem kp_M_64 : lp_Fp "LinePatcherModel" 64 12 27 (.array .int) false := ⟨"LinePatcherModel", ff_M, 38, ok_M, by decide, lp_in 757 (by decide +kernel) rfl, rfl, rfl, by decide +kernel, fun h => by cases h⟩
theorem kf_M_67 : lp_F "LinePatcherModel" 67 12 28 := ⟨"LinePatcherModel", ff_M, 38, rfl, in_M, by decide, lp_in 758 (by decide +kernel) rfl, rfl⟩
theorem kp_M_67 : lp_Fp "LinePatcherModel" 67 12 28 (.array .int) false := ⟨"LinePatcherModel", ff_M, 38, ok_M, by decide, lp_in 758 (by decide +kernel) rfl, rfl, rfl, by decide +kernel, fun h => by cases h⟩
theorem kf_M_70 : lp_F "LinePatcherModel" 70 12 29 := ⟨"LinePatcherModel", ff_M, 38, rfl, in_M, by decide, lp_in 759 (by decide +kernel) rfl, rfl⟩
theorem kp_M_70 : lp_Fp "LinePatcherModel" 70 12 29 (.array .int) false := ⟨"LinePatcherModel", ff_M, 38, ok_M, by decide, lp_in 759 (by decide +kernel) rfl, rfl, rfl, by decide +kernel, fun h => by cases h⟩
theorem kf_M_73 : lp_F "LinePatcherModel" 73 12 30 := ⟨"LinePatcherModel", ff_M, 38, rfl, in_M, by decide, lp_in 760 (by decide +kernel) rfl, rfl⟩
theorem kp_M_73 : lp_Fp "LinePatcherModel" 73 12 30 (.array .int) false := ⟨"LinePatcherModel", ff_M, 38, ok_M, by decide, lp_in 760 (by decide +kernel) rfl, rfl, rfl, by decide +kernel, fun h => by cases h⟩
theorem kf_M_76 : lp_F "LinePatcherModel" 76 12 31 := ⟨"LinePatcherModel", ff_M, 38, rfl, in_M, by decide, lp_in 761 (by decide +kernel) rfl, rfl⟩
theorem kp_M_76 : lp_Fp "LinePatcherModel" 76 12 31 (.array .int) false := ⟨"LinePatcherModel", ff_M, 38, ok_M, by decide, lp_in 761 (by decide +kernel) rfl, rfl, rfl, by decide +kernel, fun h => by cases h⟩
theorem kf_M_79 : lp_F "LinePatcherModel" 79 12 32 := ⟨"LinePatcherModel", ff_M, 38, rfl, in_M, by decide, lp_in 762 (by decide +kernel) rfl, rfl⟩
theorem kp_M_79 : lp_Fp "LinePatcherModel" 79 12 32 (.array .int) false := ⟨"LinePatcherModel", ff_M, 38, ok_M, by decide, lp_in 762 (by decide +kernel) rfl, rfl, rfl, by decide +kernel, fun h => by cases h⟩
theorem kf_M_174 : lp_F "LinePatcherModel" 174 12 33 := ⟨"LinePatcherModel", ff_M, 38, rfl, in_M, by decide, lp_in 763 (by decide +kernel) rfl, rfl⟩
theorem kp_M_174 : lp_Fp "LinePatcherModel" 174 12 33 (.int) false := ⟨"LinePatcherModel", ff_M, 38, ok_M, by decide, lp_in 763 (by decide +kernel) rfl, rfl, rfl, by decide +kernel, fun h => by cases h⟩
theorem kf_M_177 : lp_F "LinePatcherModel" 177 12 34 := ⟨"LinePatcherModel", ff_M, 38, rfl, in_M, by decide, lp_in 764 (by decide +kernel) rfl, rfl⟩
theorem kp_M_177 : lp_Fp "LinePatcherModel" 177 12 34 (.boolean) false := ⟨"LinePatcherModel", ff_M, 38, ok_M, by decide, lp_in 764 (by decide +kernel) rfl, rfl, rfl, by decide +kernel, fun h => by cases h⟩
theorem kf_M_199 : lp_F "LinePatcherModel" 199 12 35 := ⟨"LinePatcherModel", ff_M, 38, rfl, in_M, by decide, lp_in 765 (by decide +kernel) rfl, rfl⟩
theorem kp_M_199 : lp_Fp "LinePatcherModel" 199 12 35 (.int) false := ⟨"LinePatcherModel", ff_M, 38, ok_M, by decide, lp_in 765 (by decide +kernel) rfl, rfl, rfl, by decide +kernel, fun h => by cases h⟩
theorem kf_M_82 : lp_F "LinePatcherModel" 82 12 36 := ⟨"LinePatcherModel", ff_M, 38, rfl, in_M, by decide, lp_in 766 (by decide +kernel) rfl, rfl⟩
theorem kp_M_82 : lp_Fp "LinePatcherModel" 82 12 36 (.array .int) false := ⟨"LinePatcherModel", ff_M, 38, ok_M, by decide, lp_in 766 (by decide +kernel) rfl, rfl, rfl, by decide +kernel, fun h => by cases h⟩
theorem kf_M_85 : lp_F "LinePatcherModel" 85 12 37 := ⟨"LinePatcherModel", ff_M, 38, rfl, in_M, by decide, lp_in 767 (by decide +kernel) rfl, rfl⟩
theorem kp_M_85 : lp_Fp "LinePatcherModel" 85 12 37 (.array .int) false := ⟨"LinePatcherModel", ff_M, 38, ok_M, by decide, lp_in 767 (by decide +kernel) rfl, rfl, rfl, by decide +kernel, fun h => by cases h⟩
theorem kc_L_9 : lp_cI "LinePatcherLaw" 9 um_P_init 0 := ⟨k0_P_init, lp_in 74 (by decide +kernel) rfl, lp_in 75 (by decide +kernel) rfl, rfl, rfl⟩
theorem kc_P_31 : lp_cI "LinePatcher" 31 um_O_init 1 := ⟨k0_O_init, lp_in 185 (by decide +kernel) rfl, lp_in 186 (by decide +kernel) rfl, rfl, rfl⟩
theorem kc_P_47 : lp_cI "LinePatcher" 47 um_W_init 2 := ⟨k0_W_init, lp_in 234 (by decide +kernel) rfl, lp_in 235 (by decide +kernel) rfl, rfl, rfl⟩
theorem kc_P_56 : lp_cI "LinePatcher" 56 um_D_init 1 := ⟨k0_D_init, lp_in 255 (by decide +kernel) rfl, lp_in 256 (by decide +kernel) rfl, rfl, rfl⟩
theorem kc_P_65 : lp_cI "LinePatcher" 65 um_F_init 1 := ⟨k0_F_init, lp_in 294 (by decide +kernel) rfl, lp_in 295 (by decide +kernel) rfl, rfl, rfl⟩
theorem kc_P_74 : lp_cI "LinePatcher" 74 um_G_init 1 := ⟨k0_G_init, lp_in 309 (by decide +kernel) rfl, lp_in 310 (by decide +kernel) rfl, rfl, rfl⟩
theorem kc_G_27 : lp_cI "LinePatcher$Merger" 27 um_Q_init 1 := ⟨k0_Q_init, lp_in 317 (by decide +kernel) rfl, lp_in 318 (by decide +kernel) rfl, rfl, rfl⟩
theorem kc_L_15 : lp_cV "LinePatcherLaw" 15 um_P_add 3 := ⟨k0_P_add, lp_in 396 (by decide +kernel) rfl, lp_in 397 (by decide +kernel) rfl, lp_in 398 (by decide +kernel) rfl⟩
theorem kc_P_80 : lp_cS "LinePatcher" 80 um_P_isText 1 := ⟨k0_P_isText, lp_in 400 (by decide +kernel) rfl, lp_in 401 (by decide +kernel) rfl⟩
theorem kc_P_84 : lp_cS "LinePatcher" 84 um_P_areLetters 2 := ⟨k0_P_areLetters, lp_in 403 (by decide +kernel) rfl, lp_in 404 (by decide +kernel) rfl⟩
theorem kc_P_92 : lp_cS "LinePatcher" 92 um_P_byteOf 2 := ⟨k0_P_byteOf, lp_in 406 (by decide +kernel) rfl, lp_in 407 (by decide +kernel) rfl⟩
theorem kc_P_154 : lp_cS "LinePatcher" 154 um_P_isLetter 1 := ⟨k0_P_isLetter, lp_in 410 (by decide +kernel) rfl, lp_in 411 (by decide +kernel) rfl⟩
theorem kc_P_96 : lp_cV "LinePatcher" 96 um_T_append 1 := ⟨k0_T_append, lp_in 413 (by decide +kernel) rfl, lp_in 414 (by decide +kernel) rfl, lp_in 415 (by decide +kernel) rfl⟩
theorem kc_L_20 : lp_cV "LinePatcherLaw" 20 um_P_clear 1 := ⟨k0_P_clear, lp_in 417 (by decide +kernel) rfl, lp_in 418 (by decide +kernel) rfl, lp_in 419 (by decide +kernel) rfl⟩
theorem kc_L_25 : lp_cV "LinePatcherLaw" 25 um_P_size 1 := ⟨k0_P_size, lp_in 421 (by decide +kernel) rfl, lp_in 422 (by decide +kernel) rfl, lp_in 423 (by decide +kernel) rfl⟩
theorem kc_L_29 : lp_cV "LinePatcherLaw" 29 um_P_line 2 := ⟨k0_P_line, lp_in 425 (by decide +kernel) rfl, lp_in 426 (by decide +kernel) rfl, lp_in 427 (by decide +kernel) rfl⟩
theorem kc_L_34 : lp_cV "LinePatcherLaw" 34 um_P_compare 3 := ⟨k0_P_compare, lp_in 429 (by decide +kernel) rfl, lp_in 430 (by decide +kernel) rfl, lp_in 431 (by decide +kernel) rfl⟩
theorem kc_P_104 : lp_cV "LinePatcher" 104 um_T_hasOnlyLetters 0 := ⟨k0_T_hasOnlyLetters, lp_in 433 (by decide +kernel) rfl, lp_in 434 (by decide +kernel) rfl, lp_in 435 (by decide +kernel) rfl⟩
theorem kc_P_108 : lp_cV "LinePatcher" 108 um_C_begin 2 := ⟨k0_C_begin, lp_in 438 (by decide +kernel) rfl, lp_in 439 (by decide +kernel) rfl, lp_in 440 (by decide +kernel) rfl⟩
theorem kc_C_25 : lp_cV "LinePatcher$Comparison" 25 um_T_become 1 := ⟨k0_T_become, lp_in 442 (by decide +kernel) rfl, lp_in 443 (by decide +kernel) rfl, lp_in 444 (by decide +kernel) rfl⟩
theorem kc_T_23 : lp_cV "LinePatcher$Text" 23 um_T_appendPart 3 := ⟨k0_T_appendPart, lp_in 446 (by decide +kernel) rfl, lp_in 447 (by decide +kernel) rfl, lp_in 448 (by decide +kernel) rfl⟩
theorem kc_T_19 : lp_cV "LinePatcher$Text" 19 um_T_append 1 := ⟨k0_T_append, lp_in 450 (by decide +kernel) rfl, lp_in 414 (by decide +kernel) rfl, lp_in 415 (by decide +kernel) rfl⟩
theorem kc_P_112 : lp_cV "LinePatcher" 112 um_S_matchTexts 1 := ⟨k0_S_matchTexts, lp_in 451 (by decide +kernel) rfl, lp_in 452 (by decide +kernel) rfl, lp_in 453 (by decide +kernel) rfl⟩
theorem kc_S_38 : lp_cV "LinePatcher$Shortest" 38 um_R_span 4 := ⟨k0_R_span, lp_in 455 (by decide +kernel) rfl, lp_in 456 (by decide +kernel) rfl, lp_in 457 (by decide +kernel) rfl⟩
theorem kc_S_42 : lp_cV "LinePatcher$Shortest" 42 um_S_matchRange 2 := ⟨k0_S_matchRange, lp_in 459 (by decide +kernel) rfl, lp_in 460 (by decide +kernel) rfl, lp_in 461 (by decide +kernel) rfl⟩
theorem kc_S_46 : lp_cV "LinePatcher$Shortest" 46 um_S_countMost 2 := ⟨k0_S_countMost, lp_in 463 (by decide +kernel) rfl, lp_in 465 (by decide +kernel) rfl, lp_in 0 (by decide +kernel) rfl⟩
theorem kc_S_59 : lp_cV "LinePatcher$Shortest" 59 um_C_areEqual 2 := ⟨k0_C_areEqual, lp_in 467 (by decide +kernel) rfl, lp_in 468 (by decide +kernel) rfl, lp_in 469 (by decide +kernel) rfl⟩
theorem kc_S_63 : lp_cV "LinePatcher$Shortest" 63 um_C_pair 2 := ⟨k0_C_pair, lp_in 474 (by decide +kernel) rfl, lp_in 475 (by decide +kernel) rfl, lp_in 476 (by decide +kernel) rfl⟩
theorem kc_P_116 : lp_cV "LinePatcher" 116 um_O_matchTexts 1 := ⟨k0_O_matchTexts, lp_in 478 (by decide +kernel) rfl, lp_in 479 (by decide +kernel) rfl, lp_in 480 (by decide +kernel) rfl⟩
theorem kc_O_50 : lp_cV "LinePatcher$StandingOut" 50 um_O_keepForLater 4 := ⟨k0_O_keepForLater, lp_in 482 (by decide +kernel) rfl, lp_in 484 (by decide +kernel) rfl, lp_in 1 (by decide +kernel) rfl⟩
theorem kc_O_58 : lp_cV "LinePatcher$StandingOut" 58 um_R_span 4 := ⟨k0_R_span, lp_in 486 (by decide +kernel) rfl, lp_in 456 (by decide +kernel) rfl, lp_in 457 (by decide +kernel) rfl⟩
theorem kc_O_54 : lp_cV "LinePatcher$StandingOut" 54 um_O_matchRange 2 := ⟨k0_O_matchRange, lp_in 487 (by decide +kernel) rfl, lp_in 489 (by decide +kernel) rfl, lp_in 2 (by decide +kernel) rfl⟩
theorem kc_O_61 : lp_cV "LinePatcher$StandingOut" 61 um_O_matchBeginning 2 := ⟨k0_O_matchBeginning, lp_in 491 (by decide +kernel) rfl, lp_in 493 (by decide +kernel) rfl, lp_in 3 (by decide +kernel) rfl⟩
theorem kc_O_94 : lp_cV "LinePatcher$StandingOut" 94 um_C_areEqual 2 := ⟨k0_C_areEqual, lp_in 495 (by decide +kernel) rfl, lp_in 468 (by decide +kernel) rfl, lp_in 469 (by decide +kernel) rfl⟩
theorem kc_O_98 : lp_cV "LinePatcher$StandingOut" 98 um_C_pair 2 := ⟨k0_C_pair, lp_in 496 (by decide +kernel) rfl, lp_in 475 (by decide +kernel) rfl, lp_in 476 (by decide +kernel) rfl⟩
theorem kc_O_64 : lp_cV "LinePatcher$StandingOut" 64 um_O_matchEnd 2 := ⟨k0_O_matchEnd, lp_in 497 (by decide +kernel) rfl, lp_in 499 (by decide +kernel) rfl, lp_in 4 (by decide +kernel) rfl⟩
theorem kc_O_67 : lp_cV "LinePatcher$StandingOut" 67 um_O_findPairs 2 := ⟨k0_O_findPairs, lp_in 501 (by decide +kernel) rfl, lp_in 503 (by decide +kernel) rfl, lp_in 5 (by decide +kernel) rfl⟩
theorem kc_O_105 : lp_cV "LinePatcher$StandingOut" 105 um_T_onlyPlace 3 := ⟨k0_T_onlyPlace, lp_in 505 (by decide +kernel) rfl, lp_in 506 (by decide +kernel) rfl, lp_in 507 (by decide +kernel) rfl⟩
theorem kc_O_73 : lp_cV "LinePatcher$StandingOut" 73 um_S_matchRange 2 := ⟨k0_S_matchRange, lp_in 509 (by decide +kernel) rfl, lp_in 460 (by decide +kernel) rfl, lp_in 461 (by decide +kernel) rfl⟩
theorem kc_O_76 : lp_cV "LinePatcher$StandingOut" 76 um_O_rankPairs 0 := ⟨k0_O_rankPairs, lp_in 510 (by decide +kernel) rfl, lp_in 512 (by decide +kernel) rfl, lp_in 6 (by decide +kernel) rfl⟩
theorem kc_O_80 : lp_cV "LinePatcher$StandingOut" 80 um_O_matchAnchors 3 := ⟨k0_O_matchAnchors, lp_in 515 (by decide +kernel) rfl, lp_in 517 (by decide +kernel) rfl, lp_in 7 (by decide +kernel) rfl⟩
theorem kc_P_121 : lp_cV "LinePatcher" 121 um_C_linesChanged 0 := ⟨k0_C_linesChanged, lp_in 519 (by decide +kernel) rfl, lp_in 520 (by decide +kernel) rfl, lp_in 521 (by decide +kernel) rfl⟩
theorem kc_L_39 : lp_cV "LinePatcherLaw" 39 um_P_match 1 := ⟨k0_P_match, lp_in 523 (by decide +kernel) rfl, lp_in 524 (by decide +kernel) rfl, lp_in 525 (by decide +kernel) rfl⟩
theorem kc_P_125 : lp_cV "LinePatcher" 125 um_C_partnerOf 1 := ⟨k0_C_partnerOf, lp_in 527 (by decide +kernel) rfl, lp_in 528 (by decide +kernel) rfl, lp_in 529 (by decide +kernel) rfl⟩
theorem kc_L_43 : lp_cV "LinePatcherLaw" 43 um_P_write 1 := ⟨k0_P_write, lp_in 531 (by decide +kernel) rfl, lp_in 532 (by decide +kernel) rfl, lp_in 533 (by decide +kernel) rfl⟩
theorem kc_P_129 : lp_cV "LinePatcher" 129 um_W_writePatch 1 := ⟨k0_W_writePatch, lp_in 535 (by decide +kernel) rfl, lp_in 536 (by decide +kernel) rfl, lp_in 537 (by decide +kernel) rfl⟩
theorem kc_W_26 : lp_cV "LinePatcher$PatchWriter" 26 um_W_findChanges 0 := ⟨k0_W_findChanges, lp_in 539 (by decide +kernel) rfl, lp_in 541 (by decide +kernel) rfl, lp_in 8 (by decide +kernel) rfl⟩
theorem kc_W_57 : lp_cV "LinePatcher$PatchWriter" 57 um_C_partnerOf 1 := ⟨k0_C_partnerOf, lp_in 543 (by decide +kernel) rfl, lp_in 528 (by decide +kernel) rfl, lp_in 529 (by decide +kernel) rfl⟩
theorem kc_W_60 : lp_cV "LinePatcher$PatchWriter" 60 um_W_keepChange 4 := ⟨k0_W_keepChange, lp_in 544 (by decide +kernel) rfl, lp_in 546 (by decide +kernel) rfl, lp_in 9 (by decide +kernel) rfl⟩
theorem kc_W_67 : lp_cV "LinePatcher$PatchWriter" 67 um_R_span 4 := ⟨k0_R_span, lp_in 548 (by decide +kernel) rfl, lp_in 456 (by decide +kernel) rfl, lp_in 457 (by decide +kernel) rfl⟩
theorem kc_W_38 : lp_cV "LinePatcher$PatchWriter" 38 um_W_matchedBehind 1 := ⟨k0_W_matchedBehind, lp_in 549 (by decide +kernel) rfl, lp_in 551 (by decide +kernel) rfl, lp_in 10 (by decide +kernel) rfl⟩
theorem kc_W_42 : lp_cV "LinePatcher$PatchWriter" 42 um_W_writeHunk 3 := ⟨k0_W_writeHunk, lp_in 553 (by decide +kernel) rfl, lp_in 555 (by decide +kernel) rfl, lp_in 11 (by decide +kernel) rfl⟩
theorem kc_W_75 : lp_cV "LinePatcher$PatchWriter" 75 um_W_matchedBefore 1 := ⟨k0_W_matchedBefore, lp_in 557 (by decide +kernel) rfl, lp_in 559 (by decide +kernel) rfl, lp_in 12 (by decide +kernel) rfl⟩
theorem kc_W_89 : lp_cV "LinePatcher$PatchWriter" 89 um_W_writeHead 4 := ⟨k0_W_writeHead, lp_in 564 (by decide +kernel) rfl, lp_in 566 (by decide +kernel) rfl, lp_in 13 (by decide +kernel) rfl⟩
theorem kc_W_96 : lp_cV "LinePatcher$PatchWriter" 96 um_A_append 1 := ⟨k0_A_append, lp_in 568 (by decide +kernel) rfl, lp_in 569 (by decide +kernel) rfl, lp_in 570 (by decide +kernel) rfl⟩
theorem kc_W_100 : lp_cV "LinePatcher$PatchWriter" 100 um_A_appendNumber 1 := ⟨k0_A_appendNumber, lp_in 572 (by decide +kernel) rfl, lp_in 573 (by decide +kernel) rfl, lp_in 574 (by decide +kernel) rfl⟩
theorem kc_A_19 : lp_cV "LinePatcher$Paper" 19 um_A_append 1 := ⟨k0_A_append, lp_in 576 (by decide +kernel) rfl, lp_in 569 (by decide +kernel) rfl, lp_in 570 (by decide +kernel) rfl⟩
theorem kc_W_92 : lp_cV "LinePatcher$PatchWriter" 92 um_W_writeLines 4 := ⟨k0_W_writeLines, lp_in 577 (by decide +kernel) rfl, lp_in 579 (by decide +kernel) rfl, lp_in 14 (by decide +kernel) rfl⟩
theorem kc_W_107 : lp_cV "LinePatcher$PatchWriter" 107 um_A_appendLine 2 := ⟨k0_A_appendLine, lp_in 581 (by decide +kernel) rfl, lp_in 582 (by decide +kernel) rfl, lp_in 583 (by decide +kernel) rfl⟩
theorem kc_L_47 : lp_cV "LinePatcherLaw" 47 um_P_type 2 := ⟨k0_P_type, lp_in 585 (by decide +kernel) rfl, lp_in 586 (by decide +kernel) rfl, lp_in 587 (by decide +kernel) rfl⟩
theorem kc_P_135 : lp_cV "LinePatcher" 135 um_A_append 1 := ⟨k0_A_append, lp_in 589 (by decide +kernel) rfl, lp_in 569 (by decide +kernel) rfl, lp_in 570 (by decide +kernel) rfl⟩
theorem kc_L_52 : lp_cV "LinePatcherLaw" 52 um_P_wipe 0 := ⟨k0_P_wipe, lp_in 590 (by decide +kernel) rfl, lp_in 591 (by decide +kernel) rfl, lp_in 592 (by decide +kernel) rfl⟩
theorem kc_L_57 : lp_cV "LinePatcherLaw" 57 um_P_character 1 := ⟨k0_P_character, lp_in 594 (by decide +kernel) rfl, lp_in 595 (by decide +kernel) rfl, lp_in 596 (by decide +kernel) rfl⟩
theorem kc_L_61 : lp_cV "LinePatcherLaw" 61 um_P_read 0 := ⟨k0_P_read, lp_in 598 (by decide +kernel) rfl, lp_in 599 (by decide +kernel) rfl, lp_in 600 (by decide +kernel) rfl⟩
theorem kc_P_139 : lp_cV "LinePatcher" 139 um_D_placeOfFailure 0 := ⟨k0_D_placeOfFailure, lp_in 602 (by decide +kernel) rfl, lp_in 603 (by decide +kernel) rfl, lp_in 604 (by decide +kernel) rfl⟩
theorem kc_D_22 : lp_cV "LinePatcher$PatchReader" 22 um_D_goToBeginning 0 := ⟨k0_D_goToBeginning, lp_in 606 (by decide +kernel) rfl, lp_in 607 (by decide +kernel) rfl, lp_in 608 (by decide +kernel) rfl⟩
theorem kc_D_25 : lp_cV "LinePatcher$PatchReader" 25 um_D_hasMore 0 := ⟨k0_D_hasMore, lp_in 610 (by decide +kernel) rfl, lp_in 611 (by decide +kernel) rfl, lp_in 612 (by decide +kernel) rfl⟩
theorem kc_D_29 : lp_cV "LinePatcher$PatchReader" 29 um_D_takeHunk 0 := ⟨k0_D_takeHunk, lp_in 614 (by decide +kernel) rfl, lp_in 615 (by decide +kernel) rfl, lp_in 616 (by decide +kernel) rfl⟩
theorem kc_D_41 : lp_cV "LinePatcher$PatchReader" 41 um_D_takeHead 0 := ⟨k0_D_takeHead, lp_in 618 (by decide +kernel) rfl, lp_in 620 (by decide +kernel) rfl, lp_in 15 (by decide +kernel) rfl⟩
theorem kc_D_47 : lp_cV "LinePatcher$PatchReader" 47 um_D_takeSign 1 := ⟨k0_D_takeSign, lp_in 622 (by decide +kernel) rfl, lp_in 624 (by decide +kernel) rfl, lp_in 16 (by decide +kernel) rfl⟩
theorem kc_D_76 : lp_cV "LinePatcher$PatchReader" 76 um_D_here 0 := ⟨k0_D_here, lp_in 626 (by decide +kernel) rfl, lp_in 628 (by decide +kernel) rfl, lp_in 17 (by decide +kernel) rfl⟩
theorem kc_D_51 : lp_cV "LinePatcher$PatchReader" 51 um_D_takeNumber 0 := ⟨k0_D_takeNumber, lp_in 630 (by decide +kernel) rfl, lp_in 632 (by decide +kernel) rfl, lp_in 18 (by decide +kernel) rfl⟩
theorem kc_D_82 : lp_cS "LinePatcher$PatchReader" 82 um_D_isDigit 1 := ⟨k0_D_isDigit, lp_in 634 (by decide +kernel) rfl, lp_in 635 (by decide +kernel) rfl⟩
theorem kc_D_44 : lp_cV "LinePatcher$PatchReader" 44 um_D_takeLines 0 := ⟨k0_D_takeLines, lp_in 637 (by decide +kernel) rfl, lp_in 639 (by decide +kernel) rfl, lp_in 19 (by decide +kernel) rfl⟩
theorem kc_D_70 : lp_cV "LinePatcher$PatchReader" 70 um_D_hasLinesDue 0 := ⟨k0_D_hasLinesDue, lp_in 641 (by decide +kernel) rfl, lp_in 643 (by decide +kernel) rfl, lp_in 20 (by decide +kernel) rfl⟩
theorem kc_D_73 : lp_cV "LinePatcher$PatchReader" 73 um_D_takeLine 0 := ⟨k0_D_takeLine, lp_in 645 (by decide +kernel) rfl, lp_in 647 (by decide +kernel) rfl, lp_in 21 (by decide +kernel) rfl⟩
theorem kc_L_65 : lp_cV "LinePatcherLaw" 65 um_P_apply 1 := ⟨k0_P_apply, lp_in 650 (by decide +kernel) rfl, lp_in 651 (by decide +kernel) rfl, lp_in 652 (by decide +kernel) rfl⟩
theorem kc_P_142 : lp_cV "LinePatcher" 142 um_F_patch 1 := ⟨k0_F_patch, lp_in 654 (by decide +kernel) rfl, lp_in 655 (by decide +kernel) rfl, lp_in 656 (by decide +kernel) rfl⟩
theorem kc_F_26 : lp_cV "LinePatcher$PatchFitter" 26 um_D_goToBeginning 0 := ⟨k0_D_goToBeginning, lp_in 658 (by decide +kernel) rfl, lp_in 607 (by decide +kernel) rfl, lp_in 608 (by decide +kernel) rfl⟩
theorem kc_F_31 : lp_cV "LinePatcher$PatchFitter" 31 um_D_hasMore 0 := ⟨k0_D_hasMore, lp_in 659 (by decide +kernel) rfl, lp_in 611 (by decide +kernel) rfl, lp_in 612 (by decide +kernel) rfl⟩
theorem kc_F_35 : lp_cV "LinePatcher$PatchFitter" 35 um_D_takeHunk 0 := ⟨k0_D_takeHunk, lp_in 660 (by decide +kernel) rfl, lp_in 615 (by decide +kernel) rfl, lp_in 616 (by decide +kernel) rfl⟩
theorem kc_F_38 : lp_cV "LinePatcher$PatchFitter" 38 um_F_nearestPlace 2 := ⟨k0_F_nearestPlace, lp_in 661 (by decide +kernel) rfl, lp_in 663 (by decide +kernel) rfl, lp_in 22 (by decide +kernel) rfl⟩
theorem kc_F_67 : lp_cV "LinePatcher$PatchFitter" 67 um_F_distance 1 := ⟨k0_F_distance, lp_in 665 (by decide +kernel) rfl, lp_in 667 (by decide +kernel) rfl, lp_in 23 (by decide +kernel) rfl⟩
theorem kc_F_71 : lp_cV "LinePatcher$PatchFitter" 71 um_F_fitsAt 2 := ⟨k0_F_fitsAt, lp_in 672 (by decide +kernel) rfl, lp_in 674 (by decide +kernel) rfl, lp_in 24 (by decide +kernel) rfl⟩
theorem kc_F_48 : lp_cV "LinePatcher$PatchFitter" 48 um_T_appendPart 3 := ⟨k0_T_appendPart, lp_in 676 (by decide +kernel) rfl, lp_in 447 (by decide +kernel) rfl, lp_in 448 (by decide +kernel) rfl⟩
theorem kc_F_52 : lp_cV "LinePatcher$PatchFitter" 52 um_F_appendNewLines 0 := ⟨k0_F_appendNewLines, lp_in 677 (by decide +kernel) rfl, lp_in 679 (by decide +kernel) rfl, lp_in 25 (by decide +kernel) rfl⟩
theorem kc_F_63 : lp_cV "LinePatcher$PatchFitter" 63 um_T_append 1 := ⟨k0_T_append, lp_in 681 (by decide +kernel) rfl, lp_in 414 (by decide +kernel) rfl, lp_in 415 (by decide +kernel) rfl⟩
theorem kc_F_55 : lp_cV "LinePatcher$PatchFitter" 55 um_T_become 1 := ⟨k0_T_become, lp_in 682 (by decide +kernel) rfl, lp_in 443 (by decide +kernel) rfl, lp_in 444 (by decide +kernel) rfl⟩
theorem kc_L_69 : lp_cV "LinePatcherLaw" 69 um_P_merge 0 := ⟨k0_P_merge, lp_in 683 (by decide +kernel) rfl, lp_in 684 (by decide +kernel) rfl, lp_in 685 (by decide +kernel) rfl⟩
theorem kc_P_146 : lp_cV "LinePatcher" 146 um_G_bringTogether 3 := ⟨k0_G_bringTogether, lp_in 687 (by decide +kernel) rfl, lp_in 688 (by decide +kernel) rfl, lp_in 689 (by decide +kernel) rfl⟩
theorem kc_G_53 : lp_cV "LinePatcher$Merger" 53 um_C_begin 2 := ⟨k0_C_begin, lp_in 691 (by decide +kernel) rfl, lp_in 439 (by decide +kernel) rfl, lp_in 440 (by decide +kernel) rfl⟩
theorem kc_G_57 : lp_cV "LinePatcher$Merger" 57 um_S_matchTexts 1 := ⟨k0_S_matchTexts, lp_in 692 (by decide +kernel) rfl, lp_in 452 (by decide +kernel) rfl, lp_in 453 (by decide +kernel) rfl⟩
theorem kc_G_76 : lp_cV "LinePatcher$Merger" 76 um_C_partnerOf 1 := ⟨k0_C_partnerOf, lp_in 693 (by decide +kernel) rfl, lp_in 528 (by decide +kernel) rfl, lp_in 529 (by decide +kernel) rfl⟩
theorem kc_G_80 : lp_cV "LinePatcher$Merger" 80 um_G_settleParts 3 := ⟨k0_G_settleParts, lp_in 694 (by decide +kernel) rfl, lp_in 696 (by decide +kernel) rfl, lp_in 26 (by decide +kernel) rfl⟩
theorem kc_G_98 : lp_cV "LinePatcher$Merger" 98 um_Q_isEqualTo 1 := ⟨k0_Q_isEqualTo, lp_in 698 (by decide +kernel) rfl, lp_in 699 (by decide +kernel) rfl, lp_in 700 (by decide +kernel) rfl⟩
theorem kc_G_102 : lp_cV "LinePatcher$Merger" 102 um_G_putPart 1 := ⟨k0_G_putPart, lp_in 702 (by decide +kernel) rfl, lp_in 704 (by decide +kernel) rfl, lp_in 27 (by decide +kernel) rfl⟩
theorem kc_G_88 : lp_cV "LinePatcher$Merger" 88 um_G_put 1 := ⟨k0_G_put, lp_in 706 (by decide +kernel) rfl, lp_in 708 (by decide +kernel) rfl, lp_in 28 (by decide +kernel) rfl⟩
theorem kc_G_115 : lp_cV "LinePatcher$Merger" 115 um_T_append 1 := ⟨k0_T_append, lp_in 710 (by decide +kernel) rfl, lp_in 414 (by decide +kernel) rfl, lp_in 415 (by decide +kernel) rfl⟩
theorem kc_G_106 : lp_cV "LinePatcher$Merger" 106 um_G_putConflict 0 := ⟨k0_G_putConflict, lp_in 711 (by decide +kernel) rfl, lp_in 713 (by decide +kernel) rfl, lp_in 29 (by decide +kernel) rfl⟩
theorem kc_G_109 : lp_cV "LinePatcher$Merger" 109 um_Q_skipFirmLine 0 := ⟨k0_Q_skipFirmLine, lp_in 715 (by decide +kernel) rfl, lp_in 716 (by decide +kernel) rfl, lp_in 717 (by decide +kernel) rfl⟩
theorem kc_P_150 : lp_cV "LinePatcher" 150 um_G_handOver 1 := ⟨k0_G_handOver, lp_in 719 (by decide +kernel) rfl, lp_in 720 (by decide +kernel) rfl, lp_in 721 (by decide +kernel) rfl⟩
theorem kc_G_92 : lp_cV "LinePatcher$Merger" 92 um_T_become 1 := ⟨k0_T_become, lp_in 723 (by decide +kernel) rfl, lp_in 443 (by decide +kernel) rfl, lp_in 444 (by decide +kernel) rfl⟩
theorem kc_L_12 : lp_cI "LinePatcherLaw" 12 um_M_init 0 := ⟨k0_M_init, lp_in 726 (by decide +kernel) rfl, lp_in 727 (by decide +kernel) rfl, rfl, rfl⟩
theorem kc_L_19 : lp_cV "LinePatcherLaw" 19 um_M_add 3 := ⟨k0_M_add, lp_in 845 (by decide +kernel) rfl, lp_in 846 (by decide +kernel) rfl, lp_in 847 (by decide +kernel) rfl⟩
theorem kc_M_88 : lp_cS "LinePatcherModel" 88 um_M_within 3 := ⟨k0_M_within, lp_in 849 (by decide +kernel) rfl, lp_in 850 (by decide +kernel) rfl⟩
theorem kc_M_92 : lp_cS "LinePatcherModel" 92 um_M_isLetter 1 := ⟨k0_M_isLetter, lp_in 852 (by decide +kernel) rfl, lp_in 853 (by decide +kernel) rfl⟩
theorem kc_L_24 : lp_cV "LinePatcherLaw" 24 um_M_clear 1 := ⟨k0_M_clear, lp_in 855 (by decide +kernel) rfl, lp_in 856 (by decide +kernel) rfl, lp_in 857 (by decide +kernel) rfl⟩
theorem kc_L_28 : lp_cV "LinePatcherLaw" 28 um_M_size 1 := ⟨k0_M_size, lp_in 859 (by decide +kernel) rfl, lp_in 860 (by decide +kernel) rfl, lp_in 861 (by decide +kernel) rfl⟩
theorem kc_L_33 : lp_cV "LinePatcherLaw" 33 um_M_line 2 := ⟨k0_M_line, lp_in 863 (by decide +kernel) rfl, lp_in 864 (by decide +kernel) rfl, lp_in 865 (by decide +kernel) rfl⟩
theorem kc_L_38 : lp_cV "LinePatcherLaw" 38 um_M_compare 3 := ⟨k0_M_compare, lp_in 867 (by decide +kernel) rfl, lp_in 868 (by decide +kernel) rfl, lp_in 869 (by decide +kernel) rfl⟩
theorem kc_M_124 : lp_cV "LinePatcherModel" 124 um_M_allLetters 1 := ⟨k0_M_allLetters, lp_in 871 (by decide +kernel) rfl, lp_in 873 (by decide +kernel) rfl, lp_in 30 (by decide +kernel) rfl⟩
theorem kc_M_127 : lp_cV "LinePatcherModel" 127 um_M_take 2 := ⟨k0_M_take, lp_in 875 (by decide +kernel) rfl, lp_in 877 (by decide +kernel) rfl, lp_in 31 (by decide +kernel) rfl⟩
theorem kc_M_131 : lp_cV "LinePatcherModel" 131 um_M_compareAll 1 := ⟨k0_M_compareAll, lp_in 879 (by decide +kernel) rfl, lp_in 881 (by decide +kernel) rfl, lp_in 32 (by decide +kernel) rfl⟩
theorem kc_M_114 : lp_cV "LinePatcherModel" 114 um_M_compareShort 4 := ⟨k0_M_compareShort, lp_in 883 (by decide +kernel) rfl, lp_in 885 (by decide +kernel) rfl, lp_in 33 (by decide +kernel) rfl⟩
theorem kc_M_118 : lp_cV "LinePatcherModel" 118 um_M_await 4 := ⟨k0_M_await, lp_in 887 (by decide +kernel) rfl, lp_in 889 (by decide +kernel) rfl, lp_in 34 (by decide +kernel) rfl⟩
theorem kc_M_121 : lp_cV "LinePatcherModel" 121 um_M_standOut 4 := ⟨k0_M_standOut, lp_in 891 (by decide +kernel) rfl, lp_in 893 (by decide +kernel) rfl, lp_in 35 (by decide +kernel) rfl⟩
theorem kc_M_110 : lp_cV "LinePatcherModel" 110 um_M_findRanks 4 := ⟨k0_M_findRanks, lp_in 895 (by decide +kernel) rfl, lp_in 897 (by decide +kernel) rfl, lp_in 36 (by decide +kernel) rfl⟩
theorem kc_M_106 : lp_cV "LinePatcherModel" 106 um_M_partner 5 := ⟨k0_M_partner, lp_in 899 (by decide +kernel) rfl, lp_in 901 (by decide +kernel) rfl, lp_in 37 (by decide +kernel) rfl⟩
theorem kc_L_42 : lp_cV "LinePatcherLaw" 42 um_M_match 1 := ⟨k0_M_match, lp_in 903 (by decide +kernel) rfl, lp_in 904 (by decide +kernel) rfl, lp_in 905 (by decide +kernel) rfl⟩
theorem kc_L_46 : lp_cV "LinePatcherLaw" 46 um_M_write 1 := ⟨k0_M_write, lp_in 907 (by decide +kernel) rfl, lp_in 908 (by decide +kernel) rfl, lp_in 909 (by decide +kernel) rfl⟩
theorem kc_M_164 : lp_cV "LinePatcherModel" 164 um_M_row 0 := ⟨k0_M_row, lp_in 911 (by decide +kernel) rfl, lp_in 913 (by decide +kernel) rfl, lp_in 38 (by decide +kernel) rfl⟩
theorem kc_M_148 : lp_cV "LinePatcherModel" 148 um_M_op 2 := ⟨k0_M_op, lp_in 915 (by decide +kernel) rfl, lp_in 917 (by decide +kernel) rfl, lp_in 39 (by decide +kernel) rfl⟩
theorem kc_M_167 : lp_cV "LinePatcherModel" 167 um_M_lastOf 2 := ⟨k0_M_lastOf, lp_in 919 (by decide +kernel) rfl, lp_in 921 (by decide +kernel) rfl, lp_in 40 (by decide +kernel) rfl⟩
theorem kc_M_171 : lp_cV "LinePatcherModel" 171 um_M_putHunk 2 := ⟨k0_M_putHunk, lp_in 923 (by decide +kernel) rfl, lp_in 925 (by decide +kernel) rfl, lp_in 41 (by decide +kernel) rfl⟩
theorem kc_M_154 : lp_cV "LinePatcherModel" 154 um_M_put 1 := ⟨k0_M_put, lp_in 927 (by decide +kernel) rfl, lp_in 929 (by decide +kernel) rfl, lp_in 42 (by decide +kernel) rfl⟩
theorem kc_M_157 : lp_cV "LinePatcherModel" 157 um_M_others 3 := ⟨k0_M_others, lp_in 931 (by decide +kernel) rfl, lp_in 933 (by decide +kernel) rfl, lp_in 43 (by decide +kernel) rfl⟩
theorem kc_M_161 : lp_cV "LinePatcherModel" 161 um_M_putNumber 1 := ⟨k0_M_putNumber, lp_in 935 (by decide +kernel) rfl, lp_in 937 (by decide +kernel) rfl, lp_in 44 (by decide +kernel) rfl⟩
theorem kc_L_51 : lp_cV "LinePatcherLaw" 51 um_M_type 2 := ⟨k0_M_type, lp_in 939 (by decide +kernel) rfl, lp_in 940 (by decide +kernel) rfl, lp_in 941 (by decide +kernel) rfl⟩
theorem kc_L_56 : lp_cV "LinePatcherLaw" 56 um_M_wipe 0 := ⟨k0_M_wipe, lp_in 943 (by decide +kernel) rfl, lp_in 944 (by decide +kernel) rfl, lp_in 945 (by decide +kernel) rfl⟩
theorem kc_L_60 : lp_cV "LinePatcherLaw" 60 um_M_character 1 := ⟨k0_M_character, lp_in 947 (by decide +kernel) rfl, lp_in 948 (by decide +kernel) rfl, lp_in 949 (by decide +kernel) rfl⟩
theorem kc_L_64 : lp_cV "LinePatcherLaw" 64 um_M_read 0 := ⟨k0_M_read, lp_in 951 (by decide +kernel) rfl, lp_in 952 (by decide +kernel) rfl, lp_in 953 (by decide +kernel) rfl⟩
theorem kc_M_193 : lp_cV "LinePatcherModel" 193 um_M_readHunk 0 := ⟨k0_M_readHunk, lp_in 955 (by decide +kernel) rfl, lp_in 957 (by decide +kernel) rfl, lp_in 45 (by decide +kernel) rfl⟩
theorem kc_M_184 : lp_cV "LinePatcherModel" 184 um_M_want 1 := ⟨k0_M_want, lp_in 959 (by decide +kernel) rfl, lp_in 961 (by decide +kernel) rfl, lp_in 46 (by decide +kernel) rfl⟩
theorem kc_M_180 : lp_cV "LinePatcherModel" 180 um_M_look 0 := ⟨k0_M_look, lp_in 963 (by decide +kernel) rfl, lp_in 965 (by decide +kernel) rfl, lp_in 47 (by decide +kernel) rfl⟩
theorem kc_M_190 : lp_cV "LinePatcherModel" 190 um_M_number 0 := ⟨k0_M_number, lp_in 967 (by decide +kernel) rfl, lp_in 969 (by decide +kernel) rfl, lp_in 48 (by decide +kernel) rfl⟩
theorem kc_L_68 : lp_cV "LinePatcherLaw" 68 um_M_apply 1 := ⟨k0_M_apply, lp_in 971 (by decide +kernel) rfl, lp_in 972 (by decide +kernel) rfl, lp_in 973 (by decide +kernel) rfl⟩
theorem kc_M_202 : lp_cV "LinePatcherModel" 202 um_M_read 0 := ⟨k0_M_read, lp_in 975 (by decide +kernel) rfl, lp_in 952 (by decide +kernel) rfl, lp_in 953 (by decide +kernel) rfl⟩
theorem kc_M_205 : lp_cV "LinePatcherModel" 205 um_M_fit 3 := ⟨k0_M_fit, lp_in 976 (by decide +kernel) rfl, lp_in 978 (by decide +kernel) rfl, lp_in 49 (by decide +kernel) rfl⟩
theorem kc_M_196 : lp_cV "LinePatcherModel" 196 um_M_stands 3 := ⟨k0_M_stands, lp_in 980 (by decide +kernel) rfl, lp_in 982 (by decide +kernel) rfl, lp_in 50 (by decide +kernel) rfl⟩
theorem kc_M_208 : lp_cV "LinePatcherModel" 208 um_M_emit 1 := ⟨k0_M_emit, lp_in 984 (by decide +kernel) rfl, lp_in 986 (by decide +kernel) rfl, lp_in 51 (by decide +kernel) rfl⟩
theorem kc_M_211 : lp_cV "LinePatcherModel" 211 um_M_keep 1 := ⟨k0_M_keep, lp_in 988 (by decide +kernel) rfl, lp_in 990 (by decide +kernel) rfl, lp_in 52 (by decide +kernel) rfl⟩
theorem kc_L_72 : lp_cV "LinePatcherLaw" 72 um_M_merge 0 := ⟨k0_M_merge, lp_in 992 (by decide +kernel) rfl, lp_in 993 (by decide +kernel) rfl, lp_in 994 (by decide +kernel) rfl⟩
theorem kc_M_224 : lp_cV "LinePatcherModel" 224 um_M_mergeParts 6 := ⟨k0_M_mergeParts, lp_in 996 (by decide +kernel) rfl, lp_in 998 (by decide +kernel) rfl, lp_in 53 (by decide +kernel) rfl⟩
theorem kc_M_217 : lp_cV "LinePatcherModel" 217 um_M_sameParts 6 := ⟨k0_M_sameParts, lp_in 1000 (by decide +kernel) rfl, lp_in 1002 (by decide +kernel) rfl, lp_in 54 (by decide +kernel) rfl⟩
theorem kc_M_221 : lp_cV "LinePatcherModel" 221 um_M_emitPart 3 := ⟨k0_M_emitPart, lp_in 1004 (by decide +kernel) rfl, lp_in 1006 (by decide +kernel) rfl, lp_in 55 (by decide +kernel) rfl⟩
theorem kc_M_214 : lp_cV "LinePatcherModel" 214 um_M_tryEmit 1 := ⟨k0_M_tryEmit, lp_in 1008 (by decide +kernel) rfl, lp_in 1010 (by decide +kernel) rfl, lp_in 56 (by decide +kernel) rfl⟩
theorem kc_P_17 : lp_cIN "LinePatcher" 17 um_C_init 0 := ⟨k0_C_init, ⟨"LinePatcher", List.mem_of_getElem? (i := 0) rfl⟩, lp_in 85 (by decide +kernel) rfl, rfl, rfl⟩
theorem kc_C_11 : lp_cIN "LinePatcher$Comparison" 11 um_T_init 0 := ⟨k0_T_init, ⟨"LinePatcher", List.mem_of_getElem? (i := 1) rfl⟩, lp_in 91 (by decide +kernel) rfl, rfl, rfl⟩
theorem kc_P_24 : lp_cIN "LinePatcher" 24 um_S_init 0 := ⟨k0_S_init, ⟨"LinePatcher", List.mem_of_getElem? (i := 2) rfl⟩, lp_in 140 (by decide +kernel) rfl, rfl, rfl⟩
theorem kc_S_18 : lp_cIN "LinePatcher$Shortest" 18 um_R_init 0 := ⟨k0_R_init, ⟨"LinePatcher", List.mem_of_getElem? (i := 3) rfl⟩, lp_in 148 (by decide +kernel) rfl, rfl, rfl⟩
theorem kc_O_31 : lp_cIN "LinePatcher$StandingOut" 31 um_R_init 0 := ⟨k0_R_init, ⟨"LinePatcher", List.mem_of_getElem? (i := 4) rfl⟩, lp_in 148 (by decide +kernel) rfl, rfl, rfl⟩
theorem kc_P_40 : lp_cIN "LinePatcher" 40 um_A_init 0 := ⟨k0_A_init, ⟨"LinePatcher", List.mem_of_getElem? (i := 5) rfl⟩, lp_in 217 (by decide +kernel) rfl, rfl, rfl⟩
theorem kc_W_25 : lp_cIN "LinePatcher$PatchWriter" 25 um_R_init 0 := ⟨k0_R_init, ⟨"LinePatcher", List.mem_of_getElem? (i := 6) rfl⟩, lp_in 148 (by decide +kernel) rfl, rfl, rfl⟩
theorem kc_F_11 : lp_cIN "LinePatcher$PatchFitter" 11 um_T_init 0 := ⟨k0_T_init, ⟨"LinePatcher", List.mem_of_getElem? (i := 7) rfl⟩, lp_in 91 (by decide +kernel) rfl, rfl, rfl⟩
theorem kc_G_11 : lp_cIN "LinePatcher$Merger" 11 um_C_init 0 := ⟨k0_C_init, ⟨"LinePatcher", List.mem_of_getElem? (i := 8) rfl⟩, lp_in 85 (by decide +kernel) rfl, rfl, rfl⟩
theorem kc_G_45 : lp_cIN "LinePatcher$Merger" 45 um_T_init 0 := ⟨k0_T_init, ⟨"LinePatcher", List.mem_of_getElem? (i := 9) rfl⟩, lp_in 91 (by decide +kernel) rfl, rfl, rfl⟩
theorem kc_P_79 : lp_cIN "LinePatcher" 79 um_T_init 0 := ⟨k0_T_init, ⟨"LinePatcher", List.mem_of_getElem? (i := 10) rfl⟩, lp_in 91 (by decide +kernel) rfl, rfl, rfl⟩
theorem kc_T_27 : lp_cSN "LinePatcher$Text" 27 um_P_isLetter 1 := ⟨k0_P_isLetter, ⟨"LinePatcher", List.mem_of_getElem? (i := 11) rfl⟩, lp_in 411 (by decide +kernel) rfl⟩
theorem kc_D_79 : lp_cSN "LinePatcher$PatchReader" 79 um_P_isLetter 1 := ⟨k0_P_isLetter, ⟨"LinePatcher", List.mem_of_getElem? (i := 12) rfl⟩, lp_in 411 (by decide +kernel) rfl⟩
theorem km_S_67 : lp_cM "LinePatcher$Shortest" 67 Lib.Math.max.name Lib.Math.max.code 2 := ⟨lp_in 471 (by decide +kernel) rfl, lp_in 472 (by decide +kernel) rfl, lp_in 71 (by decide +kernel) rfl, lp_in 473 (by decide +kernel) rfl⟩
theorem km_O_109 : lp_cM "LinePatcher$StandingOut" 109 Lib.Math.max.name Lib.Math.max.code 2 := ⟨lp_in 514 (by decide +kernel) rfl, lp_in 472 (by decide +kernel) rfl, lp_in 71 (by decide +kernel) rfl, lp_in 473 (by decide +kernel) rfl⟩
theorem km_W_78 : lp_cM "LinePatcher$PatchWriter" 78 Lib.Math.min.name Lib.Math.min.code 2 := ⟨lp_in 561 (by decide +kernel) rfl, lp_in 562 (by decide +kernel) rfl, lp_in 71 (by decide +kernel) rfl, lp_in 563 (by decide +kernel) rfl⟩
theorem km_F_78 : lp_cM "LinePatcher$PatchFitter" 78 Lib.Math.abs.name Lib.Math.abs.code 1 := ⟨lp_in 669 (by decide +kernel) rfl, lp_in 670 (by decide +kernel) rfl, lp_in 71 (by decide +kernel) rfl, lp_in 671 (by decide +kernel) rfl⟩
theorem kl_P_157 : Cond.constantLong "LinePatcher" 157 255 ∈ lp_W := lp_in 409 (by decide +kernel) rfl
theorem kl_L_13 : Cond.constantLong "LinePatcherLaw" 13 4294967295 ∈ lp_W := lp_in 1012 (by decide +kernel) rfl
theorem ko_i : Cond.instanceMethod objectInit ∈ lp_W := lp_in 78 (by decide +kernel) rfl
theorem ko_c : Cond.code objectInit ⟨#[0xb1]⟩ 1 none ∈ lp_W := lp_in 79 (by decide +kernel) rfl
theorem ko_P_1 : Cond.methodLink "LinePatcher" 1 objectInit ∈ lp_W := lp_in 77 (by decide +kernel) rfl
theorem ko_C_3 : Cond.methodLink "LinePatcher$Comparison" 3 objectInit ∈ lp_W := lp_in 87 (by decide +kernel) rfl
theorem ko_T_3 : Cond.methodLink "LinePatcher$Text" 3 objectInit ∈ lp_W := lp_in 93 (by decide +kernel) rfl
theorem ko_S_3 : Cond.methodLink "LinePatcher$Shortest" 3 objectInit ∈ lp_W := lp_in 142 (by decide +kernel) rfl
theorem ko_R_1 : Cond.methodLink "LinePatcher$Range" 1 objectInit ∈ lp_W := lp_in 150 (by decide +kernel) rfl
theorem ko_O_3 : Cond.methodLink "LinePatcher$StandingOut" 3 objectInit ∈ lp_W := lp_in 188 (by decide +kernel) rfl
theorem ko_A_3 : Cond.methodLink "LinePatcher$Paper" 3 objectInit ∈ lp_W := lp_in 219 (by decide +kernel) rfl
theorem ko_W_3 : Cond.methodLink "LinePatcher$PatchWriter" 3 objectInit ∈ lp_W := lp_in 237 (by decide +kernel) rfl
theorem ko_D_3 : Cond.methodLink "LinePatcher$PatchReader" 3 objectInit ∈ lp_W := lp_in 258 (by decide +kernel) rfl
theorem ko_F_3 : Cond.methodLink "LinePatcher$PatchFitter" 3 objectInit ∈ lp_W := lp_in 297 (by decide +kernel) rfl
theorem ko_G_3 : Cond.methodLink "LinePatcher$Merger" 3 objectInit ∈ lp_W := lp_in 312 (by decide +kernel) rfl
theorem ko_Q_1 : Cond.methodLink "LinePatcher$Part" 1 objectInit ∈ lp_W := lp_in 320 (by decide +kernel) rfl
theorem ko_M_1 : Cond.methodLink "LinePatcherModel" 1 objectInit ∈ lp_W := lp_in 729 (by decide +kernel) rfl
theorem kk_L_7 : Cond.classLink "LinePatcherLaw" 7 "LinePatcher" ∈ lp_W := lp_in 72 (by decide +kernel) rfl
theorem kk_P_9 : Cond.classLink "LinePatcher" 9 "LinePatcher$Text" ∈ lp_W := lp_in 80 (by decide +kernel) rfl
theorem kk_P_15 : Cond.classLink "LinePatcher" 15 "LinePatcher$Comparison" ∈ lp_W := lp_in 82 (by decide +kernel) rfl
theorem kk_C_9 : Cond.classLink "LinePatcher$Comparison" 9 "LinePatcher$Text" ∈ lp_W := lp_in 88 (by decide +kernel) rfl
theorem kk_P_22 : Cond.classLink "LinePatcher" 22 "LinePatcher$Shortest" ∈ lp_W := lp_in 137 (by decide +kernel) rfl
theorem kk_S_9 : Cond.classLink "LinePatcher$Shortest" 9 "[[I" ∈ lp_W := lp_in 143 (by decide +kernel) rfl
theorem kk_S_16 : Cond.classLink "LinePatcher$Shortest" 16 "LinePatcher$Range" ∈ lp_W := lp_in 145 (by decide +kernel) rfl
theorem kk_P_29 : Cond.classLink "LinePatcher" 29 "LinePatcher$StandingOut" ∈ lp_W := lp_in 183 (by decide +kernel) rfl
theorem kk_O_11 : Cond.classLink "LinePatcher$StandingOut" 11 "LinePatcher$Range" ∈ lp_W := lp_in 189 (by decide +kernel) rfl
theorem kk_P_38 : Cond.classLink "LinePatcher" 38 "LinePatcher$Paper" ∈ lp_W := lp_in 214 (by decide +kernel) rfl
theorem kk_P_45 : Cond.classLink "LinePatcher" 45 "LinePatcher$PatchWriter" ∈ lp_W := lp_in 232 (by decide +kernel) rfl
theorem kk_W_11 : Cond.classLink "LinePatcher$PatchWriter" 11 "LinePatcher$Range" ∈ lp_W := lp_in 238 (by decide +kernel) rfl
theorem kk_P_54 : Cond.classLink "LinePatcher" 54 "LinePatcher$PatchReader" ∈ lp_W := lp_in 253 (by decide +kernel) rfl
theorem kk_P_63 : Cond.classLink "LinePatcher" 63 "LinePatcher$PatchFitter" ∈ lp_W := lp_in 292 (by decide +kernel) rfl
theorem kk_F_9 : Cond.classLink "LinePatcher$PatchFitter" 9 "LinePatcher$Text" ∈ lp_W := lp_in 298 (by decide +kernel) rfl
theorem kk_P_72 : Cond.classLink "LinePatcher" 72 "LinePatcher$Merger" ∈ lp_W := lp_in 307 (by decide +kernel) rfl
theorem kk_G_9 : Cond.classLink "LinePatcher$Merger" 9 "LinePatcher$Comparison" ∈ lp_W := lp_in 313 (by decide +kernel) rfl
theorem kk_G_21 : Cond.classLink "LinePatcher$Merger" 21 "LinePatcher$Part" ∈ lp_W := lp_in 315 (by decide +kernel) rfl
theorem kk_G_43 : Cond.classLink "LinePatcher$Merger" 43 "LinePatcher$Text" ∈ lp_W := lp_in 334 (by decide +kernel) rfl
theorem kk_L_10 : Cond.classLink "LinePatcherLaw" 10 "LinePatcherModel" ∈ lp_W := lp_in 724 (by decide +kernel) rfl
theorem ki_P : Cond.instantiable "LinePatcher" 10 ∈ lp_W := lp_in 73 (by decide +kernel) rfl
theorem kn_P : Cond.initialized "LinePatcher" ∈ lp_W := lp_in 58 (by decide +kernel) rfl
theorem ki_T : Cond.instantiable "LinePatcher$Text" 2 ∈ lp_W := lp_in 89 (by decide +kernel) rfl
theorem kn_T : Cond.initialized "LinePatcher$Text" ∈ lp_W := lp_in 60 (by decide +kernel) rfl
theorem ki_C : Cond.instantiable "LinePatcher$Comparison" 4 ∈ lp_W := lp_in 83 (by decide +kernel) rfl
theorem kn_C : Cond.initialized "LinePatcher$Comparison" ∈ lp_W := lp_in 59 (by decide +kernel) rfl
theorem ki_R : Cond.instantiable "LinePatcher$Range" 4 ∈ lp_W := lp_in 146 (by decide +kernel) rfl
theorem kn_R : Cond.initialized "LinePatcher$Range" ∈ lp_W := lp_in 62 (by decide +kernel) rfl
theorem ki_S : Cond.instantiable "LinePatcher$Shortest" 2 ∈ lp_W := lp_in 138 (by decide +kernel) rfl
theorem kn_S : Cond.initialized "LinePatcher$Shortest" ∈ lp_W := lp_in 61 (by decide +kernel) rfl
theorem ki_O : Cond.instantiable "LinePatcher$StandingOut" 7 ∈ lp_W := lp_in 184 (by decide +kernel) rfl
theorem kn_O : Cond.initialized "LinePatcher$StandingOut" ∈ lp_W := lp_in 63 (by decide +kernel) rfl
theorem ki_A : Cond.instantiable "LinePatcher$Paper" 2 ∈ lp_W := lp_in 215 (by decide +kernel) rfl
theorem kn_A : Cond.initialized "LinePatcher$Paper" ∈ lp_W := lp_in 64 (by decide +kernel) rfl
theorem ki_W : Cond.instantiable "LinePatcher$PatchWriter" 4 ∈ lp_W := lp_in 233 (by decide +kernel) rfl
theorem kn_W : Cond.initialized "LinePatcher$PatchWriter" ∈ lp_W := lp_in 65 (by decide +kernel) rfl
theorem ki_D : Cond.instantiable "LinePatcher$PatchReader" 9 ∈ lp_W := lp_in 254 (by decide +kernel) rfl
theorem kn_D : Cond.initialized "LinePatcher$PatchReader" ∈ lp_W := lp_in 66 (by decide +kernel) rfl
theorem ki_F : Cond.instantiable "LinePatcher$PatchFitter" 2 ∈ lp_W := lp_in 293 (by decide +kernel) rfl
theorem kn_F : Cond.initialized "LinePatcher$PatchFitter" ∈ lp_W := lp_in 67 (by decide +kernel) rfl
theorem ki_Q : Cond.instantiable "LinePatcher$Part" 3 ∈ lp_W := lp_in 316 (by decide +kernel) rfl
theorem kn_Q : Cond.initialized "LinePatcher$Part" ∈ lp_W := lp_in 69 (by decide +kernel) rfl
theorem ki_G : Cond.instantiable "LinePatcher$Merger" 9 ∈ lp_W := lp_in 308 (by decide +kernel) rfl
theorem kn_G : Cond.initialized "LinePatcher$Merger" ∈ lp_W := lp_in 68 (by decide +kernel) rfl
theorem ki_M : Cond.instantiable "LinePatcherModel" 38 ∈ lp_W := lp_in 725 (by decide +kernel) rfl
theorem kn_M : Cond.initialized "LinePatcherModel" ∈ lp_W := lp_in 70 (by decide +kernel) rfl
theorem ka_int : Cond.arrayClass .int ∈ lp_W := lp_in 115 (by decide +kernel) rfl
end
section
theorem d_P_init_0 : decode um_P_init.2.1 0 = .ok (.aload_n 0, 1) := by decide +kernel
theorem d_P_init_1 : decode um_P_init.2.1 1 = .ok (.invokespecial 1, 3) := by decide +kernel
theorem d_P_init_4 : decode um_P_init.2.1 4 = .ok (.aload_n 0, 1) := by decide +kernel
theorem d_P_init_5 : decode um_P_init.2.1 5 = .ok (.iconst 4, 1) := by decide +kernel
theorem d_P_init_6 : decode um_P_init.2.1 6 = .ok (.anewarray 9, 3) := by decide +kernel
theorem d_P_init_9 : decode um_P_init.2.1 9 = .ok (.putfield 11, 3) := by decide +kernel
theorem d_P_init_12 : decode um_P_init.2.1 12 = .ok (.aload_n 0, 1) := by decide +kernel
theorem d_P_init_13 : decode um_P_init.2.1 13 = .ok (.new 15, 3) := by decide +kernel
theorem d_P_init_16 : decode um_P_init.2.1 16 = .ok (.dup, 1) := by decide +kernel
theorem d_P_init_17 : decode um_P_init.2.1 17 = .ok (.invokespecial 17, 3) := by decide +kernel
theorem d_P_init_20 : decode um_P_init.2.1 20 = .ok (.putfield 18, 3) := by decide +kernel
theorem d_P_init_23 : decode um_P_init.2.1 23 = .ok (.aload_n 0, 1) := by decide +kernel
theorem d_P_init_24 : decode um_P_init.2.1 24 = .ok (.new 22, 3) := by decide +kernel
theorem d_P_init_27 : decode um_P_init.2.1 27 = .ok (.dup, 1) := by decide +kernel
theorem d_P_init_28 : decode um_P_init.2.1 28 = .ok (.invokespecial 24, 3) := by decide +kernel
theorem d_P_init_31 : decode um_P_init.2.1 31 = .ok (.putfield 25, 3) := by decide +kernel
theorem d_P_init_34 : decode um_P_init.2.1 34 = .ok (.aload_n 0, 1) := by decide +kernel
theorem d_P_init_35 : decode um_P_init.2.1 35 = .ok (.new 29, 3) := by decide +kernel
theorem d_P_init_38 : decode um_P_init.2.1 38 = .ok (.dup, 1) := by decide +kernel
theorem d_P_init_39 : decode um_P_init.2.1 39 = .ok (.aload_n 0, 1) := by decide +kernel
theorem d_P_init_40 : decode um_P_init.2.1 40 = .ok (.getfield 25, 3) := by decide +kernel
theorem d_P_init_43 : decode um_P_init.2.1 43 = .ok (.invokespecial 31, 3) := by decide +kernel
theorem d_P_init_46 : decode um_P_init.2.1 46 = .ok (.putfield 34, 3) := by decide +kernel
theorem d_P_init_49 : decode um_P_init.2.1 49 = .ok (.aload_n 0, 1) := by decide +kernel
theorem d_P_init_50 : decode um_P_init.2.1 50 = .ok (.new 38, 3) := by decide +kernel
theorem d_P_init_53 : decode um_P_init.2.1 53 = .ok (.dup, 1) := by decide +kernel
theorem d_P_init_54 : decode um_P_init.2.1 54 = .ok (.invokespecial 40, 3) := by decide +kernel
theorem d_P_init_57 : decode um_P_init.2.1 57 = .ok (.putfield 41, 3) := by decide +kernel
theorem d_P_init_60 : decode um_P_init.2.1 60 = .ok (.aload_n 0, 1) := by decide +kernel
theorem d_P_init_61 : decode um_P_init.2.1 61 = .ok (.new 45, 3) := by decide +kernel
theorem d_P_init_64 : decode um_P_init.2.1 64 = .ok (.dup, 1) := by decide +kernel
theorem d_P_init_65 : decode um_P_init.2.1 65 = .ok (.aload_n 0, 1) := by decide +kernel
theorem d_P_init_66 : decode um_P_init.2.1 66 = .ok (.getfield 18, 3) := by decide +kernel
theorem d_P_init_69 : decode um_P_init.2.1 69 = .ok (.aload_n 0, 1) := by decide +kernel
theorem d_P_init_70 : decode um_P_init.2.1 70 = .ok (.getfield 41, 3) := by decide +kernel
theorem d_P_init_73 : decode um_P_init.2.1 73 = .ok (.invokespecial 47, 3) := by decide +kernel
theorem d_P_init_76 : decode um_P_init.2.1 76 = .ok (.putfield 50, 3) := by decide +kernel
theorem d_P_init_79 : decode um_P_init.2.1 79 = .ok (.aload_n 0, 1) := by decide +kernel
theorem d_P_init_80 : decode um_P_init.2.1 80 = .ok (.new 54, 3) := by decide +kernel
theorem d_P_init_83 : decode um_P_init.2.1 83 = .ok (.dup, 1) := by decide +kernel
theorem d_P_init_84 : decode um_P_init.2.1 84 = .ok (.aload_n 0, 1) := by decide +kernel
theorem d_P_init_85 : decode um_P_init.2.1 85 = .ok (.getfield 41, 3) := by decide +kernel
theorem d_P_init_88 : decode um_P_init.2.1 88 = .ok (.invokespecial 56, 3) := by decide +kernel
theorem d_P_init_91 : decode um_P_init.2.1 91 = .ok (.putfield 59, 3) := by decide +kernel
theorem d_P_init_94 : decode um_P_init.2.1 94 = .ok (.aload_n 0, 1) := by decide +kernel
theorem d_P_init_95 : decode um_P_init.2.1 95 = .ok (.new 63, 3) := by decide +kernel
theorem d_P_init_98 : decode um_P_init.2.1 98 = .ok (.dup, 1) := by decide +kernel
theorem d_P_init_99 : decode um_P_init.2.1 99 = .ok (.aload_n 0, 1) := by decide +kernel
theorem d_P_init_100 : decode um_P_init.2.1 100 = .ok (.getfield 59, 3) := by decide +kernel
theorem d_P_init_103 : decode um_P_init.2.1 103 = .ok (.invokespecial 65, 3) := by decide +kernel
theorem d_P_init_106 : decode um_P_init.2.1 106 = .ok (.putfield 68, 3) := by decide +kernel
theorem d_P_init_109 : decode um_P_init.2.1 109 = .ok (.aload_n 0, 1) := by decide +kernel
theorem d_P_init_110 : decode um_P_init.2.1 110 = .ok (.new 72, 3) := by decide +kernel
theorem d_P_init_113 : decode um_P_init.2.1 113 = .ok (.dup, 1) := by decide +kernel
theorem d_P_init_114 : decode um_P_init.2.1 114 = .ok (.aload_n 0, 1) := by decide +kernel
theorem d_P_init_115 : decode um_P_init.2.1 115 = .ok (.getfield 25, 3) := by decide +kernel
theorem d_P_init_118 : decode um_P_init.2.1 118 = .ok (.invokespecial 74, 3) := by decide +kernel
theorem d_P_init_121 : decode um_P_init.2.1 121 = .ok (.putfield 75, 3) := by decide +kernel
theorem d_P_init_124 : decode um_P_init.2.1 124 = .ok (.iconst 0, 1) := by decide +kernel
theorem d_P_init_125 : decode um_P_init.2.1 125 = .ok (.istore_n 1, 1) := by decide +kernel
theorem d_P_init_126 : decode um_P_init.2.1 126 = .ok (.iload_n 1, 1) := by decide +kernel
theorem d_P_init_127 : decode um_P_init.2.1 127 = .ok (.iconst 4, 1) := by decide +kernel
theorem d_P_init_128 : decode um_P_init.2.1 128 = .ok (.if_icmp .ge 22, 3) := by decide +kernel
theorem d_P_init_131 : decode um_P_init.2.1 131 = .ok (.aload_n 0, 1) := by decide +kernel
theorem d_P_init_132 : decode um_P_init.2.1 132 = .ok (.getfield 11, 3) := by decide +kernel
theorem d_P_init_135 : decode um_P_init.2.1 135 = .ok (.iload_n 1, 1) := by decide +kernel
theorem d_P_init_136 : decode um_P_init.2.1 136 = .ok (.new 9, 3) := by decide +kernel
theorem d_P_init_139 : decode um_P_init.2.1 139 = .ok (.dup, 1) := by decide +kernel
theorem d_P_init_140 : decode um_P_init.2.1 140 = .ok (.invokespecial 79, 3) := by decide +kernel
theorem d_P_init_143 : decode um_P_init.2.1 143 = .ok (.aastore, 1) := by decide +kernel
theorem d_P_init_144 : decode um_P_init.2.1 144 = .ok (.iinc 1 1, 3) := by decide +kernel
theorem d_P_init_147 : decode um_P_init.2.1 147 = .ok (.goto (-21), 3) := by decide +kernel
theorem d_P_init_150 : decode um_P_init.2.1 150 = .ok (.return_, 1) := by decide +kernel
theorem d_P_add_0 : decode um_P_add.2.1 0 = .ok (.iload_n 1, 1) := by decide +kernel
theorem d_P_add_1 : decode um_P_add.2.1 1 = .ok (.invokestatic 80, 3) := by decide +kernel
theorem d_P_add_4 : decode um_P_add.2.1 4 = .ok (.ifCond .eq 25, 3) := by decide +kernel
theorem d_P_add_7 : decode um_P_add.2.1 7 = .ok (.iload 4, 2) := by decide +kernel
theorem d_P_add_9 : decode um_P_add.2.1 9 = .ok (.iconst 1, 1) := by decide +kernel
theorem d_P_add_10 : decode um_P_add.2.1 10 = .ok (.if_icmp .lt 19, 3) := by decide +kernel
theorem d_P_add_13 : decode um_P_add.2.1 13 = .ok (.iload 4, 2) := by decide +kernel
theorem d_P_add_15 : decode um_P_add.2.1 15 = .ok (.bipush 8, 2) := by decide +kernel
theorem d_P_add_17 : decode um_P_add.2.1 17 = .ok (.if_icmp .gt 12, 3) := by decide +kernel
theorem d_P_add_20 : decode um_P_add.2.1 20 = .ok (.lload_n 2, 1) := by decide +kernel
theorem d_P_add_21 : decode um_P_add.2.1 21 = .ok (.iload 4, 2) := by decide +kernel
theorem d_P_add_23 : decode um_P_add.2.1 23 = .ok (.invokestatic 84, 3) := by decide +kernel
theorem d_P_add_26 : decode um_P_add.2.1 26 = .ok (.ifCond .ne 5, 3) := by decide +kernel
theorem d_P_add_29 : decode um_P_add.2.1 29 = .ok (.iconst (-1), 1) := by decide +kernel
theorem d_P_add_30 : decode um_P_add.2.1 30 = .ok (.ireturn, 1) := by decide +kernel
theorem d_P_add_31 : decode um_P_add.2.1 31 = .ok (.aload_n 0, 1) := by decide +kernel
theorem d_P_add_32 : decode um_P_add.2.1 32 = .ok (.getfield 11, 3) := by decide +kernel
theorem d_P_add_35 : decode um_P_add.2.1 35 = .ok (.iload_n 1, 1) := by decide +kernel
theorem d_P_add_36 : decode um_P_add.2.1 36 = .ok (.aaload, 1) := by decide +kernel
theorem d_P_add_37 : decode um_P_add.2.1 37 = .ok (.getfield 88, 3) := by decide +kernel
theorem d_P_add_40 : decode um_P_add.2.1 40 = .ok (.iload 4, 2) := by decide +kernel
theorem d_P_add_42 : decode um_P_add.2.1 42 = .ok (.iadd, 1) := by decide +kernel
theorem d_P_add_43 : decode um_P_add.2.1 43 = .ok (.bipush 24, 2) := by decide +kernel
theorem d_P_add_45 : decode um_P_add.2.1 45 = .ok (.if_icmp .le 6, 3) := by decide +kernel
theorem d_P_add_48 : decode um_P_add.2.1 48 = .ok (.bipush (-2), 2) := by decide +kernel
theorem d_P_add_50 : decode um_P_add.2.1 50 = .ok (.ireturn, 1) := by decide +kernel
theorem d_P_add_51 : decode um_P_add.2.1 51 = .ok (.iload 4, 2) := by decide +kernel
theorem d_P_add_53 : decode um_P_add.2.1 53 = .ok (.iconst 1, 1) := by decide +kernel
theorem d_P_add_54 : decode um_P_add.2.1 54 = .ok (.isub, 1) := by decide +kernel
theorem d_P_add_55 : decode um_P_add.2.1 55 = .ok (.istore 5, 2) := by decide +kernel
theorem d_P_add_57 : decode um_P_add.2.1 57 = .ok (.iload 5, 2) := by decide +kernel
theorem d_P_add_59 : decode um_P_add.2.1 59 = .ok (.ifCond .lt 24, 3) := by decide +kernel
theorem d_P_add_62 : decode um_P_add.2.1 62 = .ok (.aload_n 0, 1) := by decide +kernel
theorem d_P_add_63 : decode um_P_add.2.1 63 = .ok (.getfield 11, 3) := by decide +kernel
theorem d_P_add_66 : decode um_P_add.2.1 66 = .ok (.iload_n 1, 1) := by decide +kernel
theorem d_P_add_67 : decode um_P_add.2.1 67 = .ok (.aaload, 1) := by decide +kernel
theorem d_P_add_68 : decode um_P_add.2.1 68 = .ok (.lload_n 2, 1) := by decide +kernel
theorem d_P_add_69 : decode um_P_add.2.1 69 = .ok (.iload 5, 2) := by decide +kernel
theorem d_P_add_71 : decode um_P_add.2.1 71 = .ok (.invokestatic 92, 3) := by decide +kernel
theorem d_P_add_74 : decode um_P_add.2.1 74 = .ok (.invokevirtual 96, 3) := by decide +kernel
theorem d_P_add_77 : decode um_P_add.2.1 77 = .ok (.iinc 5 (-1), 3) := by decide +kernel
theorem d_P_add_80 : decode um_P_add.2.1 80 = .ok (.goto (-23), 3) := by decide +kernel
theorem d_P_add_83 : decode um_P_add.2.1 83 = .ok (.aload_n 0, 1) := by decide +kernel
theorem d_P_add_84 : decode um_P_add.2.1 84 = .ok (.getfield 11, 3) := by decide +kernel
theorem d_P_add_87 : decode um_P_add.2.1 87 = .ok (.iload_n 1, 1) := by decide +kernel
theorem d_P_add_88 : decode um_P_add.2.1 88 = .ok (.aaload, 1) := by decide +kernel
theorem d_P_add_89 : decode um_P_add.2.1 89 = .ok (.getfield 88, 3) := by decide +kernel
theorem d_P_add_92 : decode um_P_add.2.1 92 = .ok (.ireturn, 1) := by decide +kernel
theorem d_P_clear_0 : decode um_P_clear.2.1 0 = .ok (.iload_n 1, 1) := by decide +kernel
theorem d_P_clear_1 : decode um_P_clear.2.1 1 = .ok (.invokestatic 80, 3) := by decide +kernel
theorem d_P_clear_4 : decode um_P_clear.2.1 4 = .ok (.ifCond .ne 5, 3) := by decide +kernel
theorem d_P_clear_7 : decode um_P_clear.2.1 7 = .ok (.iconst (-1), 1) := by decide +kernel
theorem d_P_clear_8 : decode um_P_clear.2.1 8 = .ok (.ireturn, 1) := by decide +kernel
theorem d_P_clear_9 : decode um_P_clear.2.1 9 = .ok (.aload_n 0, 1) := by decide +kernel
theorem d_P_clear_10 : decode um_P_clear.2.1 10 = .ok (.getfield 11, 3) := by decide +kernel
theorem d_P_clear_13 : decode um_P_clear.2.1 13 = .ok (.iload_n 1, 1) := by decide +kernel
theorem d_P_clear_14 : decode um_P_clear.2.1 14 = .ok (.aaload, 1) := by decide +kernel
theorem d_P_clear_15 : decode um_P_clear.2.1 15 = .ok (.getfield 88, 3) := by decide +kernel
theorem d_P_clear_18 : decode um_P_clear.2.1 18 = .ok (.istore_n 2, 1) := by decide +kernel
theorem d_P_clear_19 : decode um_P_clear.2.1 19 = .ok (.aload_n 0, 1) := by decide +kernel
theorem d_P_clear_20 : decode um_P_clear.2.1 20 = .ok (.getfield 11, 3) := by decide +kernel
theorem d_P_clear_23 : decode um_P_clear.2.1 23 = .ok (.iload_n 1, 1) := by decide +kernel
theorem d_P_clear_24 : decode um_P_clear.2.1 24 = .ok (.aaload, 1) := by decide +kernel
theorem d_P_clear_25 : decode um_P_clear.2.1 25 = .ok (.iconst 0, 1) := by decide +kernel
theorem d_P_clear_26 : decode um_P_clear.2.1 26 = .ok (.putfield 88, 3) := by decide +kernel
theorem d_P_clear_29 : decode um_P_clear.2.1 29 = .ok (.iload_n 2, 1) := by decide +kernel
theorem d_P_clear_30 : decode um_P_clear.2.1 30 = .ok (.ireturn, 1) := by decide +kernel
theorem d_P_size_0 : decode um_P_size.2.1 0 = .ok (.iload_n 1, 1) := by decide +kernel
theorem d_P_size_1 : decode um_P_size.2.1 1 = .ok (.invokestatic 80, 3) := by decide +kernel
theorem d_P_size_4 : decode um_P_size.2.1 4 = .ok (.ifCond .eq 15, 3) := by decide +kernel
theorem d_P_size_7 : decode um_P_size.2.1 7 = .ok (.aload_n 0, 1) := by decide +kernel
theorem d_P_size_8 : decode um_P_size.2.1 8 = .ok (.getfield 11, 3) := by decide +kernel
theorem d_P_size_11 : decode um_P_size.2.1 11 = .ok (.iload_n 1, 1) := by decide +kernel
theorem d_P_size_12 : decode um_P_size.2.1 12 = .ok (.aaload, 1) := by decide +kernel
theorem d_P_size_13 : decode um_P_size.2.1 13 = .ok (.getfield 88, 3) := by decide +kernel
theorem d_P_size_16 : decode um_P_size.2.1 16 = .ok (.goto 4, 3) := by decide +kernel
theorem d_P_size_19 : decode um_P_size.2.1 19 = .ok (.iconst (-1), 1) := by decide +kernel
theorem d_P_size_20 : decode um_P_size.2.1 20 = .ok (.ireturn, 1) := by decide +kernel
theorem d_P_line_0 : decode um_P_line.2.1 0 = .ok (.iload_n 1, 1) := by decide +kernel
theorem d_P_line_1 : decode um_P_line.2.1 1 = .ok (.invokestatic 80, 3) := by decide +kernel
theorem d_P_line_4 : decode um_P_line.2.1 4 = .ok (.ifCond .ne 5, 3) := by decide +kernel
theorem d_P_line_7 : decode um_P_line.2.1 7 = .ok (.iconst (-1), 1) := by decide +kernel
theorem d_P_line_8 : decode um_P_line.2.1 8 = .ok (.ireturn, 1) := by decide +kernel
theorem d_P_line_9 : decode um_P_line.2.1 9 = .ok (.iload_n 2, 1) := by decide +kernel
theorem d_P_line_10 : decode um_P_line.2.1 10 = .ok (.ifCond .lt 30, 3) := by decide +kernel
theorem d_P_line_13 : decode um_P_line.2.1 13 = .ok (.iload_n 2, 1) := by decide +kernel
theorem d_P_line_14 : decode um_P_line.2.1 14 = .ok (.aload_n 0, 1) := by decide +kernel
theorem d_P_line_15 : decode um_P_line.2.1 15 = .ok (.getfield 11, 3) := by decide +kernel
theorem d_P_line_18 : decode um_P_line.2.1 18 = .ok (.iload_n 1, 1) := by decide +kernel
theorem d_P_line_19 : decode um_P_line.2.1 19 = .ok (.aaload, 1) := by decide +kernel
theorem d_P_line_20 : decode um_P_line.2.1 20 = .ok (.getfield 88, 3) := by decide +kernel
theorem d_P_line_23 : decode um_P_line.2.1 23 = .ok (.if_icmp .ge 17, 3) := by decide +kernel
theorem d_P_line_26 : decode um_P_line.2.1 26 = .ok (.aload_n 0, 1) := by decide +kernel
theorem d_P_line_27 : decode um_P_line.2.1 27 = .ok (.getfield 11, 3) := by decide +kernel
theorem d_P_line_30 : decode um_P_line.2.1 30 = .ok (.iload_n 1, 1) := by decide +kernel
theorem d_P_line_31 : decode um_P_line.2.1 31 = .ok (.aaload, 1) := by decide +kernel
theorem d_P_line_32 : decode um_P_line.2.1 32 = .ok (.getfield 100, 3) := by decide +kernel
theorem d_P_line_35 : decode um_P_line.2.1 35 = .ok (.iload_n 2, 1) := by decide +kernel
theorem d_P_line_36 : decode um_P_line.2.1 36 = .ok (.iaload, 1) := by decide +kernel
theorem d_P_line_37 : decode um_P_line.2.1 37 = .ok (.goto 5, 3) := by decide +kernel
theorem d_P_line_40 : decode um_P_line.2.1 40 = .ok (.bipush (-3), 2) := by decide +kernel
theorem d_P_line_42 : decode um_P_line.2.1 42 = .ok (.ireturn, 1) := by decide +kernel
theorem d_P_compare_0 : decode um_P_compare.2.1 0 = .ok (.iload_n 1, 1) := by decide +kernel
theorem d_P_compare_1 : decode um_P_compare.2.1 1 = .ok (.invokestatic 80, 3) := by decide +kernel
theorem d_P_compare_4 : decode um_P_compare.2.1 4 = .ok (.ifCond .eq 19, 3) := by decide +kernel
theorem d_P_compare_7 : decode um_P_compare.2.1 7 = .ok (.iload_n 2, 1) := by decide +kernel
theorem d_P_compare_8 : decode um_P_compare.2.1 8 = .ok (.invokestatic 80, 3) := by decide +kernel
theorem d_P_compare_11 : decode um_P_compare.2.1 11 = .ok (.ifCond .eq 12, 3) := by decide +kernel
theorem d_P_compare_14 : decode um_P_compare.2.1 14 = .ok (.iload_n 3, 1) := by decide +kernel
theorem d_P_compare_15 : decode um_P_compare.2.1 15 = .ok (.ifCond .eq 10, 3) := by decide +kernel
theorem d_P_compare_18 : decode um_P_compare.2.1 18 = .ok (.iload_n 3, 1) := by decide +kernel
theorem d_P_compare_19 : decode um_P_compare.2.1 19 = .ok (.iconst 1, 1) := by decide +kernel
theorem d_P_compare_20 : decode um_P_compare.2.1 20 = .ok (.if_icmp .eq 5, 3) := by decide +kernel
theorem d_P_compare_23 : decode um_P_compare.2.1 23 = .ok (.iconst (-1), 1) := by decide +kernel
theorem d_P_compare_24 : decode um_P_compare.2.1 24 = .ok (.ireturn, 1) := by decide +kernel
theorem d_P_compare_25 : decode um_P_compare.2.1 25 = .ok (.aload_n 0, 1) := by decide +kernel
theorem d_P_compare_26 : decode um_P_compare.2.1 26 = .ok (.getfield 11, 3) := by decide +kernel
theorem d_P_compare_29 : decode um_P_compare.2.1 29 = .ok (.iload_n 1, 1) := by decide +kernel
theorem d_P_compare_30 : decode um_P_compare.2.1 30 = .ok (.aaload, 1) := by decide +kernel
theorem d_P_compare_31 : decode um_P_compare.2.1 31 = .ok (.invokevirtual 104, 3) := by decide +kernel
theorem d_P_compare_34 : decode um_P_compare.2.1 34 = .ok (.ifCond .eq 15, 3) := by decide +kernel
theorem d_P_compare_37 : decode um_P_compare.2.1 37 = .ok (.aload_n 0, 1) := by decide +kernel
theorem d_P_compare_38 : decode um_P_compare.2.1 38 = .ok (.getfield 11, 3) := by decide +kernel
theorem d_P_compare_41 : decode um_P_compare.2.1 41 = .ok (.iload_n 2, 1) := by decide +kernel
theorem d_P_compare_42 : decode um_P_compare.2.1 42 = .ok (.aaload, 1) := by decide +kernel
theorem d_P_compare_43 : decode um_P_compare.2.1 43 = .ok (.invokevirtual 104, 3) := by decide +kernel
theorem d_P_compare_46 : decode um_P_compare.2.1 46 = .ok (.ifCond .ne 6, 3) := by decide +kernel
theorem d_P_compare_49 : decode um_P_compare.2.1 49 = .ok (.bipush (-3), 2) := by decide +kernel
theorem d_P_compare_51 : decode um_P_compare.2.1 51 = .ok (.ireturn, 1) := by decide +kernel
theorem d_P_compare_52 : decode um_P_compare.2.1 52 = .ok (.aload_n 0, 1) := by decide +kernel
theorem d_P_compare_53 : decode um_P_compare.2.1 53 = .ok (.getfield 18, 3) := by decide +kernel
theorem d_P_compare_56 : decode um_P_compare.2.1 56 = .ok (.aload_n 0, 1) := by decide +kernel
theorem d_P_compare_57 : decode um_P_compare.2.1 57 = .ok (.getfield 11, 3) := by decide +kernel
theorem d_P_compare_60 : decode um_P_compare.2.1 60 = .ok (.iload_n 1, 1) := by decide +kernel
theorem d_P_compare_61 : decode um_P_compare.2.1 61 = .ok (.aaload, 1) := by decide +kernel
theorem d_P_compare_62 : decode um_P_compare.2.1 62 = .ok (.aload_n 0, 1) := by decide +kernel
theorem d_P_compare_63 : decode um_P_compare.2.1 63 = .ok (.getfield 11, 3) := by decide +kernel
theorem d_P_compare_66 : decode um_P_compare.2.1 66 = .ok (.iload_n 2, 1) := by decide +kernel
theorem d_P_compare_67 : decode um_P_compare.2.1 67 = .ok (.aaload, 1) := by decide +kernel
theorem d_P_compare_68 : decode um_P_compare.2.1 68 = .ok (.invokevirtual 108, 3) := by decide +kernel
theorem d_P_compare_71 : decode um_P_compare.2.1 71 = .ok (.iload_n 3, 1) := by decide +kernel
theorem d_P_compare_72 : decode um_P_compare.2.1 72 = .ok (.ifCond .ne 17, 3) := by decide +kernel
theorem d_P_compare_75 : decode um_P_compare.2.1 75 = .ok (.aload_n 0, 1) := by decide +kernel
theorem d_P_compare_76 : decode um_P_compare.2.1 76 = .ok (.getfield 25, 3) := by decide +kernel
theorem d_P_compare_79 : decode um_P_compare.2.1 79 = .ok (.aload_n 0, 1) := by decide +kernel
theorem d_P_compare_80 : decode um_P_compare.2.1 80 = .ok (.getfield 18, 3) := by decide +kernel
theorem d_P_compare_83 : decode um_P_compare.2.1 83 = .ok (.invokevirtual 112, 3) := by decide +kernel
theorem d_P_compare_86 : decode um_P_compare.2.1 86 = .ok (.goto 14, 3) := by decide +kernel
theorem d_P_compare_89 : decode um_P_compare.2.1 89 = .ok (.aload_n 0, 1) := by decide +kernel
theorem d_P_compare_90 : decode um_P_compare.2.1 90 = .ok (.getfield 34, 3) := by decide +kernel
theorem d_P_compare_93 : decode um_P_compare.2.1 93 = .ok (.aload_n 0, 1) := by decide +kernel
theorem d_P_compare_94 : decode um_P_compare.2.1 94 = .ok (.getfield 18, 3) := by decide +kernel
theorem d_P_compare_97 : decode um_P_compare.2.1 97 = .ok (.invokevirtual 116, 3) := by decide +kernel
theorem d_P_compare_100 : decode um_P_compare.2.1 100 = .ok (.aload_n 0, 1) := by decide +kernel
theorem d_P_compare_101 : decode um_P_compare.2.1 101 = .ok (.iconst 1, 1) := by decide +kernel
theorem d_P_compare_102 : decode um_P_compare.2.1 102 = .ok (.putfield 117, 3) := by decide +kernel
theorem d_P_compare_105 : decode um_P_compare.2.1 105 = .ok (.aload_n 0, 1) := by decide +kernel
theorem d_P_compare_106 : decode um_P_compare.2.1 106 = .ok (.getfield 18, 3) := by decide +kernel
theorem d_P_compare_109 : decode um_P_compare.2.1 109 = .ok (.invokevirtual 121, 3) := by decide +kernel
theorem d_P_compare_112 : decode um_P_compare.2.1 112 = .ok (.ireturn, 1) := by decide +kernel
theorem d_P_match_0 : decode um_P_match.2.1 0 = .ok (.aload_n 0, 1) := by decide +kernel
theorem d_P_match_1 : decode um_P_match.2.1 1 = .ok (.getfield 117, 3) := by decide +kernel
theorem d_P_match_4 : decode um_P_match.2.1 4 = .ok (.ifCond .eq 14, 3) := by decide +kernel
theorem d_P_match_7 : decode um_P_match.2.1 7 = .ok (.aload_n 0, 1) := by decide +kernel
theorem d_P_match_8 : decode um_P_match.2.1 8 = .ok (.getfield 18, 3) := by decide +kernel
theorem d_P_match_11 : decode um_P_match.2.1 11 = .ok (.iload_n 1, 1) := by decide +kernel
theorem d_P_match_12 : decode um_P_match.2.1 12 = .ok (.invokevirtual 125, 3) := by decide +kernel
theorem d_P_match_15 : decode um_P_match.2.1 15 = .ok (.goto 5, 3) := by decide +kernel
theorem d_P_match_18 : decode um_P_match.2.1 18 = .ok (.bipush (-3), 2) := by decide +kernel
theorem d_P_match_20 : decode um_P_match.2.1 20 = .ok (.ireturn, 1) := by decide +kernel
theorem d_P_write_0 : decode um_P_write.2.1 0 = .ok (.iload_n 1, 1) := by decide +kernel
theorem d_P_write_1 : decode um_P_write.2.1 1 = .ok (.ifCond .lt 8, 3) := by decide +kernel
theorem d_P_write_4 : decode um_P_write.2.1 4 = .ok (.iload_n 1, 1) := by decide +kernel
theorem d_P_write_5 : decode um_P_write.2.1 5 = .ok (.iconst 3, 1) := by decide +kernel
theorem d_P_write_6 : decode um_P_write.2.1 6 = .ok (.if_icmp .le 5, 3) := by decide +kernel
theorem d_P_write_9 : decode um_P_write.2.1 9 = .ok (.iconst (-1), 1) := by decide +kernel
theorem d_P_write_10 : decode um_P_write.2.1 10 = .ok (.ireturn, 1) := by decide +kernel
theorem d_P_write_11 : decode um_P_write.2.1 11 = .ok (.aload_n 0, 1) := by decide +kernel
theorem d_P_write_12 : decode um_P_write.2.1 12 = .ok (.getfield 117, 3) := by decide +kernel
theorem d_P_write_15 : decode um_P_write.2.1 15 = .ok (.ifCond .eq 14, 3) := by decide +kernel
theorem d_P_write_18 : decode um_P_write.2.1 18 = .ok (.aload_n 0, 1) := by decide +kernel
theorem d_P_write_19 : decode um_P_write.2.1 19 = .ok (.getfield 50, 3) := by decide +kernel
theorem d_P_write_22 : decode um_P_write.2.1 22 = .ok (.iload_n 1, 1) := by decide +kernel
theorem d_P_write_23 : decode um_P_write.2.1 23 = .ok (.invokevirtual 129, 3) := by decide +kernel
theorem d_P_write_26 : decode um_P_write.2.1 26 = .ok (.goto 5, 3) := by decide +kernel
theorem d_P_write_29 : decode um_P_write.2.1 29 = .ok (.bipush (-3), 2) := by decide +kernel
theorem d_P_write_31 : decode um_P_write.2.1 31 = .ok (.ireturn, 1) := by decide +kernel
theorem d_P_type_0 : decode um_P_type.2.1 0 = .ok (.iload_n 3, 1) := by decide +kernel
theorem d_P_type_1 : decode um_P_type.2.1 1 = .ok (.iconst 1, 1) := by decide +kernel
theorem d_P_type_2 : decode um_P_type.2.1 2 = .ok (.if_icmp .lt 9, 3) := by decide +kernel
theorem d_P_type_5 : decode um_P_type.2.1 5 = .ok (.iload_n 3, 1) := by decide +kernel
theorem d_P_type_6 : decode um_P_type.2.1 6 = .ok (.bipush 8, 2) := by decide +kernel
theorem d_P_type_8 : decode um_P_type.2.1 8 = .ok (.if_icmp .le 5, 3) := by decide +kernel
theorem d_P_type_11 : decode um_P_type.2.1 11 = .ok (.iconst (-1), 1) := by decide +kernel
theorem d_P_type_12 : decode um_P_type.2.1 12 = .ok (.ireturn, 1) := by decide +kernel
theorem d_P_type_13 : decode um_P_type.2.1 13 = .ok (.aload_n 0, 1) := by decide +kernel
theorem d_P_type_14 : decode um_P_type.2.1 14 = .ok (.getfield 41, 3) := by decide +kernel
theorem d_P_type_17 : decode um_P_type.2.1 17 = .ok (.getfield 132, 3) := by decide +kernel
theorem d_P_type_20 : decode um_P_type.2.1 20 = .ok (.iload_n 3, 1) := by decide +kernel
theorem d_P_type_21 : decode um_P_type.2.1 21 = .ok (.iadd, 1) := by decide +kernel
theorem d_P_type_22 : decode um_P_type.2.1 22 = .ok (.sipush 900, 3) := by decide +kernel
theorem d_P_type_25 : decode um_P_type.2.1 25 = .ok (.if_icmp .le 6, 3) := by decide +kernel
theorem d_P_type_28 : decode um_P_type.2.1 28 = .ok (.bipush (-2), 2) := by decide +kernel
theorem d_P_type_30 : decode um_P_type.2.1 30 = .ok (.ireturn, 1) := by decide +kernel
theorem d_P_type_31 : decode um_P_type.2.1 31 = .ok (.iload_n 3, 1) := by decide +kernel
theorem d_P_type_32 : decode um_P_type.2.1 32 = .ok (.iconst 1, 1) := by decide +kernel
theorem d_P_type_33 : decode um_P_type.2.1 33 = .ok (.isub, 1) := by decide +kernel
theorem d_P_type_34 : decode um_P_type.2.1 34 = .ok (.istore 4, 2) := by decide +kernel
theorem d_P_type_36 : decode um_P_type.2.1 36 = .ok (.iload 4, 2) := by decide +kernel
theorem d_P_type_38 : decode um_P_type.2.1 38 = .ok (.ifCond .lt 22, 3) := by decide +kernel
theorem d_P_type_41 : decode um_P_type.2.1 41 = .ok (.aload_n 0, 1) := by decide +kernel
theorem d_P_type_42 : decode um_P_type.2.1 42 = .ok (.getfield 41, 3) := by decide +kernel
theorem d_P_type_45 : decode um_P_type.2.1 45 = .ok (.lload_n 1, 1) := by decide +kernel
theorem d_P_type_46 : decode um_P_type.2.1 46 = .ok (.iload 4, 2) := by decide +kernel
theorem d_P_type_48 : decode um_P_type.2.1 48 = .ok (.invokestatic 92, 3) := by decide +kernel
theorem d_P_type_51 : decode um_P_type.2.1 51 = .ok (.invokevirtual 135, 3) := by decide +kernel
theorem d_P_type_54 : decode um_P_type.2.1 54 = .ok (.iinc 4 (-1), 3) := by decide +kernel
theorem d_P_type_57 : decode um_P_type.2.1 57 = .ok (.goto (-21), 3) := by decide +kernel
theorem d_P_type_60 : decode um_P_type.2.1 60 = .ok (.aload_n 0, 1) := by decide +kernel
theorem d_P_type_61 : decode um_P_type.2.1 61 = .ok (.getfield 41, 3) := by decide +kernel
theorem d_P_type_64 : decode um_P_type.2.1 64 = .ok (.getfield 132, 3) := by decide +kernel
theorem d_P_type_67 : decode um_P_type.2.1 67 = .ok (.ireturn, 1) := by decide +kernel
theorem d_P_wipe_0 : decode um_P_wipe.2.1 0 = .ok (.aload_n 0, 1) := by decide +kernel
theorem d_P_wipe_1 : decode um_P_wipe.2.1 1 = .ok (.getfield 41, 3) := by decide +kernel
theorem d_P_wipe_4 : decode um_P_wipe.2.1 4 = .ok (.getfield 132, 3) := by decide +kernel
theorem d_P_wipe_7 : decode um_P_wipe.2.1 7 = .ok (.istore_n 1, 1) := by decide +kernel
theorem d_P_wipe_8 : decode um_P_wipe.2.1 8 = .ok (.aload_n 0, 1) := by decide +kernel
theorem d_P_wipe_9 : decode um_P_wipe.2.1 9 = .ok (.getfield 41, 3) := by decide +kernel
theorem d_P_wipe_12 : decode um_P_wipe.2.1 12 = .ok (.iconst 0, 1) := by decide +kernel
theorem d_P_wipe_13 : decode um_P_wipe.2.1 13 = .ok (.putfield 132, 3) := by decide +kernel
theorem d_P_wipe_16 : decode um_P_wipe.2.1 16 = .ok (.iload_n 1, 1) := by decide +kernel
theorem d_P_wipe_17 : decode um_P_wipe.2.1 17 = .ok (.ireturn, 1) := by decide +kernel
theorem d_P_character_0 : decode um_P_character.2.1 0 = .ok (.iload_n 1, 1) := by decide +kernel
theorem d_P_character_1 : decode um_P_character.2.1 1 = .ok (.ifCond .lt 26, 3) := by decide +kernel
theorem d_P_character_4 : decode um_P_character.2.1 4 = .ok (.iload_n 1, 1) := by decide +kernel
theorem d_P_character_5 : decode um_P_character.2.1 5 = .ok (.aload_n 0, 1) := by decide +kernel
theorem d_P_character_6 : decode um_P_character.2.1 6 = .ok (.getfield 41, 3) := by decide +kernel
theorem d_P_character_9 : decode um_P_character.2.1 9 = .ok (.getfield 132, 3) := by decide +kernel
theorem d_P_character_12 : decode um_P_character.2.1 12 = .ok (.if_icmp .ge 15, 3) := by decide +kernel
theorem d_P_character_15 : decode um_P_character.2.1 15 = .ok (.aload_n 0, 1) := by decide +kernel
theorem d_P_character_16 : decode um_P_character.2.1 16 = .ok (.getfield 41, 3) := by decide +kernel
theorem d_P_character_19 : decode um_P_character.2.1 19 = .ok (.getfield 136, 3) := by decide +kernel
theorem d_P_character_22 : decode um_P_character.2.1 22 = .ok (.iload_n 1, 1) := by decide +kernel
theorem d_P_character_23 : decode um_P_character.2.1 23 = .ok (.iaload, 1) := by decide +kernel
theorem d_P_character_24 : decode um_P_character.2.1 24 = .ok (.goto 5, 3) := by decide +kernel
theorem d_P_character_27 : decode um_P_character.2.1 27 = .ok (.bipush (-3), 2) := by decide +kernel
theorem d_P_character_29 : decode um_P_character.2.1 29 = .ok (.ireturn, 1) := by decide +kernel
theorem d_P_read_0 : decode um_P_read.2.1 0 = .ok (.aload_n 0, 1) := by decide +kernel
theorem d_P_read_1 : decode um_P_read.2.1 1 = .ok (.getfield 59, 3) := by decide +kernel
theorem d_P_read_4 : decode um_P_read.2.1 4 = .ok (.invokevirtual 139, 3) := by decide +kernel
theorem d_P_read_7 : decode um_P_read.2.1 7 = .ok (.ireturn, 1) := by decide +kernel
theorem d_P_apply_0 : decode um_P_apply.2.1 0 = .ok (.iload_n 1, 1) := by decide +kernel
theorem d_P_apply_1 : decode um_P_apply.2.1 1 = .ok (.invokestatic 80, 3) := by decide +kernel
theorem d_P_apply_4 : decode um_P_apply.2.1 4 = .ok (.ifCond .eq 14, 3) := by decide +kernel
theorem d_P_apply_7 : decode um_P_apply.2.1 7 = .ok (.aload_n 0, 1) := by decide +kernel
theorem d_P_apply_8 : decode um_P_apply.2.1 8 = .ok (.getfield 59, 3) := by decide +kernel
theorem d_P_apply_11 : decode um_P_apply.2.1 11 = .ok (.invokevirtual 139, 3) := by decide +kernel
theorem d_P_apply_14 : decode um_P_apply.2.1 14 = .ok (.iconst (-1), 1) := by decide +kernel
theorem d_P_apply_15 : decode um_P_apply.2.1 15 = .ok (.if_icmp .eq 5, 3) := by decide +kernel
theorem d_P_apply_18 : decode um_P_apply.2.1 18 = .ok (.iconst (-1), 1) := by decide +kernel
theorem d_P_apply_19 : decode um_P_apply.2.1 19 = .ok (.ireturn, 1) := by decide +kernel
theorem d_P_apply_20 : decode um_P_apply.2.1 20 = .ok (.aload_n 0, 1) := by decide +kernel
theorem d_P_apply_21 : decode um_P_apply.2.1 21 = .ok (.getfield 68, 3) := by decide +kernel
theorem d_P_apply_24 : decode um_P_apply.2.1 24 = .ok (.aload_n 0, 1) := by decide +kernel
theorem d_P_apply_25 : decode um_P_apply.2.1 25 = .ok (.getfield 11, 3) := by decide +kernel
theorem d_P_apply_28 : decode um_P_apply.2.1 28 = .ok (.iload_n 1, 1) := by decide +kernel
theorem d_P_apply_29 : decode um_P_apply.2.1 29 = .ok (.aaload, 1) := by decide +kernel
theorem d_P_apply_30 : decode um_P_apply.2.1 30 = .ok (.invokevirtual 142, 3) := by decide +kernel
theorem d_P_apply_33 : decode um_P_apply.2.1 33 = .ok (.ireturn, 1) := by decide +kernel
theorem d_P_merge_0 : decode um_P_merge.2.1 0 = .ok (.iconst 0, 1) := by decide +kernel
theorem d_P_merge_1 : decode um_P_merge.2.1 1 = .ok (.istore_n 1, 1) := by decide +kernel
theorem d_P_merge_2 : decode um_P_merge.2.1 2 = .ok (.iload_n 1, 1) := by decide +kernel
theorem d_P_merge_3 : decode um_P_merge.2.1 3 = .ok (.iconst 3, 1) := by decide +kernel
theorem d_P_merge_4 : decode um_P_merge.2.1 4 = .ok (.if_icmp .ge 24, 3) := by decide +kernel
theorem d_P_merge_7 : decode um_P_merge.2.1 7 = .ok (.aload_n 0, 1) := by decide +kernel
theorem d_P_merge_8 : decode um_P_merge.2.1 8 = .ok (.getfield 11, 3) := by decide +kernel
theorem d_P_merge_11 : decode um_P_merge.2.1 11 = .ok (.iload_n 1, 1) := by decide +kernel
theorem d_P_merge_12 : decode um_P_merge.2.1 12 = .ok (.aaload, 1) := by decide +kernel
theorem d_P_merge_13 : decode um_P_merge.2.1 13 = .ok (.invokevirtual 104, 3) := by decide +kernel
theorem d_P_merge_16 : decode um_P_merge.2.1 16 = .ok (.ifCond .ne 6, 3) := by decide +kernel
theorem d_P_merge_19 : decode um_P_merge.2.1 19 = .ok (.bipush (-3), 2) := by decide +kernel
theorem d_P_merge_21 : decode um_P_merge.2.1 21 = .ok (.ireturn, 1) := by decide +kernel
theorem d_P_merge_22 : decode um_P_merge.2.1 22 = .ok (.iinc 1 1, 3) := by decide +kernel
theorem d_P_merge_25 : decode um_P_merge.2.1 25 = .ok (.goto (-23), 3) := by decide +kernel
theorem d_P_merge_28 : decode um_P_merge.2.1 28 = .ok (.aload_n 0, 1) := by decide +kernel
theorem d_P_merge_29 : decode um_P_merge.2.1 29 = .ok (.getfield 75, 3) := by decide +kernel
theorem d_P_merge_32 : decode um_P_merge.2.1 32 = .ok (.aload_n 0, 1) := by decide +kernel
theorem d_P_merge_33 : decode um_P_merge.2.1 33 = .ok (.getfield 11, 3) := by decide +kernel
theorem d_P_merge_36 : decode um_P_merge.2.1 36 = .ok (.iconst 0, 1) := by decide +kernel
theorem d_P_merge_37 : decode um_P_merge.2.1 37 = .ok (.aaload, 1) := by decide +kernel
theorem d_P_merge_38 : decode um_P_merge.2.1 38 = .ok (.aload_n 0, 1) := by decide +kernel
theorem d_P_merge_39 : decode um_P_merge.2.1 39 = .ok (.getfield 11, 3) := by decide +kernel
theorem d_P_merge_42 : decode um_P_merge.2.1 42 = .ok (.iconst 1, 1) := by decide +kernel
theorem d_P_merge_43 : decode um_P_merge.2.1 43 = .ok (.aaload, 1) := by decide +kernel
theorem d_P_merge_44 : decode um_P_merge.2.1 44 = .ok (.aload_n 0, 1) := by decide +kernel
theorem d_P_merge_45 : decode um_P_merge.2.1 45 = .ok (.getfield 11, 3) := by decide +kernel
theorem d_P_merge_48 : decode um_P_merge.2.1 48 = .ok (.iconst 2, 1) := by decide +kernel
theorem d_P_merge_49 : decode um_P_merge.2.1 49 = .ok (.aaload, 1) := by decide +kernel
theorem d_P_merge_50 : decode um_P_merge.2.1 50 = .ok (.invokevirtual 146, 3) := by decide +kernel
theorem d_P_merge_53 : decode um_P_merge.2.1 53 = .ok (.istore_n 1, 1) := by decide +kernel
theorem d_P_merge_54 : decode um_P_merge.2.1 54 = .ok (.aload_n 0, 1) := by decide +kernel
theorem d_P_merge_55 : decode um_P_merge.2.1 55 = .ok (.getfield 75, 3) := by decide +kernel
theorem d_P_merge_58 : decode um_P_merge.2.1 58 = .ok (.aload_n 0, 1) := by decide +kernel
theorem d_P_merge_59 : decode um_P_merge.2.1 59 = .ok (.getfield 11, 3) := by decide +kernel
theorem d_P_merge_62 : decode um_P_merge.2.1 62 = .ok (.iconst 3, 1) := by decide +kernel
theorem d_P_merge_63 : decode um_P_merge.2.1 63 = .ok (.aaload, 1) := by decide +kernel
theorem d_P_merge_64 : decode um_P_merge.2.1 64 = .ok (.invokevirtual 150, 3) := by decide +kernel
theorem d_P_merge_67 : decode um_P_merge.2.1 67 = .ok (.ifCond .eq 7, 3) := by decide +kernel
theorem d_P_merge_70 : decode um_P_merge.2.1 70 = .ok (.iload_n 1, 1) := by decide +kernel
theorem d_P_merge_71 : decode um_P_merge.2.1 71 = .ok (.goto 5, 3) := by decide +kernel
theorem d_P_merge_74 : decode um_P_merge.2.1 74 = .ok (.bipush (-2), 2) := by decide +kernel
theorem d_P_merge_76 : decode um_P_merge.2.1 76 = .ok (.ireturn, 1) := by decide +kernel
theorem d_P_isText_0 : decode um_P_isText.2.1 0 = .ok (.iload_n 0, 1) := by decide +kernel
theorem d_P_isText_1 : decode um_P_isText.2.1 1 = .ok (.ifCond .lt 12, 3) := by decide +kernel
theorem d_P_isText_4 : decode um_P_isText.2.1 4 = .ok (.iload_n 0, 1) := by decide +kernel
theorem d_P_isText_5 : decode um_P_isText.2.1 5 = .ok (.iconst 4, 1) := by decide +kernel
theorem d_P_isText_6 : decode um_P_isText.2.1 6 = .ok (.if_icmp .ge 7, 3) := by decide +kernel
theorem d_P_isText_9 : decode um_P_isText.2.1 9 = .ok (.iconst 1, 1) := by decide +kernel
theorem d_P_isText_10 : decode um_P_isText.2.1 10 = .ok (.goto 4, 3) := by decide +kernel
theorem d_P_isText_13 : decode um_P_isText.2.1 13 = .ok (.iconst 0, 1) := by decide +kernel
theorem d_P_isText_14 : decode um_P_isText.2.1 14 = .ok (.ireturn, 1) := by decide +kernel
theorem d_P_areLetters_0 : decode um_P_areLetters.2.1 0 = .ok (.iconst 0, 1) := by decide +kernel
theorem d_P_areLetters_1 : decode um_P_areLetters.2.1 1 = .ok (.istore_n 3, 1) := by decide +kernel
theorem d_P_areLetters_2 : decode um_P_areLetters.2.1 2 = .ok (.iload_n 3, 1) := by decide +kernel
theorem d_P_areLetters_3 : decode um_P_areLetters.2.1 3 = .ok (.iload_n 2, 1) := by decide +kernel
theorem d_P_areLetters_4 : decode um_P_areLetters.2.1 4 = .ok (.if_icmp .ge 22, 3) := by decide +kernel
theorem d_P_areLetters_7 : decode um_P_areLetters.2.1 7 = .ok (.lload_n 0, 1) := by decide +kernel
theorem d_P_areLetters_8 : decode um_P_areLetters.2.1 8 = .ok (.iload_n 3, 1) := by decide +kernel
theorem d_P_areLetters_9 : decode um_P_areLetters.2.1 9 = .ok (.invokestatic 92, 3) := by decide +kernel
theorem d_P_areLetters_12 : decode um_P_areLetters.2.1 12 = .ok (.invokestatic 154, 3) := by decide +kernel
theorem d_P_areLetters_15 : decode um_P_areLetters.2.1 15 = .ok (.ifCond .ne 5, 3) := by decide +kernel
theorem d_P_areLetters_18 : decode um_P_areLetters.2.1 18 = .ok (.iconst 0, 1) := by decide +kernel
theorem d_P_areLetters_19 : decode um_P_areLetters.2.1 19 = .ok (.ireturn, 1) := by decide +kernel
theorem d_P_areLetters_20 : decode um_P_areLetters.2.1 20 = .ok (.iinc 3 1, 3) := by decide +kernel
theorem d_P_areLetters_23 : decode um_P_areLetters.2.1 23 = .ok (.goto (-21), 3) := by decide +kernel
theorem d_P_areLetters_26 : decode um_P_areLetters.2.1 26 = .ok (.iconst 1, 1) := by decide +kernel
theorem d_P_areLetters_27 : decode um_P_areLetters.2.1 27 = .ok (.ireturn, 1) := by decide +kernel
theorem d_P_isLetter_0 : decode um_P_isLetter.2.1 0 = .ok (.iload_n 0, 1) := by decide +kernel
theorem d_P_isLetter_1 : decode um_P_isLetter.2.1 1 = .ok (.bipush 97, 2) := by decide +kernel
theorem d_P_isLetter_3 : decode um_P_isLetter.2.1 3 = .ok (.if_icmp .lt 13, 3) := by decide +kernel
theorem d_P_isLetter_6 : decode um_P_isLetter.2.1 6 = .ok (.iload_n 0, 1) := by decide +kernel
theorem d_P_isLetter_7 : decode um_P_isLetter.2.1 7 = .ok (.bipush 122, 2) := by decide +kernel
theorem d_P_isLetter_9 : decode um_P_isLetter.2.1 9 = .ok (.if_icmp .gt 7, 3) := by decide +kernel
theorem d_P_isLetter_12 : decode um_P_isLetter.2.1 12 = .ok (.iconst 1, 1) := by decide +kernel
theorem d_P_isLetter_13 : decode um_P_isLetter.2.1 13 = .ok (.goto 4, 3) := by decide +kernel
theorem d_P_isLetter_16 : decode um_P_isLetter.2.1 16 = .ok (.iconst 0, 1) := by decide +kernel
theorem d_P_isLetter_17 : decode um_P_isLetter.2.1 17 = .ok (.ireturn, 1) := by decide +kernel
theorem d_P_byteOf_0 : decode um_P_byteOf.2.1 0 = .ok (.lload_n 0, 1) := by decide +kernel
theorem d_P_byteOf_1 : decode um_P_byteOf.2.1 1 = .ok (.bipush 8, 2) := by decide +kernel
theorem d_P_byteOf_3 : decode um_P_byteOf.2.1 3 = .ok (.iload_n 2, 1) := by decide +kernel
theorem d_P_byteOf_4 : decode um_P_byteOf.2.1 4 = .ok (.imul, 1) := by decide +kernel
theorem d_P_byteOf_5 : decode um_P_byteOf.2.1 5 = .ok (.lushr, 1) := by decide +kernel
theorem d_P_byteOf_6 : decode um_P_byteOf.2.1 6 = .ok (.ldc2_w 157, 3) := by decide +kernel
theorem d_P_byteOf_9 : decode um_P_byteOf.2.1 9 = .ok (.land, 1) := by decide +kernel
theorem d_P_byteOf_10 : decode um_P_byteOf.2.1 10 = .ok (.l2i, 1) := by decide +kernel
theorem d_P_byteOf_11 : decode um_P_byteOf.2.1 11 = .ok (.ireturn, 1) := by decide +kernel
theorem d_T_init_0 : decode um_T_init.2.1 0 = .ok (.aload_n 0, 1) := by decide +kernel
theorem d_T_init_1 : decode um_T_init.2.1 1 = .ok (.invokespecial 3, 3) := by decide +kernel
theorem d_T_init_4 : decode um_T_init.2.1 4 = .ok (.aload_n 0, 1) := by decide +kernel
theorem d_T_init_5 : decode um_T_init.2.1 5 = .ok (.bipush 24, 2) := by decide +kernel
theorem d_T_init_7 : decode um_T_init.2.1 7 = .ok (.newarray .int, 2) := by decide +kernel
theorem d_T_init_9 : decode um_T_init.2.1 9 = .ok (.putfield 9, 3) := by decide +kernel
theorem d_T_init_12 : decode um_T_init.2.1 12 = .ok (.return_, 1) := by decide +kernel
theorem d_T_append_0 : decode um_T_append.2.1 0 = .ok (.aload_n 0, 1) := by decide +kernel
theorem d_T_append_1 : decode um_T_append.2.1 1 = .ok (.getfield 15, 3) := by decide +kernel
theorem d_T_append_4 : decode um_T_append.2.1 4 = .ok (.bipush 24, 2) := by decide +kernel
theorem d_T_append_6 : decode um_T_append.2.1 6 = .ok (.if_icmp .ge 23, 3) := by decide +kernel
theorem d_T_append_9 : decode um_T_append.2.1 9 = .ok (.aload_n 0, 1) := by decide +kernel
theorem d_T_append_10 : decode um_T_append.2.1 10 = .ok (.getfield 9, 3) := by decide +kernel
theorem d_T_append_13 : decode um_T_append.2.1 13 = .ok (.aload_n 0, 1) := by decide +kernel
theorem d_T_append_14 : decode um_T_append.2.1 14 = .ok (.getfield 15, 3) := by decide +kernel
theorem d_T_append_17 : decode um_T_append.2.1 17 = .ok (.iload_n 1, 1) := by decide +kernel
theorem d_T_append_18 : decode um_T_append.2.1 18 = .ok (.iastore, 1) := by decide +kernel
theorem d_T_append_19 : decode um_T_append.2.1 19 = .ok (.aload_n 0, 1) := by decide +kernel
theorem d_T_append_20 : decode um_T_append.2.1 20 = .ok (.dup, 1) := by decide +kernel
theorem d_T_append_21 : decode um_T_append.2.1 21 = .ok (.getfield 15, 3) := by decide +kernel
theorem d_T_append_24 : decode um_T_append.2.1 24 = .ok (.iconst 1, 1) := by decide +kernel
theorem d_T_append_25 : decode um_T_append.2.1 25 = .ok (.iadd, 1) := by decide +kernel
theorem d_T_append_26 : decode um_T_append.2.1 26 = .ok (.putfield 15, 3) := by decide +kernel
theorem d_T_append_29 : decode um_T_append.2.1 29 = .ok (.return_, 1) := by decide +kernel
theorem d_T_appendPart_0 : decode um_T_appendPart.2.1 0 = .ok (.iload_n 2, 1) := by decide +kernel
theorem d_T_appendPart_1 : decode um_T_appendPart.2.1 1 = .ok (.istore 4, 2) := by decide +kernel
theorem d_T_appendPart_3 : decode um_T_appendPart.2.1 3 = .ok (.iload 4, 2) := by decide +kernel
theorem d_T_appendPart_5 : decode um_T_appendPart.2.1 5 = .ok (.iload_n 3, 1) := by decide +kernel
theorem d_T_appendPart_6 : decode um_T_appendPart.2.1 6 = .ok (.if_icmp .ge 20, 3) := by decide +kernel
theorem d_T_appendPart_9 : decode um_T_appendPart.2.1 9 = .ok (.aload_n 0, 1) := by decide +kernel
theorem d_T_appendPart_10 : decode um_T_appendPart.2.1 10 = .ok (.aload_n 1, 1) := by decide +kernel
theorem d_T_appendPart_11 : decode um_T_appendPart.2.1 11 = .ok (.getfield 9, 3) := by decide +kernel
theorem d_T_appendPart_14 : decode um_T_appendPart.2.1 14 = .ok (.iload 4, 2) := by decide +kernel
theorem d_T_appendPart_16 : decode um_T_appendPart.2.1 16 = .ok (.iaload, 1) := by decide +kernel
theorem d_T_appendPart_17 : decode um_T_appendPart.2.1 17 = .ok (.invokevirtual 19, 3) := by decide +kernel
theorem d_T_appendPart_20 : decode um_T_appendPart.2.1 20 = .ok (.iinc 4 1, 3) := by decide +kernel
theorem d_T_appendPart_23 : decode um_T_appendPart.2.1 23 = .ok (.goto (-20), 3) := by decide +kernel
theorem d_T_appendPart_26 : decode um_T_appendPart.2.1 26 = .ok (.return_, 1) := by decide +kernel
theorem d_T_become_0 : decode um_T_become.2.1 0 = .ok (.aload_n 0, 1) := by decide +kernel
theorem d_T_become_1 : decode um_T_become.2.1 1 = .ok (.iconst 0, 1) := by decide +kernel
theorem d_T_become_2 : decode um_T_become.2.1 2 = .ok (.putfield 15, 3) := by decide +kernel
theorem d_T_become_5 : decode um_T_become.2.1 5 = .ok (.aload_n 0, 1) := by decide +kernel
theorem d_T_become_6 : decode um_T_become.2.1 6 = .ok (.aload_n 1, 1) := by decide +kernel
theorem d_T_become_7 : decode um_T_become.2.1 7 = .ok (.iconst 0, 1) := by decide +kernel
theorem d_T_become_8 : decode um_T_become.2.1 8 = .ok (.aload_n 1, 1) := by decide +kernel
theorem d_T_become_9 : decode um_T_become.2.1 9 = .ok (.getfield 15, 3) := by decide +kernel
theorem d_T_become_12 : decode um_T_become.2.1 12 = .ok (.invokevirtual 23, 3) := by decide +kernel
theorem d_T_become_15 : decode um_T_become.2.1 15 = .ok (.return_, 1) := by decide +kernel
theorem d_T_hasOnlyLetters_0 : decode um_T_hasOnlyLetters.2.1 0 = .ok (.iconst 0, 1) := by decide +kernel
theorem d_T_hasOnlyLetters_1 : decode um_T_hasOnlyLetters.2.1 1 = .ok (.istore_n 1, 1) := by decide +kernel
theorem d_T_hasOnlyLetters_2 : decode um_T_hasOnlyLetters.2.1 2 = .ok (.iload_n 1, 1) := by decide +kernel
theorem d_T_hasOnlyLetters_3 : decode um_T_hasOnlyLetters.2.1 3 = .ok (.aload_n 0, 1) := by decide +kernel
theorem d_T_hasOnlyLetters_4 : decode um_T_hasOnlyLetters.2.1 4 = .ok (.getfield 15, 3) := by decide +kernel
theorem d_T_hasOnlyLetters_7 : decode um_T_hasOnlyLetters.2.1 7 = .ok (.if_icmp .ge 23, 3) := by decide +kernel
theorem d_T_hasOnlyLetters_10 : decode um_T_hasOnlyLetters.2.1 10 = .ok (.aload_n 0, 1) := by decide +kernel
theorem d_T_hasOnlyLetters_11 : decode um_T_hasOnlyLetters.2.1 11 = .ok (.getfield 9, 3) := by decide +kernel
theorem d_T_hasOnlyLetters_14 : decode um_T_hasOnlyLetters.2.1 14 = .ok (.iload_n 1, 1) := by decide +kernel
theorem d_T_hasOnlyLetters_15 : decode um_T_hasOnlyLetters.2.1 15 = .ok (.iaload, 1) := by decide +kernel
theorem d_T_hasOnlyLetters_16 : decode um_T_hasOnlyLetters.2.1 16 = .ok (.invokestatic 27, 3) := by decide +kernel
theorem d_T_hasOnlyLetters_19 : decode um_T_hasOnlyLetters.2.1 19 = .ok (.ifCond .ne 5, 3) := by decide +kernel
theorem d_T_hasOnlyLetters_22 : decode um_T_hasOnlyLetters.2.1 22 = .ok (.iconst 0, 1) := by decide +kernel
theorem d_T_hasOnlyLetters_23 : decode um_T_hasOnlyLetters.2.1 23 = .ok (.ireturn, 1) := by decide +kernel
theorem d_T_hasOnlyLetters_24 : decode um_T_hasOnlyLetters.2.1 24 = .ok (.iinc 1 1, 3) := by decide +kernel
theorem d_T_hasOnlyLetters_27 : decode um_T_hasOnlyLetters.2.1 27 = .ok (.goto (-25), 3) := by decide +kernel
theorem d_T_hasOnlyLetters_30 : decode um_T_hasOnlyLetters.2.1 30 = .ok (.iconst 1, 1) := by decide +kernel
theorem d_T_hasOnlyLetters_31 : decode um_T_hasOnlyLetters.2.1 31 = .ok (.ireturn, 1) := by decide +kernel
theorem d_T_onlyPlace_0 : decode um_T_onlyPlace.2.1 0 = .ok (.bipush (-3), 2) := by decide +kernel
theorem d_T_onlyPlace_2 : decode um_T_onlyPlace.2.1 2 = .ok (.istore 4, 2) := by decide +kernel
theorem d_T_onlyPlace_4 : decode um_T_onlyPlace.2.1 4 = .ok (.iload_n 2, 1) := by decide +kernel
theorem d_T_onlyPlace_5 : decode um_T_onlyPlace.2.1 5 = .ok (.istore 5, 2) := by decide +kernel
theorem d_T_onlyPlace_7 : decode um_T_onlyPlace.2.1 7 = .ok (.iload 5, 2) := by decide +kernel
theorem d_T_onlyPlace_9 : decode um_T_onlyPlace.2.1 9 = .ok (.iload_n 3, 1) := by decide +kernel
theorem d_T_onlyPlace_10 : decode um_T_onlyPlace.2.1 10 = .ok (.if_icmp .ge 34, 3) := by decide +kernel
theorem d_T_onlyPlace_13 : decode um_T_onlyPlace.2.1 13 = .ok (.aload_n 0, 1) := by decide +kernel
theorem d_T_onlyPlace_14 : decode um_T_onlyPlace.2.1 14 = .ok (.getfield 9, 3) := by decide +kernel
theorem d_T_onlyPlace_17 : decode um_T_onlyPlace.2.1 17 = .ok (.iload 5, 2) := by decide +kernel
theorem d_T_onlyPlace_19 : decode um_T_onlyPlace.2.1 19 = .ok (.iaload, 1) := by decide +kernel
theorem d_T_onlyPlace_20 : decode um_T_onlyPlace.2.1 20 = .ok (.iload_n 1, 1) := by decide +kernel
theorem d_T_onlyPlace_21 : decode um_T_onlyPlace.2.1 21 = .ok (.if_icmp .ne 17, 3) := by decide +kernel
theorem d_T_onlyPlace_24 : decode um_T_onlyPlace.2.1 24 = .ok (.iload 4, 2) := by decide +kernel
theorem d_T_onlyPlace_26 : decode um_T_onlyPlace.2.1 26 = .ok (.bipush (-3), 2) := by decide +kernel
theorem d_T_onlyPlace_28 : decode um_T_onlyPlace.2.1 28 = .ok (.if_icmp .eq 6, 3) := by decide +kernel
theorem d_T_onlyPlace_31 : decode um_T_onlyPlace.2.1 31 = .ok (.bipush (-3), 2) := by decide +kernel
theorem d_T_onlyPlace_33 : decode um_T_onlyPlace.2.1 33 = .ok (.ireturn, 1) := by decide +kernel
theorem d_T_onlyPlace_34 : decode um_T_onlyPlace.2.1 34 = .ok (.iload 5, 2) := by decide +kernel
theorem d_T_onlyPlace_36 : decode um_T_onlyPlace.2.1 36 = .ok (.istore 4, 2) := by decide +kernel
theorem d_T_onlyPlace_38 : decode um_T_onlyPlace.2.1 38 = .ok (.iinc 5 1, 3) := by decide +kernel
theorem d_T_onlyPlace_41 : decode um_T_onlyPlace.2.1 41 = .ok (.goto (-34), 3) := by decide +kernel
theorem d_T_onlyPlace_44 : decode um_T_onlyPlace.2.1 44 = .ok (.iload 4, 2) := by decide +kernel
theorem d_T_onlyPlace_46 : decode um_T_onlyPlace.2.1 46 = .ok (.ireturn, 1) := by decide +kernel
theorem d_C_init_0 : decode um_C_init.2.1 0 = .ok (.aload_n 0, 1) := by decide +kernel
theorem d_C_init_1 : decode um_C_init.2.1 1 = .ok (.invokespecial 3, 3) := by decide +kernel
theorem d_C_init_4 : decode um_C_init.2.1 4 = .ok (.aload_n 0, 1) := by decide +kernel
theorem d_C_init_5 : decode um_C_init.2.1 5 = .ok (.new 9, 3) := by decide +kernel
theorem d_C_init_8 : decode um_C_init.2.1 8 = .ok (.dup, 1) := by decide +kernel
theorem d_C_init_9 : decode um_C_init.2.1 9 = .ok (.invokespecial 11, 3) := by decide +kernel
theorem d_C_init_12 : decode um_C_init.2.1 12 = .ok (.putfield 12, 3) := by decide +kernel
theorem d_C_init_15 : decode um_C_init.2.1 15 = .ok (.aload_n 0, 1) := by decide +kernel
theorem d_C_init_16 : decode um_C_init.2.1 16 = .ok (.new 9, 3) := by decide +kernel
theorem d_C_init_19 : decode um_C_init.2.1 19 = .ok (.dup, 1) := by decide +kernel
theorem d_C_init_20 : decode um_C_init.2.1 20 = .ok (.invokespecial 11, 3) := by decide +kernel
theorem d_C_init_23 : decode um_C_init.2.1 23 = .ok (.putfield 18, 3) := by decide +kernel
theorem d_C_init_26 : decode um_C_init.2.1 26 = .ok (.aload_n 0, 1) := by decide +kernel
theorem d_C_init_27 : decode um_C_init.2.1 27 = .ok (.bipush 24, 2) := by decide +kernel
theorem d_C_init_29 : decode um_C_init.2.1 29 = .ok (.newarray .int, 2) := by decide +kernel
theorem d_C_init_31 : decode um_C_init.2.1 31 = .ok (.putfield 21, 3) := by decide +kernel
theorem d_C_init_34 : decode um_C_init.2.1 34 = .ok (.return_, 1) := by decide +kernel
theorem d_C_begin_0 : decode um_C_begin.2.1 0 = .ok (.aload_n 0, 1) := by decide +kernel
theorem d_C_begin_1 : decode um_C_begin.2.1 1 = .ok (.getfield 12, 3) := by decide +kernel
theorem d_C_begin_4 : decode um_C_begin.2.1 4 = .ok (.aload_n 1, 1) := by decide +kernel
theorem d_C_begin_5 : decode um_C_begin.2.1 5 = .ok (.invokevirtual 25, 3) := by decide +kernel
theorem d_C_begin_8 : decode um_C_begin.2.1 8 = .ok (.aload_n 0, 1) := by decide +kernel
theorem d_C_begin_9 : decode um_C_begin.2.1 9 = .ok (.getfield 18, 3) := by decide +kernel
theorem d_C_begin_12 : decode um_C_begin.2.1 12 = .ok (.aload_n 2, 1) := by decide +kernel
theorem d_C_begin_13 : decode um_C_begin.2.1 13 = .ok (.invokevirtual 25, 3) := by decide +kernel
theorem d_C_begin_16 : decode um_C_begin.2.1 16 = .ok (.aload_n 0, 1) := by decide +kernel
theorem d_C_begin_17 : decode um_C_begin.2.1 17 = .ok (.iconst 0, 1) := by decide +kernel
theorem d_C_begin_18 : decode um_C_begin.2.1 18 = .ok (.putfield 29, 3) := by decide +kernel
theorem d_C_begin_21 : decode um_C_begin.2.1 21 = .ok (.iconst 0, 1) := by decide +kernel
theorem d_C_begin_22 : decode um_C_begin.2.1 22 = .ok (.istore_n 3, 1) := by decide +kernel
theorem d_C_begin_23 : decode um_C_begin.2.1 23 = .ok (.iload_n 3, 1) := by decide +kernel
theorem d_C_begin_24 : decode um_C_begin.2.1 24 = .ok (.bipush 24, 2) := by decide +kernel
theorem d_C_begin_26 : decode um_C_begin.2.1 26 = .ok (.if_icmp .ge 17, 3) := by decide +kernel
theorem d_C_begin_29 : decode um_C_begin.2.1 29 = .ok (.aload_n 0, 1) := by decide +kernel
theorem d_C_begin_30 : decode um_C_begin.2.1 30 = .ok (.getfield 21, 3) := by decide +kernel
theorem d_C_begin_33 : decode um_C_begin.2.1 33 = .ok (.iload_n 3, 1) := by decide +kernel
theorem d_C_begin_34 : decode um_C_begin.2.1 34 = .ok (.bipush (-3), 2) := by decide +kernel
theorem d_C_begin_36 : decode um_C_begin.2.1 36 = .ok (.iastore, 1) := by decide +kernel
theorem d_C_begin_37 : decode um_C_begin.2.1 37 = .ok (.iinc 3 1, 3) := by decide +kernel
theorem d_C_begin_40 : decode um_C_begin.2.1 40 = .ok (.goto (-17), 3) := by decide +kernel
theorem d_C_begin_43 : decode um_C_begin.2.1 43 = .ok (.return_, 1) := by decide +kernel
theorem d_C_pair_0 : decode um_C_pair.2.1 0 = .ok (.aload_n 0, 1) := by decide +kernel
theorem d_C_pair_1 : decode um_C_pair.2.1 1 = .ok (.getfield 21, 3) := by decide +kernel
theorem d_C_pair_4 : decode um_C_pair.2.1 4 = .ok (.iload_n 1, 1) := by decide +kernel
theorem d_C_pair_5 : decode um_C_pair.2.1 5 = .ok (.iload_n 2, 1) := by decide +kernel
theorem d_C_pair_6 : decode um_C_pair.2.1 6 = .ok (.iastore, 1) := by decide +kernel
theorem d_C_pair_7 : decode um_C_pair.2.1 7 = .ok (.aload_n 0, 1) := by decide +kernel
theorem d_C_pair_8 : decode um_C_pair.2.1 8 = .ok (.dup, 1) := by decide +kernel
theorem d_C_pair_9 : decode um_C_pair.2.1 9 = .ok (.getfield 29, 3) := by decide +kernel
theorem d_C_pair_12 : decode um_C_pair.2.1 12 = .ok (.iconst 1, 1) := by decide +kernel
theorem d_C_pair_13 : decode um_C_pair.2.1 13 = .ok (.iadd, 1) := by decide +kernel
theorem d_C_pair_14 : decode um_C_pair.2.1 14 = .ok (.putfield 29, 3) := by decide +kernel
theorem d_C_pair_17 : decode um_C_pair.2.1 17 = .ok (.return_, 1) := by decide +kernel
theorem d_C_areEqual_0 : decode um_C_areEqual.2.1 0 = .ok (.aload_n 0, 1) := by decide +kernel
theorem d_C_areEqual_1 : decode um_C_areEqual.2.1 1 = .ok (.getfield 12, 3) := by decide +kernel
theorem d_C_areEqual_4 : decode um_C_areEqual.2.1 4 = .ok (.getfield 33, 3) := by decide +kernel
theorem d_C_areEqual_7 : decode um_C_areEqual.2.1 7 = .ok (.iload_n 1, 1) := by decide +kernel
theorem d_C_areEqual_8 : decode um_C_areEqual.2.1 8 = .ok (.iaload, 1) := by decide +kernel
theorem d_C_areEqual_9 : decode um_C_areEqual.2.1 9 = .ok (.aload_n 0, 1) := by decide +kernel
theorem d_C_areEqual_10 : decode um_C_areEqual.2.1 10 = .ok (.getfield 18, 3) := by decide +kernel
theorem d_C_areEqual_13 : decode um_C_areEqual.2.1 13 = .ok (.getfield 33, 3) := by decide +kernel
theorem d_C_areEqual_16 : decode um_C_areEqual.2.1 16 = .ok (.iload_n 2, 1) := by decide +kernel
theorem d_C_areEqual_17 : decode um_C_areEqual.2.1 17 = .ok (.iaload, 1) := by decide +kernel
theorem d_C_areEqual_18 : decode um_C_areEqual.2.1 18 = .ok (.if_icmp .ne 7, 3) := by decide +kernel
theorem d_C_areEqual_21 : decode um_C_areEqual.2.1 21 = .ok (.iconst 1, 1) := by decide +kernel
theorem d_C_areEqual_22 : decode um_C_areEqual.2.1 22 = .ok (.goto 4, 3) := by decide +kernel
theorem d_C_areEqual_25 : decode um_C_areEqual.2.1 25 = .ok (.iconst 0, 1) := by decide +kernel
theorem d_C_areEqual_26 : decode um_C_areEqual.2.1 26 = .ok (.ireturn, 1) := by decide +kernel
theorem d_C_partnerOf_0 : decode um_C_partnerOf.2.1 0 = .ok (.iload_n 1, 1) := by decide +kernel
theorem d_C_partnerOf_1 : decode um_C_partnerOf.2.1 1 = .ok (.ifCond .lt 23, 3) := by decide +kernel
theorem d_C_partnerOf_4 : decode um_C_partnerOf.2.1 4 = .ok (.iload_n 1, 1) := by decide +kernel
theorem d_C_partnerOf_5 : decode um_C_partnerOf.2.1 5 = .ok (.aload_n 0, 1) := by decide +kernel
theorem d_C_partnerOf_6 : decode um_C_partnerOf.2.1 6 = .ok (.getfield 12, 3) := by decide +kernel
theorem d_C_partnerOf_9 : decode um_C_partnerOf.2.1 9 = .ok (.getfield 36, 3) := by decide +kernel
theorem d_C_partnerOf_12 : decode um_C_partnerOf.2.1 12 = .ok (.if_icmp .ge 12, 3) := by decide +kernel
theorem d_C_partnerOf_15 : decode um_C_partnerOf.2.1 15 = .ok (.aload_n 0, 1) := by decide +kernel
theorem d_C_partnerOf_16 : decode um_C_partnerOf.2.1 16 = .ok (.getfield 21, 3) := by decide +kernel
theorem d_C_partnerOf_19 : decode um_C_partnerOf.2.1 19 = .ok (.iload_n 1, 1) := by decide +kernel
theorem d_C_partnerOf_20 : decode um_C_partnerOf.2.1 20 = .ok (.iaload, 1) := by decide +kernel
theorem d_C_partnerOf_21 : decode um_C_partnerOf.2.1 21 = .ok (.goto 5, 3) := by decide +kernel
theorem d_C_partnerOf_24 : decode um_C_partnerOf.2.1 24 = .ok (.bipush (-3), 2) := by decide +kernel
theorem d_C_partnerOf_26 : decode um_C_partnerOf.2.1 26 = .ok (.ireturn, 1) := by decide +kernel
theorem d_C_linesChanged_0 : decode um_C_linesChanged.2.1 0 = .ok (.aload_n 0, 1) := by decide +kernel
theorem d_C_linesChanged_1 : decode um_C_linesChanged.2.1 1 = .ok (.getfield 12, 3) := by decide +kernel
theorem d_C_linesChanged_4 : decode um_C_linesChanged.2.1 4 = .ok (.getfield 36, 3) := by decide +kernel
theorem d_C_linesChanged_7 : decode um_C_linesChanged.2.1 7 = .ok (.aload_n 0, 1) := by decide +kernel
theorem d_C_linesChanged_8 : decode um_C_linesChanged.2.1 8 = .ok (.getfield 18, 3) := by decide +kernel
theorem d_C_linesChanged_11 : decode um_C_linesChanged.2.1 11 = .ok (.getfield 36, 3) := by decide +kernel
theorem d_C_linesChanged_14 : decode um_C_linesChanged.2.1 14 = .ok (.iadd, 1) := by decide +kernel
theorem d_C_linesChanged_15 : decode um_C_linesChanged.2.1 15 = .ok (.iconst 2, 1) := by decide +kernel
theorem d_C_linesChanged_16 : decode um_C_linesChanged.2.1 16 = .ok (.aload_n 0, 1) := by decide +kernel
theorem d_C_linesChanged_17 : decode um_C_linesChanged.2.1 17 = .ok (.getfield 29, 3) := by decide +kernel
theorem d_C_linesChanged_20 : decode um_C_linesChanged.2.1 20 = .ok (.imul, 1) := by decide +kernel
theorem d_C_linesChanged_21 : decode um_C_linesChanged.2.1 21 = .ok (.isub, 1) := by decide +kernel
theorem d_C_linesChanged_22 : decode um_C_linesChanged.2.1 22 = .ok (.ireturn, 1) := by decide +kernel
theorem d_R_init_0 : decode um_R_init.2.1 0 = .ok (.aload_n 0, 1) := by decide +kernel
theorem d_R_init_1 : decode um_R_init.2.1 1 = .ok (.invokespecial 1, 3) := by decide +kernel
theorem d_R_init_4 : decode um_R_init.2.1 4 = .ok (.return_, 1) := by decide +kernel
theorem d_R_span_0 : decode um_R_span.2.1 0 = .ok (.aload_n 0, 1) := by decide +kernel
theorem d_R_span_1 : decode um_R_span.2.1 1 = .ok (.iload_n 1, 1) := by decide +kernel
theorem d_R_span_2 : decode um_R_span.2.1 2 = .ok (.putfield 7, 3) := by decide +kernel
theorem d_R_span_5 : decode um_R_span.2.1 5 = .ok (.aload_n 0, 1) := by decide +kernel
theorem d_R_span_6 : decode um_R_span.2.1 6 = .ok (.iload_n 2, 1) := by decide +kernel
theorem d_R_span_7 : decode um_R_span.2.1 7 = .ok (.putfield 13, 3) := by decide +kernel
theorem d_R_span_10 : decode um_R_span.2.1 10 = .ok (.aload_n 0, 1) := by decide +kernel
theorem d_R_span_11 : decode um_R_span.2.1 11 = .ok (.iload_n 3, 1) := by decide +kernel
theorem d_R_span_12 : decode um_R_span.2.1 12 = .ok (.putfield 16, 3) := by decide +kernel
theorem d_R_span_15 : decode um_R_span.2.1 15 = .ok (.aload_n 0, 1) := by decide +kernel
theorem d_R_span_16 : decode um_R_span.2.1 16 = .ok (.iload 4, 2) := by decide +kernel
theorem d_R_span_18 : decode um_R_span.2.1 18 = .ok (.putfield 19, 3) := by decide +kernel
theorem d_R_span_21 : decode um_R_span.2.1 21 = .ok (.return_, 1) := by decide +kernel
theorem d_S_init_0 : decode um_S_init.2.1 0 = .ok (.aload_n 0, 1) := by decide +kernel
theorem d_S_init_1 : decode um_S_init.2.1 1 = .ok (.invokespecial 3, 3) := by decide +kernel
theorem d_S_init_4 : decode um_S_init.2.1 4 = .ok (.aload_n 0, 1) := by decide +kernel
theorem d_S_init_5 : decode um_S_init.2.1 5 = .ok (.bipush 25, 2) := by decide +kernel
theorem d_S_init_7 : decode um_S_init.2.1 7 = .ok (.bipush 25, 2) := by decide +kernel
theorem d_S_init_9 : decode um_S_init.2.1 9 = .ok (.multianewarray 9 2, 4) := by decide +kernel
theorem d_S_init_13 : decode um_S_init.2.1 13 = .ok (.putfield 11, 3) := by decide +kernel
theorem d_S_init_16 : decode um_S_init.2.1 16 = .ok (.aload_n 0, 1) := by decide +kernel
theorem d_S_init_17 : decode um_S_init.2.1 17 = .ok (.new 16, 3) := by decide +kernel
theorem d_S_init_20 : decode um_S_init.2.1 20 = .ok (.dup, 1) := by decide +kernel
theorem d_S_init_21 : decode um_S_init.2.1 21 = .ok (.invokespecial 18, 3) := by decide +kernel
theorem d_S_init_24 : decode um_S_init.2.1 24 = .ok (.putfield 19, 3) := by decide +kernel
theorem d_S_init_27 : decode um_S_init.2.1 27 = .ok (.return_, 1) := by decide +kernel
theorem d_S_matchTexts_0 : decode um_S_matchTexts.2.1 0 = .ok (.aload_n 0, 1) := by decide +kernel
theorem d_S_matchTexts_1 : decode um_S_matchTexts.2.1 1 = .ok (.getfield 19, 3) := by decide +kernel
theorem d_S_matchTexts_4 : decode um_S_matchTexts.2.1 4 = .ok (.iconst 0, 1) := by decide +kernel
theorem d_S_matchTexts_5 : decode um_S_matchTexts.2.1 5 = .ok (.aload_n 1, 1) := by decide +kernel
theorem d_S_matchTexts_6 : decode um_S_matchTexts.2.1 6 = .ok (.getfield 23, 3) := by decide +kernel
theorem d_S_matchTexts_9 : decode um_S_matchTexts.2.1 9 = .ok (.getfield 29, 3) := by decide +kernel
theorem d_S_matchTexts_12 : decode um_S_matchTexts.2.1 12 = .ok (.iconst 0, 1) := by decide +kernel
theorem d_S_matchTexts_13 : decode um_S_matchTexts.2.1 13 = .ok (.aload_n 1, 1) := by decide +kernel
theorem d_S_matchTexts_14 : decode um_S_matchTexts.2.1 14 = .ok (.getfield 35, 3) := by decide +kernel
theorem d_S_matchTexts_17 : decode um_S_matchTexts.2.1 17 = .ok (.getfield 29, 3) := by decide +kernel
theorem d_S_matchTexts_20 : decode um_S_matchTexts.2.1 20 = .ok (.invokevirtual 38, 3) := by decide +kernel
theorem d_S_matchTexts_23 : decode um_S_matchTexts.2.1 23 = .ok (.aload_n 0, 1) := by decide +kernel
theorem d_S_matchTexts_24 : decode um_S_matchTexts.2.1 24 = .ok (.aload_n 1, 1) := by decide +kernel
theorem d_S_matchTexts_25 : decode um_S_matchTexts.2.1 25 = .ok (.aload_n 0, 1) := by decide +kernel
theorem d_S_matchTexts_26 : decode um_S_matchTexts.2.1 26 = .ok (.getfield 19, 3) := by decide +kernel
theorem d_S_matchTexts_29 : decode um_S_matchTexts.2.1 29 = .ok (.invokevirtual 42, 3) := by decide +kernel
theorem d_S_matchTexts_32 : decode um_S_matchTexts.2.1 32 = .ok (.return_, 1) := by decide +kernel
theorem d_S_matchRange_0 : decode um_S_matchRange.2.1 0 = .ok (.aload_n 0, 1) := by decide +kernel
theorem d_S_matchRange_1 : decode um_S_matchRange.2.1 1 = .ok (.aload_n 1, 1) := by decide +kernel
theorem d_S_matchRange_2 : decode um_S_matchRange.2.1 2 = .ok (.aload_n 2, 1) := by decide +kernel
theorem d_S_matchRange_3 : decode um_S_matchRange.2.1 3 = .ok (.invokevirtual 46, 3) := by decide +kernel
theorem d_S_matchRange_6 : decode um_S_matchRange.2.1 6 = .ok (.aload_n 2, 1) := by decide +kernel
theorem d_S_matchRange_7 : decode um_S_matchRange.2.1 7 = .ok (.getfield 49, 3) := by decide +kernel
theorem d_S_matchRange_10 : decode um_S_matchRange.2.1 10 = .ok (.istore_n 3, 1) := by decide +kernel
theorem d_S_matchRange_11 : decode um_S_matchRange.2.1 11 = .ok (.aload_n 2, 1) := by decide +kernel
theorem d_S_matchRange_12 : decode um_S_matchRange.2.1 12 = .ok (.getfield 51, 3) := by decide +kernel
theorem d_S_matchRange_15 : decode um_S_matchRange.2.1 15 = .ok (.istore 4, 2) := by decide +kernel
theorem d_S_matchRange_17 : decode um_S_matchRange.2.1 17 = .ok (.iload_n 3, 1) := by decide +kernel
theorem d_S_matchRange_18 : decode um_S_matchRange.2.1 18 = .ok (.aload_n 2, 1) := by decide +kernel
theorem d_S_matchRange_19 : decode um_S_matchRange.2.1 19 = .ok (.getfield 53, 3) := by decide +kernel
theorem d_S_matchRange_22 : decode um_S_matchRange.2.1 22 = .ok (.if_icmp .ge 75, 3) := by decide +kernel
theorem d_S_matchRange_25 : decode um_S_matchRange.2.1 25 = .ok (.iload 4, 2) := by decide +kernel
theorem d_S_matchRange_27 : decode um_S_matchRange.2.1 27 = .ok (.aload_n 2, 1) := by decide +kernel
theorem d_S_matchRange_28 : decode um_S_matchRange.2.1 28 = .ok (.getfield 56, 3) := by decide +kernel
theorem d_S_matchRange_31 : decode um_S_matchRange.2.1 31 = .ok (.if_icmp .ge 66, 3) := by decide +kernel
theorem d_S_matchRange_34 : decode um_S_matchRange.2.1 34 = .ok (.aload_n 1, 1) := by decide +kernel
theorem d_S_matchRange_35 : decode um_S_matchRange.2.1 35 = .ok (.iload_n 3, 1) := by decide +kernel
theorem d_S_matchRange_36 : decode um_S_matchRange.2.1 36 = .ok (.iload 4, 2) := by decide +kernel
theorem d_S_matchRange_38 : decode um_S_matchRange.2.1 38 = .ok (.invokevirtual 59, 3) := by decide +kernel
theorem d_S_matchRange_41 : decode um_S_matchRange.2.1 41 = .ok (.ifCond .eq 19, 3) := by decide +kernel
theorem d_S_matchRange_44 : decode um_S_matchRange.2.1 44 = .ok (.aload_n 1, 1) := by decide +kernel
theorem d_S_matchRange_45 : decode um_S_matchRange.2.1 45 = .ok (.iload_n 3, 1) := by decide +kernel
theorem d_S_matchRange_46 : decode um_S_matchRange.2.1 46 = .ok (.iload 4, 2) := by decide +kernel
theorem d_S_matchRange_48 : decode um_S_matchRange.2.1 48 = .ok (.invokevirtual 63, 3) := by decide +kernel
theorem d_S_matchRange_51 : decode um_S_matchRange.2.1 51 = .ok (.iinc 3 1, 3) := by decide +kernel
theorem d_S_matchRange_54 : decode um_S_matchRange.2.1 54 = .ok (.iinc 4 1, 3) := by decide +kernel
theorem d_S_matchRange_57 : decode um_S_matchRange.2.1 57 = .ok (.goto (-40), 3) := by decide +kernel
theorem d_S_matchRange_60 : decode um_S_matchRange.2.1 60 = .ok (.aload_n 0, 1) := by decide +kernel
theorem d_S_matchRange_61 : decode um_S_matchRange.2.1 61 = .ok (.getfield 11, 3) := by decide +kernel
theorem d_S_matchRange_64 : decode um_S_matchRange.2.1 64 = .ok (.iload_n 3, 1) := by decide +kernel
theorem d_S_matchRange_65 : decode um_S_matchRange.2.1 65 = .ok (.iconst 1, 1) := by decide +kernel
theorem d_S_matchRange_66 : decode um_S_matchRange.2.1 66 = .ok (.iadd, 1) := by decide +kernel
theorem d_S_matchRange_67 : decode um_S_matchRange.2.1 67 = .ok (.aaload, 1) := by decide +kernel
theorem d_S_matchRange_68 : decode um_S_matchRange.2.1 68 = .ok (.iload 4, 2) := by decide +kernel
theorem d_S_matchRange_70 : decode um_S_matchRange.2.1 70 = .ok (.iaload, 1) := by decide +kernel
theorem d_S_matchRange_71 : decode um_S_matchRange.2.1 71 = .ok (.aload_n 0, 1) := by decide +kernel
theorem d_S_matchRange_72 : decode um_S_matchRange.2.1 72 = .ok (.getfield 11, 3) := by decide +kernel
theorem d_S_matchRange_75 : decode um_S_matchRange.2.1 75 = .ok (.iload_n 3, 1) := by decide +kernel
theorem d_S_matchRange_76 : decode um_S_matchRange.2.1 76 = .ok (.aaload, 1) := by decide +kernel
theorem d_S_matchRange_77 : decode um_S_matchRange.2.1 77 = .ok (.iload 4, 2) := by decide +kernel
theorem d_S_matchRange_79 : decode um_S_matchRange.2.1 79 = .ok (.iconst 1, 1) := by decide +kernel
theorem d_S_matchRange_80 : decode um_S_matchRange.2.1 80 = .ok (.iadd, 1) := by decide +kernel
theorem d_S_matchRange_81 : decode um_S_matchRange.2.1 81 = .ok (.iaload, 1) := by decide +kernel
theorem d_S_matchRange_82 : decode um_S_matchRange.2.1 82 = .ok (.if_icmp .lt 9, 3) := by decide +kernel
theorem d_S_matchRange_85 : decode um_S_matchRange.2.1 85 = .ok (.iinc 3 1, 3) := by decide +kernel
theorem d_S_matchRange_88 : decode um_S_matchRange.2.1 88 = .ok (.goto (-71), 3) := by decide +kernel
theorem d_S_matchRange_91 : decode um_S_matchRange.2.1 91 = .ok (.iinc 4 1, 3) := by decide +kernel
theorem d_S_matchRange_94 : decode um_S_matchRange.2.1 94 = .ok (.goto (-77), 3) := by decide +kernel
theorem d_S_matchRange_97 : decode um_S_matchRange.2.1 97 = .ok (.return_, 1) := by decide +kernel
theorem d_S_countMost_0 : decode um_S_countMost.2.1 0 = .ok (.aload_n 2, 1) := by decide +kernel
theorem d_S_countMost_1 : decode um_S_countMost.2.1 1 = .ok (.getfield 53, 3) := by decide +kernel
theorem d_S_countMost_4 : decode um_S_countMost.2.1 4 = .ok (.istore_n 3, 1) := by decide +kernel
theorem d_S_countMost_5 : decode um_S_countMost.2.1 5 = .ok (.iload_n 3, 1) := by decide +kernel
theorem d_S_countMost_6 : decode um_S_countMost.2.1 6 = .ok (.aload_n 2, 1) := by decide +kernel
theorem d_S_countMost_7 : decode um_S_countMost.2.1 7 = .ok (.getfield 49, 3) := by decide +kernel
theorem d_S_countMost_10 : decode um_S_countMost.2.1 10 = .ok (.if_icmp .lt 131, 3) := by decide +kernel
theorem d_S_countMost_13 : decode um_S_countMost.2.1 13 = .ok (.aload_n 2, 1) := by decide +kernel
theorem d_S_countMost_14 : decode um_S_countMost.2.1 14 = .ok (.getfield 56, 3) := by decide +kernel
theorem d_S_countMost_17 : decode um_S_countMost.2.1 17 = .ok (.istore 4, 2) := by decide +kernel
theorem d_S_countMost_19 : decode um_S_countMost.2.1 19 = .ok (.iload 4, 2) := by decide +kernel
theorem d_S_countMost_21 : decode um_S_countMost.2.1 21 = .ok (.aload_n 2, 1) := by decide +kernel
theorem d_S_countMost_22 : decode um_S_countMost.2.1 22 = .ok (.getfield 51, 3) := by decide +kernel
theorem d_S_countMost_25 : decode um_S_countMost.2.1 25 = .ok (.if_icmp .lt 110, 3) := by decide +kernel
theorem d_S_countMost_28 : decode um_S_countMost.2.1 28 = .ok (.iload_n 3, 1) := by decide +kernel
theorem d_S_countMost_29 : decode um_S_countMost.2.1 29 = .ok (.aload_n 2, 1) := by decide +kernel
theorem d_S_countMost_30 : decode um_S_countMost.2.1 30 = .ok (.getfield 53, 3) := by decide +kernel
theorem d_S_countMost_33 : decode um_S_countMost.2.1 33 = .ok (.if_icmp .eq 12, 3) := by decide +kernel
theorem d_S_countMost_36 : decode um_S_countMost.2.1 36 = .ok (.iload 4, 2) := by decide +kernel
theorem d_S_countMost_38 : decode um_S_countMost.2.1 38 = .ok (.aload_n 2, 1) := by decide +kernel
theorem d_S_countMost_39 : decode um_S_countMost.2.1 39 = .ok (.getfield 56, 3) := by decide +kernel
theorem d_S_countMost_42 : decode um_S_countMost.2.1 42 = .ok (.if_icmp .ne 16, 3) := by decide +kernel
theorem d_S_countMost_45 : decode um_S_countMost.2.1 45 = .ok (.aload_n 0, 1) := by decide +kernel
theorem d_S_countMost_46 : decode um_S_countMost.2.1 46 = .ok (.getfield 11, 3) := by decide +kernel
theorem d_S_countMost_49 : decode um_S_countMost.2.1 49 = .ok (.iload_n 3, 1) := by decide +kernel
theorem d_S_countMost_50 : decode um_S_countMost.2.1 50 = .ok (.aaload, 1) := by decide +kernel
theorem d_S_countMost_51 : decode um_S_countMost.2.1 51 = .ok (.iload 4, 2) := by decide +kernel
theorem d_S_countMost_53 : decode um_S_countMost.2.1 53 = .ok (.iconst 0, 1) := by decide +kernel
theorem d_S_countMost_54 : decode um_S_countMost.2.1 54 = .ok (.iastore, 1) := by decide +kernel
theorem d_S_countMost_55 : decode um_S_countMost.2.1 55 = .ok (.goto 74, 3) := by decide +kernel
theorem d_S_countMost_58 : decode um_S_countMost.2.1 58 = .ok (.aload_n 1, 1) := by decide +kernel
theorem d_S_countMost_59 : decode um_S_countMost.2.1 59 = .ok (.iload_n 3, 1) := by decide +kernel
theorem d_S_countMost_60 : decode um_S_countMost.2.1 60 = .ok (.iload 4, 2) := by decide +kernel
theorem d_S_countMost_62 : decode um_S_countMost.2.1 62 = .ok (.invokevirtual 59, 3) := by decide +kernel
theorem d_S_countMost_65 : decode um_S_countMost.2.1 65 = .ok (.ifCond .eq 30, 3) := by decide +kernel
theorem d_S_countMost_68 : decode um_S_countMost.2.1 68 = .ok (.aload_n 0, 1) := by decide +kernel
theorem d_S_countMost_69 : decode um_S_countMost.2.1 69 = .ok (.getfield 11, 3) := by decide +kernel
theorem d_S_countMost_72 : decode um_S_countMost.2.1 72 = .ok (.iload_n 3, 1) := by decide +kernel
theorem d_S_countMost_73 : decode um_S_countMost.2.1 73 = .ok (.aaload, 1) := by decide +kernel
theorem d_S_countMost_74 : decode um_S_countMost.2.1 74 = .ok (.iload 4, 2) := by decide +kernel
theorem d_S_countMost_76 : decode um_S_countMost.2.1 76 = .ok (.aload_n 0, 1) := by decide +kernel
theorem d_S_countMost_77 : decode um_S_countMost.2.1 77 = .ok (.getfield 11, 3) := by decide +kernel
theorem d_S_countMost_80 : decode um_S_countMost.2.1 80 = .ok (.iload_n 3, 1) := by decide +kernel
theorem d_S_countMost_81 : decode um_S_countMost.2.1 81 = .ok (.iconst 1, 1) := by decide +kernel
theorem d_S_countMost_82 : decode um_S_countMost.2.1 82 = .ok (.iadd, 1) := by decide +kernel
theorem d_S_countMost_83 : decode um_S_countMost.2.1 83 = .ok (.aaload, 1) := by decide +kernel
theorem d_S_countMost_84 : decode um_S_countMost.2.1 84 = .ok (.iload 4, 2) := by decide +kernel
theorem d_S_countMost_86 : decode um_S_countMost.2.1 86 = .ok (.iconst 1, 1) := by decide +kernel
theorem d_S_countMost_87 : decode um_S_countMost.2.1 87 = .ok (.iadd, 1) := by decide +kernel
theorem d_S_countMost_88 : decode um_S_countMost.2.1 88 = .ok (.iaload, 1) := by decide +kernel
theorem d_S_countMost_89 : decode um_S_countMost.2.1 89 = .ok (.iconst 1, 1) := by decide +kernel
theorem d_S_countMost_90 : decode um_S_countMost.2.1 90 = .ok (.iadd, 1) := by decide +kernel
theorem d_S_countMost_91 : decode um_S_countMost.2.1 91 = .ok (.iastore, 1) := by decide +kernel
theorem d_S_countMost_92 : decode um_S_countMost.2.1 92 = .ok (.goto 37, 3) := by decide +kernel
theorem d_S_countMost_95 : decode um_S_countMost.2.1 95 = .ok (.aload_n 0, 1) := by decide +kernel
theorem d_S_countMost_96 : decode um_S_countMost.2.1 96 = .ok (.getfield 11, 3) := by decide +kernel
theorem d_S_countMost_99 : decode um_S_countMost.2.1 99 = .ok (.iload_n 3, 1) := by decide +kernel
theorem d_S_countMost_100 : decode um_S_countMost.2.1 100 = .ok (.aaload, 1) := by decide +kernel
theorem d_S_countMost_101 : decode um_S_countMost.2.1 101 = .ok (.iload 4, 2) := by decide +kernel
theorem d_S_countMost_103 : decode um_S_countMost.2.1 103 = .ok (.aload_n 0, 1) := by decide +kernel
theorem d_S_countMost_104 : decode um_S_countMost.2.1 104 = .ok (.getfield 11, 3) := by decide +kernel
theorem d_S_countMost_107 : decode um_S_countMost.2.1 107 = .ok (.iload_n 3, 1) := by decide +kernel
theorem d_S_countMost_108 : decode um_S_countMost.2.1 108 = .ok (.iconst 1, 1) := by decide +kernel
theorem d_S_countMost_109 : decode um_S_countMost.2.1 109 = .ok (.iadd, 1) := by decide +kernel
theorem d_S_countMost_110 : decode um_S_countMost.2.1 110 = .ok (.aaload, 1) := by decide +kernel
theorem d_S_countMost_111 : decode um_S_countMost.2.1 111 = .ok (.iload 4, 2) := by decide +kernel
theorem d_S_countMost_113 : decode um_S_countMost.2.1 113 = .ok (.iaload, 1) := by decide +kernel
theorem d_S_countMost_114 : decode um_S_countMost.2.1 114 = .ok (.aload_n 0, 1) := by decide +kernel
theorem d_S_countMost_115 : decode um_S_countMost.2.1 115 = .ok (.getfield 11, 3) := by decide +kernel
theorem d_S_countMost_118 : decode um_S_countMost.2.1 118 = .ok (.iload_n 3, 1) := by decide +kernel
theorem d_S_countMost_119 : decode um_S_countMost.2.1 119 = .ok (.aaload, 1) := by decide +kernel
theorem d_S_countMost_120 : decode um_S_countMost.2.1 120 = .ok (.iload 4, 2) := by decide +kernel
theorem d_S_countMost_122 : decode um_S_countMost.2.1 122 = .ok (.iconst 1, 1) := by decide +kernel
theorem d_S_countMost_123 : decode um_S_countMost.2.1 123 = .ok (.iadd, 1) := by decide +kernel
theorem d_S_countMost_124 : decode um_S_countMost.2.1 124 = .ok (.iaload, 1) := by decide +kernel
theorem d_S_countMost_125 : decode um_S_countMost.2.1 125 = .ok (.invokestatic 67, 3) := by decide +kernel
theorem d_S_countMost_128 : decode um_S_countMost.2.1 128 = .ok (.iastore, 1) := by decide +kernel
theorem d_S_countMost_129 : decode um_S_countMost.2.1 129 = .ok (.iinc 4 (-1), 3) := by decide +kernel
theorem d_S_countMost_132 : decode um_S_countMost.2.1 132 = .ok (.goto (-113), 3) := by decide +kernel
theorem d_S_countMost_135 : decode um_S_countMost.2.1 135 = .ok (.iinc 3 (-1), 3) := by decide +kernel
theorem d_S_countMost_138 : decode um_S_countMost.2.1 138 = .ok (.goto (-133), 3) := by decide +kernel
theorem d_S_countMost_141 : decode um_S_countMost.2.1 141 = .ok (.return_, 1) := by decide +kernel
theorem d_O_init_0 : decode um_O_init.2.1 0 = .ok (.aload_n 0, 1) := by decide +kernel
theorem d_O_init_1 : decode um_O_init.2.1 1 = .ok (.invokespecial 3, 3) := by decide +kernel
theorem d_O_init_4 : decode um_O_init.2.1 4 = .ok (.aload_n 0, 1) := by decide +kernel
theorem d_O_init_5 : decode um_O_init.2.1 5 = .ok (.bipush 49, 2) := by decide +kernel
theorem d_O_init_7 : decode um_O_init.2.1 7 = .ok (.anewarray 11, 3) := by decide +kernel
theorem d_O_init_10 : decode um_O_init.2.1 10 = .ok (.putfield 13, 3) := by decide +kernel
theorem d_O_init_13 : decode um_O_init.2.1 13 = .ok (.aload_n 0, 1) := by decide +kernel
theorem d_O_init_14 : decode um_O_init.2.1 14 = .ok (.bipush 24, 2) := by decide +kernel
theorem d_O_init_16 : decode um_O_init.2.1 16 = .ok (.newarray .int, 2) := by decide +kernel
theorem d_O_init_18 : decode um_O_init.2.1 18 = .ok (.putfield 17, 3) := by decide +kernel
theorem d_O_init_21 : decode um_O_init.2.1 21 = .ok (.aload_n 0, 1) := by decide +kernel
theorem d_O_init_22 : decode um_O_init.2.1 22 = .ok (.bipush 24, 2) := by decide +kernel
theorem d_O_init_24 : decode um_O_init.2.1 24 = .ok (.newarray .int, 2) := by decide +kernel
theorem d_O_init_26 : decode um_O_init.2.1 26 = .ok (.putfield 21, 3) := by decide +kernel
theorem d_O_init_29 : decode um_O_init.2.1 29 = .ok (.aload_n 0, 1) := by decide +kernel
theorem d_O_init_30 : decode um_O_init.2.1 30 = .ok (.bipush 24, 2) := by decide +kernel
theorem d_O_init_32 : decode um_O_init.2.1 32 = .ok (.newarray .int, 2) := by decide +kernel
theorem d_O_init_34 : decode um_O_init.2.1 34 = .ok (.putfield 24, 3) := by decide +kernel
theorem d_O_init_37 : decode um_O_init.2.1 37 = .ok (.aload_n 0, 1) := by decide +kernel
theorem d_O_init_38 : decode um_O_init.2.1 38 = .ok (.aload_n 1, 1) := by decide +kernel
theorem d_O_init_39 : decode um_O_init.2.1 39 = .ok (.putfield 27, 3) := by decide +kernel
theorem d_O_init_42 : decode um_O_init.2.1 42 = .ok (.iconst 0, 1) := by decide +kernel
theorem d_O_init_43 : decode um_O_init.2.1 43 = .ok (.istore_n 2, 1) := by decide +kernel
theorem d_O_init_44 : decode um_O_init.2.1 44 = .ok (.iload_n 2, 1) := by decide +kernel
theorem d_O_init_45 : decode um_O_init.2.1 45 = .ok (.bipush 49, 2) := by decide +kernel
theorem d_O_init_47 : decode um_O_init.2.1 47 = .ok (.if_icmp .ge 22, 3) := by decide +kernel
theorem d_O_init_50 : decode um_O_init.2.1 50 = .ok (.aload_n 0, 1) := by decide +kernel
theorem d_O_init_51 : decode um_O_init.2.1 51 = .ok (.getfield 13, 3) := by decide +kernel
theorem d_O_init_54 : decode um_O_init.2.1 54 = .ok (.iload_n 2, 1) := by decide +kernel
theorem d_O_init_55 : decode um_O_init.2.1 55 = .ok (.new 11, 3) := by decide +kernel
theorem d_O_init_58 : decode um_O_init.2.1 58 = .ok (.dup, 1) := by decide +kernel
theorem d_O_init_59 : decode um_O_init.2.1 59 = .ok (.invokespecial 31, 3) := by decide +kernel
theorem d_O_init_62 : decode um_O_init.2.1 62 = .ok (.aastore, 1) := by decide +kernel
theorem d_O_init_63 : decode um_O_init.2.1 63 = .ok (.iinc 2 1, 3) := by decide +kernel
theorem d_O_init_66 : decode um_O_init.2.1 66 = .ok (.goto (-22), 3) := by decide +kernel
theorem d_O_init_69 : decode um_O_init.2.1 69 = .ok (.return_, 1) := by decide +kernel
theorem d_O_matchTexts_0 : decode um_O_matchTexts.2.1 0 = .ok (.aload_n 0, 1) := by decide +kernel
theorem d_O_matchTexts_1 : decode um_O_matchTexts.2.1 1 = .ok (.iconst 0, 1) := by decide +kernel
theorem d_O_matchTexts_2 : decode um_O_matchTexts.2.1 2 = .ok (.putfield 32, 3) := by decide +kernel
theorem d_O_matchTexts_5 : decode um_O_matchTexts.2.1 5 = .ok (.aload_n 0, 1) := by decide +kernel
theorem d_O_matchTexts_6 : decode um_O_matchTexts.2.1 6 = .ok (.iconst 0, 1) := by decide +kernel
theorem d_O_matchTexts_7 : decode um_O_matchTexts.2.1 7 = .ok (.aload_n 1, 1) := by decide +kernel
theorem d_O_matchTexts_8 : decode um_O_matchTexts.2.1 8 = .ok (.getfield 36, 3) := by decide +kernel
theorem d_O_matchTexts_11 : decode um_O_matchTexts.2.1 11 = .ok (.getfield 42, 3) := by decide +kernel
theorem d_O_matchTexts_14 : decode um_O_matchTexts.2.1 14 = .ok (.iconst 0, 1) := by decide +kernel
theorem d_O_matchTexts_15 : decode um_O_matchTexts.2.1 15 = .ok (.aload_n 1, 1) := by decide +kernel
theorem d_O_matchTexts_16 : decode um_O_matchTexts.2.1 16 = .ok (.getfield 47, 3) := by decide +kernel
theorem d_O_matchTexts_19 : decode um_O_matchTexts.2.1 19 = .ok (.getfield 42, 3) := by decide +kernel
theorem d_O_matchTexts_22 : decode um_O_matchTexts.2.1 22 = .ok (.invokevirtual 50, 3) := by decide +kernel
theorem d_O_matchTexts_25 : decode um_O_matchTexts.2.1 25 = .ok (.iconst 0, 1) := by decide +kernel
theorem d_O_matchTexts_26 : decode um_O_matchTexts.2.1 26 = .ok (.istore_n 2, 1) := by decide +kernel
theorem d_O_matchTexts_27 : decode um_O_matchTexts.2.1 27 = .ok (.iload_n 2, 1) := by decide +kernel
theorem d_O_matchTexts_28 : decode um_O_matchTexts.2.1 28 = .ok (.aload_n 0, 1) := by decide +kernel
theorem d_O_matchTexts_29 : decode um_O_matchTexts.2.1 29 = .ok (.getfield 32, 3) := by decide +kernel
theorem d_O_matchTexts_32 : decode um_O_matchTexts.2.1 32 = .ok (.if_icmp .ge 26, 3) := by decide +kernel
theorem d_O_matchTexts_35 : decode um_O_matchTexts.2.1 35 = .ok (.iload_n 2, 1) := by decide +kernel
theorem d_O_matchTexts_36 : decode um_O_matchTexts.2.1 36 = .ok (.bipush 49, 2) := by decide +kernel
theorem d_O_matchTexts_38 : decode um_O_matchTexts.2.1 38 = .ok (.if_icmp .ge 20, 3) := by decide +kernel
theorem d_O_matchTexts_41 : decode um_O_matchTexts.2.1 41 = .ok (.aload_n 0, 1) := by decide +kernel
theorem d_O_matchTexts_42 : decode um_O_matchTexts.2.1 42 = .ok (.aload_n 1, 1) := by decide +kernel
theorem d_O_matchTexts_43 : decode um_O_matchTexts.2.1 43 = .ok (.aload_n 0, 1) := by decide +kernel
theorem d_O_matchTexts_44 : decode um_O_matchTexts.2.1 44 = .ok (.getfield 13, 3) := by decide +kernel
theorem d_O_matchTexts_47 : decode um_O_matchTexts.2.1 47 = .ok (.iload_n 2, 1) := by decide +kernel
theorem d_O_matchTexts_48 : decode um_O_matchTexts.2.1 48 = .ok (.aaload, 1) := by decide +kernel
theorem d_O_matchTexts_49 : decode um_O_matchTexts.2.1 49 = .ok (.invokevirtual 54, 3) := by decide +kernel
theorem d_O_matchTexts_52 : decode um_O_matchTexts.2.1 52 = .ok (.iinc 2 1, 3) := by decide +kernel
theorem d_O_matchTexts_55 : decode um_O_matchTexts.2.1 55 = .ok (.goto (-28), 3) := by decide +kernel
theorem d_O_matchTexts_58 : decode um_O_matchTexts.2.1 58 = .ok (.return_, 1) := by decide +kernel
theorem d_O_keepForLater_0 : decode um_O_keepForLater.2.1 0 = .ok (.iload_n 1, 1) := by decide +kernel
theorem d_O_keepForLater_1 : decode um_O_keepForLater.2.1 1 = .ok (.iload_n 2, 1) := by decide +kernel
theorem d_O_keepForLater_2 : decode um_O_keepForLater.2.1 2 = .ok (.if_icmp .ge 45, 3) := by decide +kernel
theorem d_O_keepForLater_5 : decode um_O_keepForLater.2.1 5 = .ok (.iload_n 3, 1) := by decide +kernel
theorem d_O_keepForLater_6 : decode um_O_keepForLater.2.1 6 = .ok (.iload 4, 2) := by decide +kernel
theorem d_O_keepForLater_8 : decode um_O_keepForLater.2.1 8 = .ok (.if_icmp .ge 39, 3) := by decide +kernel
theorem d_O_keepForLater_11 : decode um_O_keepForLater.2.1 11 = .ok (.aload_n 0, 1) := by decide +kernel
theorem d_O_keepForLater_12 : decode um_O_keepForLater.2.1 12 = .ok (.getfield 32, 3) := by decide +kernel
theorem d_O_keepForLater_15 : decode um_O_keepForLater.2.1 15 = .ok (.bipush 49, 2) := by decide +kernel
theorem d_O_keepForLater_17 : decode um_O_keepForLater.2.1 17 = .ok (.if_icmp .ge 30, 3) := by decide +kernel
theorem d_O_keepForLater_20 : decode um_O_keepForLater.2.1 20 = .ok (.aload_n 0, 1) := by decide +kernel
theorem d_O_keepForLater_21 : decode um_O_keepForLater.2.1 21 = .ok (.getfield 13, 3) := by decide +kernel
theorem d_O_keepForLater_24 : decode um_O_keepForLater.2.1 24 = .ok (.aload_n 0, 1) := by decide +kernel
theorem d_O_keepForLater_25 : decode um_O_keepForLater.2.1 25 = .ok (.getfield 32, 3) := by decide +kernel
theorem d_O_keepForLater_28 : decode um_O_keepForLater.2.1 28 = .ok (.aaload, 1) := by decide +kernel
theorem d_O_keepForLater_29 : decode um_O_keepForLater.2.1 29 = .ok (.iload_n 1, 1) := by decide +kernel
theorem d_O_keepForLater_30 : decode um_O_keepForLater.2.1 30 = .ok (.iload_n 2, 1) := by decide +kernel
theorem d_O_keepForLater_31 : decode um_O_keepForLater.2.1 31 = .ok (.iload_n 3, 1) := by decide +kernel
theorem d_O_keepForLater_32 : decode um_O_keepForLater.2.1 32 = .ok (.iload 4, 2) := by decide +kernel
theorem d_O_keepForLater_34 : decode um_O_keepForLater.2.1 34 = .ok (.invokevirtual 58, 3) := by decide +kernel
theorem d_O_keepForLater_37 : decode um_O_keepForLater.2.1 37 = .ok (.aload_n 0, 1) := by decide +kernel
theorem d_O_keepForLater_38 : decode um_O_keepForLater.2.1 38 = .ok (.dup, 1) := by decide +kernel
theorem d_O_keepForLater_39 : decode um_O_keepForLater.2.1 39 = .ok (.getfield 32, 3) := by decide +kernel
theorem d_O_keepForLater_42 : decode um_O_keepForLater.2.1 42 = .ok (.iconst 1, 1) := by decide +kernel
theorem d_O_keepForLater_43 : decode um_O_keepForLater.2.1 43 = .ok (.iadd, 1) := by decide +kernel
theorem d_O_keepForLater_44 : decode um_O_keepForLater.2.1 44 = .ok (.putfield 32, 3) := by decide +kernel
theorem d_O_keepForLater_47 : decode um_O_keepForLater.2.1 47 = .ok (.return_, 1) := by decide +kernel
theorem d_O_matchRange_0 : decode um_O_matchRange.2.1 0 = .ok (.aload_n 0, 1) := by decide +kernel
theorem d_O_matchRange_1 : decode um_O_matchRange.2.1 1 = .ok (.aload_n 1, 1) := by decide +kernel
theorem d_O_matchRange_2 : decode um_O_matchRange.2.1 2 = .ok (.aload_n 2, 1) := by decide +kernel
theorem d_O_matchRange_3 : decode um_O_matchRange.2.1 3 = .ok (.invokevirtual 61, 3) := by decide +kernel
theorem d_O_matchRange_6 : decode um_O_matchRange.2.1 6 = .ok (.aload_n 0, 1) := by decide +kernel
theorem d_O_matchRange_7 : decode um_O_matchRange.2.1 7 = .ok (.aload_n 1, 1) := by decide +kernel
theorem d_O_matchRange_8 : decode um_O_matchRange.2.1 8 = .ok (.aload_n 2, 1) := by decide +kernel
theorem d_O_matchRange_9 : decode um_O_matchRange.2.1 9 = .ok (.invokevirtual 64, 3) := by decide +kernel
theorem d_O_matchRange_12 : decode um_O_matchRange.2.1 12 = .ok (.aload_n 0, 1) := by decide +kernel
theorem d_O_matchRange_13 : decode um_O_matchRange.2.1 13 = .ok (.aload_n 1, 1) := by decide +kernel
theorem d_O_matchRange_14 : decode um_O_matchRange.2.1 14 = .ok (.aload_n 2, 1) := by decide +kernel
theorem d_O_matchRange_15 : decode um_O_matchRange.2.1 15 = .ok (.invokevirtual 67, 3) := by decide +kernel
theorem d_O_matchRange_18 : decode um_O_matchRange.2.1 18 = .ok (.aload_n 0, 1) := by decide +kernel
theorem d_O_matchRange_19 : decode um_O_matchRange.2.1 19 = .ok (.getfield 70, 3) := by decide +kernel
theorem d_O_matchRange_22 : decode um_O_matchRange.2.1 22 = .ok (.ifCond .ne 15, 3) := by decide +kernel
theorem d_O_matchRange_25 : decode um_O_matchRange.2.1 25 = .ok (.aload_n 0, 1) := by decide +kernel
theorem d_O_matchRange_26 : decode um_O_matchRange.2.1 26 = .ok (.getfield 27, 3) := by decide +kernel
theorem d_O_matchRange_29 : decode um_O_matchRange.2.1 29 = .ok (.aload_n 1, 1) := by decide +kernel
theorem d_O_matchRange_30 : decode um_O_matchRange.2.1 30 = .ok (.aload_n 2, 1) := by decide +kernel
theorem d_O_matchRange_31 : decode um_O_matchRange.2.1 31 = .ok (.invokevirtual 73, 3) := by decide +kernel
theorem d_O_matchRange_34 : decode um_O_matchRange.2.1 34 = .ok (.goto 13, 3) := by decide +kernel
theorem d_O_matchRange_37 : decode um_O_matchRange.2.1 37 = .ok (.aload_n 0, 1) := by decide +kernel
theorem d_O_matchRange_38 : decode um_O_matchRange.2.1 38 = .ok (.aload_n 1, 1) := by decide +kernel
theorem d_O_matchRange_39 : decode um_O_matchRange.2.1 39 = .ok (.aload_n 2, 1) := by decide +kernel
theorem d_O_matchRange_40 : decode um_O_matchRange.2.1 40 = .ok (.aload_n 0, 1) := by decide +kernel
theorem d_O_matchRange_41 : decode um_O_matchRange.2.1 41 = .ok (.invokevirtual 76, 3) := by decide +kernel
theorem d_O_matchRange_44 : decode um_O_matchRange.2.1 44 = .ok (.invokevirtual 80, 3) := by decide +kernel
theorem d_O_matchRange_47 : decode um_O_matchRange.2.1 47 = .ok (.return_, 1) := by decide +kernel
theorem d_O_matchBeginning_0 : decode um_O_matchBeginning.2.1 0 = .ok (.aload_n 2, 1) := by decide +kernel
theorem d_O_matchBeginning_1 : decode um_O_matchBeginning.2.1 1 = .ok (.getfield 84, 3) := by decide +kernel
theorem d_O_matchBeginning_4 : decode um_O_matchBeginning.2.1 4 = .ok (.aload_n 2, 1) := by decide +kernel
theorem d_O_matchBeginning_5 : decode um_O_matchBeginning.2.1 5 = .ok (.getfield 86, 3) := by decide +kernel
theorem d_O_matchBeginning_8 : decode um_O_matchBeginning.2.1 8 = .ok (.if_icmp .ge 64, 3) := by decide +kernel
theorem d_O_matchBeginning_11 : decode um_O_matchBeginning.2.1 11 = .ok (.aload_n 2, 1) := by decide +kernel
theorem d_O_matchBeginning_12 : decode um_O_matchBeginning.2.1 12 = .ok (.getfield 89, 3) := by decide +kernel
theorem d_O_matchBeginning_15 : decode um_O_matchBeginning.2.1 15 = .ok (.aload_n 2, 1) := by decide +kernel
theorem d_O_matchBeginning_16 : decode um_O_matchBeginning.2.1 16 = .ok (.getfield 91, 3) := by decide +kernel
theorem d_O_matchBeginning_19 : decode um_O_matchBeginning.2.1 19 = .ok (.if_icmp .ge 53, 3) := by decide +kernel
theorem d_O_matchBeginning_22 : decode um_O_matchBeginning.2.1 22 = .ok (.aload_n 1, 1) := by decide +kernel
theorem d_O_matchBeginning_23 : decode um_O_matchBeginning.2.1 23 = .ok (.aload_n 2, 1) := by decide +kernel
theorem d_O_matchBeginning_24 : decode um_O_matchBeginning.2.1 24 = .ok (.getfield 84, 3) := by decide +kernel
theorem d_O_matchBeginning_27 : decode um_O_matchBeginning.2.1 27 = .ok (.aload_n 2, 1) := by decide +kernel
theorem d_O_matchBeginning_28 : decode um_O_matchBeginning.2.1 28 = .ok (.getfield 89, 3) := by decide +kernel
theorem d_O_matchBeginning_31 : decode um_O_matchBeginning.2.1 31 = .ok (.invokevirtual 94, 3) := by decide +kernel
theorem d_O_matchBeginning_34 : decode um_O_matchBeginning.2.1 34 = .ok (.ifCond .eq 38, 3) := by decide +kernel
theorem d_O_matchBeginning_37 : decode um_O_matchBeginning.2.1 37 = .ok (.aload_n 1, 1) := by decide +kernel
theorem d_O_matchBeginning_38 : decode um_O_matchBeginning.2.1 38 = .ok (.aload_n 2, 1) := by decide +kernel
theorem d_O_matchBeginning_39 : decode um_O_matchBeginning.2.1 39 = .ok (.getfield 84, 3) := by decide +kernel
theorem d_O_matchBeginning_42 : decode um_O_matchBeginning.2.1 42 = .ok (.aload_n 2, 1) := by decide +kernel
theorem d_O_matchBeginning_43 : decode um_O_matchBeginning.2.1 43 = .ok (.getfield 89, 3) := by decide +kernel
theorem d_O_matchBeginning_46 : decode um_O_matchBeginning.2.1 46 = .ok (.invokevirtual 98, 3) := by decide +kernel
theorem d_O_matchBeginning_49 : decode um_O_matchBeginning.2.1 49 = .ok (.aload_n 2, 1) := by decide +kernel
theorem d_O_matchBeginning_50 : decode um_O_matchBeginning.2.1 50 = .ok (.dup, 1) := by decide +kernel
theorem d_O_matchBeginning_51 : decode um_O_matchBeginning.2.1 51 = .ok (.getfield 84, 3) := by decide +kernel
theorem d_O_matchBeginning_54 : decode um_O_matchBeginning.2.1 54 = .ok (.iconst 1, 1) := by decide +kernel
theorem d_O_matchBeginning_55 : decode um_O_matchBeginning.2.1 55 = .ok (.iadd, 1) := by decide +kernel
theorem d_O_matchBeginning_56 : decode um_O_matchBeginning.2.1 56 = .ok (.putfield 84, 3) := by decide +kernel
theorem d_O_matchBeginning_59 : decode um_O_matchBeginning.2.1 59 = .ok (.aload_n 2, 1) := by decide +kernel
theorem d_O_matchBeginning_60 : decode um_O_matchBeginning.2.1 60 = .ok (.dup, 1) := by decide +kernel
theorem d_O_matchBeginning_61 : decode um_O_matchBeginning.2.1 61 = .ok (.getfield 89, 3) := by decide +kernel
theorem d_O_matchBeginning_64 : decode um_O_matchBeginning.2.1 64 = .ok (.iconst 1, 1) := by decide +kernel
theorem d_O_matchBeginning_65 : decode um_O_matchBeginning.2.1 65 = .ok (.iadd, 1) := by decide +kernel
theorem d_O_matchBeginning_66 : decode um_O_matchBeginning.2.1 66 = .ok (.putfield 89, 3) := by decide +kernel
theorem d_O_matchBeginning_69 : decode um_O_matchBeginning.2.1 69 = .ok (.goto (-69), 3) := by decide +kernel
theorem d_O_matchBeginning_72 : decode um_O_matchBeginning.2.1 72 = .ok (.return_, 1) := by decide +kernel
theorem d_O_matchEnd_0 : decode um_O_matchEnd.2.1 0 = .ok (.aload_n 2, 1) := by decide +kernel
theorem d_O_matchEnd_1 : decode um_O_matchEnd.2.1 1 = .ok (.getfield 84, 3) := by decide +kernel
theorem d_O_matchEnd_4 : decode um_O_matchEnd.2.1 4 = .ok (.aload_n 2, 1) := by decide +kernel
theorem d_O_matchEnd_5 : decode um_O_matchEnd.2.1 5 = .ok (.getfield 86, 3) := by decide +kernel
theorem d_O_matchEnd_8 : decode um_O_matchEnd.2.1 8 = .ok (.if_icmp .ge 68, 3) := by decide +kernel
theorem d_O_matchEnd_11 : decode um_O_matchEnd.2.1 11 = .ok (.aload_n 2, 1) := by decide +kernel
theorem d_O_matchEnd_12 : decode um_O_matchEnd.2.1 12 = .ok (.getfield 89, 3) := by decide +kernel
theorem d_O_matchEnd_15 : decode um_O_matchEnd.2.1 15 = .ok (.aload_n 2, 1) := by decide +kernel
theorem d_O_matchEnd_16 : decode um_O_matchEnd.2.1 16 = .ok (.getfield 91, 3) := by decide +kernel
theorem d_O_matchEnd_19 : decode um_O_matchEnd.2.1 19 = .ok (.if_icmp .ge 57, 3) := by decide +kernel
theorem d_O_matchEnd_22 : decode um_O_matchEnd.2.1 22 = .ok (.aload_n 1, 1) := by decide +kernel
theorem d_O_matchEnd_23 : decode um_O_matchEnd.2.1 23 = .ok (.aload_n 2, 1) := by decide +kernel
theorem d_O_matchEnd_24 : decode um_O_matchEnd.2.1 24 = .ok (.getfield 86, 3) := by decide +kernel
theorem d_O_matchEnd_27 : decode um_O_matchEnd.2.1 27 = .ok (.iconst 1, 1) := by decide +kernel
theorem d_O_matchEnd_28 : decode um_O_matchEnd.2.1 28 = .ok (.isub, 1) := by decide +kernel
theorem d_O_matchEnd_29 : decode um_O_matchEnd.2.1 29 = .ok (.aload_n 2, 1) := by decide +kernel
theorem d_O_matchEnd_30 : decode um_O_matchEnd.2.1 30 = .ok (.getfield 91, 3) := by decide +kernel
theorem d_O_matchEnd_33 : decode um_O_matchEnd.2.1 33 = .ok (.iconst 1, 1) := by decide +kernel
theorem d_O_matchEnd_34 : decode um_O_matchEnd.2.1 34 = .ok (.isub, 1) := by decide +kernel
theorem d_O_matchEnd_35 : decode um_O_matchEnd.2.1 35 = .ok (.invokevirtual 94, 3) := by decide +kernel
theorem d_O_matchEnd_38 : decode um_O_matchEnd.2.1 38 = .ok (.ifCond .eq 38, 3) := by decide +kernel
theorem d_O_matchEnd_41 : decode um_O_matchEnd.2.1 41 = .ok (.aload_n 2, 1) := by decide +kernel
theorem d_O_matchEnd_42 : decode um_O_matchEnd.2.1 42 = .ok (.dup, 1) := by decide +kernel
theorem d_O_matchEnd_43 : decode um_O_matchEnd.2.1 43 = .ok (.getfield 86, 3) := by decide +kernel
theorem d_O_matchEnd_46 : decode um_O_matchEnd.2.1 46 = .ok (.iconst 1, 1) := by decide +kernel
theorem d_O_matchEnd_47 : decode um_O_matchEnd.2.1 47 = .ok (.isub, 1) := by decide +kernel
theorem d_O_matchEnd_48 : decode um_O_matchEnd.2.1 48 = .ok (.putfield 86, 3) := by decide +kernel
theorem d_O_matchEnd_51 : decode um_O_matchEnd.2.1 51 = .ok (.aload_n 2, 1) := by decide +kernel
theorem d_O_matchEnd_52 : decode um_O_matchEnd.2.1 52 = .ok (.dup, 1) := by decide +kernel
theorem d_O_matchEnd_53 : decode um_O_matchEnd.2.1 53 = .ok (.getfield 91, 3) := by decide +kernel
theorem d_O_matchEnd_56 : decode um_O_matchEnd.2.1 56 = .ok (.iconst 1, 1) := by decide +kernel
theorem d_O_matchEnd_57 : decode um_O_matchEnd.2.1 57 = .ok (.isub, 1) := by decide +kernel
theorem d_O_matchEnd_58 : decode um_O_matchEnd.2.1 58 = .ok (.putfield 91, 3) := by decide +kernel
theorem d_O_matchEnd_61 : decode um_O_matchEnd.2.1 61 = .ok (.aload_n 1, 1) := by decide +kernel
theorem d_O_matchEnd_62 : decode um_O_matchEnd.2.1 62 = .ok (.aload_n 2, 1) := by decide +kernel
theorem d_O_matchEnd_63 : decode um_O_matchEnd.2.1 63 = .ok (.getfield 86, 3) := by decide +kernel
theorem d_O_matchEnd_66 : decode um_O_matchEnd.2.1 66 = .ok (.aload_n 2, 1) := by decide +kernel
theorem d_O_matchEnd_67 : decode um_O_matchEnd.2.1 67 = .ok (.getfield 91, 3) := by decide +kernel
theorem d_O_matchEnd_70 : decode um_O_matchEnd.2.1 70 = .ok (.invokevirtual 98, 3) := by decide +kernel
theorem d_O_matchEnd_73 : decode um_O_matchEnd.2.1 73 = .ok (.goto (-73), 3) := by decide +kernel
theorem d_O_matchEnd_76 : decode um_O_matchEnd.2.1 76 = .ok (.return_, 1) := by decide +kernel
theorem d_O_findPairs_0 : decode um_O_findPairs.2.1 0 = .ok (.aload_n 0, 1) := by decide +kernel
theorem d_O_findPairs_1 : decode um_O_findPairs.2.1 1 = .ok (.iconst 0, 1) := by decide +kernel
theorem d_O_findPairs_2 : decode um_O_findPairs.2.1 2 = .ok (.putfield 70, 3) := by decide +kernel
theorem d_O_findPairs_5 : decode um_O_findPairs.2.1 5 = .ok (.aload_n 2, 1) := by decide +kernel
theorem d_O_findPairs_6 : decode um_O_findPairs.2.1 6 = .ok (.getfield 84, 3) := by decide +kernel
theorem d_O_findPairs_9 : decode um_O_findPairs.2.1 9 = .ok (.istore_n 3, 1) := by decide +kernel
theorem d_O_findPairs_10 : decode um_O_findPairs.2.1 10 = .ok (.iload_n 3, 1) := by decide +kernel
theorem d_O_findPairs_11 : decode um_O_findPairs.2.1 11 = .ok (.aload_n 2, 1) := by decide +kernel
theorem d_O_findPairs_12 : decode um_O_findPairs.2.1 12 = .ok (.getfield 86, 3) := by decide +kernel
theorem d_O_findPairs_15 : decode um_O_findPairs.2.1 15 = .ok (.if_icmp .ge 98, 3) := by decide +kernel
theorem d_O_findPairs_18 : decode um_O_findPairs.2.1 18 = .ok (.aload_n 1, 1) := by decide +kernel
theorem d_O_findPairs_19 : decode um_O_findPairs.2.1 19 = .ok (.getfield 36, 3) := by decide +kernel
theorem d_O_findPairs_22 : decode um_O_findPairs.2.1 22 = .ok (.getfield 102, 3) := by decide +kernel
theorem d_O_findPairs_25 : decode um_O_findPairs.2.1 25 = .ok (.iload_n 3, 1) := by decide +kernel
theorem d_O_findPairs_26 : decode um_O_findPairs.2.1 26 = .ok (.iaload, 1) := by decide +kernel
theorem d_O_findPairs_27 : decode um_O_findPairs.2.1 27 = .ok (.istore 4, 2) := by decide +kernel
theorem d_O_findPairs_29 : decode um_O_findPairs.2.1 29 = .ok (.aload_n 1, 1) := by decide +kernel
theorem d_O_findPairs_30 : decode um_O_findPairs.2.1 30 = .ok (.getfield 47, 3) := by decide +kernel
theorem d_O_findPairs_33 : decode um_O_findPairs.2.1 33 = .ok (.iload 4, 2) := by decide +kernel
theorem d_O_findPairs_35 : decode um_O_findPairs.2.1 35 = .ok (.aload_n 2, 1) := by decide +kernel
theorem d_O_findPairs_36 : decode um_O_findPairs.2.1 36 = .ok (.getfield 89, 3) := by decide +kernel
theorem d_O_findPairs_39 : decode um_O_findPairs.2.1 39 = .ok (.aload_n 2, 1) := by decide +kernel
theorem d_O_findPairs_40 : decode um_O_findPairs.2.1 40 = .ok (.getfield 91, 3) := by decide +kernel
theorem d_O_findPairs_43 : decode um_O_findPairs.2.1 43 = .ok (.invokevirtual 105, 3) := by decide +kernel
theorem d_O_findPairs_46 : decode um_O_findPairs.2.1 46 = .ok (.istore 5, 2) := by decide +kernel
theorem d_O_findPairs_48 : decode um_O_findPairs.2.1 48 = .ok (.iload 5, 2) := by decide +kernel
theorem d_O_findPairs_50 : decode um_O_findPairs.2.1 50 = .ok (.bipush (-3), 2) := by decide +kernel
theorem d_O_findPairs_52 : decode um_O_findPairs.2.1 52 = .ok (.if_icmp .eq 55, 3) := by decide +kernel
theorem d_O_findPairs_55 : decode um_O_findPairs.2.1 55 = .ok (.aload_n 1, 1) := by decide +kernel
theorem d_O_findPairs_56 : decode um_O_findPairs.2.1 56 = .ok (.getfield 36, 3) := by decide +kernel
theorem d_O_findPairs_59 : decode um_O_findPairs.2.1 59 = .ok (.iload 4, 2) := by decide +kernel
theorem d_O_findPairs_61 : decode um_O_findPairs.2.1 61 = .ok (.aload_n 2, 1) := by decide +kernel
theorem d_O_findPairs_62 : decode um_O_findPairs.2.1 62 = .ok (.getfield 84, 3) := by decide +kernel
theorem d_O_findPairs_65 : decode um_O_findPairs.2.1 65 = .ok (.aload_n 2, 1) := by decide +kernel
theorem d_O_findPairs_66 : decode um_O_findPairs.2.1 66 = .ok (.getfield 86, 3) := by decide +kernel
theorem d_O_findPairs_69 : decode um_O_findPairs.2.1 69 = .ok (.invokevirtual 105, 3) := by decide +kernel
theorem d_O_findPairs_72 : decode um_O_findPairs.2.1 72 = .ok (.iload_n 3, 1) := by decide +kernel
theorem d_O_findPairs_73 : decode um_O_findPairs.2.1 73 = .ok (.if_icmp .ne 34, 3) := by decide +kernel
theorem d_O_findPairs_76 : decode um_O_findPairs.2.1 76 = .ok (.aload_n 0, 1) := by decide +kernel
theorem d_O_findPairs_77 : decode um_O_findPairs.2.1 77 = .ok (.getfield 17, 3) := by decide +kernel
theorem d_O_findPairs_80 : decode um_O_findPairs.2.1 80 = .ok (.aload_n 0, 1) := by decide +kernel
theorem d_O_findPairs_81 : decode um_O_findPairs.2.1 81 = .ok (.getfield 70, 3) := by decide +kernel
theorem d_O_findPairs_84 : decode um_O_findPairs.2.1 84 = .ok (.iload_n 3, 1) := by decide +kernel
theorem d_O_findPairs_85 : decode um_O_findPairs.2.1 85 = .ok (.iastore, 1) := by decide +kernel
theorem d_O_findPairs_86 : decode um_O_findPairs.2.1 86 = .ok (.aload_n 0, 1) := by decide +kernel
theorem d_O_findPairs_87 : decode um_O_findPairs.2.1 87 = .ok (.getfield 21, 3) := by decide +kernel
theorem d_O_findPairs_90 : decode um_O_findPairs.2.1 90 = .ok (.aload_n 0, 1) := by decide +kernel
theorem d_O_findPairs_91 : decode um_O_findPairs.2.1 91 = .ok (.getfield 70, 3) := by decide +kernel
theorem d_O_findPairs_94 : decode um_O_findPairs.2.1 94 = .ok (.iload 5, 2) := by decide +kernel
theorem d_O_findPairs_96 : decode um_O_findPairs.2.1 96 = .ok (.iastore, 1) := by decide +kernel
theorem d_O_findPairs_97 : decode um_O_findPairs.2.1 97 = .ok (.aload_n 0, 1) := by decide +kernel
theorem d_O_findPairs_98 : decode um_O_findPairs.2.1 98 = .ok (.dup, 1) := by decide +kernel
theorem d_O_findPairs_99 : decode um_O_findPairs.2.1 99 = .ok (.getfield 70, 3) := by decide +kernel
theorem d_O_findPairs_102 : decode um_O_findPairs.2.1 102 = .ok (.iconst 1, 1) := by decide +kernel
theorem d_O_findPairs_103 : decode um_O_findPairs.2.1 103 = .ok (.iadd, 1) := by decide +kernel
theorem d_O_findPairs_104 : decode um_O_findPairs.2.1 104 = .ok (.putfield 70, 3) := by decide +kernel
theorem d_O_findPairs_107 : decode um_O_findPairs.2.1 107 = .ok (.iinc 3 1, 3) := by decide +kernel
theorem d_O_findPairs_110 : decode um_O_findPairs.2.1 110 = .ok (.goto (-100), 3) := by decide +kernel
theorem d_O_findPairs_113 : decode um_O_findPairs.2.1 113 = .ok (.return_, 1) := by decide +kernel
theorem d_O_rankPairs_0 : decode um_O_rankPairs.2.1 0 = .ok (.iconst 0, 1) := by decide +kernel
theorem d_O_rankPairs_1 : decode um_O_rankPairs.2.1 1 = .ok (.istore_n 1, 1) := by decide +kernel
theorem d_O_rankPairs_2 : decode um_O_rankPairs.2.1 2 = .ok (.iconst 0, 1) := by decide +kernel
theorem d_O_rankPairs_3 : decode um_O_rankPairs.2.1 3 = .ok (.istore_n 2, 1) := by decide +kernel
theorem d_O_rankPairs_4 : decode um_O_rankPairs.2.1 4 = .ok (.iload_n 2, 1) := by decide +kernel
theorem d_O_rankPairs_5 : decode um_O_rankPairs.2.1 5 = .ok (.aload_n 0, 1) := by decide +kernel
theorem d_O_rankPairs_6 : decode um_O_rankPairs.2.1 6 = .ok (.getfield 70, 3) := by decide +kernel
theorem d_O_rankPairs_9 : decode um_O_rankPairs.2.1 9 = .ok (.if_icmp .ge 74, 3) := by decide +kernel
theorem d_O_rankPairs_12 : decode um_O_rankPairs.2.1 12 = .ok (.iconst 0, 1) := by decide +kernel
theorem d_O_rankPairs_13 : decode um_O_rankPairs.2.1 13 = .ok (.istore_n 3, 1) := by decide +kernel
theorem d_O_rankPairs_14 : decode um_O_rankPairs.2.1 14 = .ok (.iconst 0, 1) := by decide +kernel
theorem d_O_rankPairs_15 : decode um_O_rankPairs.2.1 15 = .ok (.istore 4, 2) := by decide +kernel
theorem d_O_rankPairs_17 : decode um_O_rankPairs.2.1 17 = .ok (.iload 4, 2) := by decide +kernel
theorem d_O_rankPairs_19 : decode um_O_rankPairs.2.1 19 = .ok (.iload_n 2, 1) := by decide +kernel
theorem d_O_rankPairs_20 : decode um_O_rankPairs.2.1 20 = .ok (.if_icmp .ge 37, 3) := by decide +kernel
theorem d_O_rankPairs_23 : decode um_O_rankPairs.2.1 23 = .ok (.aload_n 0, 1) := by decide +kernel
theorem d_O_rankPairs_24 : decode um_O_rankPairs.2.1 24 = .ok (.getfield 21, 3) := by decide +kernel
theorem d_O_rankPairs_27 : decode um_O_rankPairs.2.1 27 = .ok (.iload 4, 2) := by decide +kernel
theorem d_O_rankPairs_29 : decode um_O_rankPairs.2.1 29 = .ok (.iaload, 1) := by decide +kernel
theorem d_O_rankPairs_30 : decode um_O_rankPairs.2.1 30 = .ok (.aload_n 0, 1) := by decide +kernel
theorem d_O_rankPairs_31 : decode um_O_rankPairs.2.1 31 = .ok (.getfield 21, 3) := by decide +kernel
theorem d_O_rankPairs_34 : decode um_O_rankPairs.2.1 34 = .ok (.iload_n 2, 1) := by decide +kernel
theorem d_O_rankPairs_35 : decode um_O_rankPairs.2.1 35 = .ok (.iaload, 1) := by decide +kernel
theorem d_O_rankPairs_36 : decode um_O_rankPairs.2.1 36 = .ok (.if_icmp .ge 15, 3) := by decide +kernel
theorem d_O_rankPairs_39 : decode um_O_rankPairs.2.1 39 = .ok (.iload_n 3, 1) := by decide +kernel
theorem d_O_rankPairs_40 : decode um_O_rankPairs.2.1 40 = .ok (.aload_n 0, 1) := by decide +kernel
theorem d_O_rankPairs_41 : decode um_O_rankPairs.2.1 41 = .ok (.getfield 24, 3) := by decide +kernel
theorem d_O_rankPairs_44 : decode um_O_rankPairs.2.1 44 = .ok (.iload 4, 2) := by decide +kernel
theorem d_O_rankPairs_46 : decode um_O_rankPairs.2.1 46 = .ok (.iaload, 1) := by decide +kernel
theorem d_O_rankPairs_47 : decode um_O_rankPairs.2.1 47 = .ok (.invokestatic 109, 3) := by decide +kernel
theorem d_O_rankPairs_50 : decode um_O_rankPairs.2.1 50 = .ok (.istore_n 3, 1) := by decide +kernel
theorem d_O_rankPairs_51 : decode um_O_rankPairs.2.1 51 = .ok (.iinc 4 1, 3) := by decide +kernel
theorem d_O_rankPairs_54 : decode um_O_rankPairs.2.1 54 = .ok (.goto (-37), 3) := by decide +kernel
theorem d_O_rankPairs_57 : decode um_O_rankPairs.2.1 57 = .ok (.aload_n 0, 1) := by decide +kernel
theorem d_O_rankPairs_58 : decode um_O_rankPairs.2.1 58 = .ok (.getfield 24, 3) := by decide +kernel
theorem d_O_rankPairs_61 : decode um_O_rankPairs.2.1 61 = .ok (.iload_n 2, 1) := by decide +kernel
theorem d_O_rankPairs_62 : decode um_O_rankPairs.2.1 62 = .ok (.iload_n 3, 1) := by decide +kernel
theorem d_O_rankPairs_63 : decode um_O_rankPairs.2.1 63 = .ok (.iconst 1, 1) := by decide +kernel
theorem d_O_rankPairs_64 : decode um_O_rankPairs.2.1 64 = .ok (.iadd, 1) := by decide +kernel
theorem d_O_rankPairs_65 : decode um_O_rankPairs.2.1 65 = .ok (.iastore, 1) := by decide +kernel
theorem d_O_rankPairs_66 : decode um_O_rankPairs.2.1 66 = .ok (.iload_n 1, 1) := by decide +kernel
theorem d_O_rankPairs_67 : decode um_O_rankPairs.2.1 67 = .ok (.aload_n 0, 1) := by decide +kernel
theorem d_O_rankPairs_68 : decode um_O_rankPairs.2.1 68 = .ok (.getfield 24, 3) := by decide +kernel
theorem d_O_rankPairs_71 : decode um_O_rankPairs.2.1 71 = .ok (.iload_n 2, 1) := by decide +kernel
theorem d_O_rankPairs_72 : decode um_O_rankPairs.2.1 72 = .ok (.iaload, 1) := by decide +kernel
theorem d_O_rankPairs_73 : decode um_O_rankPairs.2.1 73 = .ok (.invokestatic 109, 3) := by decide +kernel
theorem d_O_rankPairs_76 : decode um_O_rankPairs.2.1 76 = .ok (.istore_n 1, 1) := by decide +kernel
theorem d_O_rankPairs_77 : decode um_O_rankPairs.2.1 77 = .ok (.iinc 2 1, 3) := by decide +kernel
theorem d_O_rankPairs_80 : decode um_O_rankPairs.2.1 80 = .ok (.goto (-76), 3) := by decide +kernel
theorem d_O_rankPairs_83 : decode um_O_rankPairs.2.1 83 = .ok (.iload_n 1, 1) := by decide +kernel
theorem d_O_rankPairs_84 : decode um_O_rankPairs.2.1 84 = .ok (.ireturn, 1) := by decide +kernel
theorem d_O_matchAnchors_0 : decode um_O_matchAnchors.2.1 0 = .ok (.iload_n 3, 1) := by decide +kernel
theorem d_O_matchAnchors_1 : decode um_O_matchAnchors.2.1 1 = .ok (.istore 4, 2) := by decide +kernel
theorem d_O_matchAnchors_3 : decode um_O_matchAnchors.2.1 3 = .ok (.aload_n 2, 1) := by decide +kernel
theorem d_O_matchAnchors_4 : decode um_O_matchAnchors.2.1 4 = .ok (.getfield 86, 3) := by decide +kernel
theorem d_O_matchAnchors_7 : decode um_O_matchAnchors.2.1 7 = .ok (.istore 5, 2) := by decide +kernel
theorem d_O_matchAnchors_9 : decode um_O_matchAnchors.2.1 9 = .ok (.aload_n 2, 1) := by decide +kernel
theorem d_O_matchAnchors_10 : decode um_O_matchAnchors.2.1 10 = .ok (.getfield 91, 3) := by decide +kernel
theorem d_O_matchAnchors_13 : decode um_O_matchAnchors.2.1 13 = .ok (.istore 6, 2) := by decide +kernel
theorem d_O_matchAnchors_15 : decode um_O_matchAnchors.2.1 15 = .ok (.aload_n 0, 1) := by decide +kernel
theorem d_O_matchAnchors_16 : decode um_O_matchAnchors.2.1 16 = .ok (.getfield 70, 3) := by decide +kernel
theorem d_O_matchAnchors_19 : decode um_O_matchAnchors.2.1 19 = .ok (.iconst 1, 1) := by decide +kernel
theorem d_O_matchAnchors_20 : decode um_O_matchAnchors.2.1 20 = .ok (.isub, 1) := by decide +kernel
theorem d_O_matchAnchors_21 : decode um_O_matchAnchors.2.1 21 = .ok (.istore 7, 2) := by decide +kernel
theorem d_O_matchAnchors_23 : decode um_O_matchAnchors.2.1 23 = .ok (.iload 7, 2) := by decide +kernel
theorem d_O_matchAnchors_25 : decode um_O_matchAnchors.2.1 25 = .ok (.ifCond .lt 86, 3) := by decide +kernel
theorem d_O_matchAnchors_28 : decode um_O_matchAnchors.2.1 28 = .ok (.aload_n 0, 1) := by decide +kernel
theorem d_O_matchAnchors_29 : decode um_O_matchAnchors.2.1 29 = .ok (.getfield 24, 3) := by decide +kernel
theorem d_O_matchAnchors_32 : decode um_O_matchAnchors.2.1 32 = .ok (.iload 7, 2) := by decide +kernel
theorem d_O_matchAnchors_34 : decode um_O_matchAnchors.2.1 34 = .ok (.iaload, 1) := by decide +kernel
theorem d_O_matchAnchors_35 : decode um_O_matchAnchors.2.1 35 = .ok (.iload 4, 2) := by decide +kernel
theorem d_O_matchAnchors_37 : decode um_O_matchAnchors.2.1 37 = .ok (.if_icmp .ne 68, 3) := by decide +kernel
theorem d_O_matchAnchors_40 : decode um_O_matchAnchors.2.1 40 = .ok (.aload_n 1, 1) := by decide +kernel
theorem d_O_matchAnchors_41 : decode um_O_matchAnchors.2.1 41 = .ok (.aload_n 0, 1) := by decide +kernel
theorem d_O_matchAnchors_42 : decode um_O_matchAnchors.2.1 42 = .ok (.getfield 17, 3) := by decide +kernel
theorem d_O_matchAnchors_45 : decode um_O_matchAnchors.2.1 45 = .ok (.iload 7, 2) := by decide +kernel
theorem d_O_matchAnchors_47 : decode um_O_matchAnchors.2.1 47 = .ok (.iaload, 1) := by decide +kernel
theorem d_O_matchAnchors_48 : decode um_O_matchAnchors.2.1 48 = .ok (.aload_n 0, 1) := by decide +kernel
theorem d_O_matchAnchors_49 : decode um_O_matchAnchors.2.1 49 = .ok (.getfield 21, 3) := by decide +kernel
theorem d_O_matchAnchors_52 : decode um_O_matchAnchors.2.1 52 = .ok (.iload 7, 2) := by decide +kernel
theorem d_O_matchAnchors_54 : decode um_O_matchAnchors.2.1 54 = .ok (.iaload, 1) := by decide +kernel
theorem d_O_matchAnchors_55 : decode um_O_matchAnchors.2.1 55 = .ok (.invokevirtual 98, 3) := by decide +kernel
theorem d_O_matchAnchors_58 : decode um_O_matchAnchors.2.1 58 = .ok (.aload_n 0, 1) := by decide +kernel
theorem d_O_matchAnchors_59 : decode um_O_matchAnchors.2.1 59 = .ok (.aload_n 0, 1) := by decide +kernel
theorem d_O_matchAnchors_60 : decode um_O_matchAnchors.2.1 60 = .ok (.getfield 17, 3) := by decide +kernel
theorem d_O_matchAnchors_63 : decode um_O_matchAnchors.2.1 63 = .ok (.iload 7, 2) := by decide +kernel
theorem d_O_matchAnchors_65 : decode um_O_matchAnchors.2.1 65 = .ok (.iaload, 1) := by decide +kernel
theorem d_O_matchAnchors_66 : decode um_O_matchAnchors.2.1 66 = .ok (.iconst 1, 1) := by decide +kernel
theorem d_O_matchAnchors_67 : decode um_O_matchAnchors.2.1 67 = .ok (.iadd, 1) := by decide +kernel
theorem d_O_matchAnchors_68 : decode um_O_matchAnchors.2.1 68 = .ok (.iload 5, 2) := by decide +kernel
theorem d_O_matchAnchors_70 : decode um_O_matchAnchors.2.1 70 = .ok (.aload_n 0, 1) := by decide +kernel
theorem d_O_matchAnchors_71 : decode um_O_matchAnchors.2.1 71 = .ok (.getfield 21, 3) := by decide +kernel
theorem d_O_matchAnchors_74 : decode um_O_matchAnchors.2.1 74 = .ok (.iload 7, 2) := by decide +kernel
theorem d_O_matchAnchors_76 : decode um_O_matchAnchors.2.1 76 = .ok (.iaload, 1) := by decide +kernel
theorem d_O_matchAnchors_77 : decode um_O_matchAnchors.2.1 77 = .ok (.iconst 1, 1) := by decide +kernel
theorem d_O_matchAnchors_78 : decode um_O_matchAnchors.2.1 78 = .ok (.iadd, 1) := by decide +kernel
theorem d_O_matchAnchors_79 : decode um_O_matchAnchors.2.1 79 = .ok (.iload 6, 2) := by decide +kernel
theorem d_O_matchAnchors_81 : decode um_O_matchAnchors.2.1 81 = .ok (.invokevirtual 50, 3) := by decide +kernel
theorem d_O_matchAnchors_84 : decode um_O_matchAnchors.2.1 84 = .ok (.aload_n 0, 1) := by decide +kernel
theorem d_O_matchAnchors_85 : decode um_O_matchAnchors.2.1 85 = .ok (.getfield 17, 3) := by decide +kernel
theorem d_O_matchAnchors_88 : decode um_O_matchAnchors.2.1 88 = .ok (.iload 7, 2) := by decide +kernel
theorem d_O_matchAnchors_90 : decode um_O_matchAnchors.2.1 90 = .ok (.iaload, 1) := by decide +kernel
theorem d_O_matchAnchors_91 : decode um_O_matchAnchors.2.1 91 = .ok (.istore 5, 2) := by decide +kernel
theorem d_O_matchAnchors_93 : decode um_O_matchAnchors.2.1 93 = .ok (.aload_n 0, 1) := by decide +kernel
theorem d_O_matchAnchors_94 : decode um_O_matchAnchors.2.1 94 = .ok (.getfield 21, 3) := by decide +kernel
theorem d_O_matchAnchors_97 : decode um_O_matchAnchors.2.1 97 = .ok (.iload 7, 2) := by decide +kernel
theorem d_O_matchAnchors_99 : decode um_O_matchAnchors.2.1 99 = .ok (.iaload, 1) := by decide +kernel
theorem d_O_matchAnchors_100 : decode um_O_matchAnchors.2.1 100 = .ok (.istore 6, 2) := by decide +kernel
theorem d_O_matchAnchors_102 : decode um_O_matchAnchors.2.1 102 = .ok (.iinc 4 (-1), 3) := by decide +kernel
theorem d_O_matchAnchors_105 : decode um_O_matchAnchors.2.1 105 = .ok (.iinc 7 (-1), 3) := by decide +kernel
theorem d_O_matchAnchors_108 : decode um_O_matchAnchors.2.1 108 = .ok (.goto (-85), 3) := by decide +kernel
theorem d_O_matchAnchors_111 : decode um_O_matchAnchors.2.1 111 = .ok (.aload_n 0, 1) := by decide +kernel
theorem d_O_matchAnchors_112 : decode um_O_matchAnchors.2.1 112 = .ok (.aload_n 2, 1) := by decide +kernel
theorem d_O_matchAnchors_113 : decode um_O_matchAnchors.2.1 113 = .ok (.getfield 84, 3) := by decide +kernel
theorem d_O_matchAnchors_116 : decode um_O_matchAnchors.2.1 116 = .ok (.iload 5, 2) := by decide +kernel
theorem d_O_matchAnchors_118 : decode um_O_matchAnchors.2.1 118 = .ok (.aload_n 2, 1) := by decide +kernel
theorem d_O_matchAnchors_119 : decode um_O_matchAnchors.2.1 119 = .ok (.getfield 89, 3) := by decide +kernel
theorem d_O_matchAnchors_122 : decode um_O_matchAnchors.2.1 122 = .ok (.iload 6, 2) := by decide +kernel
theorem d_O_matchAnchors_124 : decode um_O_matchAnchors.2.1 124 = .ok (.invokevirtual 50, 3) := by decide +kernel
theorem d_O_matchAnchors_127 : decode um_O_matchAnchors.2.1 127 = .ok (.return_, 1) := by decide +kernel
theorem d_A_init_0 : decode um_A_init.2.1 0 = .ok (.aload_n 0, 1) := by decide +kernel
theorem d_A_init_1 : decode um_A_init.2.1 1 = .ok (.invokespecial 3, 3) := by decide +kernel
theorem d_A_init_4 : decode um_A_init.2.1 4 = .ok (.aload_n 0, 1) := by decide +kernel
theorem d_A_init_5 : decode um_A_init.2.1 5 = .ok (.sipush 900, 3) := by decide +kernel
theorem d_A_init_8 : decode um_A_init.2.1 8 = .ok (.newarray .int, 2) := by decide +kernel
theorem d_A_init_10 : decode um_A_init.2.1 10 = .ok (.putfield 9, 3) := by decide +kernel
theorem d_A_init_13 : decode um_A_init.2.1 13 = .ok (.return_, 1) := by decide +kernel
theorem d_A_append_0 : decode um_A_append.2.1 0 = .ok (.aload_n 0, 1) := by decide +kernel
theorem d_A_append_1 : decode um_A_append.2.1 1 = .ok (.getfield 15, 3) := by decide +kernel
theorem d_A_append_4 : decode um_A_append.2.1 4 = .ok (.sipush 900, 3) := by decide +kernel
theorem d_A_append_7 : decode um_A_append.2.1 7 = .ok (.if_icmp .ge 23, 3) := by decide +kernel
theorem d_A_append_10 : decode um_A_append.2.1 10 = .ok (.aload_n 0, 1) := by decide +kernel
theorem d_A_append_11 : decode um_A_append.2.1 11 = .ok (.getfield 9, 3) := by decide +kernel
theorem d_A_append_14 : decode um_A_append.2.1 14 = .ok (.aload_n 0, 1) := by decide +kernel
theorem d_A_append_15 : decode um_A_append.2.1 15 = .ok (.getfield 15, 3) := by decide +kernel
theorem d_A_append_18 : decode um_A_append.2.1 18 = .ok (.iload_n 1, 1) := by decide +kernel
theorem d_A_append_19 : decode um_A_append.2.1 19 = .ok (.iastore, 1) := by decide +kernel
theorem d_A_append_20 : decode um_A_append.2.1 20 = .ok (.aload_n 0, 1) := by decide +kernel
theorem d_A_append_21 : decode um_A_append.2.1 21 = .ok (.dup, 1) := by decide +kernel
theorem d_A_append_22 : decode um_A_append.2.1 22 = .ok (.getfield 15, 3) := by decide +kernel
theorem d_A_append_25 : decode um_A_append.2.1 25 = .ok (.iconst 1, 1) := by decide +kernel
theorem d_A_append_26 : decode um_A_append.2.1 26 = .ok (.iadd, 1) := by decide +kernel
theorem d_A_append_27 : decode um_A_append.2.1 27 = .ok (.putfield 15, 3) := by decide +kernel
theorem d_A_append_30 : decode um_A_append.2.1 30 = .ok (.return_, 1) := by decide +kernel
theorem d_A_appendNumber_0 : decode um_A_appendNumber.2.1 0 = .ok (.iload_n 1, 1) := by decide +kernel
theorem d_A_appendNumber_1 : decode um_A_appendNumber.2.1 1 = .ok (.bipush 10, 2) := by decide +kernel
theorem d_A_appendNumber_3 : decode um_A_appendNumber.2.1 3 = .ok (.if_icmp .lt 17, 3) := by decide +kernel
theorem d_A_appendNumber_6 : decode um_A_appendNumber.2.1 6 = .ok (.aload_n 0, 1) := by decide +kernel
theorem d_A_appendNumber_7 : decode um_A_appendNumber.2.1 7 = .ok (.bipush 48, 2) := by decide +kernel
theorem d_A_appendNumber_9 : decode um_A_appendNumber.2.1 9 = .ok (.iload_n 1, 1) := by decide +kernel
theorem d_A_appendNumber_10 : decode um_A_appendNumber.2.1 10 = .ok (.bipush 10, 2) := by decide +kernel
theorem d_A_appendNumber_12 : decode um_A_appendNumber.2.1 12 = .ok (.idiv, 1) := by decide +kernel
theorem d_A_appendNumber_13 : decode um_A_appendNumber.2.1 13 = .ok (.bipush 10, 2) := by decide +kernel
theorem d_A_appendNumber_15 : decode um_A_appendNumber.2.1 15 = .ok (.irem, 1) := by decide +kernel
theorem d_A_appendNumber_16 : decode um_A_appendNumber.2.1 16 = .ok (.iadd, 1) := by decide +kernel
theorem d_A_appendNumber_17 : decode um_A_appendNumber.2.1 17 = .ok (.invokevirtual 19, 3) := by decide +kernel
theorem d_A_appendNumber_20 : decode um_A_appendNumber.2.1 20 = .ok (.aload_n 0, 1) := by decide +kernel
theorem d_A_appendNumber_21 : decode um_A_appendNumber.2.1 21 = .ok (.bipush 48, 2) := by decide +kernel
theorem d_A_appendNumber_23 : decode um_A_appendNumber.2.1 23 = .ok (.iload_n 1, 1) := by decide +kernel
theorem d_A_appendNumber_24 : decode um_A_appendNumber.2.1 24 = .ok (.bipush 10, 2) := by decide +kernel
theorem d_A_appendNumber_26 : decode um_A_appendNumber.2.1 26 = .ok (.irem, 1) := by decide +kernel
theorem d_A_appendNumber_27 : decode um_A_appendNumber.2.1 27 = .ok (.iadd, 1) := by decide +kernel
theorem d_A_appendNumber_28 : decode um_A_appendNumber.2.1 28 = .ok (.invokevirtual 19, 3) := by decide +kernel
theorem d_A_appendNumber_31 : decode um_A_appendNumber.2.1 31 = .ok (.return_, 1) := by decide +kernel
theorem d_A_appendLine_0 : decode um_A_appendLine.2.1 0 = .ok (.aload_n 0, 1) := by decide +kernel
theorem d_A_appendLine_1 : decode um_A_appendLine.2.1 1 = .ok (.iload_n 1, 1) := by decide +kernel
theorem d_A_appendLine_2 : decode um_A_appendLine.2.1 2 = .ok (.invokevirtual 19, 3) := by decide +kernel
theorem d_A_appendLine_5 : decode um_A_appendLine.2.1 5 = .ok (.aload_n 0, 1) := by decide +kernel
theorem d_A_appendLine_6 : decode um_A_appendLine.2.1 6 = .ok (.iload_n 2, 1) := by decide +kernel
theorem d_A_appendLine_7 : decode um_A_appendLine.2.1 7 = .ok (.invokevirtual 19, 3) := by decide +kernel
theorem d_A_appendLine_10 : decode um_A_appendLine.2.1 10 = .ok (.aload_n 0, 1) := by decide +kernel
theorem d_A_appendLine_11 : decode um_A_appendLine.2.1 11 = .ok (.bipush 10, 2) := by decide +kernel
theorem d_A_appendLine_13 : decode um_A_appendLine.2.1 13 = .ok (.invokevirtual 19, 3) := by decide +kernel
theorem d_A_appendLine_16 : decode um_A_appendLine.2.1 16 = .ok (.return_, 1) := by decide +kernel
theorem d_W_init_0 : decode um_W_init.2.1 0 = .ok (.aload_n 0, 1) := by decide +kernel
theorem d_W_init_1 : decode um_W_init.2.1 1 = .ok (.invokespecial 3, 3) := by decide +kernel
theorem d_W_init_4 : decode um_W_init.2.1 4 = .ok (.aload_n 0, 1) := by decide +kernel
theorem d_W_init_5 : decode um_W_init.2.1 5 = .ok (.bipush 25, 2) := by decide +kernel
theorem d_W_init_7 : decode um_W_init.2.1 7 = .ok (.anewarray 11, 3) := by decide +kernel
theorem d_W_init_10 : decode um_W_init.2.1 10 = .ok (.putfield 13, 3) := by decide +kernel
theorem d_W_init_13 : decode um_W_init.2.1 13 = .ok (.aload_n 0, 1) := by decide +kernel
theorem d_W_init_14 : decode um_W_init.2.1 14 = .ok (.aload_n 1, 1) := by decide +kernel
theorem d_W_init_15 : decode um_W_init.2.1 15 = .ok (.putfield 17, 3) := by decide +kernel
theorem d_W_init_18 : decode um_W_init.2.1 18 = .ok (.aload_n 0, 1) := by decide +kernel
theorem d_W_init_19 : decode um_W_init.2.1 19 = .ok (.aload_n 2, 1) := by decide +kernel
theorem d_W_init_20 : decode um_W_init.2.1 20 = .ok (.putfield 21, 3) := by decide +kernel
theorem d_W_init_23 : decode um_W_init.2.1 23 = .ok (.iconst 0, 1) := by decide +kernel
theorem d_W_init_24 : decode um_W_init.2.1 24 = .ok (.istore_n 3, 1) := by decide +kernel
theorem d_W_init_25 : decode um_W_init.2.1 25 = .ok (.iload_n 3, 1) := by decide +kernel
theorem d_W_init_26 : decode um_W_init.2.1 26 = .ok (.bipush 25, 2) := by decide +kernel
theorem d_W_init_28 : decode um_W_init.2.1 28 = .ok (.if_icmp .ge 22, 3) := by decide +kernel
theorem d_W_init_31 : decode um_W_init.2.1 31 = .ok (.aload_n 0, 1) := by decide +kernel
theorem d_W_init_32 : decode um_W_init.2.1 32 = .ok (.getfield 13, 3) := by decide +kernel
theorem d_W_init_35 : decode um_W_init.2.1 35 = .ok (.iload_n 3, 1) := by decide +kernel
theorem d_W_init_36 : decode um_W_init.2.1 36 = .ok (.new 11, 3) := by decide +kernel
theorem d_W_init_39 : decode um_W_init.2.1 39 = .ok (.dup, 1) := by decide +kernel
theorem d_W_init_40 : decode um_W_init.2.1 40 = .ok (.invokespecial 25, 3) := by decide +kernel
theorem d_W_init_43 : decode um_W_init.2.1 43 = .ok (.aastore, 1) := by decide +kernel
theorem d_W_init_44 : decode um_W_init.2.1 44 = .ok (.iinc 3 1, 3) := by decide +kernel
theorem d_W_init_47 : decode um_W_init.2.1 47 = .ok (.goto (-22), 3) := by decide +kernel
theorem d_W_init_50 : decode um_W_init.2.1 50 = .ok (.return_, 1) := by decide +kernel
theorem d_W_writePatch_0 : decode um_W_writePatch.2.1 0 = .ok (.aload_n 0, 1) := by decide +kernel
theorem d_W_writePatch_1 : decode um_W_writePatch.2.1 1 = .ok (.invokevirtual 26, 3) := by decide +kernel
theorem d_W_writePatch_4 : decode um_W_writePatch.2.1 4 = .ok (.aload_n 0, 1) := by decide +kernel
theorem d_W_writePatch_5 : decode um_W_writePatch.2.1 5 = .ok (.getfield 21, 3) := by decide +kernel
theorem d_W_writePatch_8 : decode um_W_writePatch.2.1 8 = .ok (.iconst 0, 1) := by decide +kernel
theorem d_W_writePatch_9 : decode um_W_writePatch.2.1 9 = .ok (.putfield 29, 3) := by decide +kernel
theorem d_W_writePatch_12 : decode um_W_writePatch.2.1 12 = .ok (.iconst 0, 1) := by decide +kernel
theorem d_W_writePatch_13 : decode um_W_writePatch.2.1 13 = .ok (.istore_n 2, 1) := by decide +kernel
theorem d_W_writePatch_14 : decode um_W_writePatch.2.1 14 = .ok (.iconst 0, 1) := by decide +kernel
theorem d_W_writePatch_15 : decode um_W_writePatch.2.1 15 = .ok (.istore_n 3, 1) := by decide +kernel
theorem d_W_writePatch_16 : decode um_W_writePatch.2.1 16 = .ok (.iconst 0, 1) := by decide +kernel
theorem d_W_writePatch_17 : decode um_W_writePatch.2.1 17 = .ok (.istore 4, 2) := by decide +kernel
theorem d_W_writePatch_19 : decode um_W_writePatch.2.1 19 = .ok (.iload 4, 2) := by decide +kernel
theorem d_W_writePatch_21 : decode um_W_writePatch.2.1 21 = .ok (.aload_n 0, 1) := by decide +kernel
theorem d_W_writePatch_22 : decode um_W_writePatch.2.1 22 = .ok (.getfield 35, 3) := by decide +kernel
theorem d_W_writePatch_25 : decode um_W_writePatch.2.1 25 = .ok (.if_icmp .ge 60, 3) := by decide +kernel
theorem d_W_writePatch_28 : decode um_W_writePatch.2.1 28 = .ok (.iload 4, 2) := by decide +kernel
theorem d_W_writePatch_30 : decode um_W_writePatch.2.1 30 = .ok (.aload_n 0, 1) := by decide +kernel
theorem d_W_writePatch_31 : decode um_W_writePatch.2.1 31 = .ok (.getfield 35, 3) := by decide +kernel
theorem d_W_writePatch_34 : decode um_W_writePatch.2.1 34 = .ok (.iconst 1, 1) := by decide +kernel
theorem d_W_writePatch_35 : decode um_W_writePatch.2.1 35 = .ok (.isub, 1) := by decide +kernel
theorem d_W_writePatch_36 : decode um_W_writePatch.2.1 36 = .ok (.if_icmp .ne 7, 3) := by decide +kernel
theorem d_W_writePatch_39 : decode um_W_writePatch.2.1 39 = .ok (.iconst 1, 1) := by decide +kernel
theorem d_W_writePatch_40 : decode um_W_writePatch.2.1 40 = .ok (.goto 4, 3) := by decide +kernel
theorem d_W_writePatch_43 : decode um_W_writePatch.2.1 43 = .ok (.iconst 0, 1) := by decide +kernel
theorem d_W_writePatch_44 : decode um_W_writePatch.2.1 44 = .ok (.istore 5, 2) := by decide +kernel
theorem d_W_writePatch_46 : decode um_W_writePatch.2.1 46 = .ok (.iload 5, 2) := by decide +kernel
theorem d_W_writePatch_48 : decode um_W_writePatch.2.1 48 = .ok (.ifCond .ne 15, 3) := by decide +kernel
theorem d_W_writePatch_51 : decode um_W_writePatch.2.1 51 = .ok (.aload_n 0, 1) := by decide +kernel
theorem d_W_writePatch_52 : decode um_W_writePatch.2.1 52 = .ok (.iload 4, 2) := by decide +kernel
theorem d_W_writePatch_54 : decode um_W_writePatch.2.1 54 = .ok (.invokevirtual 38, 3) := by decide +kernel
theorem d_W_writePatch_57 : decode um_W_writePatch.2.1 57 = .ok (.iconst 2, 1) := by decide +kernel
theorem d_W_writePatch_58 : decode um_W_writePatch.2.1 58 = .ok (.iload_n 1, 1) := by decide +kernel
theorem d_W_writePatch_59 : decode um_W_writePatch.2.1 59 = .ok (.imul, 1) := by decide +kernel
theorem d_W_writePatch_60 : decode um_W_writePatch.2.1 60 = .ok (.if_icmp .le 19, 3) := by decide +kernel
theorem d_W_writePatch_63 : decode um_W_writePatch.2.1 63 = .ok (.aload_n 0, 1) := by decide +kernel
theorem d_W_writePatch_64 : decode um_W_writePatch.2.1 64 = .ok (.iload_n 3, 1) := by decide +kernel
theorem d_W_writePatch_65 : decode um_W_writePatch.2.1 65 = .ok (.iload 4, 2) := by decide +kernel
theorem d_W_writePatch_67 : decode um_W_writePatch.2.1 67 = .ok (.iload_n 1, 1) := by decide +kernel
theorem d_W_writePatch_68 : decode um_W_writePatch.2.1 68 = .ok (.invokevirtual 42, 3) := by decide +kernel
theorem d_W_writePatch_71 : decode um_W_writePatch.2.1 71 = .ok (.iinc 2 1, 3) := by decide +kernel
theorem d_W_writePatch_74 : decode um_W_writePatch.2.1 74 = .ok (.iload 4, 2) := by decide +kernel
theorem d_W_writePatch_76 : decode um_W_writePatch.2.1 76 = .ok (.iconst 1, 1) := by decide +kernel
theorem d_W_writePatch_77 : decode um_W_writePatch.2.1 77 = .ok (.iadd, 1) := by decide +kernel
theorem d_W_writePatch_78 : decode um_W_writePatch.2.1 78 = .ok (.istore_n 3, 1) := by decide +kernel
theorem d_W_writePatch_79 : decode um_W_writePatch.2.1 79 = .ok (.iinc 4 1, 3) := by decide +kernel
theorem d_W_writePatch_82 : decode um_W_writePatch.2.1 82 = .ok (.goto (-63), 3) := by decide +kernel
theorem d_W_writePatch_85 : decode um_W_writePatch.2.1 85 = .ok (.iload_n 2, 1) := by decide +kernel
theorem d_W_writePatch_86 : decode um_W_writePatch.2.1 86 = .ok (.ireturn, 1) := by decide +kernel
theorem d_W_findChanges_0 : decode um_W_findChanges.2.1 0 = .ok (.aload_n 0, 1) := by decide +kernel
theorem d_W_findChanges_1 : decode um_W_findChanges.2.1 1 = .ok (.iconst 0, 1) := by decide +kernel
theorem d_W_findChanges_2 : decode um_W_findChanges.2.1 2 = .ok (.putfield 35, 3) := by decide +kernel
theorem d_W_findChanges_5 : decode um_W_findChanges.2.1 5 = .ok (.iconst 0, 1) := by decide +kernel
theorem d_W_findChanges_6 : decode um_W_findChanges.2.1 6 = .ok (.istore_n 1, 1) := by decide +kernel
theorem d_W_findChanges_7 : decode um_W_findChanges.2.1 7 = .ok (.iconst 0, 1) := by decide +kernel
theorem d_W_findChanges_8 : decode um_W_findChanges.2.1 8 = .ok (.istore_n 2, 1) := by decide +kernel
theorem d_W_findChanges_9 : decode um_W_findChanges.2.1 9 = .ok (.iconst 0, 1) := by decide +kernel
theorem d_W_findChanges_10 : decode um_W_findChanges.2.1 10 = .ok (.istore_n 3, 1) := by decide +kernel
theorem d_W_findChanges_11 : decode um_W_findChanges.2.1 11 = .ok (.iload_n 3, 1) := by decide +kernel
theorem d_W_findChanges_12 : decode um_W_findChanges.2.1 12 = .ok (.aload_n 0, 1) := by decide +kernel
theorem d_W_findChanges_13 : decode um_W_findChanges.2.1 13 = .ok (.getfield 17, 3) := by decide +kernel
theorem d_W_findChanges_16 : decode um_W_findChanges.2.1 16 = .ok (.getfield 46, 3) := by decide +kernel
theorem d_W_findChanges_19 : decode um_W_findChanges.2.1 19 = .ok (.getfield 52, 3) := by decide +kernel
theorem d_W_findChanges_22 : decode um_W_findChanges.2.1 22 = .ok (.if_icmp .ge 44, 3) := by decide +kernel
theorem d_W_findChanges_25 : decode um_W_findChanges.2.1 25 = .ok (.aload_n 0, 1) := by decide +kernel
theorem d_W_findChanges_26 : decode um_W_findChanges.2.1 26 = .ok (.getfield 17, 3) := by decide +kernel
theorem d_W_findChanges_29 : decode um_W_findChanges.2.1 29 = .ok (.iload_n 3, 1) := by decide +kernel
theorem d_W_findChanges_30 : decode um_W_findChanges.2.1 30 = .ok (.invokevirtual 57, 3) := by decide +kernel
theorem d_W_findChanges_33 : decode um_W_findChanges.2.1 33 = .ok (.istore 4, 2) := by decide +kernel
theorem d_W_findChanges_35 : decode um_W_findChanges.2.1 35 = .ok (.iload 4, 2) := by decide +kernel
theorem d_W_findChanges_37 : decode um_W_findChanges.2.1 37 = .ok (.bipush (-3), 2) := by decide +kernel
theorem d_W_findChanges_39 : decode um_W_findChanges.2.1 39 = .ok (.if_icmp .eq 21, 3) := by decide +kernel
theorem d_W_findChanges_42 : decode um_W_findChanges.2.1 42 = .ok (.aload_n 0, 1) := by decide +kernel
theorem d_W_findChanges_43 : decode um_W_findChanges.2.1 43 = .ok (.iload_n 1, 1) := by decide +kernel
theorem d_W_findChanges_44 : decode um_W_findChanges.2.1 44 = .ok (.iload_n 3, 1) := by decide +kernel
theorem d_W_findChanges_45 : decode um_W_findChanges.2.1 45 = .ok (.iload_n 2, 1) := by decide +kernel
theorem d_W_findChanges_46 : decode um_W_findChanges.2.1 46 = .ok (.iload 4, 2) := by decide +kernel
theorem d_W_findChanges_48 : decode um_W_findChanges.2.1 48 = .ok (.invokevirtual 60, 3) := by decide +kernel
theorem d_W_findChanges_51 : decode um_W_findChanges.2.1 51 = .ok (.iload_n 3, 1) := by decide +kernel
theorem d_W_findChanges_52 : decode um_W_findChanges.2.1 52 = .ok (.iconst 1, 1) := by decide +kernel
theorem d_W_findChanges_53 : decode um_W_findChanges.2.1 53 = .ok (.iadd, 1) := by decide +kernel
theorem d_W_findChanges_54 : decode um_W_findChanges.2.1 54 = .ok (.istore_n 1, 1) := by decide +kernel
theorem d_W_findChanges_55 : decode um_W_findChanges.2.1 55 = .ok (.iload 4, 2) := by decide +kernel
theorem d_W_findChanges_57 : decode um_W_findChanges.2.1 57 = .ok (.iconst 1, 1) := by decide +kernel
theorem d_W_findChanges_58 : decode um_W_findChanges.2.1 58 = .ok (.iadd, 1) := by decide +kernel
theorem d_W_findChanges_59 : decode um_W_findChanges.2.1 59 = .ok (.istore_n 2, 1) := by decide +kernel
theorem d_W_findChanges_60 : decode um_W_findChanges.2.1 60 = .ok (.iinc 3 1, 3) := by decide +kernel
theorem d_W_findChanges_63 : decode um_W_findChanges.2.1 63 = .ok (.goto (-52), 3) := by decide +kernel
theorem d_W_findChanges_66 : decode um_W_findChanges.2.1 66 = .ok (.aload_n 0, 1) := by decide +kernel
theorem d_W_findChanges_67 : decode um_W_findChanges.2.1 67 = .ok (.iload_n 1, 1) := by decide +kernel
theorem d_W_findChanges_68 : decode um_W_findChanges.2.1 68 = .ok (.aload_n 0, 1) := by decide +kernel
theorem d_W_findChanges_69 : decode um_W_findChanges.2.1 69 = .ok (.getfield 17, 3) := by decide +kernel
theorem d_W_findChanges_72 : decode um_W_findChanges.2.1 72 = .ok (.getfield 46, 3) := by decide +kernel
theorem d_W_findChanges_75 : decode um_W_findChanges.2.1 75 = .ok (.getfield 52, 3) := by decide +kernel
theorem d_W_findChanges_78 : decode um_W_findChanges.2.1 78 = .ok (.iload_n 2, 1) := by decide +kernel
theorem d_W_findChanges_79 : decode um_W_findChanges.2.1 79 = .ok (.aload_n 0, 1) := by decide +kernel
theorem d_W_findChanges_80 : decode um_W_findChanges.2.1 80 = .ok (.getfield 17, 3) := by decide +kernel
theorem d_W_findChanges_83 : decode um_W_findChanges.2.1 83 = .ok (.getfield 64, 3) := by decide +kernel
theorem d_W_findChanges_86 : decode um_W_findChanges.2.1 86 = .ok (.getfield 52, 3) := by decide +kernel
theorem d_W_findChanges_89 : decode um_W_findChanges.2.1 89 = .ok (.invokevirtual 60, 3) := by decide +kernel
theorem d_W_findChanges_92 : decode um_W_findChanges.2.1 92 = .ok (.return_, 1) := by decide +kernel
theorem d_W_keepChange_0 : decode um_W_keepChange.2.1 0 = .ok (.iload_n 1, 1) := by decide +kernel
theorem d_W_keepChange_1 : decode um_W_keepChange.2.1 1 = .ok (.iload_n 2, 1) := by decide +kernel
theorem d_W_keepChange_2 : decode um_W_keepChange.2.1 2 = .ok (.if_icmp .lt 9, 3) := by decide +kernel
theorem d_W_keepChange_5 : decode um_W_keepChange.2.1 5 = .ok (.iload_n 3, 1) := by decide +kernel
theorem d_W_keepChange_6 : decode um_W_keepChange.2.1 6 = .ok (.iload 4, 2) := by decide +kernel
theorem d_W_keepChange_8 : decode um_W_keepChange.2.1 8 = .ok (.if_icmp .ge 39, 3) := by decide +kernel
theorem d_W_keepChange_11 : decode um_W_keepChange.2.1 11 = .ok (.aload_n 0, 1) := by decide +kernel
theorem d_W_keepChange_12 : decode um_W_keepChange.2.1 12 = .ok (.getfield 35, 3) := by decide +kernel
theorem d_W_keepChange_15 : decode um_W_keepChange.2.1 15 = .ok (.bipush 25, 2) := by decide +kernel
theorem d_W_keepChange_17 : decode um_W_keepChange.2.1 17 = .ok (.if_icmp .ge 30, 3) := by decide +kernel
theorem d_W_keepChange_20 : decode um_W_keepChange.2.1 20 = .ok (.aload_n 0, 1) := by decide +kernel
theorem d_W_keepChange_21 : decode um_W_keepChange.2.1 21 = .ok (.getfield 13, 3) := by decide +kernel
theorem d_W_keepChange_24 : decode um_W_keepChange.2.1 24 = .ok (.aload_n 0, 1) := by decide +kernel
theorem d_W_keepChange_25 : decode um_W_keepChange.2.1 25 = .ok (.getfield 35, 3) := by decide +kernel
theorem d_W_keepChange_28 : decode um_W_keepChange.2.1 28 = .ok (.aaload, 1) := by decide +kernel
theorem d_W_keepChange_29 : decode um_W_keepChange.2.1 29 = .ok (.iload_n 1, 1) := by decide +kernel
theorem d_W_keepChange_30 : decode um_W_keepChange.2.1 30 = .ok (.iload_n 2, 1) := by decide +kernel
theorem d_W_keepChange_31 : decode um_W_keepChange.2.1 31 = .ok (.iload_n 3, 1) := by decide +kernel
theorem d_W_keepChange_32 : decode um_W_keepChange.2.1 32 = .ok (.iload 4, 2) := by decide +kernel
theorem d_W_keepChange_34 : decode um_W_keepChange.2.1 34 = .ok (.invokevirtual 67, 3) := by decide +kernel
theorem d_W_keepChange_37 : decode um_W_keepChange.2.1 37 = .ok (.aload_n 0, 1) := by decide +kernel
theorem d_W_keepChange_38 : decode um_W_keepChange.2.1 38 = .ok (.dup, 1) := by decide +kernel
theorem d_W_keepChange_39 : decode um_W_keepChange.2.1 39 = .ok (.getfield 35, 3) := by decide +kernel
theorem d_W_keepChange_42 : decode um_W_keepChange.2.1 42 = .ok (.iconst 1, 1) := by decide +kernel
theorem d_W_keepChange_43 : decode um_W_keepChange.2.1 43 = .ok (.iadd, 1) := by decide +kernel
theorem d_W_keepChange_44 : decode um_W_keepChange.2.1 44 = .ok (.putfield 35, 3) := by decide +kernel
theorem d_W_keepChange_47 : decode um_W_keepChange.2.1 47 = .ok (.return_, 1) := by decide +kernel
theorem d_W_matchedBefore_0 : decode um_W_matchedBefore.2.1 0 = .ok (.aload_n 0, 1) := by decide +kernel
theorem d_W_matchedBefore_1 : decode um_W_matchedBefore.2.1 1 = .ok (.getfield 13, 3) := by decide +kernel
theorem d_W_matchedBefore_4 : decode um_W_matchedBefore.2.1 4 = .ok (.iload_n 1, 1) := by decide +kernel
theorem d_W_matchedBefore_5 : decode um_W_matchedBefore.2.1 5 = .ok (.aaload, 1) := by decide +kernel
theorem d_W_matchedBefore_6 : decode um_W_matchedBefore.2.1 6 = .ok (.getfield 70, 3) := by decide +kernel
theorem d_W_matchedBefore_9 : decode um_W_matchedBefore.2.1 9 = .ok (.iload_n 1, 1) := by decide +kernel
theorem d_W_matchedBefore_10 : decode um_W_matchedBefore.2.1 10 = .ok (.ifCond .le 17, 3) := by decide +kernel
theorem d_W_matchedBefore_13 : decode um_W_matchedBefore.2.1 13 = .ok (.aload_n 0, 1) := by decide +kernel
theorem d_W_matchedBefore_14 : decode um_W_matchedBefore.2.1 14 = .ok (.getfield 13, 3) := by decide +kernel
theorem d_W_matchedBefore_17 : decode um_W_matchedBefore.2.1 17 = .ok (.iload_n 1, 1) := by decide +kernel
theorem d_W_matchedBefore_18 : decode um_W_matchedBefore.2.1 18 = .ok (.iconst 1, 1) := by decide +kernel
theorem d_W_matchedBefore_19 : decode um_W_matchedBefore.2.1 19 = .ok (.isub, 1) := by decide +kernel
theorem d_W_matchedBefore_20 : decode um_W_matchedBefore.2.1 20 = .ok (.aaload, 1) := by decide +kernel
theorem d_W_matchedBefore_21 : decode um_W_matchedBefore.2.1 21 = .ok (.getfield 72, 3) := by decide +kernel
theorem d_W_matchedBefore_24 : decode um_W_matchedBefore.2.1 24 = .ok (.goto 4, 3) := by decide +kernel
theorem d_W_matchedBefore_27 : decode um_W_matchedBefore.2.1 27 = .ok (.iconst 0, 1) := by decide +kernel
theorem d_W_matchedBefore_28 : decode um_W_matchedBefore.2.1 28 = .ok (.isub, 1) := by decide +kernel
theorem d_W_matchedBefore_29 : decode um_W_matchedBefore.2.1 29 = .ok (.ireturn, 1) := by decide +kernel
theorem d_W_matchedBehind_0 : decode um_W_matchedBehind.2.1 0 = .ok (.iload_n 1, 1) := by decide +kernel
theorem d_W_matchedBehind_1 : decode um_W_matchedBehind.2.1 1 = .ok (.aload_n 0, 1) := by decide +kernel
theorem d_W_matchedBehind_2 : decode um_W_matchedBehind.2.1 2 = .ok (.getfield 35, 3) := by decide +kernel
theorem d_W_matchedBehind_5 : decode um_W_matchedBehind.2.1 5 = .ok (.iconst 1, 1) := by decide +kernel
theorem d_W_matchedBehind_6 : decode um_W_matchedBehind.2.1 6 = .ok (.isub, 1) := by decide +kernel
theorem d_W_matchedBehind_7 : decode um_W_matchedBehind.2.1 7 = .ok (.if_icmp .ne 7, 3) := by decide +kernel
theorem d_W_matchedBehind_10 : decode um_W_matchedBehind.2.1 10 = .ok (.iconst 1, 1) := by decide +kernel
theorem d_W_matchedBehind_11 : decode um_W_matchedBehind.2.1 11 = .ok (.goto 4, 3) := by decide +kernel
theorem d_W_matchedBehind_14 : decode um_W_matchedBehind.2.1 14 = .ok (.iconst 0, 1) := by decide +kernel
theorem d_W_matchedBehind_15 : decode um_W_matchedBehind.2.1 15 = .ok (.istore_n 2, 1) := by decide +kernel
theorem d_W_matchedBehind_16 : decode um_W_matchedBehind.2.1 16 = .ok (.iload_n 2, 1) := by decide +kernel
theorem d_W_matchedBehind_17 : decode um_W_matchedBehind.2.1 17 = .ok (.ifCond .eq 16, 3) := by decide +kernel
theorem d_W_matchedBehind_20 : decode um_W_matchedBehind.2.1 20 = .ok (.aload_n 0, 1) := by decide +kernel
theorem d_W_matchedBehind_21 : decode um_W_matchedBehind.2.1 21 = .ok (.getfield 17, 3) := by decide +kernel
theorem d_W_matchedBehind_24 : decode um_W_matchedBehind.2.1 24 = .ok (.getfield 46, 3) := by decide +kernel
theorem d_W_matchedBehind_27 : decode um_W_matchedBehind.2.1 27 = .ok (.getfield 52, 3) := by decide +kernel
theorem d_W_matchedBehind_30 : decode um_W_matchedBehind.2.1 30 = .ok (.goto 14, 3) := by decide +kernel
theorem d_W_matchedBehind_33 : decode um_W_matchedBehind.2.1 33 = .ok (.aload_n 0, 1) := by decide +kernel
theorem d_W_matchedBehind_34 : decode um_W_matchedBehind.2.1 34 = .ok (.getfield 13, 3) := by decide +kernel
theorem d_W_matchedBehind_37 : decode um_W_matchedBehind.2.1 37 = .ok (.iload_n 1, 1) := by decide +kernel
theorem d_W_matchedBehind_38 : decode um_W_matchedBehind.2.1 38 = .ok (.iconst 1, 1) := by decide +kernel
theorem d_W_matchedBehind_39 : decode um_W_matchedBehind.2.1 39 = .ok (.iadd, 1) := by decide +kernel
theorem d_W_matchedBehind_40 : decode um_W_matchedBehind.2.1 40 = .ok (.aaload, 1) := by decide +kernel
theorem d_W_matchedBehind_41 : decode um_W_matchedBehind.2.1 41 = .ok (.getfield 70, 3) := by decide +kernel
theorem d_W_matchedBehind_44 : decode um_W_matchedBehind.2.1 44 = .ok (.istore_n 3, 1) := by decide +kernel
theorem d_W_matchedBehind_45 : decode um_W_matchedBehind.2.1 45 = .ok (.iload_n 3, 1) := by decide +kernel
theorem d_W_matchedBehind_46 : decode um_W_matchedBehind.2.1 46 = .ok (.aload_n 0, 1) := by decide +kernel
theorem d_W_matchedBehind_47 : decode um_W_matchedBehind.2.1 47 = .ok (.getfield 13, 3) := by decide +kernel
theorem d_W_matchedBehind_50 : decode um_W_matchedBehind.2.1 50 = .ok (.iload_n 1, 1) := by decide +kernel
theorem d_W_matchedBehind_51 : decode um_W_matchedBehind.2.1 51 = .ok (.aaload, 1) := by decide +kernel
theorem d_W_matchedBehind_52 : decode um_W_matchedBehind.2.1 52 = .ok (.getfield 72, 3) := by decide +kernel
theorem d_W_matchedBehind_55 : decode um_W_matchedBehind.2.1 55 = .ok (.isub, 1) := by decide +kernel
theorem d_W_matchedBehind_56 : decode um_W_matchedBehind.2.1 56 = .ok (.ireturn, 1) := by decide +kernel
theorem d_W_writeHunk_0 : decode um_W_writeHunk.2.1 0 = .ok (.iload_n 3, 1) := by decide +kernel
theorem d_W_writeHunk_1 : decode um_W_writeHunk.2.1 1 = .ok (.aload_n 0, 1) := by decide +kernel
theorem d_W_writeHunk_2 : decode um_W_writeHunk.2.1 2 = .ok (.iload_n 1, 1) := by decide +kernel
theorem d_W_writeHunk_3 : decode um_W_writeHunk.2.1 3 = .ok (.invokevirtual 75, 3) := by decide +kernel
theorem d_W_writeHunk_6 : decode um_W_writeHunk.2.1 6 = .ok (.invokestatic 78, 3) := by decide +kernel
theorem d_W_writeHunk_9 : decode um_W_writeHunk.2.1 9 = .ok (.istore 4, 2) := by decide +kernel
theorem d_W_writeHunk_11 : decode um_W_writeHunk.2.1 11 = .ok (.iload_n 3, 1) := by decide +kernel
theorem d_W_writeHunk_12 : decode um_W_writeHunk.2.1 12 = .ok (.aload_n 0, 1) := by decide +kernel
theorem d_W_writeHunk_13 : decode um_W_writeHunk.2.1 13 = .ok (.iload_n 2, 1) := by decide +kernel
theorem d_W_writeHunk_14 : decode um_W_writeHunk.2.1 14 = .ok (.invokevirtual 38, 3) := by decide +kernel
theorem d_W_writeHunk_17 : decode um_W_writeHunk.2.1 17 = .ok (.invokestatic 78, 3) := by decide +kernel
theorem d_W_writeHunk_20 : decode um_W_writeHunk.2.1 20 = .ok (.istore 5, 2) := by decide +kernel
theorem d_W_writeHunk_22 : decode um_W_writeHunk.2.1 22 = .ok (.aload_n 0, 1) := by decide +kernel
theorem d_W_writeHunk_23 : decode um_W_writeHunk.2.1 23 = .ok (.getfield 13, 3) := by decide +kernel
theorem d_W_writeHunk_26 : decode um_W_writeHunk.2.1 26 = .ok (.iload_n 1, 1) := by decide +kernel
theorem d_W_writeHunk_27 : decode um_W_writeHunk.2.1 27 = .ok (.aaload, 1) := by decide +kernel
theorem d_W_writeHunk_28 : decode um_W_writeHunk.2.1 28 = .ok (.getfield 70, 3) := by decide +kernel
theorem d_W_writeHunk_31 : decode um_W_writeHunk.2.1 31 = .ok (.iload 4, 2) := by decide +kernel
theorem d_W_writeHunk_33 : decode um_W_writeHunk.2.1 33 = .ok (.isub, 1) := by decide +kernel
theorem d_W_writeHunk_34 : decode um_W_writeHunk.2.1 34 = .ok (.istore 6, 2) := by decide +kernel
theorem d_W_writeHunk_36 : decode um_W_writeHunk.2.1 36 = .ok (.aload_n 0, 1) := by decide +kernel
theorem d_W_writeHunk_37 : decode um_W_writeHunk.2.1 37 = .ok (.getfield 13, 3) := by decide +kernel
theorem d_W_writeHunk_40 : decode um_W_writeHunk.2.1 40 = .ok (.iload_n 1, 1) := by decide +kernel
theorem d_W_writeHunk_41 : decode um_W_writeHunk.2.1 41 = .ok (.aaload, 1) := by decide +kernel
theorem d_W_writeHunk_42 : decode um_W_writeHunk.2.1 42 = .ok (.getfield 84, 3) := by decide +kernel
theorem d_W_writeHunk_45 : decode um_W_writeHunk.2.1 45 = .ok (.iload 4, 2) := by decide +kernel
theorem d_W_writeHunk_47 : decode um_W_writeHunk.2.1 47 = .ok (.isub, 1) := by decide +kernel
theorem d_W_writeHunk_48 : decode um_W_writeHunk.2.1 48 = .ok (.istore 7, 2) := by decide +kernel
theorem d_W_writeHunk_50 : decode um_W_writeHunk.2.1 50 = .ok (.aload_n 0, 1) := by decide +kernel
theorem d_W_writeHunk_51 : decode um_W_writeHunk.2.1 51 = .ok (.iload 6, 2) := by decide +kernel
theorem d_W_writeHunk_53 : decode um_W_writeHunk.2.1 53 = .ok (.aload_n 0, 1) := by decide +kernel
theorem d_W_writeHunk_54 : decode um_W_writeHunk.2.1 54 = .ok (.getfield 13, 3) := by decide +kernel
theorem d_W_writeHunk_57 : decode um_W_writeHunk.2.1 57 = .ok (.iload_n 2, 1) := by decide +kernel
theorem d_W_writeHunk_58 : decode um_W_writeHunk.2.1 58 = .ok (.aaload, 1) := by decide +kernel
theorem d_W_writeHunk_59 : decode um_W_writeHunk.2.1 59 = .ok (.getfield 72, 3) := by decide +kernel
theorem d_W_writeHunk_62 : decode um_W_writeHunk.2.1 62 = .ok (.iload 5, 2) := by decide +kernel
theorem d_W_writeHunk_64 : decode um_W_writeHunk.2.1 64 = .ok (.iadd, 1) := by decide +kernel
theorem d_W_writeHunk_65 : decode um_W_writeHunk.2.1 65 = .ok (.iload 6, 2) := by decide +kernel
theorem d_W_writeHunk_67 : decode um_W_writeHunk.2.1 67 = .ok (.isub, 1) := by decide +kernel
theorem d_W_writeHunk_68 : decode um_W_writeHunk.2.1 68 = .ok (.iload 7, 2) := by decide +kernel
theorem d_W_writeHunk_70 : decode um_W_writeHunk.2.1 70 = .ok (.aload_n 0, 1) := by decide +kernel
theorem d_W_writeHunk_71 : decode um_W_writeHunk.2.1 71 = .ok (.getfield 13, 3) := by decide +kernel
theorem d_W_writeHunk_74 : decode um_W_writeHunk.2.1 74 = .ok (.iload_n 2, 1) := by decide +kernel
theorem d_W_writeHunk_75 : decode um_W_writeHunk.2.1 75 = .ok (.aaload, 1) := by decide +kernel
theorem d_W_writeHunk_76 : decode um_W_writeHunk.2.1 76 = .ok (.getfield 86, 3) := by decide +kernel
theorem d_W_writeHunk_79 : decode um_W_writeHunk.2.1 79 = .ok (.iload 5, 2) := by decide +kernel
theorem d_W_writeHunk_81 : decode um_W_writeHunk.2.1 81 = .ok (.iadd, 1) := by decide +kernel
theorem d_W_writeHunk_82 : decode um_W_writeHunk.2.1 82 = .ok (.iload 7, 2) := by decide +kernel
theorem d_W_writeHunk_84 : decode um_W_writeHunk.2.1 84 = .ok (.isub, 1) := by decide +kernel
theorem d_W_writeHunk_85 : decode um_W_writeHunk.2.1 85 = .ok (.invokevirtual 89, 3) := by decide +kernel
theorem d_W_writeHunk_88 : decode um_W_writeHunk.2.1 88 = .ok (.aload_n 0, 1) := by decide +kernel
theorem d_W_writeHunk_89 : decode um_W_writeHunk.2.1 89 = .ok (.bipush 32, 2) := by decide +kernel
theorem d_W_writeHunk_91 : decode um_W_writeHunk.2.1 91 = .ok (.aload_n 0, 1) := by decide +kernel
theorem d_W_writeHunk_92 : decode um_W_writeHunk.2.1 92 = .ok (.getfield 17, 3) := by decide +kernel
theorem d_W_writeHunk_95 : decode um_W_writeHunk.2.1 95 = .ok (.getfield 46, 3) := by decide +kernel
theorem d_W_writeHunk_98 : decode um_W_writeHunk.2.1 98 = .ok (.iload 6, 2) := by decide +kernel
theorem d_W_writeHunk_100 : decode um_W_writeHunk.2.1 100 = .ok (.aload_n 0, 1) := by decide +kernel
theorem d_W_writeHunk_101 : decode um_W_writeHunk.2.1 101 = .ok (.getfield 13, 3) := by decide +kernel
theorem d_W_writeHunk_104 : decode um_W_writeHunk.2.1 104 = .ok (.iload_n 1, 1) := by decide +kernel
theorem d_W_writeHunk_105 : decode um_W_writeHunk.2.1 105 = .ok (.aaload, 1) := by decide +kernel
theorem d_W_writeHunk_106 : decode um_W_writeHunk.2.1 106 = .ok (.getfield 70, 3) := by decide +kernel
theorem d_W_writeHunk_109 : decode um_W_writeHunk.2.1 109 = .ok (.invokevirtual 92, 3) := by decide +kernel
theorem d_W_writeHunk_112 : decode um_W_writeHunk.2.1 112 = .ok (.iload_n 1, 1) := by decide +kernel
theorem d_W_writeHunk_113 : decode um_W_writeHunk.2.1 113 = .ok (.istore 8, 2) := by decide +kernel
theorem d_W_writeHunk_115 : decode um_W_writeHunk.2.1 115 = .ok (.iload 8, 2) := by decide +kernel
theorem d_W_writeHunk_117 : decode um_W_writeHunk.2.1 117 = .ok (.iload_n 2, 1) := by decide +kernel
theorem d_W_writeHunk_118 : decode um_W_writeHunk.2.1 118 = .ok (.if_icmp .gt 109, 3) := by decide +kernel
theorem d_W_writeHunk_121 : decode um_W_writeHunk.2.1 121 = .ok (.aload_n 0, 1) := by decide +kernel
theorem d_W_writeHunk_122 : decode um_W_writeHunk.2.1 122 = .ok (.getfield 13, 3) := by decide +kernel
theorem d_W_writeHunk_125 : decode um_W_writeHunk.2.1 125 = .ok (.iload 8, 2) := by decide +kernel
theorem d_W_writeHunk_127 : decode um_W_writeHunk.2.1 127 = .ok (.aaload, 1) := by decide +kernel
theorem d_W_writeHunk_128 : decode um_W_writeHunk.2.1 128 = .ok (.astore 9, 2) := by decide +kernel
theorem d_W_writeHunk_130 : decode um_W_writeHunk.2.1 130 = .ok (.aload_n 0, 1) := by decide +kernel
theorem d_W_writeHunk_131 : decode um_W_writeHunk.2.1 131 = .ok (.bipush 45, 2) := by decide +kernel
theorem d_W_writeHunk_133 : decode um_W_writeHunk.2.1 133 = .ok (.aload_n 0, 1) := by decide +kernel
theorem d_W_writeHunk_134 : decode um_W_writeHunk.2.1 134 = .ok (.getfield 17, 3) := by decide +kernel
theorem d_W_writeHunk_137 : decode um_W_writeHunk.2.1 137 = .ok (.getfield 46, 3) := by decide +kernel
theorem d_W_writeHunk_140 : decode um_W_writeHunk.2.1 140 = .ok (.aload 9, 2) := by decide +kernel
theorem d_W_writeHunk_142 : decode um_W_writeHunk.2.1 142 = .ok (.getfield 70, 3) := by decide +kernel
theorem d_W_writeHunk_145 : decode um_W_writeHunk.2.1 145 = .ok (.aload 9, 2) := by decide +kernel
theorem d_W_writeHunk_147 : decode um_W_writeHunk.2.1 147 = .ok (.getfield 72, 3) := by decide +kernel
theorem d_W_writeHunk_150 : decode um_W_writeHunk.2.1 150 = .ok (.invokevirtual 92, 3) := by decide +kernel
theorem d_W_writeHunk_153 : decode um_W_writeHunk.2.1 153 = .ok (.aload_n 0, 1) := by decide +kernel
theorem d_W_writeHunk_154 : decode um_W_writeHunk.2.1 154 = .ok (.bipush 43, 2) := by decide +kernel
theorem d_W_writeHunk_156 : decode um_W_writeHunk.2.1 156 = .ok (.aload_n 0, 1) := by decide +kernel
theorem d_W_writeHunk_157 : decode um_W_writeHunk.2.1 157 = .ok (.getfield 17, 3) := by decide +kernel
theorem d_W_writeHunk_160 : decode um_W_writeHunk.2.1 160 = .ok (.getfield 64, 3) := by decide +kernel
theorem d_W_writeHunk_163 : decode um_W_writeHunk.2.1 163 = .ok (.aload 9, 2) := by decide +kernel
theorem d_W_writeHunk_165 : decode um_W_writeHunk.2.1 165 = .ok (.getfield 84, 3) := by decide +kernel
theorem d_W_writeHunk_168 : decode um_W_writeHunk.2.1 168 = .ok (.aload 9, 2) := by decide +kernel
theorem d_W_writeHunk_170 : decode um_W_writeHunk.2.1 170 = .ok (.getfield 86, 3) := by decide +kernel
theorem d_W_writeHunk_173 : decode um_W_writeHunk.2.1 173 = .ok (.invokevirtual 92, 3) := by decide +kernel
theorem d_W_writeHunk_176 : decode um_W_writeHunk.2.1 176 = .ok (.iload 8, 2) := by decide +kernel
theorem d_W_writeHunk_178 : decode um_W_writeHunk.2.1 178 = .ok (.iload_n 2, 1) := by decide +kernel
theorem d_W_writeHunk_179 : decode um_W_writeHunk.2.1 179 = .ok (.if_icmp .ne 8, 3) := by decide +kernel
theorem d_W_writeHunk_182 : decode um_W_writeHunk.2.1 182 = .ok (.iload 5, 2) := by decide +kernel
theorem d_W_writeHunk_184 : decode um_W_writeHunk.2.1 184 = .ok (.goto 9, 3) := by decide +kernel
theorem d_W_writeHunk_187 : decode um_W_writeHunk.2.1 187 = .ok (.aload_n 0, 1) := by decide +kernel
theorem d_W_writeHunk_188 : decode um_W_writeHunk.2.1 188 = .ok (.iload 8, 2) := by decide +kernel
theorem d_W_writeHunk_190 : decode um_W_writeHunk.2.1 190 = .ok (.invokevirtual 38, 3) := by decide +kernel
theorem d_W_writeHunk_193 : decode um_W_writeHunk.2.1 193 = .ok (.istore 10, 2) := by decide +kernel
theorem d_W_writeHunk_195 : decode um_W_writeHunk.2.1 195 = .ok (.aload_n 0, 1) := by decide +kernel
theorem d_W_writeHunk_196 : decode um_W_writeHunk.2.1 196 = .ok (.bipush 32, 2) := by decide +kernel
theorem d_W_writeHunk_198 : decode um_W_writeHunk.2.1 198 = .ok (.aload_n 0, 1) := by decide +kernel
theorem d_W_writeHunk_199 : decode um_W_writeHunk.2.1 199 = .ok (.getfield 17, 3) := by decide +kernel
theorem d_W_writeHunk_202 : decode um_W_writeHunk.2.1 202 = .ok (.getfield 46, 3) := by decide +kernel
theorem d_W_writeHunk_205 : decode um_W_writeHunk.2.1 205 = .ok (.aload 9, 2) := by decide +kernel
theorem d_W_writeHunk_207 : decode um_W_writeHunk.2.1 207 = .ok (.getfield 72, 3) := by decide +kernel
theorem d_W_writeHunk_210 : decode um_W_writeHunk.2.1 210 = .ok (.aload 9, 2) := by decide +kernel
theorem d_W_writeHunk_212 : decode um_W_writeHunk.2.1 212 = .ok (.getfield 72, 3) := by decide +kernel
theorem d_W_writeHunk_215 : decode um_W_writeHunk.2.1 215 = .ok (.iload 10, 2) := by decide +kernel
theorem d_W_writeHunk_217 : decode um_W_writeHunk.2.1 217 = .ok (.iadd, 1) := by decide +kernel
theorem d_W_writeHunk_218 : decode um_W_writeHunk.2.1 218 = .ok (.invokevirtual 92, 3) := by decide +kernel
theorem d_W_writeHunk_221 : decode um_W_writeHunk.2.1 221 = .ok (.iinc 8 1, 3) := by decide +kernel
theorem d_W_writeHunk_224 : decode um_W_writeHunk.2.1 224 = .ok (.goto (-109), 3) := by decide +kernel
theorem d_W_writeHunk_227 : decode um_W_writeHunk.2.1 227 = .ok (.return_, 1) := by decide +kernel
theorem d_W_writeHead_0 : decode um_W_writeHead.2.1 0 = .ok (.aload_n 0, 1) := by decide +kernel
theorem d_W_writeHead_1 : decode um_W_writeHead.2.1 1 = .ok (.getfield 21, 3) := by decide +kernel
theorem d_W_writeHead_4 : decode um_W_writeHead.2.1 4 = .ok (.bipush 64, 2) := by decide +kernel
theorem d_W_writeHead_6 : decode um_W_writeHead.2.1 6 = .ok (.invokevirtual 96, 3) := by decide +kernel
theorem d_W_writeHead_9 : decode um_W_writeHead.2.1 9 = .ok (.aload_n 0, 1) := by decide +kernel
theorem d_W_writeHead_10 : decode um_W_writeHead.2.1 10 = .ok (.getfield 21, 3) := by decide +kernel
theorem d_W_writeHead_13 : decode um_W_writeHead.2.1 13 = .ok (.iload_n 1, 1) := by decide +kernel
theorem d_W_writeHead_14 : decode um_W_writeHead.2.1 14 = .ok (.invokevirtual 100, 3) := by decide +kernel
theorem d_W_writeHead_17 : decode um_W_writeHead.2.1 17 = .ok (.aload_n 0, 1) := by decide +kernel
theorem d_W_writeHead_18 : decode um_W_writeHead.2.1 18 = .ok (.getfield 21, 3) := by decide +kernel
theorem d_W_writeHead_21 : decode um_W_writeHead.2.1 21 = .ok (.bipush 44, 2) := by decide +kernel
theorem d_W_writeHead_23 : decode um_W_writeHead.2.1 23 = .ok (.invokevirtual 96, 3) := by decide +kernel
theorem d_W_writeHead_26 : decode um_W_writeHead.2.1 26 = .ok (.aload_n 0, 1) := by decide +kernel
theorem d_W_writeHead_27 : decode um_W_writeHead.2.1 27 = .ok (.getfield 21, 3) := by decide +kernel
theorem d_W_writeHead_30 : decode um_W_writeHead.2.1 30 = .ok (.iload_n 2, 1) := by decide +kernel
theorem d_W_writeHead_31 : decode um_W_writeHead.2.1 31 = .ok (.invokevirtual 100, 3) := by decide +kernel
theorem d_W_writeHead_34 : decode um_W_writeHead.2.1 34 = .ok (.aload_n 0, 1) := by decide +kernel
theorem d_W_writeHead_35 : decode um_W_writeHead.2.1 35 = .ok (.getfield 21, 3) := by decide +kernel
theorem d_W_writeHead_38 : decode um_W_writeHead.2.1 38 = .ok (.bipush 32, 2) := by decide +kernel
theorem d_W_writeHead_40 : decode um_W_writeHead.2.1 40 = .ok (.invokevirtual 96, 3) := by decide +kernel
theorem d_W_writeHead_43 : decode um_W_writeHead.2.1 43 = .ok (.aload_n 0, 1) := by decide +kernel
theorem d_W_writeHead_44 : decode um_W_writeHead.2.1 44 = .ok (.getfield 21, 3) := by decide +kernel
theorem d_W_writeHead_47 : decode um_W_writeHead.2.1 47 = .ok (.iload_n 3, 1) := by decide +kernel
theorem d_W_writeHead_48 : decode um_W_writeHead.2.1 48 = .ok (.invokevirtual 100, 3) := by decide +kernel
theorem d_W_writeHead_51 : decode um_W_writeHead.2.1 51 = .ok (.aload_n 0, 1) := by decide +kernel
theorem d_W_writeHead_52 : decode um_W_writeHead.2.1 52 = .ok (.getfield 21, 3) := by decide +kernel
theorem d_W_writeHead_55 : decode um_W_writeHead.2.1 55 = .ok (.bipush 44, 2) := by decide +kernel
theorem d_W_writeHead_57 : decode um_W_writeHead.2.1 57 = .ok (.invokevirtual 96, 3) := by decide +kernel
theorem d_W_writeHead_60 : decode um_W_writeHead.2.1 60 = .ok (.aload_n 0, 1) := by decide +kernel
theorem d_W_writeHead_61 : decode um_W_writeHead.2.1 61 = .ok (.getfield 21, 3) := by decide +kernel
theorem d_W_writeHead_64 : decode um_W_writeHead.2.1 64 = .ok (.iload 4, 2) := by decide +kernel
theorem d_W_writeHead_66 : decode um_W_writeHead.2.1 66 = .ok (.invokevirtual 100, 3) := by decide +kernel
theorem d_W_writeHead_69 : decode um_W_writeHead.2.1 69 = .ok (.aload_n 0, 1) := by decide +kernel
theorem d_W_writeHead_70 : decode um_W_writeHead.2.1 70 = .ok (.getfield 21, 3) := by decide +kernel
theorem d_W_writeHead_73 : decode um_W_writeHead.2.1 73 = .ok (.bipush 10, 2) := by decide +kernel
theorem d_W_writeHead_75 : decode um_W_writeHead.2.1 75 = .ok (.invokevirtual 96, 3) := by decide +kernel
theorem d_W_writeHead_78 : decode um_W_writeHead.2.1 78 = .ok (.return_, 1) := by decide +kernel
theorem d_W_writeLines_0 : decode um_W_writeLines.2.1 0 = .ok (.iload_n 3, 1) := by decide +kernel
theorem d_W_writeLines_1 : decode um_W_writeLines.2.1 1 = .ok (.istore 5, 2) := by decide +kernel
theorem d_W_writeLines_3 : decode um_W_writeLines.2.1 3 = .ok (.iload 5, 2) := by decide +kernel
theorem d_W_writeLines_5 : decode um_W_writeLines.2.1 5 = .ok (.iload 4, 2) := by decide +kernel
theorem d_W_writeLines_7 : decode um_W_writeLines.2.1 7 = .ok (.if_icmp .ge 24, 3) := by decide +kernel
theorem d_W_writeLines_10 : decode um_W_writeLines.2.1 10 = .ok (.aload_n 0, 1) := by decide +kernel
theorem d_W_writeLines_11 : decode um_W_writeLines.2.1 11 = .ok (.getfield 21, 3) := by decide +kernel
theorem d_W_writeLines_14 : decode um_W_writeLines.2.1 14 = .ok (.iload_n 1, 1) := by decide +kernel
theorem d_W_writeLines_15 : decode um_W_writeLines.2.1 15 = .ok (.aload_n 2, 1) := by decide +kernel
theorem d_W_writeLines_16 : decode um_W_writeLines.2.1 16 = .ok (.getfield 103, 3) := by decide +kernel
theorem d_W_writeLines_19 : decode um_W_writeLines.2.1 19 = .ok (.iload 5, 2) := by decide +kernel
theorem d_W_writeLines_21 : decode um_W_writeLines.2.1 21 = .ok (.iaload, 1) := by decide +kernel
theorem d_W_writeLines_22 : decode um_W_writeLines.2.1 22 = .ok (.invokevirtual 107, 3) := by decide +kernel
theorem d_W_writeLines_25 : decode um_W_writeLines.2.1 25 = .ok (.iinc 5 1, 3) := by decide +kernel
theorem d_W_writeLines_28 : decode um_W_writeLines.2.1 28 = .ok (.goto (-25), 3) := by decide +kernel
theorem d_W_writeLines_31 : decode um_W_writeLines.2.1 31 = .ok (.return_, 1) := by decide +kernel
theorem d_D_init_0 : decode um_D_init.2.1 0 = .ok (.aload_n 0, 1) := by decide +kernel
theorem d_D_init_1 : decode um_D_init.2.1 1 = .ok (.invokespecial 3, 3) := by decide +kernel
theorem d_D_init_4 : decode um_D_init.2.1 4 = .ok (.aload_n 0, 1) := by decide +kernel
theorem d_D_init_5 : decode um_D_init.2.1 5 = .ok (.bipush 99, 2) := by decide +kernel
theorem d_D_init_7 : decode um_D_init.2.1 7 = .ok (.newarray .int, 2) := by decide +kernel
theorem d_D_init_9 : decode um_D_init.2.1 9 = .ok (.putfield 11, 3) := by decide +kernel
theorem d_D_init_12 : decode um_D_init.2.1 12 = .ok (.aload_n 0, 1) := by decide +kernel
theorem d_D_init_13 : decode um_D_init.2.1 13 = .ok (.bipush 99, 2) := by decide +kernel
theorem d_D_init_15 : decode um_D_init.2.1 15 = .ok (.newarray .int, 2) := by decide +kernel
theorem d_D_init_17 : decode um_D_init.2.1 17 = .ok (.putfield 15, 3) := by decide +kernel
theorem d_D_init_20 : decode um_D_init.2.1 20 = .ok (.aload_n 0, 1) := by decide +kernel
theorem d_D_init_21 : decode um_D_init.2.1 21 = .ok (.aload_n 1, 1) := by decide +kernel
theorem d_D_init_22 : decode um_D_init.2.1 22 = .ok (.putfield 18, 3) := by decide +kernel
theorem d_D_init_25 : decode um_D_init.2.1 25 = .ok (.return_, 1) := by decide +kernel
theorem d_D_placeOfFailure_0 : decode um_D_placeOfFailure.2.1 0 = .ok (.aload_n 0, 1) := by decide +kernel
theorem d_D_placeOfFailure_1 : decode um_D_placeOfFailure.2.1 1 = .ok (.invokevirtual 22, 3) := by decide +kernel
theorem d_D_placeOfFailure_4 : decode um_D_placeOfFailure.2.1 4 = .ok (.iconst 0, 1) := by decide +kernel
theorem d_D_placeOfFailure_5 : decode um_D_placeOfFailure.2.1 5 = .ok (.istore_n 1, 1) := by decide +kernel
theorem d_D_placeOfFailure_6 : decode um_D_placeOfFailure.2.1 6 = .ok (.iload_n 1, 1) := by decide +kernel
theorem d_D_placeOfFailure_7 : decode um_D_placeOfFailure.2.1 7 = .ok (.sipush 900, 3) := by decide +kernel
theorem d_D_placeOfFailure_10 : decode um_D_placeOfFailure.2.1 10 = .ok (.if_icmp .ge 28, 3) := by decide +kernel
theorem d_D_placeOfFailure_13 : decode um_D_placeOfFailure.2.1 13 = .ok (.aload_n 0, 1) := by decide +kernel
theorem d_D_placeOfFailure_14 : decode um_D_placeOfFailure.2.1 14 = .ok (.invokevirtual 25, 3) := by decide +kernel
theorem d_D_placeOfFailure_17 : decode um_D_placeOfFailure.2.1 17 = .ok (.ifCond .eq 21, 3) := by decide +kernel
theorem d_D_placeOfFailure_20 : decode um_D_placeOfFailure.2.1 20 = .ok (.aload_n 0, 1) := by decide +kernel
theorem d_D_placeOfFailure_21 : decode um_D_placeOfFailure.2.1 21 = .ok (.invokevirtual 29, 3) := by decide +kernel
theorem d_D_placeOfFailure_24 : decode um_D_placeOfFailure.2.1 24 = .ok (.ifCond .ne 8, 3) := by decide +kernel
theorem d_D_placeOfFailure_27 : decode um_D_placeOfFailure.2.1 27 = .ok (.aload_n 0, 1) := by decide +kernel
theorem d_D_placeOfFailure_28 : decode um_D_placeOfFailure.2.1 28 = .ok (.getfield 32, 3) := by decide +kernel
theorem d_D_placeOfFailure_31 : decode um_D_placeOfFailure.2.1 31 = .ok (.ireturn, 1) := by decide +kernel
theorem d_D_placeOfFailure_32 : decode um_D_placeOfFailure.2.1 32 = .ok (.iinc 1 1, 3) := by decide +kernel
theorem d_D_placeOfFailure_35 : decode um_D_placeOfFailure.2.1 35 = .ok (.goto (-29), 3) := by decide +kernel
theorem d_D_placeOfFailure_38 : decode um_D_placeOfFailure.2.1 38 = .ok (.iconst (-1), 1) := by decide +kernel
theorem d_D_placeOfFailure_39 : decode um_D_placeOfFailure.2.1 39 = .ok (.ireturn, 1) := by decide +kernel
theorem d_D_goToBeginning_0 : decode um_D_goToBeginning.2.1 0 = .ok (.aload_n 0, 1) := by decide +kernel
theorem d_D_goToBeginning_1 : decode um_D_goToBeginning.2.1 1 = .ok (.iconst 0, 1) := by decide +kernel
theorem d_D_goToBeginning_2 : decode um_D_goToBeginning.2.1 2 = .ok (.putfield 32, 3) := by decide +kernel
theorem d_D_goToBeginning_5 : decode um_D_goToBeginning.2.1 5 = .ok (.return_, 1) := by decide +kernel
theorem d_D_hasMore_0 : decode um_D_hasMore.2.1 0 = .ok (.aload_n 0, 1) := by decide +kernel
theorem d_D_hasMore_1 : decode um_D_hasMore.2.1 1 = .ok (.getfield 32, 3) := by decide +kernel
theorem d_D_hasMore_4 : decode um_D_hasMore.2.1 4 = .ok (.aload_n 0, 1) := by decide +kernel
theorem d_D_hasMore_5 : decode um_D_hasMore.2.1 5 = .ok (.getfield 18, 3) := by decide +kernel
theorem d_D_hasMore_8 : decode um_D_hasMore.2.1 8 = .ok (.getfield 36, 3) := by decide +kernel
theorem d_D_hasMore_11 : decode um_D_hasMore.2.1 11 = .ok (.if_icmp .ge 7, 3) := by decide +kernel
theorem d_D_hasMore_14 : decode um_D_hasMore.2.1 14 = .ok (.iconst 1, 1) := by decide +kernel
theorem d_D_hasMore_15 : decode um_D_hasMore.2.1 15 = .ok (.goto 4, 3) := by decide +kernel
theorem d_D_hasMore_18 : decode um_D_hasMore.2.1 18 = .ok (.iconst 0, 1) := by decide +kernel
theorem d_D_hasMore_19 : decode um_D_hasMore.2.1 19 = .ok (.ireturn, 1) := by decide +kernel
theorem d_D_takeHunk_0 : decode um_D_takeHunk.2.1 0 = .ok (.aload_n 0, 1) := by decide +kernel
theorem d_D_takeHunk_1 : decode um_D_takeHunk.2.1 1 = .ok (.invokevirtual 41, 3) := by decide +kernel
theorem d_D_takeHunk_4 : decode um_D_takeHunk.2.1 4 = .ok (.ifCond .eq 14, 3) := by decide +kernel
theorem d_D_takeHunk_7 : decode um_D_takeHunk.2.1 7 = .ok (.aload_n 0, 1) := by decide +kernel
theorem d_D_takeHunk_8 : decode um_D_takeHunk.2.1 8 = .ok (.invokevirtual 44, 3) := by decide +kernel
theorem d_D_takeHunk_11 : decode um_D_takeHunk.2.1 11 = .ok (.ifCond .eq 7, 3) := by decide +kernel
theorem d_D_takeHunk_14 : decode um_D_takeHunk.2.1 14 = .ok (.iconst 1, 1) := by decide +kernel
theorem d_D_takeHunk_15 : decode um_D_takeHunk.2.1 15 = .ok (.goto 4, 3) := by decide +kernel
theorem d_D_takeHunk_18 : decode um_D_takeHunk.2.1 18 = .ok (.iconst 0, 1) := by decide +kernel
theorem d_D_takeHunk_19 : decode um_D_takeHunk.2.1 19 = .ok (.ireturn, 1) := by decide +kernel
theorem d_D_takeHead_0 : decode um_D_takeHead.2.1 0 = .ok (.aload_n 0, 1) := by decide +kernel
theorem d_D_takeHead_1 : decode um_D_takeHead.2.1 1 = .ok (.bipush 64, 2) := by decide +kernel
theorem d_D_takeHead_3 : decode um_D_takeHead.2.1 3 = .ok (.invokevirtual 47, 3) := by decide +kernel
theorem d_D_takeHead_6 : decode um_D_takeHead.2.1 6 = .ok (.ifCond .ne 5, 3) := by decide +kernel
theorem d_D_takeHead_9 : decode um_D_takeHead.2.1 9 = .ok (.iconst 0, 1) := by decide +kernel
theorem d_D_takeHead_10 : decode um_D_takeHead.2.1 10 = .ok (.ireturn, 1) := by decide +kernel
theorem d_D_takeHead_11 : decode um_D_takeHead.2.1 11 = .ok (.aload_n 0, 1) := by decide +kernel
theorem d_D_takeHead_12 : decode um_D_takeHead.2.1 12 = .ok (.aload_n 0, 1) := by decide +kernel
theorem d_D_takeHead_13 : decode um_D_takeHead.2.1 13 = .ok (.invokevirtual 51, 3) := by decide +kernel
theorem d_D_takeHead_16 : decode um_D_takeHead.2.1 16 = .ok (.putfield 55, 3) := by decide +kernel
theorem d_D_takeHead_19 : decode um_D_takeHead.2.1 19 = .ok (.aload_n 0, 1) := by decide +kernel
theorem d_D_takeHead_20 : decode um_D_takeHead.2.1 20 = .ok (.getfield 55, 3) := by decide +kernel
theorem d_D_takeHead_23 : decode um_D_takeHead.2.1 23 = .ok (.iconst (-1), 1) := by decide +kernel
theorem d_D_takeHead_24 : decode um_D_takeHead.2.1 24 = .ok (.if_icmp .eq 12, 3) := by decide +kernel
theorem d_D_takeHead_27 : decode um_D_takeHead.2.1 27 = .ok (.aload_n 0, 1) := by decide +kernel
theorem d_D_takeHead_28 : decode um_D_takeHead.2.1 28 = .ok (.bipush 44, 2) := by decide +kernel
theorem d_D_takeHead_30 : decode um_D_takeHead.2.1 30 = .ok (.invokevirtual 47, 3) := by decide +kernel
theorem d_D_takeHead_33 : decode um_D_takeHead.2.1 33 = .ok (.ifCond .ne 5, 3) := by decide +kernel
theorem d_D_takeHead_36 : decode um_D_takeHead.2.1 36 = .ok (.iconst 0, 1) := by decide +kernel
theorem d_D_takeHead_37 : decode um_D_takeHead.2.1 37 = .ok (.ireturn, 1) := by decide +kernel
theorem d_D_takeHead_38 : decode um_D_takeHead.2.1 38 = .ok (.aload_n 0, 1) := by decide +kernel
theorem d_D_takeHead_39 : decode um_D_takeHead.2.1 39 = .ok (.aload_n 0, 1) := by decide +kernel
theorem d_D_takeHead_40 : decode um_D_takeHead.2.1 40 = .ok (.invokevirtual 51, 3) := by decide +kernel
theorem d_D_takeHead_43 : decode um_D_takeHead.2.1 43 = .ok (.putfield 58, 3) := by decide +kernel
theorem d_D_takeHead_46 : decode um_D_takeHead.2.1 46 = .ok (.aload_n 0, 1) := by decide +kernel
theorem d_D_takeHead_47 : decode um_D_takeHead.2.1 47 = .ok (.getfield 58, 3) := by decide +kernel
theorem d_D_takeHead_50 : decode um_D_takeHead.2.1 50 = .ok (.iconst (-1), 1) := by decide +kernel
theorem d_D_takeHead_51 : decode um_D_takeHead.2.1 51 = .ok (.if_icmp .eq 12, 3) := by decide +kernel
theorem d_D_takeHead_54 : decode um_D_takeHead.2.1 54 = .ok (.aload_n 0, 1) := by decide +kernel
theorem d_D_takeHead_55 : decode um_D_takeHead.2.1 55 = .ok (.bipush 32, 2) := by decide +kernel
theorem d_D_takeHead_57 : decode um_D_takeHead.2.1 57 = .ok (.invokevirtual 47, 3) := by decide +kernel
theorem d_D_takeHead_60 : decode um_D_takeHead.2.1 60 = .ok (.ifCond .ne 5, 3) := by decide +kernel
theorem d_D_takeHead_63 : decode um_D_takeHead.2.1 63 = .ok (.iconst 0, 1) := by decide +kernel
theorem d_D_takeHead_64 : decode um_D_takeHead.2.1 64 = .ok (.ireturn, 1) := by decide +kernel
theorem d_D_takeHead_65 : decode um_D_takeHead.2.1 65 = .ok (.aload_n 0, 1) := by decide +kernel
theorem d_D_takeHead_66 : decode um_D_takeHead.2.1 66 = .ok (.invokevirtual 51, 3) := by decide +kernel
theorem d_D_takeHead_69 : decode um_D_takeHead.2.1 69 = .ok (.iconst (-1), 1) := by decide +kernel
theorem d_D_takeHead_70 : decode um_D_takeHead.2.1 70 = .ok (.if_icmp .eq 12, 3) := by decide +kernel
theorem d_D_takeHead_73 : decode um_D_takeHead.2.1 73 = .ok (.aload_n 0, 1) := by decide +kernel
end
section
theorem d_D_takeHead_74 : decode um_D_takeHead.2.1 74 = .ok (.bipush 44, 2) := by decide +kernel
theorem d_D_takeHead_76 : decode um_D_takeHead.2.1 76 = .ok (.invokevirtual 47, 3) := by decide +kernel
theorem d_D_takeHead_79 : decode um_D_takeHead.2.1 79 = .ok (.ifCond .ne 5, 3) := by decide +kernel
theorem d_D_takeHead_82 : decode um_D_takeHead.2.1 82 = .ok (.iconst 0, 1) := by decide +kernel
theorem d_D_takeHead_83 : decode um_D_takeHead.2.1 83 = .ok (.ireturn, 1) := by decide +kernel
theorem d_D_takeHead_84 : decode um_D_takeHead.2.1 84 = .ok (.aload_n 0, 1) := by decide +kernel
theorem d_D_takeHead_85 : decode um_D_takeHead.2.1 85 = .ok (.aload_n 0, 1) := by decide +kernel
theorem d_D_takeHead_86 : decode um_D_takeHead.2.1 86 = .ok (.invokevirtual 51, 3) := by decide +kernel
theorem d_D_takeHead_89 : decode um_D_takeHead.2.1 89 = .ok (.putfield 61, 3) := by decide +kernel
theorem d_D_takeHead_92 : decode um_D_takeHead.2.1 92 = .ok (.aload_n 0, 1) := by decide +kernel
theorem d_D_takeHead_93 : decode um_D_takeHead.2.1 93 = .ok (.getfield 61, 3) := by decide +kernel
theorem d_D_takeHead_96 : decode um_D_takeHead.2.1 96 = .ok (.iconst (-1), 1) := by decide +kernel
theorem d_D_takeHead_97 : decode um_D_takeHead.2.1 97 = .ok (.if_icmp .ne 5, 3) := by decide +kernel
theorem d_D_takeHead_100 : decode um_D_takeHead.2.1 100 = .ok (.iconst 0, 1) := by decide +kernel
theorem d_D_takeHead_101 : decode um_D_takeHead.2.1 101 = .ok (.ireturn, 1) := by decide +kernel
theorem d_D_takeHead_102 : decode um_D_takeHead.2.1 102 = .ok (.aload_n 0, 1) := by decide +kernel
theorem d_D_takeHead_103 : decode um_D_takeHead.2.1 103 = .ok (.getfield 58, 3) := by decide +kernel
theorem d_D_takeHead_106 : decode um_D_takeHead.2.1 106 = .ok (.aload_n 0, 1) := by decide +kernel
theorem d_D_takeHead_107 : decode um_D_takeHead.2.1 107 = .ok (.getfield 61, 3) := by decide +kernel
theorem d_D_takeHead_110 : decode um_D_takeHead.2.1 110 = .ok (.iadd, 1) := by decide +kernel
theorem d_D_takeHead_111 : decode um_D_takeHead.2.1 111 = .ok (.ifCond .le 16, 3) := by decide +kernel
theorem d_D_takeHead_114 : decode um_D_takeHead.2.1 114 = .ok (.aload_n 0, 1) := by decide +kernel
theorem d_D_takeHead_115 : decode um_D_takeHead.2.1 115 = .ok (.bipush 10, 2) := by decide +kernel
theorem d_D_takeHead_117 : decode um_D_takeHead.2.1 117 = .ok (.invokevirtual 47, 3) := by decide +kernel
theorem d_D_takeHead_120 : decode um_D_takeHead.2.1 120 = .ok (.ifCond .eq 7, 3) := by decide +kernel
theorem d_D_takeHead_123 : decode um_D_takeHead.2.1 123 = .ok (.iconst 1, 1) := by decide +kernel
theorem d_D_takeHead_124 : decode um_D_takeHead.2.1 124 = .ok (.goto 4, 3) := by decide +kernel
theorem d_D_takeHead_127 : decode um_D_takeHead.2.1 127 = .ok (.iconst 0, 1) := by decide +kernel
theorem d_D_takeHead_128 : decode um_D_takeHead.2.1 128 = .ok (.ireturn, 1) := by decide +kernel
theorem d_D_takeLines_0 : decode um_D_takeLines.2.1 0 = .ok (.aload_n 0, 1) := by decide +kernel
theorem d_D_takeLines_1 : decode um_D_takeLines.2.1 1 = .ok (.iconst 0, 1) := by decide +kernel
theorem d_D_takeLines_2 : decode um_D_takeLines.2.1 2 = .ok (.putfield 64, 3) := by decide +kernel
theorem d_D_takeLines_5 : decode um_D_takeLines.2.1 5 = .ok (.aload_n 0, 1) := by decide +kernel
theorem d_D_takeLines_6 : decode um_D_takeLines.2.1 6 = .ok (.iconst 0, 1) := by decide +kernel
theorem d_D_takeLines_7 : decode um_D_takeLines.2.1 7 = .ok (.putfield 67, 3) := by decide +kernel
theorem d_D_takeLines_10 : decode um_D_takeLines.2.1 10 = .ok (.aload_n 0, 1) := by decide +kernel
theorem d_D_takeLines_11 : decode um_D_takeLines.2.1 11 = .ok (.getfield 58, 3) := by decide +kernel
theorem d_D_takeLines_14 : decode um_D_takeLines.2.1 14 = .ok (.aload_n 0, 1) := by decide +kernel
theorem d_D_takeLines_15 : decode um_D_takeLines.2.1 15 = .ok (.getfield 61, 3) := by decide +kernel
theorem d_D_takeLines_18 : decode um_D_takeLines.2.1 18 = .ok (.iadd, 1) := by decide +kernel
theorem d_D_takeLines_19 : decode um_D_takeLines.2.1 19 = .ok (.istore_n 1, 1) := by decide +kernel
theorem d_D_takeLines_20 : decode um_D_takeLines.2.1 20 = .ok (.iload_n 1, 1) := by decide +kernel
theorem d_D_takeLines_21 : decode um_D_takeLines.2.1 21 = .ok (.ifCond .le 25, 3) := by decide +kernel
theorem d_D_takeLines_24 : decode um_D_takeLines.2.1 24 = .ok (.aload_n 0, 1) := by decide +kernel
theorem d_D_takeLines_25 : decode um_D_takeLines.2.1 25 = .ok (.invokevirtual 70, 3) := by decide +kernel
theorem d_D_takeLines_28 : decode um_D_takeLines.2.1 28 = .ok (.ifCond .eq 18, 3) := by decide +kernel
theorem d_D_takeLines_31 : decode um_D_takeLines.2.1 31 = .ok (.aload_n 0, 1) := by decide +kernel
theorem d_D_takeLines_32 : decode um_D_takeLines.2.1 32 = .ok (.invokevirtual 73, 3) := by decide +kernel
theorem d_D_takeLines_35 : decode um_D_takeLines.2.1 35 = .ok (.ifCond .ne 5, 3) := by decide +kernel
theorem d_D_takeLines_38 : decode um_D_takeLines.2.1 38 = .ok (.iconst 0, 1) := by decide +kernel
theorem d_D_takeLines_39 : decode um_D_takeLines.2.1 39 = .ok (.ireturn, 1) := by decide +kernel
theorem d_D_takeLines_40 : decode um_D_takeLines.2.1 40 = .ok (.iinc 1 (-1), 3) := by decide +kernel
theorem d_D_takeLines_43 : decode um_D_takeLines.2.1 43 = .ok (.goto (-23), 3) := by decide +kernel
theorem d_D_takeLines_46 : decode um_D_takeLines.2.1 46 = .ok (.iconst 1, 1) := by decide +kernel
theorem d_D_takeLines_47 : decode um_D_takeLines.2.1 47 = .ok (.ireturn, 1) := by decide +kernel
theorem d_D_hasLinesDue_0 : decode um_D_hasLinesDue.2.1 0 = .ok (.aload_n 0, 1) := by decide +kernel
theorem d_D_hasLinesDue_1 : decode um_D_hasLinesDue.2.1 1 = .ok (.getfield 64, 3) := by decide +kernel
theorem d_D_hasLinesDue_4 : decode um_D_hasLinesDue.2.1 4 = .ok (.aload_n 0, 1) := by decide +kernel
theorem d_D_hasLinesDue_5 : decode um_D_hasLinesDue.2.1 5 = .ok (.getfield 58, 3) := by decide +kernel
theorem d_D_hasLinesDue_8 : decode um_D_hasLinesDue.2.1 8 = .ok (.if_icmp .lt 14, 3) := by decide +kernel
theorem d_D_hasLinesDue_11 : decode um_D_hasLinesDue.2.1 11 = .ok (.aload_n 0, 1) := by decide +kernel
theorem d_D_hasLinesDue_12 : decode um_D_hasLinesDue.2.1 12 = .ok (.getfield 67, 3) := by decide +kernel
theorem d_D_hasLinesDue_15 : decode um_D_hasLinesDue.2.1 15 = .ok (.aload_n 0, 1) := by decide +kernel
theorem d_D_hasLinesDue_16 : decode um_D_hasLinesDue.2.1 16 = .ok (.getfield 61, 3) := by decide +kernel
theorem d_D_hasLinesDue_19 : decode um_D_hasLinesDue.2.1 19 = .ok (.if_icmp .ge 7, 3) := by decide +kernel
theorem d_D_hasLinesDue_22 : decode um_D_hasLinesDue.2.1 22 = .ok (.iconst 1, 1) := by decide +kernel
theorem d_D_hasLinesDue_23 : decode um_D_hasLinesDue.2.1 23 = .ok (.goto 4, 3) := by decide +kernel
theorem d_D_hasLinesDue_26 : decode um_D_hasLinesDue.2.1 26 = .ok (.iconst 0, 1) := by decide +kernel
theorem d_D_hasLinesDue_27 : decode um_D_hasLinesDue.2.1 27 = .ok (.ireturn, 1) := by decide +kernel
theorem d_D_takeLine_0 : decode um_D_takeLine.2.1 0 = .ok (.aload_n 0, 1) := by decide +kernel
theorem d_D_takeLine_1 : decode um_D_takeLine.2.1 1 = .ok (.invokevirtual 76, 3) := by decide +kernel
theorem d_D_takeLine_4 : decode um_D_takeLine.2.1 4 = .ok (.istore_n 1, 1) := by decide +kernel
theorem d_D_takeLine_5 : decode um_D_takeLine.2.1 5 = .ok (.iload_n 1, 1) := by decide +kernel
theorem d_D_takeLine_6 : decode um_D_takeLine.2.1 6 = .ok (.bipush 32, 2) := by decide +kernel
theorem d_D_takeLine_8 : decode um_D_takeLine.2.1 8 = .ok (.if_icmp .eq 9, 3) := by decide +kernel
theorem d_D_takeLine_11 : decode um_D_takeLine.2.1 11 = .ok (.iload_n 1, 1) := by decide +kernel
theorem d_D_takeLine_12 : decode um_D_takeLine.2.1 12 = .ok (.bipush 45, 2) := by decide +kernel
theorem d_D_takeLine_14 : decode um_D_takeLine.2.1 14 = .ok (.if_icmp .ne 7, 3) := by decide +kernel
theorem d_D_takeLine_17 : decode um_D_takeLine.2.1 17 = .ok (.iconst 1, 1) := by decide +kernel
theorem d_D_takeLine_18 : decode um_D_takeLine.2.1 18 = .ok (.goto 4, 3) := by decide +kernel
theorem d_D_takeLine_21 : decode um_D_takeLine.2.1 21 = .ok (.iconst 0, 1) := by decide +kernel
theorem d_D_takeLine_22 : decode um_D_takeLine.2.1 22 = .ok (.istore_n 2, 1) := by decide +kernel
theorem d_D_takeLine_23 : decode um_D_takeLine.2.1 23 = .ok (.iload_n 1, 1) := by decide +kernel
theorem d_D_takeLine_24 : decode um_D_takeLine.2.1 24 = .ok (.bipush 32, 2) := by decide +kernel
theorem d_D_takeLine_26 : decode um_D_takeLine.2.1 26 = .ok (.if_icmp .eq 9, 3) := by decide +kernel
theorem d_D_takeLine_29 : decode um_D_takeLine.2.1 29 = .ok (.iload_n 1, 1) := by decide +kernel
theorem d_D_takeLine_30 : decode um_D_takeLine.2.1 30 = .ok (.bipush 43, 2) := by decide +kernel
theorem d_D_takeLine_32 : decode um_D_takeLine.2.1 32 = .ok (.if_icmp .ne 7, 3) := by decide +kernel
theorem d_D_takeLine_35 : decode um_D_takeLine.2.1 35 = .ok (.iconst 1, 1) := by decide +kernel
theorem d_D_takeLine_36 : decode um_D_takeLine.2.1 36 = .ok (.goto 4, 3) := by decide +kernel
theorem d_D_takeLine_39 : decode um_D_takeLine.2.1 39 = .ok (.iconst 0, 1) := by decide +kernel
theorem d_D_takeLine_40 : decode um_D_takeLine.2.1 40 = .ok (.istore_n 3, 1) := by decide +kernel
theorem d_D_takeLine_41 : decode um_D_takeLine.2.1 41 = .ok (.iload_n 2, 1) := by decide +kernel
theorem d_D_takeLine_42 : decode um_D_takeLine.2.1 42 = .ok (.ifCond .eq 14, 3) := by decide +kernel
theorem d_D_takeLine_45 : decode um_D_takeLine.2.1 45 = .ok (.aload_n 0, 1) := by decide +kernel
theorem d_D_takeLine_46 : decode um_D_takeLine.2.1 46 = .ok (.getfield 64, 3) := by decide +kernel
theorem d_D_takeLine_49 : decode um_D_takeLine.2.1 49 = .ok (.aload_n 0, 1) := by decide +kernel
theorem d_D_takeLine_50 : decode um_D_takeLine.2.1 50 = .ok (.getfield 58, 3) := by decide +kernel
theorem d_D_takeLine_53 : decode um_D_takeLine.2.1 53 = .ok (.if_icmp .ge 18, 3) := by decide +kernel
theorem d_D_takeLine_56 : decode um_D_takeLine.2.1 56 = .ok (.iload_n 3, 1) := by decide +kernel
theorem d_D_takeLine_57 : decode um_D_takeLine.2.1 57 = .ok (.ifCond .eq 18, 3) := by decide +kernel
theorem d_D_takeLine_60 : decode um_D_takeLine.2.1 60 = .ok (.aload_n 0, 1) := by decide +kernel
theorem d_D_takeLine_61 : decode um_D_takeLine.2.1 61 = .ok (.getfield 67, 3) := by decide +kernel
theorem d_D_takeLine_64 : decode um_D_takeLine.2.1 64 = .ok (.aload_n 0, 1) := by decide +kernel
theorem d_D_takeLine_65 : decode um_D_takeLine.2.1 65 = .ok (.getfield 61, 3) := by decide +kernel
theorem d_D_takeLine_68 : decode um_D_takeLine.2.1 68 = .ok (.if_icmp .lt 7, 3) := by decide +kernel
theorem d_D_takeLine_71 : decode um_D_takeLine.2.1 71 = .ok (.iconst 1, 1) := by decide +kernel
theorem d_D_takeLine_72 : decode um_D_takeLine.2.1 72 = .ok (.goto 4, 3) := by decide +kernel
theorem d_D_takeLine_75 : decode um_D_takeLine.2.1 75 = .ok (.iconst 0, 1) := by decide +kernel
theorem d_D_takeLine_76 : decode um_D_takeLine.2.1 76 = .ok (.istore 4, 2) := by decide +kernel
theorem d_D_takeLine_78 : decode um_D_takeLine.2.1 78 = .ok (.iload_n 2, 1) := by decide +kernel
theorem d_D_takeLine_79 : decode um_D_takeLine.2.1 79 = .ok (.ifCond .ne 7, 3) := by decide +kernel
theorem d_D_takeLine_82 : decode um_D_takeLine.2.1 82 = .ok (.iload_n 3, 1) := by decide +kernel
theorem d_D_takeLine_83 : decode um_D_takeLine.2.1 83 = .ok (.ifCond .eq 8, 3) := by decide +kernel
theorem d_D_takeLine_86 : decode um_D_takeLine.2.1 86 = .ok (.iload 4, 2) := by decide +kernel
theorem d_D_takeLine_88 : decode um_D_takeLine.2.1 88 = .ok (.ifCond .eq 5, 3) := by decide +kernel
theorem d_D_takeLine_91 : decode um_D_takeLine.2.1 91 = .ok (.iconst 0, 1) := by decide +kernel
theorem d_D_takeLine_92 : decode um_D_takeLine.2.1 92 = .ok (.ireturn, 1) := by decide +kernel
theorem d_D_takeLine_93 : decode um_D_takeLine.2.1 93 = .ok (.aload_n 0, 1) := by decide +kernel
theorem d_D_takeLine_94 : decode um_D_takeLine.2.1 94 = .ok (.dup, 1) := by decide +kernel
theorem d_D_takeLine_95 : decode um_D_takeLine.2.1 95 = .ok (.getfield 32, 3) := by decide +kernel
theorem d_D_takeLine_98 : decode um_D_takeLine.2.1 98 = .ok (.iconst 1, 1) := by decide +kernel
theorem d_D_takeLine_99 : decode um_D_takeLine.2.1 99 = .ok (.iadd, 1) := by decide +kernel
theorem d_D_takeLine_100 : decode um_D_takeLine.2.1 100 = .ok (.putfield 32, 3) := by decide +kernel
theorem d_D_takeLine_103 : decode um_D_takeLine.2.1 103 = .ok (.aload_n 0, 1) := by decide +kernel
theorem d_D_takeLine_104 : decode um_D_takeLine.2.1 104 = .ok (.invokevirtual 76, 3) := by decide +kernel
theorem d_D_takeLine_107 : decode um_D_takeLine.2.1 107 = .ok (.istore 5, 2) := by decide +kernel
theorem d_D_takeLine_109 : decode um_D_takeLine.2.1 109 = .ok (.iload 5, 2) := by decide +kernel
theorem d_D_takeLine_111 : decode um_D_takeLine.2.1 111 = .ok (.invokestatic 79, 3) := by decide +kernel
theorem d_D_takeLine_114 : decode um_D_takeLine.2.1 114 = .ok (.ifCond .ne 5, 3) := by decide +kernel
theorem d_D_takeLine_117 : decode um_D_takeLine.2.1 117 = .ok (.iconst 0, 1) := by decide +kernel
theorem d_D_takeLine_118 : decode um_D_takeLine.2.1 118 = .ok (.ireturn, 1) := by decide +kernel
theorem d_D_takeLine_119 : decode um_D_takeLine.2.1 119 = .ok (.aload_n 0, 1) := by decide +kernel
theorem d_D_takeLine_120 : decode um_D_takeLine.2.1 120 = .ok (.dup, 1) := by decide +kernel
theorem d_D_takeLine_121 : decode um_D_takeLine.2.1 121 = .ok (.getfield 32, 3) := by decide +kernel
theorem d_D_takeLine_124 : decode um_D_takeLine.2.1 124 = .ok (.iconst 1, 1) := by decide +kernel
theorem d_D_takeLine_125 : decode um_D_takeLine.2.1 125 = .ok (.iadd, 1) := by decide +kernel
theorem d_D_takeLine_126 : decode um_D_takeLine.2.1 126 = .ok (.putfield 32, 3) := by decide +kernel
theorem d_D_takeLine_129 : decode um_D_takeLine.2.1 129 = .ok (.iload_n 2, 1) := by decide +kernel
theorem d_D_takeLine_130 : decode um_D_takeLine.2.1 130 = .ok (.ifCond .eq 24, 3) := by decide +kernel
theorem d_D_takeLine_133 : decode um_D_takeLine.2.1 133 = .ok (.aload_n 0, 1) := by decide +kernel
theorem d_D_takeLine_134 : decode um_D_takeLine.2.1 134 = .ok (.getfield 11, 3) := by decide +kernel
theorem d_D_takeLine_137 : decode um_D_takeLine.2.1 137 = .ok (.aload_n 0, 1) := by decide +kernel
theorem d_D_takeLine_138 : decode um_D_takeLine.2.1 138 = .ok (.getfield 64, 3) := by decide +kernel
theorem d_D_takeLine_141 : decode um_D_takeLine.2.1 141 = .ok (.iload 5, 2) := by decide +kernel
theorem d_D_takeLine_143 : decode um_D_takeLine.2.1 143 = .ok (.iastore, 1) := by decide +kernel
theorem d_D_takeLine_144 : decode um_D_takeLine.2.1 144 = .ok (.aload_n 0, 1) := by decide +kernel
theorem d_D_takeLine_145 : decode um_D_takeLine.2.1 145 = .ok (.dup, 1) := by decide +kernel
theorem d_D_takeLine_146 : decode um_D_takeLine.2.1 146 = .ok (.getfield 64, 3) := by decide +kernel
theorem d_D_takeLine_149 : decode um_D_takeLine.2.1 149 = .ok (.iconst 1, 1) := by decide +kernel
theorem d_D_takeLine_150 : decode um_D_takeLine.2.1 150 = .ok (.iadd, 1) := by decide +kernel
theorem d_D_takeLine_151 : decode um_D_takeLine.2.1 151 = .ok (.putfield 64, 3) := by decide +kernel
theorem d_D_takeLine_154 : decode um_D_takeLine.2.1 154 = .ok (.iload_n 3, 1) := by decide +kernel
theorem d_D_takeLine_155 : decode um_D_takeLine.2.1 155 = .ok (.ifCond .eq 24, 3) := by decide +kernel
theorem d_D_takeLine_158 : decode um_D_takeLine.2.1 158 = .ok (.aload_n 0, 1) := by decide +kernel
theorem d_D_takeLine_159 : decode um_D_takeLine.2.1 159 = .ok (.getfield 15, 3) := by decide +kernel
theorem d_D_takeLine_162 : decode um_D_takeLine.2.1 162 = .ok (.aload_n 0, 1) := by decide +kernel
theorem d_D_takeLine_163 : decode um_D_takeLine.2.1 163 = .ok (.getfield 67, 3) := by decide +kernel
theorem d_D_takeLine_166 : decode um_D_takeLine.2.1 166 = .ok (.iload 5, 2) := by decide +kernel
theorem d_D_takeLine_168 : decode um_D_takeLine.2.1 168 = .ok (.iastore, 1) := by decide +kernel
theorem d_D_takeLine_169 : decode um_D_takeLine.2.1 169 = .ok (.aload_n 0, 1) := by decide +kernel
theorem d_D_takeLine_170 : decode um_D_takeLine.2.1 170 = .ok (.dup, 1) := by decide +kernel
theorem d_D_takeLine_171 : decode um_D_takeLine.2.1 171 = .ok (.getfield 67, 3) := by decide +kernel
theorem d_D_takeLine_174 : decode um_D_takeLine.2.1 174 = .ok (.iconst 1, 1) := by decide +kernel
theorem d_D_takeLine_175 : decode um_D_takeLine.2.1 175 = .ok (.iadd, 1) := by decide +kernel
theorem d_D_takeLine_176 : decode um_D_takeLine.2.1 176 = .ok (.putfield 67, 3) := by decide +kernel
theorem d_D_takeLine_179 : decode um_D_takeLine.2.1 179 = .ok (.aload_n 0, 1) := by decide +kernel
theorem d_D_takeLine_180 : decode um_D_takeLine.2.1 180 = .ok (.bipush 10, 2) := by decide +kernel
theorem d_D_takeLine_182 : decode um_D_takeLine.2.1 182 = .ok (.invokevirtual 47, 3) := by decide +kernel
theorem d_D_takeLine_185 : decode um_D_takeLine.2.1 185 = .ok (.ireturn, 1) := by decide +kernel
theorem d_D_takeSign_0 : decode um_D_takeSign.2.1 0 = .ok (.aload_n 0, 1) := by decide +kernel
theorem d_D_takeSign_1 : decode um_D_takeSign.2.1 1 = .ok (.invokevirtual 76, 3) := by decide +kernel
theorem d_D_takeSign_4 : decode um_D_takeSign.2.1 4 = .ok (.iload_n 1, 1) := by decide +kernel
theorem d_D_takeSign_5 : decode um_D_takeSign.2.1 5 = .ok (.if_icmp .eq 5, 3) := by decide +kernel
theorem d_D_takeSign_8 : decode um_D_takeSign.2.1 8 = .ok (.iconst 0, 1) := by decide +kernel
theorem d_D_takeSign_9 : decode um_D_takeSign.2.1 9 = .ok (.ireturn, 1) := by decide +kernel
theorem d_D_takeSign_10 : decode um_D_takeSign.2.1 10 = .ok (.aload_n 0, 1) := by decide +kernel
theorem d_D_takeSign_11 : decode um_D_takeSign.2.1 11 = .ok (.dup, 1) := by decide +kernel
theorem d_D_takeSign_12 : decode um_D_takeSign.2.1 12 = .ok (.getfield 32, 3) := by decide +kernel
theorem d_D_takeSign_15 : decode um_D_takeSign.2.1 15 = .ok (.iconst 1, 1) := by decide +kernel
theorem d_D_takeSign_16 : decode um_D_takeSign.2.1 16 = .ok (.iadd, 1) := by decide +kernel
theorem d_D_takeSign_17 : decode um_D_takeSign.2.1 17 = .ok (.putfield 32, 3) := by decide +kernel
theorem d_D_takeSign_20 : decode um_D_takeSign.2.1 20 = .ok (.iconst 1, 1) := by decide +kernel
theorem d_D_takeSign_21 : decode um_D_takeSign.2.1 21 = .ok (.ireturn, 1) := by decide +kernel
theorem d_D_takeNumber_0 : decode um_D_takeNumber.2.1 0 = .ok (.aload_n 0, 1) := by decide +kernel
theorem d_D_takeNumber_1 : decode um_D_takeNumber.2.1 1 = .ok (.invokevirtual 76, 3) := by decide +kernel
theorem d_D_takeNumber_4 : decode um_D_takeNumber.2.1 4 = .ok (.invokestatic 82, 3) := by decide +kernel
theorem d_D_takeNumber_7 : decode um_D_takeNumber.2.1 7 = .ok (.ifCond .ne 5, 3) := by decide +kernel
theorem d_D_takeNumber_10 : decode um_D_takeNumber.2.1 10 = .ok (.iconst (-1), 1) := by decide +kernel
theorem d_D_takeNumber_11 : decode um_D_takeNumber.2.1 11 = .ok (.ireturn, 1) := by decide +kernel
theorem d_D_takeNumber_12 : decode um_D_takeNumber.2.1 12 = .ok (.aload_n 0, 1) := by decide +kernel
theorem d_D_takeNumber_13 : decode um_D_takeNumber.2.1 13 = .ok (.invokevirtual 76, 3) := by decide +kernel
theorem d_D_takeNumber_16 : decode um_D_takeNumber.2.1 16 = .ok (.bipush 48, 2) := by decide +kernel
theorem d_D_takeNumber_18 : decode um_D_takeNumber.2.1 18 = .ok (.isub, 1) := by decide +kernel
theorem d_D_takeNumber_19 : decode um_D_takeNumber.2.1 19 = .ok (.istore_n 1, 1) := by decide +kernel
theorem d_D_takeNumber_20 : decode um_D_takeNumber.2.1 20 = .ok (.aload_n 0, 1) := by decide +kernel
theorem d_D_takeNumber_21 : decode um_D_takeNumber.2.1 21 = .ok (.dup, 1) := by decide +kernel
theorem d_D_takeNumber_22 : decode um_D_takeNumber.2.1 22 = .ok (.getfield 32, 3) := by decide +kernel
theorem d_D_takeNumber_25 : decode um_D_takeNumber.2.1 25 = .ok (.iconst 1, 1) := by decide +kernel
theorem d_D_takeNumber_26 : decode um_D_takeNumber.2.1 26 = .ok (.iadd, 1) := by decide +kernel
theorem d_D_takeNumber_27 : decode um_D_takeNumber.2.1 27 = .ok (.putfield 32, 3) := by decide +kernel
theorem d_D_takeNumber_30 : decode um_D_takeNumber.2.1 30 = .ok (.iload_n 1, 1) := by decide +kernel
theorem d_D_takeNumber_31 : decode um_D_takeNumber.2.1 31 = .ok (.ifCond .le 36, 3) := by decide +kernel
theorem d_D_takeNumber_34 : decode um_D_takeNumber.2.1 34 = .ok (.aload_n 0, 1) := by decide +kernel
theorem d_D_takeNumber_35 : decode um_D_takeNumber.2.1 35 = .ok (.invokevirtual 76, 3) := by decide +kernel
theorem d_D_takeNumber_38 : decode um_D_takeNumber.2.1 38 = .ok (.invokestatic 82, 3) := by decide +kernel
theorem d_D_takeNumber_41 : decode um_D_takeNumber.2.1 41 = .ok (.ifCond .eq 26, 3) := by decide +kernel
theorem d_D_takeNumber_44 : decode um_D_takeNumber.2.1 44 = .ok (.bipush 10, 2) := by decide +kernel
theorem d_D_takeNumber_46 : decode um_D_takeNumber.2.1 46 = .ok (.iload_n 1, 1) := by decide +kernel
theorem d_D_takeNumber_47 : decode um_D_takeNumber.2.1 47 = .ok (.imul, 1) := by decide +kernel
theorem d_D_takeNumber_48 : decode um_D_takeNumber.2.1 48 = .ok (.aload_n 0, 1) := by decide +kernel
theorem d_D_takeNumber_49 : decode um_D_takeNumber.2.1 49 = .ok (.invokevirtual 76, 3) := by decide +kernel
theorem d_D_takeNumber_52 : decode um_D_takeNumber.2.1 52 = .ok (.iadd, 1) := by decide +kernel
theorem d_D_takeNumber_53 : decode um_D_takeNumber.2.1 53 = .ok (.bipush 48, 2) := by decide +kernel
theorem d_D_takeNumber_55 : decode um_D_takeNumber.2.1 55 = .ok (.isub, 1) := by decide +kernel
theorem d_D_takeNumber_56 : decode um_D_takeNumber.2.1 56 = .ok (.istore_n 1, 1) := by decide +kernel
theorem d_D_takeNumber_57 : decode um_D_takeNumber.2.1 57 = .ok (.aload_n 0, 1) := by decide +kernel
theorem d_D_takeNumber_58 : decode um_D_takeNumber.2.1 58 = .ok (.dup, 1) := by decide +kernel
theorem d_D_takeNumber_59 : decode um_D_takeNumber.2.1 59 = .ok (.getfield 32, 3) := by decide +kernel
theorem d_D_takeNumber_62 : decode um_D_takeNumber.2.1 62 = .ok (.iconst 1, 1) := by decide +kernel
theorem d_D_takeNumber_63 : decode um_D_takeNumber.2.1 63 = .ok (.iadd, 1) := by decide +kernel
theorem d_D_takeNumber_64 : decode um_D_takeNumber.2.1 64 = .ok (.putfield 32, 3) := by decide +kernel
theorem d_D_takeNumber_67 : decode um_D_takeNumber.2.1 67 = .ok (.iload_n 1, 1) := by decide +kernel
theorem d_D_takeNumber_68 : decode um_D_takeNumber.2.1 68 = .ok (.ireturn, 1) := by decide +kernel
theorem d_D_here_0 : decode um_D_here.2.1 0 = .ok (.aload_n 0, 1) := by decide +kernel
theorem d_D_here_1 : decode um_D_here.2.1 1 = .ok (.getfield 32, 3) := by decide +kernel
theorem d_D_here_4 : decode um_D_here.2.1 4 = .ok (.aload_n 0, 1) := by decide +kernel
theorem d_D_here_5 : decode um_D_here.2.1 5 = .ok (.getfield 18, 3) := by decide +kernel
theorem d_D_here_8 : decode um_D_here.2.1 8 = .ok (.getfield 36, 3) := by decide +kernel
theorem d_D_here_11 : decode um_D_here.2.1 11 = .ok (.if_icmp .ge 18, 3) := by decide +kernel
theorem d_D_here_14 : decode um_D_here.2.1 14 = .ok (.aload_n 0, 1) := by decide +kernel
theorem d_D_here_15 : decode um_D_here.2.1 15 = .ok (.getfield 18, 3) := by decide +kernel
theorem d_D_here_18 : decode um_D_here.2.1 18 = .ok (.getfield 85, 3) := by decide +kernel
theorem d_D_here_21 : decode um_D_here.2.1 21 = .ok (.aload_n 0, 1) := by decide +kernel
theorem d_D_here_22 : decode um_D_here.2.1 22 = .ok (.getfield 32, 3) := by decide +kernel
theorem d_D_here_25 : decode um_D_here.2.1 25 = .ok (.iaload, 1) := by decide +kernel
theorem d_D_here_26 : decode um_D_here.2.1 26 = .ok (.goto 4, 3) := by decide +kernel
theorem d_D_here_29 : decode um_D_here.2.1 29 = .ok (.iconst (-1), 1) := by decide +kernel
theorem d_D_here_30 : decode um_D_here.2.1 30 = .ok (.ireturn, 1) := by decide +kernel
theorem d_D_isDigit_0 : decode um_D_isDigit.2.1 0 = .ok (.iload_n 0, 1) := by decide +kernel
theorem d_D_isDigit_1 : decode um_D_isDigit.2.1 1 = .ok (.bipush 48, 2) := by decide +kernel
theorem d_D_isDigit_3 : decode um_D_isDigit.2.1 3 = .ok (.if_icmp .lt 13, 3) := by decide +kernel
theorem d_D_isDigit_6 : decode um_D_isDigit.2.1 6 = .ok (.iload_n 0, 1) := by decide +kernel
theorem d_D_isDigit_7 : decode um_D_isDigit.2.1 7 = .ok (.bipush 57, 2) := by decide +kernel
theorem d_D_isDigit_9 : decode um_D_isDigit.2.1 9 = .ok (.if_icmp .gt 7, 3) := by decide +kernel
theorem d_D_isDigit_12 : decode um_D_isDigit.2.1 12 = .ok (.iconst 1, 1) := by decide +kernel
theorem d_D_isDigit_13 : decode um_D_isDigit.2.1 13 = .ok (.goto 4, 3) := by decide +kernel
theorem d_D_isDigit_16 : decode um_D_isDigit.2.1 16 = .ok (.iconst 0, 1) := by decide +kernel
theorem d_D_isDigit_17 : decode um_D_isDigit.2.1 17 = .ok (.ireturn, 1) := by decide +kernel
theorem d_F_init_0 : decode um_F_init.2.1 0 = .ok (.aload_n 0, 1) := by decide +kernel
theorem d_F_init_1 : decode um_F_init.2.1 1 = .ok (.invokespecial 3, 3) := by decide +kernel
theorem d_F_init_4 : decode um_F_init.2.1 4 = .ok (.aload_n 0, 1) := by decide +kernel
theorem d_F_init_5 : decode um_F_init.2.1 5 = .ok (.new 9, 3) := by decide +kernel
theorem d_F_init_8 : decode um_F_init.2.1 8 = .ok (.dup, 1) := by decide +kernel
theorem d_F_init_9 : decode um_F_init.2.1 9 = .ok (.invokespecial 11, 3) := by decide +kernel
theorem d_F_init_12 : decode um_F_init.2.1 12 = .ok (.putfield 12, 3) := by decide +kernel
theorem d_F_init_15 : decode um_F_init.2.1 15 = .ok (.aload_n 0, 1) := by decide +kernel
theorem d_F_init_16 : decode um_F_init.2.1 16 = .ok (.aload_n 1, 1) := by decide +kernel
theorem d_F_init_17 : decode um_F_init.2.1 17 = .ok (.putfield 18, 3) := by decide +kernel
theorem d_F_init_20 : decode um_F_init.2.1 20 = .ok (.return_, 1) := by decide +kernel
theorem d_F_patch_0 : decode um_F_patch.2.1 0 = .ok (.iconst 0, 1) := by decide +kernel
theorem d_F_patch_1 : decode um_F_patch.2.1 1 = .ok (.istore_n 2, 1) := by decide +kernel
theorem d_F_patch_2 : decode um_F_patch.2.1 2 = .ok (.iconst 0, 1) := by decide +kernel
theorem d_F_patch_3 : decode um_F_patch.2.1 3 = .ok (.istore_n 3, 1) := by decide +kernel
theorem d_F_patch_4 : decode um_F_patch.2.1 4 = .ok (.aload_n 1, 1) := by decide +kernel
theorem d_F_patch_5 : decode um_F_patch.2.1 5 = .ok (.getfield 22, 3) := by decide +kernel
theorem d_F_patch_8 : decode um_F_patch.2.1 8 = .ok (.istore 4, 2) := by decide +kernel
theorem d_F_patch_10 : decode um_F_patch.2.1 10 = .ok (.aload_n 0, 1) := by decide +kernel
theorem d_F_patch_11 : decode um_F_patch.2.1 11 = .ok (.getfield 12, 3) := by decide +kernel
theorem d_F_patch_14 : decode um_F_patch.2.1 14 = .ok (.iconst 0, 1) := by decide +kernel
theorem d_F_patch_15 : decode um_F_patch.2.1 15 = .ok (.putfield 22, 3) := by decide +kernel
theorem d_F_patch_18 : decode um_F_patch.2.1 18 = .ok (.aload_n 0, 1) := by decide +kernel
theorem d_F_patch_19 : decode um_F_patch.2.1 19 = .ok (.getfield 18, 3) := by decide +kernel
theorem d_F_patch_22 : decode um_F_patch.2.1 22 = .ok (.invokevirtual 26, 3) := by decide +kernel
theorem d_F_patch_25 : decode um_F_patch.2.1 25 = .ok (.iload_n 2, 1) := by decide +kernel
theorem d_F_patch_26 : decode um_F_patch.2.1 26 = .ok (.sipush 900, 3) := by decide +kernel
theorem d_F_patch_29 : decode um_F_patch.2.1 29 = .ok (.if_icmp .ge 102, 3) := by decide +kernel
theorem d_F_patch_32 : decode um_F_patch.2.1 32 = .ok (.aload_n 0, 1) := by decide +kernel
theorem d_F_patch_33 : decode um_F_patch.2.1 33 = .ok (.getfield 18, 3) := by decide +kernel
theorem d_F_patch_36 : decode um_F_patch.2.1 36 = .ok (.invokevirtual 31, 3) := by decide +kernel
theorem d_F_patch_39 : decode um_F_patch.2.1 39 = .ok (.ifCond .eq 92, 3) := by decide +kernel
theorem d_F_patch_42 : decode um_F_patch.2.1 42 = .ok (.aload_n 0, 1) := by decide +kernel
theorem d_F_patch_43 : decode um_F_patch.2.1 43 = .ok (.getfield 18, 3) := by decide +kernel
theorem d_F_patch_46 : decode um_F_patch.2.1 46 = .ok (.invokevirtual 35, 3) := by decide +kernel
theorem d_F_patch_49 : decode um_F_patch.2.1 49 = .ok (.ifCond .eq 82, 3) := by decide +kernel
theorem d_F_patch_52 : decode um_F_patch.2.1 52 = .ok (.aload_n 0, 1) := by decide +kernel
theorem d_F_patch_53 : decode um_F_patch.2.1 53 = .ok (.aload_n 1, 1) := by decide +kernel
theorem d_F_patch_54 : decode um_F_patch.2.1 54 = .ok (.iload_n 3, 1) := by decide +kernel
theorem d_F_patch_55 : decode um_F_patch.2.1 55 = .ok (.invokevirtual 38, 3) := by decide +kernel
theorem d_F_patch_58 : decode um_F_patch.2.1 58 = .ok (.istore 5, 2) := by decide +kernel
theorem d_F_patch_60 : decode um_F_patch.2.1 60 = .ok (.iload 4, 2) := by decide +kernel
theorem d_F_patch_62 : decode um_F_patch.2.1 62 = .ok (.aload_n 0, 1) := by decide +kernel
theorem d_F_patch_63 : decode um_F_patch.2.1 63 = .ok (.getfield 18, 3) := by decide +kernel
theorem d_F_patch_66 : decode um_F_patch.2.1 66 = .ok (.getfield 42, 3) := by decide +kernel
theorem d_F_patch_69 : decode um_F_patch.2.1 69 = .ok (.aload_n 0, 1) := by decide +kernel
theorem d_F_patch_70 : decode um_F_patch.2.1 70 = .ok (.getfield 18, 3) := by decide +kernel
theorem d_F_patch_73 : decode um_F_patch.2.1 73 = .ok (.getfield 45, 3) := by decide +kernel
theorem d_F_patch_76 : decode um_F_patch.2.1 76 = .ok (.isub, 1) := by decide +kernel
theorem d_F_patch_77 : decode um_F_patch.2.1 77 = .ok (.iadd, 1) := by decide +kernel
theorem d_F_patch_78 : decode um_F_patch.2.1 78 = .ok (.istore 4, 2) := by decide +kernel
theorem d_F_patch_80 : decode um_F_patch.2.1 80 = .ok (.iload 5, 2) := by decide +kernel
theorem d_F_patch_82 : decode um_F_patch.2.1 82 = .ok (.bipush (-3), 2) := by decide +kernel
theorem d_F_patch_84 : decode um_F_patch.2.1 84 = .ok (.if_icmp .eq 10, 3) := by decide +kernel
theorem d_F_patch_87 : decode um_F_patch.2.1 87 = .ok (.iload 4, 2) := by decide +kernel
theorem d_F_patch_89 : decode um_F_patch.2.1 89 = .ok (.bipush 24, 2) := by decide +kernel
theorem d_F_patch_91 : decode um_F_patch.2.1 91 = .ok (.if_icmp .le 8, 3) := by decide +kernel
theorem d_F_patch_94 : decode um_F_patch.2.1 94 = .ok (.bipush (-3), 2) := by decide +kernel
theorem d_F_patch_96 : decode um_F_patch.2.1 96 = .ok (.iload_n 2, 1) := by decide +kernel
theorem d_F_patch_97 : decode um_F_patch.2.1 97 = .ok (.isub, 1) := by decide +kernel
theorem d_F_patch_98 : decode um_F_patch.2.1 98 = .ok (.ireturn, 1) := by decide +kernel
theorem d_F_patch_99 : decode um_F_patch.2.1 99 = .ok (.aload_n 0, 1) := by decide +kernel
theorem d_F_patch_100 : decode um_F_patch.2.1 100 = .ok (.getfield 12, 3) := by decide +kernel
theorem d_F_patch_103 : decode um_F_patch.2.1 103 = .ok (.aload_n 1, 1) := by decide +kernel
theorem d_F_patch_104 : decode um_F_patch.2.1 104 = .ok (.iload_n 3, 1) := by decide +kernel
theorem d_F_patch_105 : decode um_F_patch.2.1 105 = .ok (.iload 5, 2) := by decide +kernel
theorem d_F_patch_107 : decode um_F_patch.2.1 107 = .ok (.invokevirtual 48, 3) := by decide +kernel
theorem d_F_patch_110 : decode um_F_patch.2.1 110 = .ok (.aload_n 0, 1) := by decide +kernel
theorem d_F_patch_111 : decode um_F_patch.2.1 111 = .ok (.invokevirtual 52, 3) := by decide +kernel
theorem d_F_patch_114 : decode um_F_patch.2.1 114 = .ok (.iload 5, 2) := by decide +kernel
theorem d_F_patch_116 : decode um_F_patch.2.1 116 = .ok (.aload_n 0, 1) := by decide +kernel
theorem d_F_patch_117 : decode um_F_patch.2.1 117 = .ok (.getfield 18, 3) := by decide +kernel
theorem d_F_patch_120 : decode um_F_patch.2.1 120 = .ok (.getfield 45, 3) := by decide +kernel
theorem d_F_patch_123 : decode um_F_patch.2.1 123 = .ok (.iadd, 1) := by decide +kernel
theorem d_F_patch_124 : decode um_F_patch.2.1 124 = .ok (.istore_n 3, 1) := by decide +kernel
theorem d_F_patch_125 : decode um_F_patch.2.1 125 = .ok (.iinc 2 1, 3) := by decide +kernel
theorem d_F_patch_128 : decode um_F_patch.2.1 128 = .ok (.goto (-103), 3) := by decide +kernel
theorem d_F_patch_131 : decode um_F_patch.2.1 131 = .ok (.aload_n 0, 1) := by decide +kernel
theorem d_F_patch_132 : decode um_F_patch.2.1 132 = .ok (.getfield 12, 3) := by decide +kernel
theorem d_F_patch_135 : decode um_F_patch.2.1 135 = .ok (.aload_n 1, 1) := by decide +kernel
theorem d_F_patch_136 : decode um_F_patch.2.1 136 = .ok (.iload_n 3, 1) := by decide +kernel
theorem d_F_patch_137 : decode um_F_patch.2.1 137 = .ok (.aload_n 1, 1) := by decide +kernel
theorem d_F_patch_138 : decode um_F_patch.2.1 138 = .ok (.getfield 22, 3) := by decide +kernel
theorem d_F_patch_141 : decode um_F_patch.2.1 141 = .ok (.invokevirtual 48, 3) := by decide +kernel
theorem d_F_patch_144 : decode um_F_patch.2.1 144 = .ok (.aload_n 1, 1) := by decide +kernel
theorem d_F_patch_145 : decode um_F_patch.2.1 145 = .ok (.aload_n 0, 1) := by decide +kernel
theorem d_F_patch_146 : decode um_F_patch.2.1 146 = .ok (.getfield 12, 3) := by decide +kernel
theorem d_F_patch_149 : decode um_F_patch.2.1 149 = .ok (.invokevirtual 55, 3) := by decide +kernel
theorem d_F_patch_152 : decode um_F_patch.2.1 152 = .ok (.iload_n 2, 1) := by decide +kernel
theorem d_F_patch_153 : decode um_F_patch.2.1 153 = .ok (.ireturn, 1) := by decide +kernel
theorem d_F_appendNewLines_0 : decode um_F_appendNewLines.2.1 0 = .ok (.iconst 0, 1) := by decide +kernel
theorem d_F_appendNewLines_1 : decode um_F_appendNewLines.2.1 1 = .ok (.istore_n 1, 1) := by decide +kernel
theorem d_F_appendNewLines_2 : decode um_F_appendNewLines.2.1 2 = .ok (.iload_n 1, 1) := by decide +kernel
theorem d_F_appendNewLines_3 : decode um_F_appendNewLines.2.1 3 = .ok (.aload_n 0, 1) := by decide +kernel
theorem d_F_appendNewLines_4 : decode um_F_appendNewLines.2.1 4 = .ok (.getfield 18, 3) := by decide +kernel
theorem d_F_appendNewLines_7 : decode um_F_appendNewLines.2.1 7 = .ok (.getfield 42, 3) := by decide +kernel
theorem d_F_appendNewLines_10 : decode um_F_appendNewLines.2.1 10 = .ok (.if_icmp .ge 25, 3) := by decide +kernel
theorem d_F_appendNewLines_13 : decode um_F_appendNewLines.2.1 13 = .ok (.aload_n 0, 1) := by decide +kernel
theorem d_F_appendNewLines_14 : decode um_F_appendNewLines.2.1 14 = .ok (.getfield 12, 3) := by decide +kernel
theorem d_F_appendNewLines_17 : decode um_F_appendNewLines.2.1 17 = .ok (.aload_n 0, 1) := by decide +kernel
theorem d_F_appendNewLines_18 : decode um_F_appendNewLines.2.1 18 = .ok (.getfield 18, 3) := by decide +kernel
theorem d_F_appendNewLines_21 : decode um_F_appendNewLines.2.1 21 = .ok (.getfield 59, 3) := by decide +kernel
theorem d_F_appendNewLines_24 : decode um_F_appendNewLines.2.1 24 = .ok (.iload_n 1, 1) := by decide +kernel
theorem d_F_appendNewLines_25 : decode um_F_appendNewLines.2.1 25 = .ok (.iaload, 1) := by decide +kernel
theorem d_F_appendNewLines_26 : decode um_F_appendNewLines.2.1 26 = .ok (.invokevirtual 63, 3) := by decide +kernel
theorem d_F_appendNewLines_29 : decode um_F_appendNewLines.2.1 29 = .ok (.iinc 1 1, 3) := by decide +kernel
theorem d_F_appendNewLines_32 : decode um_F_appendNewLines.2.1 32 = .ok (.goto (-30), 3) := by decide +kernel
theorem d_F_appendNewLines_35 : decode um_F_appendNewLines.2.1 35 = .ok (.return_, 1) := by decide +kernel
theorem d_F_nearestPlace_0 : decode um_F_nearestPlace.2.1 0 = .ok (.bipush (-3), 2) := by decide +kernel
theorem d_F_nearestPlace_2 : decode um_F_nearestPlace.2.1 2 = .ok (.istore_n 3, 1) := by decide +kernel
theorem d_F_nearestPlace_3 : decode um_F_nearestPlace.2.1 3 = .ok (.iload_n 2, 1) := by decide +kernel
theorem d_F_nearestPlace_4 : decode um_F_nearestPlace.2.1 4 = .ok (.istore 4, 2) := by decide +kernel
theorem d_F_nearestPlace_6 : decode um_F_nearestPlace.2.1 6 = .ok (.iload 4, 2) := by decide +kernel
theorem d_F_nearestPlace_8 : decode um_F_nearestPlace.2.1 8 = .ok (.aload_n 1, 1) := by decide +kernel
theorem d_F_nearestPlace_9 : decode um_F_nearestPlace.2.1 9 = .ok (.getfield 22, 3) := by decide +kernel
theorem d_F_nearestPlace_12 : decode um_F_nearestPlace.2.1 12 = .ok (.aload_n 0, 1) := by decide +kernel
theorem d_F_nearestPlace_13 : decode um_F_nearestPlace.2.1 13 = .ok (.getfield 18, 3) := by decide +kernel
theorem d_F_nearestPlace_16 : decode um_F_nearestPlace.2.1 16 = .ok (.getfield 45, 3) := by decide +kernel
theorem d_F_nearestPlace_19 : decode um_F_nearestPlace.2.1 19 = .ok (.isub, 1) := by decide +kernel
theorem d_F_nearestPlace_20 : decode um_F_nearestPlace.2.1 20 = .ok (.if_icmp .gt 54, 3) := by decide +kernel
theorem d_F_nearestPlace_23 : decode um_F_nearestPlace.2.1 23 = .ok (.iload_n 3, 1) := by decide +kernel
theorem d_F_nearestPlace_24 : decode um_F_nearestPlace.2.1 24 = .ok (.bipush (-3), 2) := by decide +kernel
theorem d_F_nearestPlace_26 : decode um_F_nearestPlace.2.1 26 = .ok (.if_icmp .eq 17, 3) := by decide +kernel
theorem d_F_nearestPlace_29 : decode um_F_nearestPlace.2.1 29 = .ok (.aload_n 0, 1) := by decide +kernel
theorem d_F_nearestPlace_30 : decode um_F_nearestPlace.2.1 30 = .ok (.iload 4, 2) := by decide +kernel
theorem d_F_nearestPlace_32 : decode um_F_nearestPlace.2.1 32 = .ok (.invokevirtual 67, 3) := by decide +kernel
theorem d_F_nearestPlace_35 : decode um_F_nearestPlace.2.1 35 = .ok (.aload_n 0, 1) := by decide +kernel
theorem d_F_nearestPlace_36 : decode um_F_nearestPlace.2.1 36 = .ok (.iload_n 3, 1) := by decide +kernel
theorem d_F_nearestPlace_37 : decode um_F_nearestPlace.2.1 37 = .ok (.invokevirtual 67, 3) := by decide +kernel
theorem d_F_nearestPlace_40 : decode um_F_nearestPlace.2.1 40 = .ok (.if_icmp .ge 7, 3) := by decide +kernel
theorem d_F_nearestPlace_43 : decode um_F_nearestPlace.2.1 43 = .ok (.iconst 1, 1) := by decide +kernel
theorem d_F_nearestPlace_44 : decode um_F_nearestPlace.2.1 44 = .ok (.goto 4, 3) := by decide +kernel
theorem d_F_nearestPlace_47 : decode um_F_nearestPlace.2.1 47 = .ok (.iconst 0, 1) := by decide +kernel
theorem d_F_nearestPlace_48 : decode um_F_nearestPlace.2.1 48 = .ok (.istore 5, 2) := by decide +kernel
theorem d_F_nearestPlace_50 : decode um_F_nearestPlace.2.1 50 = .ok (.iload 5, 2) := by decide +kernel
theorem d_F_nearestPlace_52 : decode um_F_nearestPlace.2.1 52 = .ok (.ifCond .eq 16, 3) := by decide +kernel
theorem d_F_nearestPlace_55 : decode um_F_nearestPlace.2.1 55 = .ok (.aload_n 0, 1) := by decide +kernel
theorem d_F_nearestPlace_56 : decode um_F_nearestPlace.2.1 56 = .ok (.aload_n 1, 1) := by decide +kernel
theorem d_F_nearestPlace_57 : decode um_F_nearestPlace.2.1 57 = .ok (.iload 4, 2) := by decide +kernel
theorem d_F_nearestPlace_59 : decode um_F_nearestPlace.2.1 59 = .ok (.invokevirtual 71, 3) := by decide +kernel
theorem d_F_nearestPlace_62 : decode um_F_nearestPlace.2.1 62 = .ok (.ifCond .eq 6, 3) := by decide +kernel
theorem d_F_nearestPlace_65 : decode um_F_nearestPlace.2.1 65 = .ok (.iload 4, 2) := by decide +kernel
theorem d_F_nearestPlace_67 : decode um_F_nearestPlace.2.1 67 = .ok (.istore_n 3, 1) := by decide +kernel
theorem d_F_nearestPlace_68 : decode um_F_nearestPlace.2.1 68 = .ok (.iinc 4 1, 3) := by decide +kernel
theorem d_F_nearestPlace_71 : decode um_F_nearestPlace.2.1 71 = .ok (.goto (-65), 3) := by decide +kernel
theorem d_F_nearestPlace_74 : decode um_F_nearestPlace.2.1 74 = .ok (.iload_n 3, 1) := by decide +kernel
theorem d_F_nearestPlace_75 : decode um_F_nearestPlace.2.1 75 = .ok (.ireturn, 1) := by decide +kernel
theorem d_F_distance_0 : decode um_F_distance.2.1 0 = .ok (.iload_n 1, 1) := by decide +kernel
theorem d_F_distance_1 : decode um_F_distance.2.1 1 = .ok (.aload_n 0, 1) := by decide +kernel
theorem d_F_distance_2 : decode um_F_distance.2.1 2 = .ok (.getfield 18, 3) := by decide +kernel
theorem d_F_distance_5 : decode um_F_distance.2.1 5 = .ok (.getfield 75, 3) := by decide +kernel
theorem d_F_distance_8 : decode um_F_distance.2.1 8 = .ok (.isub, 1) := by decide +kernel
theorem d_F_distance_9 : decode um_F_distance.2.1 9 = .ok (.invokestatic 78, 3) := by decide +kernel
theorem d_F_distance_12 : decode um_F_distance.2.1 12 = .ok (.ireturn, 1) := by decide +kernel
theorem d_F_fitsAt_0 : decode um_F_fitsAt.2.1 0 = .ok (.iconst 0, 1) := by decide +kernel
theorem d_F_fitsAt_1 : decode um_F_fitsAt.2.1 1 = .ok (.istore_n 3, 1) := by decide +kernel
theorem d_F_fitsAt_2 : decode um_F_fitsAt.2.1 2 = .ok (.iload_n 3, 1) := by decide +kernel
theorem d_F_fitsAt_3 : decode um_F_fitsAt.2.1 3 = .ok (.aload_n 0, 1) := by decide +kernel
theorem d_F_fitsAt_4 : decode um_F_fitsAt.2.1 4 = .ok (.getfield 18, 3) := by decide +kernel
theorem d_F_fitsAt_7 : decode um_F_fitsAt.2.1 7 = .ok (.getfield 45, 3) := by decide +kernel
theorem d_F_fitsAt_10 : decode um_F_fitsAt.2.1 10 = .ok (.if_icmp .ge 31, 3) := by decide +kernel
theorem d_F_fitsAt_13 : decode um_F_fitsAt.2.1 13 = .ok (.aload_n 1, 1) := by decide +kernel
theorem d_F_fitsAt_14 : decode um_F_fitsAt.2.1 14 = .ok (.getfield 83, 3) := by decide +kernel
theorem d_F_fitsAt_17 : decode um_F_fitsAt.2.1 17 = .ok (.iload_n 2, 1) := by decide +kernel
theorem d_F_fitsAt_18 : decode um_F_fitsAt.2.1 18 = .ok (.iload_n 3, 1) := by decide +kernel
theorem d_F_fitsAt_19 : decode um_F_fitsAt.2.1 19 = .ok (.iadd, 1) := by decide +kernel
theorem d_F_fitsAt_20 : decode um_F_fitsAt.2.1 20 = .ok (.iaload, 1) := by decide +kernel
theorem d_F_fitsAt_21 : decode um_F_fitsAt.2.1 21 = .ok (.aload_n 0, 1) := by decide +kernel
theorem d_F_fitsAt_22 : decode um_F_fitsAt.2.1 22 = .ok (.getfield 18, 3) := by decide +kernel
theorem d_F_fitsAt_25 : decode um_F_fitsAt.2.1 25 = .ok (.getfield 86, 3) := by decide +kernel
theorem d_F_fitsAt_28 : decode um_F_fitsAt.2.1 28 = .ok (.iload_n 3, 1) := by decide +kernel
theorem d_F_fitsAt_29 : decode um_F_fitsAt.2.1 29 = .ok (.iaload, 1) := by decide +kernel
theorem d_F_fitsAt_30 : decode um_F_fitsAt.2.1 30 = .ok (.if_icmp .eq 5, 3) := by decide +kernel
theorem d_F_fitsAt_33 : decode um_F_fitsAt.2.1 33 = .ok (.iconst 0, 1) := by decide +kernel
theorem d_F_fitsAt_34 : decode um_F_fitsAt.2.1 34 = .ok (.ireturn, 1) := by decide +kernel
theorem d_F_fitsAt_35 : decode um_F_fitsAt.2.1 35 = .ok (.iinc 3 1, 3) := by decide +kernel
theorem d_F_fitsAt_38 : decode um_F_fitsAt.2.1 38 = .ok (.goto (-36), 3) := by decide +kernel
theorem d_F_fitsAt_41 : decode um_F_fitsAt.2.1 41 = .ok (.iconst 1, 1) := by decide +kernel
theorem d_F_fitsAt_42 : decode um_F_fitsAt.2.1 42 = .ok (.ireturn, 1) := by decide +kernel
theorem d_Q_init_0 : decode um_Q_init.2.1 0 = .ok (.aload_n 0, 1) := by decide +kernel
theorem d_Q_init_1 : decode um_Q_init.2.1 1 = .ok (.invokespecial 1, 3) := by decide +kernel
theorem d_Q_init_4 : decode um_Q_init.2.1 4 = .ok (.aload_n 0, 1) := by decide +kernel
theorem d_Q_init_5 : decode um_Q_init.2.1 5 = .ok (.aload_n 1, 1) := by decide +kernel
theorem d_Q_init_6 : decode um_Q_init.2.1 6 = .ok (.putfield 7, 3) := by decide +kernel
theorem d_Q_init_9 : decode um_Q_init.2.1 9 = .ok (.return_, 1) := by decide +kernel
theorem d_Q_skipFirmLine_0 : decode um_Q_skipFirmLine.2.1 0 = .ok (.aload_n 0, 1) := by decide +kernel
theorem d_Q_skipFirmLine_1 : decode um_Q_skipFirmLine.2.1 1 = .ok (.aload_n 0, 1) := by decide +kernel
theorem d_Q_skipFirmLine_2 : decode um_Q_skipFirmLine.2.1 2 = .ok (.getfield 13, 3) := by decide +kernel
theorem d_Q_skipFirmLine_5 : decode um_Q_skipFirmLine.2.1 5 = .ok (.iconst 1, 1) := by decide +kernel
theorem d_Q_skipFirmLine_6 : decode um_Q_skipFirmLine.2.1 6 = .ok (.iadd, 1) := by decide +kernel
theorem d_Q_skipFirmLine_7 : decode um_Q_skipFirmLine.2.1 7 = .ok (.putfield 17, 3) := by decide +kernel
theorem d_Q_skipFirmLine_10 : decode um_Q_skipFirmLine.2.1 10 = .ok (.return_, 1) := by decide +kernel
theorem d_Q_isEqualTo_0 : decode um_Q_isEqualTo.2.1 0 = .ok (.aload_n 0, 1) := by decide +kernel
theorem d_Q_isEqualTo_1 : decode um_Q_isEqualTo.2.1 1 = .ok (.getfield 13, 3) := by decide +kernel
theorem d_Q_isEqualTo_4 : decode um_Q_isEqualTo.2.1 4 = .ok (.aload_n 0, 1) := by decide +kernel
theorem d_Q_isEqualTo_5 : decode um_Q_isEqualTo.2.1 5 = .ok (.getfield 17, 3) := by decide +kernel
theorem d_Q_isEqualTo_8 : decode um_Q_isEqualTo.2.1 8 = .ok (.isub, 1) := by decide +kernel
theorem d_Q_isEqualTo_9 : decode um_Q_isEqualTo.2.1 9 = .ok (.aload_n 1, 1) := by decide +kernel
theorem d_Q_isEqualTo_10 : decode um_Q_isEqualTo.2.1 10 = .ok (.getfield 13, 3) := by decide +kernel
theorem d_Q_isEqualTo_13 : decode um_Q_isEqualTo.2.1 13 = .ok (.aload_n 1, 1) := by decide +kernel
theorem d_Q_isEqualTo_14 : decode um_Q_isEqualTo.2.1 14 = .ok (.getfield 17, 3) := by decide +kernel
theorem d_Q_isEqualTo_17 : decode um_Q_isEqualTo.2.1 17 = .ok (.isub, 1) := by decide +kernel
theorem d_Q_isEqualTo_18 : decode um_Q_isEqualTo.2.1 18 = .ok (.if_icmp .eq 5, 3) := by decide +kernel
theorem d_Q_isEqualTo_21 : decode um_Q_isEqualTo.2.1 21 = .ok (.iconst 0, 1) := by decide +kernel
theorem d_Q_isEqualTo_22 : decode um_Q_isEqualTo.2.1 22 = .ok (.ireturn, 1) := by decide +kernel
theorem d_Q_isEqualTo_23 : decode um_Q_isEqualTo.2.1 23 = .ok (.aload_n 0, 1) := by decide +kernel
theorem d_Q_isEqualTo_24 : decode um_Q_isEqualTo.2.1 24 = .ok (.getfield 17, 3) := by decide +kernel
theorem d_Q_isEqualTo_27 : decode um_Q_isEqualTo.2.1 27 = .ok (.istore_n 2, 1) := by decide +kernel
theorem d_Q_isEqualTo_28 : decode um_Q_isEqualTo.2.1 28 = .ok (.iload_n 2, 1) := by decide +kernel
theorem d_Q_isEqualTo_29 : decode um_Q_isEqualTo.2.1 29 = .ok (.aload_n 0, 1) := by decide +kernel
theorem d_Q_isEqualTo_30 : decode um_Q_isEqualTo.2.1 30 = .ok (.getfield 13, 3) := by decide +kernel
theorem d_Q_isEqualTo_33 : decode um_Q_isEqualTo.2.1 33 = .ok (.if_icmp .ge 42, 3) := by decide +kernel
theorem d_Q_isEqualTo_36 : decode um_Q_isEqualTo.2.1 36 = .ok (.aload_n 0, 1) := by decide +kernel
theorem d_Q_isEqualTo_37 : decode um_Q_isEqualTo.2.1 37 = .ok (.getfield 7, 3) := by decide +kernel
theorem d_Q_isEqualTo_40 : decode um_Q_isEqualTo.2.1 40 = .ok (.getfield 20, 3) := by decide +kernel
theorem d_Q_isEqualTo_43 : decode um_Q_isEqualTo.2.1 43 = .ok (.iload_n 2, 1) := by decide +kernel
theorem d_Q_isEqualTo_44 : decode um_Q_isEqualTo.2.1 44 = .ok (.iaload, 1) := by decide +kernel
theorem d_Q_isEqualTo_45 : decode um_Q_isEqualTo.2.1 45 = .ok (.aload_n 1, 1) := by decide +kernel
theorem d_Q_isEqualTo_46 : decode um_Q_isEqualTo.2.1 46 = .ok (.getfield 7, 3) := by decide +kernel
theorem d_Q_isEqualTo_49 : decode um_Q_isEqualTo.2.1 49 = .ok (.getfield 20, 3) := by decide +kernel
theorem d_Q_isEqualTo_52 : decode um_Q_isEqualTo.2.1 52 = .ok (.aload_n 1, 1) := by decide +kernel
theorem d_Q_isEqualTo_53 : decode um_Q_isEqualTo.2.1 53 = .ok (.getfield 17, 3) := by decide +kernel
theorem d_Q_isEqualTo_56 : decode um_Q_isEqualTo.2.1 56 = .ok (.iload_n 2, 1) := by decide +kernel
theorem d_Q_isEqualTo_57 : decode um_Q_isEqualTo.2.1 57 = .ok (.iadd, 1) := by decide +kernel
theorem d_Q_isEqualTo_58 : decode um_Q_isEqualTo.2.1 58 = .ok (.aload_n 0, 1) := by decide +kernel
theorem d_Q_isEqualTo_59 : decode um_Q_isEqualTo.2.1 59 = .ok (.getfield 17, 3) := by decide +kernel
theorem d_Q_isEqualTo_62 : decode um_Q_isEqualTo.2.1 62 = .ok (.isub, 1) := by decide +kernel
theorem d_Q_isEqualTo_63 : decode um_Q_isEqualTo.2.1 63 = .ok (.iaload, 1) := by decide +kernel
theorem d_Q_isEqualTo_64 : decode um_Q_isEqualTo.2.1 64 = .ok (.if_icmp .eq 5, 3) := by decide +kernel
theorem d_Q_isEqualTo_67 : decode um_Q_isEqualTo.2.1 67 = .ok (.iconst 0, 1) := by decide +kernel
theorem d_Q_isEqualTo_68 : decode um_Q_isEqualTo.2.1 68 = .ok (.ireturn, 1) := by decide +kernel
theorem d_Q_isEqualTo_69 : decode um_Q_isEqualTo.2.1 69 = .ok (.iinc 2 1, 3) := by decide +kernel
theorem d_Q_isEqualTo_72 : decode um_Q_isEqualTo.2.1 72 = .ok (.goto (-44), 3) := by decide +kernel
theorem d_Q_isEqualTo_75 : decode um_Q_isEqualTo.2.1 75 = .ok (.iconst 1, 1) := by decide +kernel
theorem d_Q_isEqualTo_76 : decode um_Q_isEqualTo.2.1 76 = .ok (.ireturn, 1) := by decide +kernel
theorem d_G_init_0 : decode um_G_init.2.1 0 = .ok (.aload_n 0, 1) := by decide +kernel
theorem d_G_init_1 : decode um_G_init.2.1 1 = .ok (.invokespecial 3, 3) := by decide +kernel
theorem d_G_init_4 : decode um_G_init.2.1 4 = .ok (.aload_n 0, 1) := by decide +kernel
theorem d_G_init_5 : decode um_G_init.2.1 5 = .ok (.new 9, 3) := by decide +kernel
theorem d_G_init_8 : decode um_G_init.2.1 8 = .ok (.dup, 1) := by decide +kernel
theorem d_G_init_9 : decode um_G_init.2.1 9 = .ok (.invokespecial 11, 3) := by decide +kernel
theorem d_G_init_12 : decode um_G_init.2.1 12 = .ok (.putfield 12, 3) := by decide +kernel
theorem d_G_init_15 : decode um_G_init.2.1 15 = .ok (.aload_n 0, 1) := by decide +kernel
theorem d_G_init_16 : decode um_G_init.2.1 16 = .ok (.new 9, 3) := by decide +kernel
theorem d_G_init_19 : decode um_G_init.2.1 19 = .ok (.dup, 1) := by decide +kernel
theorem d_G_init_20 : decode um_G_init.2.1 20 = .ok (.invokespecial 11, 3) := by decide +kernel
theorem d_G_init_23 : decode um_G_init.2.1 23 = .ok (.putfield 18, 3) := by decide +kernel
theorem d_G_init_26 : decode um_G_init.2.1 26 = .ok (.aload_n 0, 1) := by decide +kernel
theorem d_G_init_27 : decode um_G_init.2.1 27 = .ok (.new 21, 3) := by decide +kernel
theorem d_G_init_30 : decode um_G_init.2.1 30 = .ok (.dup, 1) := by decide +kernel
theorem d_G_init_31 : decode um_G_init.2.1 31 = .ok (.aload_n 0, 1) := by decide +kernel
theorem d_G_init_32 : decode um_G_init.2.1 32 = .ok (.getfield 12, 3) := by decide +kernel
theorem d_G_init_35 : decode um_G_init.2.1 35 = .ok (.getfield 23, 3) := by decide +kernel
theorem d_G_init_38 : decode um_G_init.2.1 38 = .ok (.invokespecial 27, 3) := by decide +kernel
theorem d_G_init_41 : decode um_G_init.2.1 41 = .ok (.putfield 30, 3) := by decide +kernel
theorem d_G_init_44 : decode um_G_init.2.1 44 = .ok (.aload_n 0, 1) := by decide +kernel
theorem d_G_init_45 : decode um_G_init.2.1 45 = .ok (.new 21, 3) := by decide +kernel
theorem d_G_init_48 : decode um_G_init.2.1 48 = .ok (.dup, 1) := by decide +kernel
theorem d_G_init_49 : decode um_G_init.2.1 49 = .ok (.aload_n 0, 1) := by decide +kernel
theorem d_G_init_50 : decode um_G_init.2.1 50 = .ok (.getfield 12, 3) := by decide +kernel
theorem d_G_init_53 : decode um_G_init.2.1 53 = .ok (.getfield 34, 3) := by decide +kernel
theorem d_G_init_56 : decode um_G_init.2.1 56 = .ok (.invokespecial 27, 3) := by decide +kernel
theorem d_G_init_59 : decode um_G_init.2.1 59 = .ok (.putfield 37, 3) := by decide +kernel
theorem d_G_init_62 : decode um_G_init.2.1 62 = .ok (.aload_n 0, 1) := by decide +kernel
theorem d_G_init_63 : decode um_G_init.2.1 63 = .ok (.new 21, 3) := by decide +kernel
theorem d_G_init_66 : decode um_G_init.2.1 66 = .ok (.dup, 1) := by decide +kernel
theorem d_G_init_67 : decode um_G_init.2.1 67 = .ok (.aload_n 0, 1) := by decide +kernel
theorem d_G_init_68 : decode um_G_init.2.1 68 = .ok (.getfield 18, 3) := by decide +kernel
theorem d_G_init_71 : decode um_G_init.2.1 71 = .ok (.getfield 34, 3) := by decide +kernel
theorem d_G_init_74 : decode um_G_init.2.1 74 = .ok (.invokespecial 27, 3) := by decide +kernel
theorem d_G_init_77 : decode um_G_init.2.1 77 = .ok (.putfield 40, 3) := by decide +kernel
theorem d_G_init_80 : decode um_G_init.2.1 80 = .ok (.aload_n 0, 1) := by decide +kernel
theorem d_G_init_81 : decode um_G_init.2.1 81 = .ok (.new 43, 3) := by decide +kernel
theorem d_G_init_84 : decode um_G_init.2.1 84 = .ok (.dup, 1) := by decide +kernel
theorem d_G_init_85 : decode um_G_init.2.1 85 = .ok (.invokespecial 45, 3) := by decide +kernel
theorem d_G_init_88 : decode um_G_init.2.1 88 = .ok (.putfield 46, 3) := by decide +kernel
theorem d_G_init_91 : decode um_G_init.2.1 91 = .ok (.aload_n 0, 1) := by decide +kernel
theorem d_G_init_92 : decode um_G_init.2.1 92 = .ok (.aload_n 1, 1) := by decide +kernel
theorem d_G_init_93 : decode um_G_init.2.1 93 = .ok (.putfield 49, 3) := by decide +kernel
theorem d_G_init_96 : decode um_G_init.2.1 96 = .ok (.return_, 1) := by decide +kernel
theorem d_G_bringTogether_0 : decode um_G_bringTogether.2.1 0 = .ok (.aload_n 0, 1) := by decide +kernel
theorem d_G_bringTogether_1 : decode um_G_bringTogether.2.1 1 = .ok (.getfield 12, 3) := by decide +kernel
theorem d_G_bringTogether_4 : decode um_G_bringTogether.2.1 4 = .ok (.aload_n 1, 1) := by decide +kernel
theorem d_G_bringTogether_5 : decode um_G_bringTogether.2.1 5 = .ok (.aload_n 2, 1) := by decide +kernel
theorem d_G_bringTogether_6 : decode um_G_bringTogether.2.1 6 = .ok (.invokevirtual 53, 3) := by decide +kernel
theorem d_G_bringTogether_9 : decode um_G_bringTogether.2.1 9 = .ok (.aload_n 0, 1) := by decide +kernel
theorem d_G_bringTogether_10 : decode um_G_bringTogether.2.1 10 = .ok (.getfield 49, 3) := by decide +kernel
theorem d_G_bringTogether_13 : decode um_G_bringTogether.2.1 13 = .ok (.aload_n 0, 1) := by decide +kernel
theorem d_G_bringTogether_14 : decode um_G_bringTogether.2.1 14 = .ok (.getfield 12, 3) := by decide +kernel
theorem d_G_bringTogether_17 : decode um_G_bringTogether.2.1 17 = .ok (.invokevirtual 57, 3) := by decide +kernel
theorem d_G_bringTogether_20 : decode um_G_bringTogether.2.1 20 = .ok (.aload_n 0, 1) := by decide +kernel
theorem d_G_bringTogether_21 : decode um_G_bringTogether.2.1 21 = .ok (.getfield 18, 3) := by decide +kernel
theorem d_G_bringTogether_24 : decode um_G_bringTogether.2.1 24 = .ok (.aload_n 1, 1) := by decide +kernel
theorem d_G_bringTogether_25 : decode um_G_bringTogether.2.1 25 = .ok (.aload_n 3, 1) := by decide +kernel
theorem d_G_bringTogether_26 : decode um_G_bringTogether.2.1 26 = .ok (.invokevirtual 53, 3) := by decide +kernel
theorem d_G_bringTogether_29 : decode um_G_bringTogether.2.1 29 = .ok (.aload_n 0, 1) := by decide +kernel
theorem d_G_bringTogether_30 : decode um_G_bringTogether.2.1 30 = .ok (.getfield 49, 3) := by decide +kernel
theorem d_G_bringTogether_33 : decode um_G_bringTogether.2.1 33 = .ok (.aload_n 0, 1) := by decide +kernel
theorem d_G_bringTogether_34 : decode um_G_bringTogether.2.1 34 = .ok (.getfield 18, 3) := by decide +kernel
theorem d_G_bringTogether_37 : decode um_G_bringTogether.2.1 37 = .ok (.invokevirtual 57, 3) := by decide +kernel
theorem d_G_bringTogether_40 : decode um_G_bringTogether.2.1 40 = .ok (.aload_n 0, 1) := by decide +kernel
theorem d_G_bringTogether_41 : decode um_G_bringTogether.2.1 41 = .ok (.getfield 30, 3) := by decide +kernel
theorem d_G_bringTogether_44 : decode um_G_bringTogether.2.1 44 = .ok (.iconst 0, 1) := by decide +kernel
theorem d_G_bringTogether_45 : decode um_G_bringTogether.2.1 45 = .ok (.putfield 63, 3) := by decide +kernel
theorem d_G_bringTogether_48 : decode um_G_bringTogether.2.1 48 = .ok (.aload_n 0, 1) := by decide +kernel
theorem d_G_bringTogether_49 : decode um_G_bringTogether.2.1 49 = .ok (.getfield 37, 3) := by decide +kernel
theorem d_G_bringTogether_52 : decode um_G_bringTogether.2.1 52 = .ok (.iconst 0, 1) := by decide +kernel
theorem d_G_bringTogether_53 : decode um_G_bringTogether.2.1 53 = .ok (.putfield 63, 3) := by decide +kernel
theorem d_G_bringTogether_56 : decode um_G_bringTogether.2.1 56 = .ok (.aload_n 0, 1) := by decide +kernel
theorem d_G_bringTogether_57 : decode um_G_bringTogether.2.1 57 = .ok (.getfield 40, 3) := by decide +kernel
theorem d_G_bringTogether_60 : decode um_G_bringTogether.2.1 60 = .ok (.iconst 0, 1) := by decide +kernel
theorem d_G_bringTogether_61 : decode um_G_bringTogether.2.1 61 = .ok (.putfield 63, 3) := by decide +kernel
theorem d_G_bringTogether_64 : decode um_G_bringTogether.2.1 64 = .ok (.aload_n 0, 1) := by decide +kernel
theorem d_G_bringTogether_65 : decode um_G_bringTogether.2.1 65 = .ok (.getfield 46, 3) := by decide +kernel
theorem d_G_bringTogether_68 : decode um_G_bringTogether.2.1 68 = .ok (.iconst 0, 1) := by decide +kernel
theorem d_G_bringTogether_69 : decode um_G_bringTogether.2.1 69 = .ok (.putfield 67, 3) := by decide +kernel
theorem d_G_bringTogether_72 : decode um_G_bringTogether.2.1 72 = .ok (.aload_n 0, 1) := by decide +kernel
theorem d_G_bringTogether_73 : decode um_G_bringTogether.2.1 73 = .ok (.iconst 0, 1) := by decide +kernel
theorem d_G_bringTogether_74 : decode um_G_bringTogether.2.1 74 = .ok (.putfield 70, 3) := by decide +kernel
theorem d_G_bringTogether_77 : decode um_G_bringTogether.2.1 77 = .ok (.aload_n 0, 1) := by decide +kernel
theorem d_G_bringTogether_78 : decode um_G_bringTogether.2.1 78 = .ok (.iconst 0, 1) := by decide +kernel
theorem d_G_bringTogether_79 : decode um_G_bringTogether.2.1 79 = .ok (.putfield 73, 3) := by decide +kernel
theorem d_G_bringTogether_82 : decode um_G_bringTogether.2.1 82 = .ok (.iconst 0, 1) := by decide +kernel
theorem d_G_bringTogether_83 : decode um_G_bringTogether.2.1 83 = .ok (.istore 4, 2) := by decide +kernel
theorem d_G_bringTogether_85 : decode um_G_bringTogether.2.1 85 = .ok (.iload 4, 2) := by decide +kernel
theorem d_G_bringTogether_87 : decode um_G_bringTogether.2.1 87 = .ok (.aload_n 1, 1) := by decide +kernel
theorem d_G_bringTogether_88 : decode um_G_bringTogether.2.1 88 = .ok (.getfield 67, 3) := by decide +kernel
theorem d_G_bringTogether_91 : decode um_G_bringTogether.2.1 91 = .ok (.if_icmp .ge 72, 3) := by decide +kernel
theorem d_G_bringTogether_94 : decode um_G_bringTogether.2.1 94 = .ok (.aload_n 0, 1) := by decide +kernel
theorem d_G_bringTogether_95 : decode um_G_bringTogether.2.1 95 = .ok (.getfield 12, 3) := by decide +kernel
theorem d_G_bringTogether_98 : decode um_G_bringTogether.2.1 98 = .ok (.iload 4, 2) := by decide +kernel
theorem d_G_bringTogether_100 : decode um_G_bringTogether.2.1 100 = .ok (.invokevirtual 76, 3) := by decide +kernel
theorem d_G_bringTogether_103 : decode um_G_bringTogether.2.1 103 = .ok (.bipush (-3), 2) := by decide +kernel
theorem d_G_bringTogether_105 : decode um_G_bringTogether.2.1 105 = .ok (.if_icmp .eq 52, 3) := by decide +kernel
theorem d_G_bringTogether_108 : decode um_G_bringTogether.2.1 108 = .ok (.aload_n 0, 1) := by decide +kernel
theorem d_G_bringTogether_109 : decode um_G_bringTogether.2.1 109 = .ok (.getfield 18, 3) := by decide +kernel
theorem d_G_bringTogether_112 : decode um_G_bringTogether.2.1 112 = .ok (.iload 4, 2) := by decide +kernel
theorem d_G_bringTogether_114 : decode um_G_bringTogether.2.1 114 = .ok (.invokevirtual 76, 3) := by decide +kernel
theorem d_G_bringTogether_117 : decode um_G_bringTogether.2.1 117 = .ok (.bipush (-3), 2) := by decide +kernel
theorem d_G_bringTogether_119 : decode um_G_bringTogether.2.1 119 = .ok (.if_icmp .eq 38, 3) := by decide +kernel
theorem d_G_bringTogether_122 : decode um_G_bringTogether.2.1 122 = .ok (.aload_n 0, 1) := by decide +kernel
theorem d_G_bringTogether_123 : decode um_G_bringTogether.2.1 123 = .ok (.iload 4, 2) := by decide +kernel
theorem d_G_bringTogether_125 : decode um_G_bringTogether.2.1 125 = .ok (.aload_n 0, 1) := by decide +kernel
theorem d_G_bringTogether_126 : decode um_G_bringTogether.2.1 126 = .ok (.getfield 12, 3) := by decide +kernel
theorem d_G_bringTogether_129 : decode um_G_bringTogether.2.1 129 = .ok (.iload 4, 2) := by decide +kernel
theorem d_G_bringTogether_131 : decode um_G_bringTogether.2.1 131 = .ok (.invokevirtual 76, 3) := by decide +kernel
theorem d_G_bringTogether_134 : decode um_G_bringTogether.2.1 134 = .ok (.aload_n 0, 1) := by decide +kernel
theorem d_G_bringTogether_135 : decode um_G_bringTogether.2.1 135 = .ok (.getfield 18, 3) := by decide +kernel
theorem d_G_bringTogether_138 : decode um_G_bringTogether.2.1 138 = .ok (.iload 4, 2) := by decide +kernel
theorem d_G_bringTogether_140 : decode um_G_bringTogether.2.1 140 = .ok (.invokevirtual 76, 3) := by decide +kernel
theorem d_G_bringTogether_143 : decode um_G_bringTogether.2.1 143 = .ok (.invokevirtual 80, 3) := by decide +kernel
theorem d_G_bringTogether_146 : decode um_G_bringTogether.2.1 146 = .ok (.aload_n 0, 1) := by decide +kernel
theorem d_G_bringTogether_147 : decode um_G_bringTogether.2.1 147 = .ok (.aload_n 1, 1) := by decide +kernel
theorem d_G_bringTogether_148 : decode um_G_bringTogether.2.1 148 = .ok (.getfield 84, 3) := by decide +kernel
theorem d_G_bringTogether_151 : decode um_G_bringTogether.2.1 151 = .ok (.iload 4, 2) := by decide +kernel
theorem d_G_bringTogether_153 : decode um_G_bringTogether.2.1 153 = .ok (.iaload, 1) := by decide +kernel
theorem d_G_bringTogether_154 : decode um_G_bringTogether.2.1 154 = .ok (.invokevirtual 88, 3) := by decide +kernel
theorem d_G_bringTogether_157 : decode um_G_bringTogether.2.1 157 = .ok (.iinc 4 1, 3) := by decide +kernel
theorem d_G_bringTogether_160 : decode um_G_bringTogether.2.1 160 = .ok (.goto (-75), 3) := by decide +kernel
theorem d_G_bringTogether_163 : decode um_G_bringTogether.2.1 163 = .ok (.aload_n 0, 1) := by decide +kernel
theorem d_G_bringTogether_164 : decode um_G_bringTogether.2.1 164 = .ok (.aload_n 1, 1) := by decide +kernel
theorem d_G_bringTogether_165 : decode um_G_bringTogether.2.1 165 = .ok (.getfield 67, 3) := by decide +kernel
theorem d_G_bringTogether_168 : decode um_G_bringTogether.2.1 168 = .ok (.aload_n 2, 1) := by decide +kernel
theorem d_G_bringTogether_169 : decode um_G_bringTogether.2.1 169 = .ok (.getfield 67, 3) := by decide +kernel
theorem d_G_bringTogether_172 : decode um_G_bringTogether.2.1 172 = .ok (.aload_n 3, 1) := by decide +kernel
theorem d_G_bringTogether_173 : decode um_G_bringTogether.2.1 173 = .ok (.getfield 67, 3) := by decide +kernel
theorem d_G_bringTogether_176 : decode um_G_bringTogether.2.1 176 = .ok (.invokevirtual 80, 3) := by decide +kernel
theorem d_G_bringTogether_179 : decode um_G_bringTogether.2.1 179 = .ok (.aload_n 0, 1) := by decide +kernel
theorem d_G_bringTogether_180 : decode um_G_bringTogether.2.1 180 = .ok (.getfield 73, 3) := by decide +kernel
theorem d_G_bringTogether_183 : decode um_G_bringTogether.2.1 183 = .ok (.ireturn, 1) := by decide +kernel
theorem d_G_handOver_0 : decode um_G_handOver.2.1 0 = .ok (.aload_n 0, 1) := by decide +kernel
theorem d_G_handOver_1 : decode um_G_handOver.2.1 1 = .ok (.getfield 70, 3) := by decide +kernel
theorem d_G_handOver_4 : decode um_G_handOver.2.1 4 = .ok (.bipush 24, 2) := by decide +kernel
theorem d_G_handOver_6 : decode um_G_handOver.2.1 6 = .ok (.if_icmp .le 5, 3) := by decide +kernel
theorem d_G_handOver_9 : decode um_G_handOver.2.1 9 = .ok (.iconst 0, 1) := by decide +kernel
theorem d_G_handOver_10 : decode um_G_handOver.2.1 10 = .ok (.ireturn, 1) := by decide +kernel
theorem d_G_handOver_11 : decode um_G_handOver.2.1 11 = .ok (.aload_n 1, 1) := by decide +kernel
theorem d_G_handOver_12 : decode um_G_handOver.2.1 12 = .ok (.aload_n 0, 1) := by decide +kernel
theorem d_G_handOver_13 : decode um_G_handOver.2.1 13 = .ok (.getfield 46, 3) := by decide +kernel
theorem d_G_handOver_16 : decode um_G_handOver.2.1 16 = .ok (.invokevirtual 92, 3) := by decide +kernel
theorem d_G_handOver_19 : decode um_G_handOver.2.1 19 = .ok (.iconst 1, 1) := by decide +kernel
theorem d_G_handOver_20 : decode um_G_handOver.2.1 20 = .ok (.ireturn, 1) := by decide +kernel
theorem d_G_settleParts_0 : decode um_G_settleParts.2.1 0 = .ok (.aload_n 0, 1) := by decide +kernel
theorem d_G_settleParts_1 : decode um_G_settleParts.2.1 1 = .ok (.getfield 30, 3) := by decide +kernel
theorem d_G_settleParts_4 : decode um_G_settleParts.2.1 4 = .ok (.iload_n 1, 1) := by decide +kernel
theorem d_G_settleParts_5 : decode um_G_settleParts.2.1 5 = .ok (.putfield 95, 3) := by decide +kernel
theorem d_G_settleParts_8 : decode um_G_settleParts.2.1 8 = .ok (.aload_n 0, 1) := by decide +kernel
theorem d_G_settleParts_9 : decode um_G_settleParts.2.1 9 = .ok (.getfield 37, 3) := by decide +kernel
theorem d_G_settleParts_12 : decode um_G_settleParts.2.1 12 = .ok (.iload_n 2, 1) := by decide +kernel
theorem d_G_settleParts_13 : decode um_G_settleParts.2.1 13 = .ok (.putfield 95, 3) := by decide +kernel
theorem d_G_settleParts_16 : decode um_G_settleParts.2.1 16 = .ok (.aload_n 0, 1) := by decide +kernel
theorem d_G_settleParts_17 : decode um_G_settleParts.2.1 17 = .ok (.getfield 40, 3) := by decide +kernel
theorem d_G_settleParts_20 : decode um_G_settleParts.2.1 20 = .ok (.iload_n 3, 1) := by decide +kernel
theorem d_G_settleParts_21 : decode um_G_settleParts.2.1 21 = .ok (.putfield 95, 3) := by decide +kernel
theorem d_G_settleParts_24 : decode um_G_settleParts.2.1 24 = .ok (.aload_n 0, 1) := by decide +kernel
theorem d_G_settleParts_25 : decode um_G_settleParts.2.1 25 = .ok (.getfield 37, 3) := by decide +kernel
theorem d_G_settleParts_28 : decode um_G_settleParts.2.1 28 = .ok (.aload_n 0, 1) := by decide +kernel
theorem d_G_settleParts_29 : decode um_G_settleParts.2.1 29 = .ok (.getfield 30, 3) := by decide +kernel
theorem d_G_settleParts_32 : decode um_G_settleParts.2.1 32 = .ok (.invokevirtual 98, 3) := by decide +kernel
theorem d_G_settleParts_35 : decode um_G_settleParts.2.1 35 = .ok (.ifCond .eq 14, 3) := by decide +kernel
theorem d_G_settleParts_38 : decode um_G_settleParts.2.1 38 = .ok (.aload_n 0, 1) := by decide +kernel
theorem d_G_settleParts_39 : decode um_G_settleParts.2.1 39 = .ok (.aload_n 0, 1) := by decide +kernel
theorem d_G_settleParts_40 : decode um_G_settleParts.2.1 40 = .ok (.getfield 40, 3) := by decide +kernel
theorem d_G_settleParts_43 : decode um_G_settleParts.2.1 43 = .ok (.invokevirtual 102, 3) := by decide +kernel
theorem d_G_settleParts_46 : decode um_G_settleParts.2.1 46 = .ok (.goto 46, 3) := by decide +kernel
theorem d_G_settleParts_49 : decode um_G_settleParts.2.1 49 = .ok (.aload_n 0, 1) := by decide +kernel
theorem d_G_settleParts_50 : decode um_G_settleParts.2.1 50 = .ok (.getfield 40, 3) := by decide +kernel
theorem d_G_settleParts_53 : decode um_G_settleParts.2.1 53 = .ok (.aload_n 0, 1) := by decide +kernel
theorem d_G_settleParts_54 : decode um_G_settleParts.2.1 54 = .ok (.getfield 30, 3) := by decide +kernel
theorem d_G_settleParts_57 : decode um_G_settleParts.2.1 57 = .ok (.invokevirtual 98, 3) := by decide +kernel
theorem d_G_settleParts_60 : decode um_G_settleParts.2.1 60 = .ok (.ifCond .ne 17, 3) := by decide +kernel
theorem d_G_settleParts_63 : decode um_G_settleParts.2.1 63 = .ok (.aload_n 0, 1) := by decide +kernel
theorem d_G_settleParts_64 : decode um_G_settleParts.2.1 64 = .ok (.getfield 40, 3) := by decide +kernel
theorem d_G_settleParts_67 : decode um_G_settleParts.2.1 67 = .ok (.aload_n 0, 1) := by decide +kernel
theorem d_G_settleParts_68 : decode um_G_settleParts.2.1 68 = .ok (.getfield 37, 3) := by decide +kernel
theorem d_G_settleParts_71 : decode um_G_settleParts.2.1 71 = .ok (.invokevirtual 98, 3) := by decide +kernel
theorem d_G_settleParts_74 : decode um_G_settleParts.2.1 74 = .ok (.ifCond .eq 14, 3) := by decide +kernel
theorem d_G_settleParts_77 : decode um_G_settleParts.2.1 77 = .ok (.aload_n 0, 1) := by decide +kernel
theorem d_G_settleParts_78 : decode um_G_settleParts.2.1 78 = .ok (.aload_n 0, 1) := by decide +kernel
theorem d_G_settleParts_79 : decode um_G_settleParts.2.1 79 = .ok (.getfield 37, 3) := by decide +kernel
theorem d_G_settleParts_82 : decode um_G_settleParts.2.1 82 = .ok (.invokevirtual 102, 3) := by decide +kernel
theorem d_G_settleParts_85 : decode um_G_settleParts.2.1 85 = .ok (.goto 7, 3) := by decide +kernel
theorem d_G_settleParts_88 : decode um_G_settleParts.2.1 88 = .ok (.aload_n 0, 1) := by decide +kernel
theorem d_G_settleParts_89 : decode um_G_settleParts.2.1 89 = .ok (.invokevirtual 106, 3) := by decide +kernel
theorem d_G_settleParts_92 : decode um_G_settleParts.2.1 92 = .ok (.aload_n 0, 1) := by decide +kernel
theorem d_G_settleParts_93 : decode um_G_settleParts.2.1 93 = .ok (.getfield 30, 3) := by decide +kernel
theorem d_G_settleParts_96 : decode um_G_settleParts.2.1 96 = .ok (.invokevirtual 109, 3) := by decide +kernel
theorem d_G_settleParts_99 : decode um_G_settleParts.2.1 99 = .ok (.aload_n 0, 1) := by decide +kernel
theorem d_G_settleParts_100 : decode um_G_settleParts.2.1 100 = .ok (.getfield 37, 3) := by decide +kernel
theorem d_G_settleParts_103 : decode um_G_settleParts.2.1 103 = .ok (.invokevirtual 109, 3) := by decide +kernel
theorem d_G_settleParts_106 : decode um_G_settleParts.2.1 106 = .ok (.aload_n 0, 1) := by decide +kernel
theorem d_G_settleParts_107 : decode um_G_settleParts.2.1 107 = .ok (.getfield 40, 3) := by decide +kernel
theorem d_G_settleParts_110 : decode um_G_settleParts.2.1 110 = .ok (.invokevirtual 109, 3) := by decide +kernel
theorem d_G_settleParts_113 : decode um_G_settleParts.2.1 113 = .ok (.return_, 1) := by decide +kernel
theorem d_G_putConflict_0 : decode um_G_putConflict.2.1 0 = .ok (.aload_n 0, 1) := by decide +kernel
theorem d_G_putConflict_1 : decode um_G_putConflict.2.1 1 = .ok (.dup, 1) := by decide +kernel
theorem d_G_putConflict_2 : decode um_G_putConflict.2.1 2 = .ok (.getfield 73, 3) := by decide +kernel
theorem d_G_putConflict_5 : decode um_G_putConflict.2.1 5 = .ok (.iconst 1, 1) := by decide +kernel
theorem d_G_putConflict_6 : decode um_G_putConflict.2.1 6 = .ok (.iadd, 1) := by decide +kernel
theorem d_G_putConflict_7 : decode um_G_putConflict.2.1 7 = .ok (.putfield 73, 3) := by decide +kernel
theorem d_G_putConflict_10 : decode um_G_putConflict.2.1 10 = .ok (.aload_n 0, 1) := by decide +kernel
theorem d_G_putConflict_11 : decode um_G_putConflict.2.1 11 = .ok (.bipush 60, 2) := by decide +kernel
theorem d_G_putConflict_13 : decode um_G_putConflict.2.1 13 = .ok (.invokevirtual 88, 3) := by decide +kernel
theorem d_G_putConflict_16 : decode um_G_putConflict.2.1 16 = .ok (.aload_n 0, 1) := by decide +kernel
theorem d_G_putConflict_17 : decode um_G_putConflict.2.1 17 = .ok (.aload_n 0, 1) := by decide +kernel
theorem d_G_putConflict_18 : decode um_G_putConflict.2.1 18 = .ok (.getfield 37, 3) := by decide +kernel
theorem d_G_putConflict_21 : decode um_G_putConflict.2.1 21 = .ok (.invokevirtual 102, 3) := by decide +kernel
theorem d_G_putConflict_24 : decode um_G_putConflict.2.1 24 = .ok (.aload_n 0, 1) := by decide +kernel
theorem d_G_putConflict_25 : decode um_G_putConflict.2.1 25 = .ok (.bipush 61, 2) := by decide +kernel
theorem d_G_putConflict_27 : decode um_G_putConflict.2.1 27 = .ok (.invokevirtual 88, 3) := by decide +kernel
theorem d_G_putConflict_30 : decode um_G_putConflict.2.1 30 = .ok (.aload_n 0, 1) := by decide +kernel
theorem d_G_putConflict_31 : decode um_G_putConflict.2.1 31 = .ok (.aload_n 0, 1) := by decide +kernel
theorem d_G_putConflict_32 : decode um_G_putConflict.2.1 32 = .ok (.getfield 40, 3) := by decide +kernel
theorem d_G_putConflict_35 : decode um_G_putConflict.2.1 35 = .ok (.invokevirtual 102, 3) := by decide +kernel
theorem d_G_putConflict_38 : decode um_G_putConflict.2.1 38 = .ok (.aload_n 0, 1) := by decide +kernel
theorem d_G_putConflict_39 : decode um_G_putConflict.2.1 39 = .ok (.bipush 62, 2) := by decide +kernel
theorem d_G_putConflict_41 : decode um_G_putConflict.2.1 41 = .ok (.invokevirtual 88, 3) := by decide +kernel
theorem d_G_putConflict_44 : decode um_G_putConflict.2.1 44 = .ok (.return_, 1) := by decide +kernel
theorem d_G_putPart_0 : decode um_G_putPart.2.1 0 = .ok (.aload_n 1, 1) := by decide +kernel
theorem d_G_putPart_1 : decode um_G_putPart.2.1 1 = .ok (.getfield 63, 3) := by decide +kernel
theorem d_G_putPart_4 : decode um_G_putPart.2.1 4 = .ok (.istore_n 2, 1) := by decide +kernel
theorem d_G_putPart_5 : decode um_G_putPart.2.1 5 = .ok (.iload_n 2, 1) := by decide +kernel
theorem d_G_putPart_6 : decode um_G_putPart.2.1 6 = .ok (.aload_n 1, 1) := by decide +kernel
theorem d_G_putPart_7 : decode um_G_putPart.2.1 7 = .ok (.getfield 95, 3) := by decide +kernel
theorem d_G_putPart_10 : decode um_G_putPart.2.1 10 = .ok (.if_icmp .ge 22, 3) := by decide +kernel
theorem d_G_putPart_13 : decode um_G_putPart.2.1 13 = .ok (.aload_n 0, 1) := by decide +kernel
theorem d_G_putPart_14 : decode um_G_putPart.2.1 14 = .ok (.aload_n 1, 1) := by decide +kernel
theorem d_G_putPart_15 : decode um_G_putPart.2.1 15 = .ok (.getfield 112, 3) := by decide +kernel
theorem d_G_putPart_18 : decode um_G_putPart.2.1 18 = .ok (.getfield 84, 3) := by decide +kernel
theorem d_G_putPart_21 : decode um_G_putPart.2.1 21 = .ok (.iload_n 2, 1) := by decide +kernel
theorem d_G_putPart_22 : decode um_G_putPart.2.1 22 = .ok (.iaload, 1) := by decide +kernel
theorem d_G_putPart_23 : decode um_G_putPart.2.1 23 = .ok (.invokevirtual 88, 3) := by decide +kernel
theorem d_G_putPart_26 : decode um_G_putPart.2.1 26 = .ok (.iinc 2 1, 3) := by decide +kernel
theorem d_G_putPart_29 : decode um_G_putPart.2.1 29 = .ok (.goto (-24), 3) := by decide +kernel
theorem d_G_putPart_32 : decode um_G_putPart.2.1 32 = .ok (.return_, 1) := by decide +kernel
theorem d_G_put_0 : decode um_G_put.2.1 0 = .ok (.aload_n 0, 1) := by decide +kernel
theorem d_G_put_1 : decode um_G_put.2.1 1 = .ok (.getfield 46, 3) := by decide +kernel
theorem d_G_put_4 : decode um_G_put.2.1 4 = .ok (.iload_n 1, 1) := by decide +kernel
theorem d_G_put_5 : decode um_G_put.2.1 5 = .ok (.invokevirtual 115, 3) := by decide +kernel
theorem d_G_put_8 : decode um_G_put.2.1 8 = .ok (.aload_n 0, 1) := by decide +kernel
theorem d_G_put_9 : decode um_G_put.2.1 9 = .ok (.dup, 1) := by decide +kernel
theorem d_G_put_10 : decode um_G_put.2.1 10 = .ok (.getfield 70, 3) := by decide +kernel
theorem d_G_put_13 : decode um_G_put.2.1 13 = .ok (.iconst 1, 1) := by decide +kernel
theorem d_G_put_14 : decode um_G_put.2.1 14 = .ok (.iadd, 1) := by decide +kernel
theorem d_G_put_15 : decode um_G_put.2.1 15 = .ok (.putfield 70, 3) := by decide +kernel
theorem d_G_put_18 : decode um_G_put.2.1 18 = .ok (.return_, 1) := by decide +kernel
theorem d_M_init_0 : decode um_M_init.2.1 0 = .ok (.aload_n 0, 1) := by decide +kernel
theorem d_M_init_1 : decode um_M_init.2.1 1 = .ok (.invokespecial 1, 3) := by decide +kernel
theorem d_M_init_4 : decode um_M_init.2.1 4 = .ok (.aload_n 0, 1) := by decide +kernel
theorem d_M_init_5 : decode um_M_init.2.1 5 = .ok (.bipush 96, 2) := by decide +kernel
theorem d_M_init_7 : decode um_M_init.2.1 7 = .ok (.newarray .int, 2) := by decide +kernel
theorem d_M_init_9 : decode um_M_init.2.1 9 = .ok (.putfield 7, 3) := by decide +kernel
theorem d_M_init_12 : decode um_M_init.2.1 12 = .ok (.aload_n 0, 1) := by decide +kernel
theorem d_M_init_13 : decode um_M_init.2.1 13 = .ok (.iconst 4, 1) := by decide +kernel
theorem d_M_init_14 : decode um_M_init.2.1 14 = .ok (.newarray .int, 2) := by decide +kernel
theorem d_M_init_16 : decode um_M_init.2.1 16 = .ok (.putfield 13, 3) := by decide +kernel
theorem d_M_init_19 : decode um_M_init.2.1 19 = .ok (.aload_n 0, 1) := by decide +kernel
theorem d_M_init_20 : decode um_M_init.2.1 20 = .ok (.bipush 24, 2) := by decide +kernel
theorem d_M_init_22 : decode um_M_init.2.1 22 = .ok (.newarray .int, 2) := by decide +kernel
theorem d_M_init_24 : decode um_M_init.2.1 24 = .ok (.putfield 16, 3) := by decide +kernel
theorem d_M_init_27 : decode um_M_init.2.1 27 = .ok (.aload_n 0, 1) := by decide +kernel
theorem d_M_init_28 : decode um_M_init.2.1 28 = .ok (.bipush 24, 2) := by decide +kernel
theorem d_M_init_30 : decode um_M_init.2.1 30 = .ok (.newarray .int, 2) := by decide +kernel
theorem d_M_init_32 : decode um_M_init.2.1 32 = .ok (.putfield 19, 3) := by decide +kernel
theorem d_M_init_35 : decode um_M_init.2.1 35 = .ok (.aload_n 0, 1) := by decide +kernel
theorem d_M_init_36 : decode um_M_init.2.1 36 = .ok (.bipush 24, 2) := by decide +kernel
theorem d_M_init_38 : decode um_M_init.2.1 38 = .ok (.newarray .int, 2) := by decide +kernel
theorem d_M_init_40 : decode um_M_init.2.1 40 = .ok (.putfield 22, 3) := by decide +kernel
theorem d_M_init_43 : decode um_M_init.2.1 43 = .ok (.aload_n 0, 1) := by decide +kernel
theorem d_M_init_44 : decode um_M_init.2.1 44 = .ok (.sipush 625, 3) := by decide +kernel
theorem d_M_init_47 : decode um_M_init.2.1 47 = .ok (.newarray .int, 2) := by decide +kernel
theorem d_M_init_49 : decode um_M_init.2.1 49 = .ok (.putfield 25, 3) := by decide +kernel
theorem d_M_init_52 : decode um_M_init.2.1 52 = .ok (.aload_n 0, 1) := by decide +kernel
theorem d_M_init_53 : decode um_M_init.2.1 53 = .ok (.bipush 60, 2) := by decide +kernel
theorem d_M_init_55 : decode um_M_init.2.1 55 = .ok (.newarray .int, 2) := by decide +kernel
theorem d_M_init_57 : decode um_M_init.2.1 57 = .ok (.putfield 28, 3) := by decide +kernel
theorem d_M_init_60 : decode um_M_init.2.1 60 = .ok (.aload_n 0, 1) := by decide +kernel
theorem d_M_init_61 : decode um_M_init.2.1 61 = .ok (.bipush 60, 2) := by decide +kernel
theorem d_M_init_63 : decode um_M_init.2.1 63 = .ok (.newarray .int, 2) := by decide +kernel
theorem d_M_init_65 : decode um_M_init.2.1 65 = .ok (.putfield 31, 3) := by decide +kernel
theorem d_M_init_68 : decode um_M_init.2.1 68 = .ok (.aload_n 0, 1) := by decide +kernel
theorem d_M_init_69 : decode um_M_init.2.1 69 = .ok (.bipush 60, 2) := by decide +kernel
theorem d_M_init_71 : decode um_M_init.2.1 71 = .ok (.newarray .int, 2) := by decide +kernel
theorem d_M_init_73 : decode um_M_init.2.1 73 = .ok (.putfield 34, 3) := by decide +kernel
theorem d_M_init_76 : decode um_M_init.2.1 76 = .ok (.aload_n 0, 1) := by decide +kernel
theorem d_M_init_77 : decode um_M_init.2.1 77 = .ok (.bipush 60, 2) := by decide +kernel
theorem d_M_init_79 : decode um_M_init.2.1 79 = .ok (.newarray .int, 2) := by decide +kernel
theorem d_M_init_81 : decode um_M_init.2.1 81 = .ok (.putfield 37, 3) := by decide +kernel
theorem d_M_init_84 : decode um_M_init.2.1 84 = .ok (.aload_n 0, 1) := by decide +kernel
theorem d_M_init_85 : decode um_M_init.2.1 85 = .ok (.bipush 24, 2) := by decide +kernel
theorem d_M_init_87 : decode um_M_init.2.1 87 = .ok (.newarray .int, 2) := by decide +kernel
theorem d_M_init_89 : decode um_M_init.2.1 89 = .ok (.putfield 40, 3) := by decide +kernel
theorem d_M_init_92 : decode um_M_init.2.1 92 = .ok (.aload_n 0, 1) := by decide +kernel
theorem d_M_init_93 : decode um_M_init.2.1 93 = .ok (.bipush 24, 2) := by decide +kernel
theorem d_M_init_95 : decode um_M_init.2.1 95 = .ok (.newarray .int, 2) := by decide +kernel
theorem d_M_init_97 : decode um_M_init.2.1 97 = .ok (.putfield 43, 3) := by decide +kernel
theorem d_M_init_100 : decode um_M_init.2.1 100 = .ok (.aload_n 0, 1) := by decide +kernel
theorem d_M_init_101 : decode um_M_init.2.1 101 = .ok (.bipush 24, 2) := by decide +kernel
theorem d_M_init_103 : decode um_M_init.2.1 103 = .ok (.newarray .int, 2) := by decide +kernel
theorem d_M_init_105 : decode um_M_init.2.1 105 = .ok (.putfield 46, 3) := by decide +kernel
theorem d_M_init_108 : decode um_M_init.2.1 108 = .ok (.aload_n 0, 1) := by decide +kernel
theorem d_M_init_109 : decode um_M_init.2.1 109 = .ok (.bipush 24, 2) := by decide +kernel
theorem d_M_init_111 : decode um_M_init.2.1 111 = .ok (.newarray .int, 2) := by decide +kernel
theorem d_M_init_113 : decode um_M_init.2.1 113 = .ok (.putfield 49, 3) := by decide +kernel
theorem d_M_init_116 : decode um_M_init.2.1 116 = .ok (.aload_n 0, 1) := by decide +kernel
theorem d_M_init_117 : decode um_M_init.2.1 117 = .ok (.bipush 24, 2) := by decide +kernel
theorem d_M_init_119 : decode um_M_init.2.1 119 = .ok (.newarray .int, 2) := by decide +kernel
theorem d_M_init_121 : decode um_M_init.2.1 121 = .ok (.putfield 52, 3) := by decide +kernel
theorem d_M_init_124 : decode um_M_init.2.1 124 = .ok (.aload_n 0, 1) := by decide +kernel
theorem d_M_init_125 : decode um_M_init.2.1 125 = .ok (.bipush 48, 2) := by decide +kernel
theorem d_M_init_127 : decode um_M_init.2.1 127 = .ok (.newarray .int, 2) := by decide +kernel
theorem d_M_init_129 : decode um_M_init.2.1 129 = .ok (.putfield 55, 3) := by decide +kernel
theorem d_M_init_132 : decode um_M_init.2.1 132 = .ok (.aload_n 0, 1) := by decide +kernel
theorem d_M_init_133 : decode um_M_init.2.1 133 = .ok (.bipush 48, 2) := by decide +kernel
theorem d_M_init_135 : decode um_M_init.2.1 135 = .ok (.newarray .int, 2) := by decide +kernel
theorem d_M_init_137 : decode um_M_init.2.1 137 = .ok (.putfield 58, 3) := by decide +kernel
theorem d_M_init_140 : decode um_M_init.2.1 140 = .ok (.aload_n 0, 1) := by decide +kernel
theorem d_M_init_141 : decode um_M_init.2.1 141 = .ok (.sipush 900, 3) := by decide +kernel
theorem d_M_init_144 : decode um_M_init.2.1 144 = .ok (.newarray .int, 2) := by decide +kernel
theorem d_M_init_146 : decode um_M_init.2.1 146 = .ok (.putfield 61, 3) := by decide +kernel
theorem d_M_init_149 : decode um_M_init.2.1 149 = .ok (.aload_n 0, 1) := by decide +kernel
theorem d_M_init_150 : decode um_M_init.2.1 150 = .ok (.bipush 80, 2) := by decide +kernel
theorem d_M_init_152 : decode um_M_init.2.1 152 = .ok (.newarray .int, 2) := by decide +kernel
theorem d_M_init_154 : decode um_M_init.2.1 154 = .ok (.putfield 64, 3) := by decide +kernel
theorem d_M_init_157 : decode um_M_init.2.1 157 = .ok (.aload_n 0, 1) := by decide +kernel
theorem d_M_init_158 : decode um_M_init.2.1 158 = .ok (.bipush 80, 2) := by decide +kernel
theorem d_M_init_160 : decode um_M_init.2.1 160 = .ok (.newarray .int, 2) := by decide +kernel
theorem d_M_init_162 : decode um_M_init.2.1 162 = .ok (.putfield 67, 3) := by decide +kernel
theorem d_M_init_165 : decode um_M_init.2.1 165 = .ok (.aload_n 0, 1) := by decide +kernel
theorem d_M_init_166 : decode um_M_init.2.1 166 = .ok (.bipush 80, 2) := by decide +kernel
theorem d_M_init_168 : decode um_M_init.2.1 168 = .ok (.newarray .int, 2) := by decide +kernel
theorem d_M_init_170 : decode um_M_init.2.1 170 = .ok (.putfield 70, 3) := by decide +kernel
theorem d_M_init_173 : decode um_M_init.2.1 173 = .ok (.aload_n 0, 1) := by decide +kernel
theorem d_M_init_174 : decode um_M_init.2.1 174 = .ok (.bipush 80, 2) := by decide +kernel
theorem d_M_init_176 : decode um_M_init.2.1 176 = .ok (.newarray .int, 2) := by decide +kernel
theorem d_M_init_178 : decode um_M_init.2.1 178 = .ok (.putfield 73, 3) := by decide +kernel
theorem d_M_init_181 : decode um_M_init.2.1 181 = .ok (.aload_n 0, 1) := by decide +kernel
theorem d_M_init_182 : decode um_M_init.2.1 182 = .ok (.bipush 80, 2) := by decide +kernel
theorem d_M_init_184 : decode um_M_init.2.1 184 = .ok (.newarray .int, 2) := by decide +kernel
theorem d_M_init_186 : decode um_M_init.2.1 186 = .ok (.putfield 76, 3) := by decide +kernel
theorem d_M_init_189 : decode um_M_init.2.1 189 = .ok (.aload_n 0, 1) := by decide +kernel
theorem d_M_init_190 : decode um_M_init.2.1 190 = .ok (.bipush 80, 2) := by decide +kernel
theorem d_M_init_192 : decode um_M_init.2.1 192 = .ok (.newarray .int, 2) := by decide +kernel
theorem d_M_init_194 : decode um_M_init.2.1 194 = .ok (.putfield 79, 3) := by decide +kernel
theorem d_M_init_197 : decode um_M_init.2.1 197 = .ok (.aload_n 0, 1) := by decide +kernel
theorem d_M_init_198 : decode um_M_init.2.1 198 = .ok (.bipush 24, 2) := by decide +kernel
theorem d_M_init_200 : decode um_M_init.2.1 200 = .ok (.newarray .int, 2) := by decide +kernel
theorem d_M_init_202 : decode um_M_init.2.1 202 = .ok (.putfield 82, 3) := by decide +kernel
theorem d_M_init_205 : decode um_M_init.2.1 205 = .ok (.aload_n 0, 1) := by decide +kernel
theorem d_M_init_206 : decode um_M_init.2.1 206 = .ok (.bipush 24, 2) := by decide +kernel
theorem d_M_init_208 : decode um_M_init.2.1 208 = .ok (.newarray .int, 2) := by decide +kernel
theorem d_M_init_210 : decode um_M_init.2.1 210 = .ok (.putfield 85, 3) := by decide +kernel
theorem d_M_init_213 : decode um_M_init.2.1 213 = .ok (.return_, 1) := by decide +kernel
theorem d_M_within_0 : decode um_M_within.2.1 0 = .ok (.iload_n 0, 1) := by decide +kernel
theorem d_M_within_1 : decode um_M_within.2.1 1 = .ok (.iload_n 1, 1) := by decide +kernel
theorem d_M_within_2 : decode um_M_within.2.1 2 = .ok (.if_icmp .lt 12, 3) := by decide +kernel
theorem d_M_within_5 : decode um_M_within.2.1 5 = .ok (.iload_n 0, 1) := by decide +kernel
theorem d_M_within_6 : decode um_M_within.2.1 6 = .ok (.iload_n 2, 1) := by decide +kernel
theorem d_M_within_7 : decode um_M_within.2.1 7 = .ok (.if_icmp .gt 7, 3) := by decide +kernel
theorem d_M_within_10 : decode um_M_within.2.1 10 = .ok (.iconst 1, 1) := by decide +kernel
theorem d_M_within_11 : decode um_M_within.2.1 11 = .ok (.goto 4, 3) := by decide +kernel
theorem d_M_within_14 : decode um_M_within.2.1 14 = .ok (.iconst 0, 1) := by decide +kernel
theorem d_M_within_15 : decode um_M_within.2.1 15 = .ok (.ireturn, 1) := by decide +kernel
theorem d_M_isLetter_0 : decode um_M_isLetter.2.1 0 = .ok (.iload_n 0, 1) := by decide +kernel
theorem d_M_isLetter_1 : decode um_M_isLetter.2.1 1 = .ok (.bipush 97, 2) := by decide +kernel
theorem d_M_isLetter_3 : decode um_M_isLetter.2.1 3 = .ok (.bipush 122, 2) := by decide +kernel
theorem d_M_isLetter_5 : decode um_M_isLetter.2.1 5 = .ok (.invokestatic 88, 3) := by decide +kernel
theorem d_M_isLetter_8 : decode um_M_isLetter.2.1 8 = .ok (.ireturn, 1) := by decide +kernel
theorem d_M_add_0 : decode um_M_add.2.1 0 = .ok (.iload_n 1, 1) := by decide +kernel
theorem d_M_add_1 : decode um_M_add.2.1 1 = .ok (.iconst 0, 1) := by decide +kernel
theorem d_M_add_2 : decode um_M_add.2.1 2 = .ok (.iconst 3, 1) := by decide +kernel
theorem d_M_add_3 : decode um_M_add.2.1 3 = .ok (.invokestatic 88, 3) := by decide +kernel
theorem d_M_add_6 : decode um_M_add.2.1 6 = .ok (.ifCond .eq 18, 3) := by decide +kernel
theorem d_M_add_9 : decode um_M_add.2.1 9 = .ok (.iload 4, 2) := by decide +kernel
theorem d_M_add_11 : decode um_M_add.2.1 11 = .ok (.iconst 1, 1) := by decide +kernel
theorem d_M_add_12 : decode um_M_add.2.1 12 = .ok (.bipush 8, 2) := by decide +kernel
theorem d_M_add_14 : decode um_M_add.2.1 14 = .ok (.invokestatic 88, 3) := by decide +kernel
theorem d_M_add_17 : decode um_M_add.2.1 17 = .ok (.ifCond .eq 7, 3) := by decide +kernel
theorem d_M_add_20 : decode um_M_add.2.1 20 = .ok (.iconst 1, 1) := by decide +kernel
theorem d_M_add_21 : decode um_M_add.2.1 21 = .ok (.goto 4, 3) := by decide +kernel
theorem d_M_add_24 : decode um_M_add.2.1 24 = .ok (.iconst 0, 1) := by decide +kernel
theorem d_M_add_25 : decode um_M_add.2.1 25 = .ok (.istore 5, 2) := by decide +kernel
theorem d_M_add_27 : decode um_M_add.2.1 27 = .ok (.iconst 0, 1) := by decide +kernel
theorem d_M_add_28 : decode um_M_add.2.1 28 = .ok (.istore 6, 2) := by decide +kernel
theorem d_M_add_30 : decode um_M_add.2.1 30 = .ok (.iload 6, 2) := by decide +kernel
theorem d_M_add_32 : decode um_M_add.2.1 32 = .ok (.iload 4, 2) := by decide +kernel
theorem d_M_add_34 : decode um_M_add.2.1 34 = .ok (.if_icmp .ge 31, 3) := by decide +kernel
theorem d_M_add_37 : decode um_M_add.2.1 37 = .ok (.iload 5, 2) := by decide +kernel
theorem d_M_add_39 : decode um_M_add.2.1 39 = .ok (.ifCond .eq 26, 3) := by decide +kernel
theorem d_M_add_42 : decode um_M_add.2.1 42 = .ok (.lload_n 2, 1) := by decide +kernel
theorem d_M_add_43 : decode um_M_add.2.1 43 = .ok (.bipush 8, 2) := by decide +kernel
theorem d_M_add_45 : decode um_M_add.2.1 45 = .ok (.iload 6, 2) := by decide +kernel
theorem d_M_add_47 : decode um_M_add.2.1 47 = .ok (.imul, 1) := by decide +kernel
theorem d_M_add_48 : decode um_M_add.2.1 48 = .ok (.lshr, 1) := by decide +kernel
theorem d_M_add_49 : decode um_M_add.2.1 49 = .ok (.l2i, 1) := by decide +kernel
theorem d_M_add_50 : decode um_M_add.2.1 50 = .ok (.sipush 255, 3) := by decide +kernel
theorem d_M_add_53 : decode um_M_add.2.1 53 = .ok (.iand, 1) := by decide +kernel
theorem d_M_add_54 : decode um_M_add.2.1 54 = .ok (.invokestatic 92, 3) := by decide +kernel
theorem d_M_add_57 : decode um_M_add.2.1 57 = .ok (.istore 5, 2) := by decide +kernel
theorem d_M_add_59 : decode um_M_add.2.1 59 = .ok (.iinc 6 1, 3) := by decide +kernel
theorem d_M_add_62 : decode um_M_add.2.1 62 = .ok (.goto (-32), 3) := by decide +kernel
theorem d_M_add_65 : decode um_M_add.2.1 65 = .ok (.iload 5, 2) := by decide +kernel
theorem d_M_add_67 : decode um_M_add.2.1 67 = .ok (.ifCond .ne 5, 3) := by decide +kernel
theorem d_M_add_70 : decode um_M_add.2.1 70 = .ok (.iconst (-1), 1) := by decide +kernel
theorem d_M_add_71 : decode um_M_add.2.1 71 = .ok (.ireturn, 1) := by decide +kernel
theorem d_M_add_72 : decode um_M_add.2.1 72 = .ok (.aload_n 0, 1) := by decide +kernel
theorem d_M_add_73 : decode um_M_add.2.1 73 = .ok (.getfield 13, 3) := by decide +kernel
theorem d_M_add_76 : decode um_M_add.2.1 76 = .ok (.iload_n 1, 1) := by decide +kernel
theorem d_M_add_77 : decode um_M_add.2.1 77 = .ok (.iaload, 1) := by decide +kernel
theorem d_M_add_78 : decode um_M_add.2.1 78 = .ok (.iload 4, 2) := by decide +kernel
theorem d_M_add_80 : decode um_M_add.2.1 80 = .ok (.iadd, 1) := by decide +kernel
theorem d_M_add_81 : decode um_M_add.2.1 81 = .ok (.bipush 24, 2) := by decide +kernel
theorem d_M_add_83 : decode um_M_add.2.1 83 = .ok (.if_icmp .le 6, 3) := by decide +kernel
theorem d_M_add_86 : decode um_M_add.2.1 86 = .ok (.bipush (-2), 2) := by decide +kernel
theorem d_M_add_88 : decode um_M_add.2.1 88 = .ok (.ireturn, 1) := by decide +kernel
theorem d_M_add_89 : decode um_M_add.2.1 89 = .ok (.iload 4, 2) := by decide +kernel
theorem d_M_add_91 : decode um_M_add.2.1 91 = .ok (.iconst 1, 1) := by decide +kernel
theorem d_M_add_92 : decode um_M_add.2.1 92 = .ok (.isub, 1) := by decide +kernel
theorem d_M_add_93 : decode um_M_add.2.1 93 = .ok (.istore 6, 2) := by decide +kernel
theorem d_M_add_95 : decode um_M_add.2.1 95 = .ok (.iload 6, 2) := by decide +kernel
theorem d_M_add_97 : decode um_M_add.2.1 97 = .ok (.ifCond .lt 51, 3) := by decide +kernel
theorem d_M_add_100 : decode um_M_add.2.1 100 = .ok (.aload_n 0, 1) := by decide +kernel
theorem d_M_add_101 : decode um_M_add.2.1 101 = .ok (.getfield 7, 3) := by decide +kernel
theorem d_M_add_104 : decode um_M_add.2.1 104 = .ok (.bipush 24, 2) := by decide +kernel
theorem d_M_add_106 : decode um_M_add.2.1 106 = .ok (.iload_n 1, 1) := by decide +kernel
theorem d_M_add_107 : decode um_M_add.2.1 107 = .ok (.imul, 1) := by decide +kernel
theorem d_M_add_108 : decode um_M_add.2.1 108 = .ok (.aload_n 0, 1) := by decide +kernel
theorem d_M_add_109 : decode um_M_add.2.1 109 = .ok (.getfield 13, 3) := by decide +kernel
theorem d_M_add_112 : decode um_M_add.2.1 112 = .ok (.iload_n 1, 1) := by decide +kernel
theorem d_M_add_113 : decode um_M_add.2.1 113 = .ok (.iaload, 1) := by decide +kernel
theorem d_M_add_114 : decode um_M_add.2.1 114 = .ok (.iadd, 1) := by decide +kernel
theorem d_M_add_115 : decode um_M_add.2.1 115 = .ok (.lload_n 2, 1) := by decide +kernel
theorem d_M_add_116 : decode um_M_add.2.1 116 = .ok (.bipush 8, 2) := by decide +kernel
theorem d_M_add_118 : decode um_M_add.2.1 118 = .ok (.iload 6, 2) := by decide +kernel
theorem d_M_add_120 : decode um_M_add.2.1 120 = .ok (.imul, 1) := by decide +kernel
theorem d_M_add_121 : decode um_M_add.2.1 121 = .ok (.lshr, 1) := by decide +kernel
theorem d_M_add_122 : decode um_M_add.2.1 122 = .ok (.l2i, 1) := by decide +kernel
theorem d_M_add_123 : decode um_M_add.2.1 123 = .ok (.sipush 255, 3) := by decide +kernel
theorem d_M_add_126 : decode um_M_add.2.1 126 = .ok (.iand, 1) := by decide +kernel
theorem d_M_add_127 : decode um_M_add.2.1 127 = .ok (.iastore, 1) := by decide +kernel
theorem d_M_add_128 : decode um_M_add.2.1 128 = .ok (.aload_n 0, 1) := by decide +kernel
theorem d_M_add_129 : decode um_M_add.2.1 129 = .ok (.getfield 13, 3) := by decide +kernel
theorem d_M_add_132 : decode um_M_add.2.1 132 = .ok (.iload_n 1, 1) := by decide +kernel
theorem d_M_add_133 : decode um_M_add.2.1 133 = .ok (.aload_n 0, 1) := by decide +kernel
theorem d_M_add_134 : decode um_M_add.2.1 134 = .ok (.getfield 13, 3) := by decide +kernel
theorem d_M_add_137 : decode um_M_add.2.1 137 = .ok (.iload_n 1, 1) := by decide +kernel
theorem d_M_add_138 : decode um_M_add.2.1 138 = .ok (.iaload, 1) := by decide +kernel
theorem d_M_add_139 : decode um_M_add.2.1 139 = .ok (.iconst 1, 1) := by decide +kernel
theorem d_M_add_140 : decode um_M_add.2.1 140 = .ok (.iadd, 1) := by decide +kernel
theorem d_M_add_141 : decode um_M_add.2.1 141 = .ok (.iastore, 1) := by decide +kernel
theorem d_M_add_142 : decode um_M_add.2.1 142 = .ok (.iinc 6 (-1), 3) := by decide +kernel
theorem d_M_add_145 : decode um_M_add.2.1 145 = .ok (.goto (-50), 3) := by decide +kernel
theorem d_M_add_148 : decode um_M_add.2.1 148 = .ok (.aload_n 0, 1) := by decide +kernel
theorem d_M_add_149 : decode um_M_add.2.1 149 = .ok (.getfield 13, 3) := by decide +kernel
theorem d_M_add_152 : decode um_M_add.2.1 152 = .ok (.iload_n 1, 1) := by decide +kernel
theorem d_M_add_153 : decode um_M_add.2.1 153 = .ok (.iaload, 1) := by decide +kernel
theorem d_M_add_154 : decode um_M_add.2.1 154 = .ok (.ireturn, 1) := by decide +kernel
theorem d_M_clear_0 : decode um_M_clear.2.1 0 = .ok (.iload_n 1, 1) := by decide +kernel
theorem d_M_clear_1 : decode um_M_clear.2.1 1 = .ok (.iconst 0, 1) := by decide +kernel
theorem d_M_clear_2 : decode um_M_clear.2.1 2 = .ok (.iconst 3, 1) := by decide +kernel
theorem d_M_clear_3 : decode um_M_clear.2.1 3 = .ok (.invokestatic 88, 3) := by decide +kernel
theorem d_M_clear_6 : decode um_M_clear.2.1 6 = .ok (.ifCond .ne 5, 3) := by decide +kernel
theorem d_M_clear_9 : decode um_M_clear.2.1 9 = .ok (.iconst (-1), 1) := by decide +kernel
theorem d_M_clear_10 : decode um_M_clear.2.1 10 = .ok (.ireturn, 1) := by decide +kernel
theorem d_M_clear_11 : decode um_M_clear.2.1 11 = .ok (.aload_n 0, 1) := by decide +kernel
theorem d_M_clear_12 : decode um_M_clear.2.1 12 = .ok (.getfield 13, 3) := by decide +kernel
theorem d_M_clear_15 : decode um_M_clear.2.1 15 = .ok (.iload_n 1, 1) := by decide +kernel
theorem d_M_clear_16 : decode um_M_clear.2.1 16 = .ok (.iaload, 1) := by decide +kernel
theorem d_M_clear_17 : decode um_M_clear.2.1 17 = .ok (.istore_n 2, 1) := by decide +kernel
theorem d_M_clear_18 : decode um_M_clear.2.1 18 = .ok (.aload_n 0, 1) := by decide +kernel
theorem d_M_clear_19 : decode um_M_clear.2.1 19 = .ok (.getfield 13, 3) := by decide +kernel
theorem d_M_clear_22 : decode um_M_clear.2.1 22 = .ok (.iload_n 1, 1) := by decide +kernel
theorem d_M_clear_23 : decode um_M_clear.2.1 23 = .ok (.iconst 0, 1) := by decide +kernel
theorem d_M_clear_24 : decode um_M_clear.2.1 24 = .ok (.iastore, 1) := by decide +kernel
theorem d_M_clear_25 : decode um_M_clear.2.1 25 = .ok (.iload_n 2, 1) := by decide +kernel
theorem d_M_clear_26 : decode um_M_clear.2.1 26 = .ok (.ireturn, 1) := by decide +kernel
theorem d_M_size_0 : decode um_M_size.2.1 0 = .ok (.iload_n 1, 1) := by decide +kernel
theorem d_M_size_1 : decode um_M_size.2.1 1 = .ok (.iconst 0, 1) := by decide +kernel
theorem d_M_size_2 : decode um_M_size.2.1 2 = .ok (.iconst 3, 1) := by decide +kernel
theorem d_M_size_3 : decode um_M_size.2.1 3 = .ok (.invokestatic 88, 3) := by decide +kernel
theorem d_M_size_6 : decode um_M_size.2.1 6 = .ok (.ifCond .eq 12, 3) := by decide +kernel
theorem d_M_size_9 : decode um_M_size.2.1 9 = .ok (.aload_n 0, 1) := by decide +kernel
theorem d_M_size_10 : decode um_M_size.2.1 10 = .ok (.getfield 13, 3) := by decide +kernel
theorem d_M_size_13 : decode um_M_size.2.1 13 = .ok (.iload_n 1, 1) := by decide +kernel
theorem d_M_size_14 : decode um_M_size.2.1 14 = .ok (.iaload, 1) := by decide +kernel
theorem d_M_size_15 : decode um_M_size.2.1 15 = .ok (.goto 4, 3) := by decide +kernel
theorem d_M_size_18 : decode um_M_size.2.1 18 = .ok (.iconst (-1), 1) := by decide +kernel
theorem d_M_size_19 : decode um_M_size.2.1 19 = .ok (.ireturn, 1) := by decide +kernel
theorem d_M_line_0 : decode um_M_line.2.1 0 = .ok (.iload_n 1, 1) := by decide +kernel
theorem d_M_line_1 : decode um_M_line.2.1 1 = .ok (.iconst 0, 1) := by decide +kernel
theorem d_M_line_2 : decode um_M_line.2.1 2 = .ok (.iconst 3, 1) := by decide +kernel
theorem d_M_line_3 : decode um_M_line.2.1 3 = .ok (.invokestatic 88, 3) := by decide +kernel
theorem d_M_line_6 : decode um_M_line.2.1 6 = .ok (.ifCond .ne 7, 3) := by decide +kernel
theorem d_M_line_9 : decode um_M_line.2.1 9 = .ok (.iconst (-1), 1) := by decide +kernel
theorem d_M_line_10 : decode um_M_line.2.1 10 = .ok (.goto 35, 3) := by decide +kernel
theorem d_M_line_13 : decode um_M_line.2.1 13 = .ok (.iload_n 2, 1) := by decide +kernel
theorem d_M_line_14 : decode um_M_line.2.1 14 = .ok (.iconst 0, 1) := by decide +kernel
theorem d_M_line_15 : decode um_M_line.2.1 15 = .ok (.aload_n 0, 1) := by decide +kernel
theorem d_M_line_16 : decode um_M_line.2.1 16 = .ok (.getfield 13, 3) := by decide +kernel
theorem d_M_line_19 : decode um_M_line.2.1 19 = .ok (.iload_n 1, 1) := by decide +kernel
theorem d_M_line_20 : decode um_M_line.2.1 20 = .ok (.iaload, 1) := by decide +kernel
theorem d_M_line_21 : decode um_M_line.2.1 21 = .ok (.iconst 1, 1) := by decide +kernel
theorem d_M_line_22 : decode um_M_line.2.1 22 = .ok (.isub, 1) := by decide +kernel
theorem d_M_line_23 : decode um_M_line.2.1 23 = .ok (.invokestatic 88, 3) := by decide +kernel
theorem d_M_line_26 : decode um_M_line.2.1 26 = .ok (.ifCond .eq 17, 3) := by decide +kernel
theorem d_M_line_29 : decode um_M_line.2.1 29 = .ok (.aload_n 0, 1) := by decide +kernel
theorem d_M_line_30 : decode um_M_line.2.1 30 = .ok (.getfield 7, 3) := by decide +kernel
theorem d_M_line_33 : decode um_M_line.2.1 33 = .ok (.bipush 24, 2) := by decide +kernel
theorem d_M_line_35 : decode um_M_line.2.1 35 = .ok (.iload_n 1, 1) := by decide +kernel
theorem d_M_line_36 : decode um_M_line.2.1 36 = .ok (.imul, 1) := by decide +kernel
theorem d_M_line_37 : decode um_M_line.2.1 37 = .ok (.iload_n 2, 1) := by decide +kernel
theorem d_M_line_38 : decode um_M_line.2.1 38 = .ok (.iadd, 1) := by decide +kernel
theorem d_M_line_39 : decode um_M_line.2.1 39 = .ok (.iaload, 1) := by decide +kernel
theorem d_M_line_40 : decode um_M_line.2.1 40 = .ok (.goto 5, 3) := by decide +kernel
theorem d_M_line_43 : decode um_M_line.2.1 43 = .ok (.bipush (-3), 2) := by decide +kernel
theorem d_M_line_45 : decode um_M_line.2.1 45 = .ok (.ireturn, 1) := by decide +kernel
theorem d_M_allLetters_0 : decode um_M_allLetters.2.1 0 = .ok (.iconst 1, 1) := by decide +kernel
theorem d_M_allLetters_1 : decode um_M_allLetters.2.1 1 = .ok (.istore_n 2, 1) := by decide +kernel
theorem d_M_allLetters_2 : decode um_M_allLetters.2.1 2 = .ok (.iconst 0, 1) := by decide +kernel
theorem d_M_allLetters_3 : decode um_M_allLetters.2.1 3 = .ok (.istore_n 3, 1) := by decide +kernel
theorem d_M_allLetters_4 : decode um_M_allLetters.2.1 4 = .ok (.iload_n 3, 1) := by decide +kernel
theorem d_M_allLetters_5 : decode um_M_allLetters.2.1 5 = .ok (.aload_n 0, 1) := by decide +kernel
theorem d_M_allLetters_6 : decode um_M_allLetters.2.1 6 = .ok (.getfield 13, 3) := by decide +kernel
theorem d_M_allLetters_9 : decode um_M_allLetters.2.1 9 = .ok (.iload_n 1, 1) := by decide +kernel
theorem d_M_allLetters_10 : decode um_M_allLetters.2.1 10 = .ok (.iaload, 1) := by decide +kernel
theorem d_M_allLetters_11 : decode um_M_allLetters.2.1 11 = .ok (.if_icmp .ge 36, 3) := by decide +kernel
theorem d_M_allLetters_14 : decode um_M_allLetters.2.1 14 = .ok (.iload_n 2, 1) := by decide +kernel
theorem d_M_allLetters_15 : decode um_M_allLetters.2.1 15 = .ok (.ifCond .eq 24, 3) := by decide +kernel
theorem d_M_allLetters_18 : decode um_M_allLetters.2.1 18 = .ok (.aload_n 0, 1) := by decide +kernel
theorem d_M_allLetters_19 : decode um_M_allLetters.2.1 19 = .ok (.getfield 7, 3) := by decide +kernel
theorem d_M_allLetters_22 : decode um_M_allLetters.2.1 22 = .ok (.bipush 24, 2) := by decide +kernel
theorem d_M_allLetters_24 : decode um_M_allLetters.2.1 24 = .ok (.iload_n 1, 1) := by decide +kernel
theorem d_M_allLetters_25 : decode um_M_allLetters.2.1 25 = .ok (.imul, 1) := by decide +kernel
theorem d_M_allLetters_26 : decode um_M_allLetters.2.1 26 = .ok (.iload_n 3, 1) := by decide +kernel
theorem d_M_allLetters_27 : decode um_M_allLetters.2.1 27 = .ok (.iadd, 1) := by decide +kernel
theorem d_M_allLetters_28 : decode um_M_allLetters.2.1 28 = .ok (.iaload, 1) := by decide +kernel
theorem d_M_allLetters_29 : decode um_M_allLetters.2.1 29 = .ok (.invokestatic 92, 3) := by decide +kernel
theorem d_M_allLetters_32 : decode um_M_allLetters.2.1 32 = .ok (.ifCond .eq 7, 3) := by decide +kernel
theorem d_M_allLetters_35 : decode um_M_allLetters.2.1 35 = .ok (.iconst 1, 1) := by decide +kernel
theorem d_M_allLetters_36 : decode um_M_allLetters.2.1 36 = .ok (.goto 4, 3) := by decide +kernel
theorem d_M_allLetters_39 : decode um_M_allLetters.2.1 39 = .ok (.iconst 0, 1) := by decide +kernel
theorem d_M_allLetters_40 : decode um_M_allLetters.2.1 40 = .ok (.istore_n 2, 1) := by decide +kernel
theorem d_M_allLetters_41 : decode um_M_allLetters.2.1 41 = .ok (.iinc 3 1, 3) := by decide +kernel
theorem d_M_allLetters_44 : decode um_M_allLetters.2.1 44 = .ok (.goto (-40), 3) := by decide +kernel
theorem d_M_allLetters_47 : decode um_M_allLetters.2.1 47 = .ok (.iload_n 2, 1) := by decide +kernel
theorem d_M_allLetters_48 : decode um_M_allLetters.2.1 48 = .ok (.ireturn, 1) := by decide +kernel
theorem d_M_take_0 : decode um_M_take.2.1 0 = .ok (.aload_n 0, 1) := by decide +kernel
theorem d_M_take_1 : decode um_M_take.2.1 1 = .ok (.aload_n 0, 1) := by decide +kernel
theorem d_M_take_2 : decode um_M_take.2.1 2 = .ok (.getfield 13, 3) := by decide +kernel
theorem d_M_take_5 : decode um_M_take.2.1 5 = .ok (.iload_n 1, 1) := by decide +kernel
theorem d_M_take_6 : decode um_M_take.2.1 6 = .ok (.iaload, 1) := by decide +kernel
theorem d_M_take_7 : decode um_M_take.2.1 7 = .ok (.putfield 96, 3) := by decide +kernel
theorem d_M_take_10 : decode um_M_take.2.1 10 = .ok (.aload_n 0, 1) := by decide +kernel
theorem d_M_take_11 : decode um_M_take.2.1 11 = .ok (.aload_n 0, 1) := by decide +kernel
theorem d_M_take_12 : decode um_M_take.2.1 12 = .ok (.getfield 13, 3) := by decide +kernel
theorem d_M_take_15 : decode um_M_take.2.1 15 = .ok (.iload_n 2, 1) := by decide +kernel
theorem d_M_take_16 : decode um_M_take.2.1 16 = .ok (.iaload, 1) := by decide +kernel
theorem d_M_take_17 : decode um_M_take.2.1 17 = .ok (.putfield 100, 3) := by decide +kernel
theorem d_M_take_20 : decode um_M_take.2.1 20 = .ok (.iconst 0, 1) := by decide +kernel
theorem d_M_take_21 : decode um_M_take.2.1 21 = .ok (.istore_n 3, 1) := by decide +kernel
theorem d_M_take_22 : decode um_M_take.2.1 22 = .ok (.iload_n 3, 1) := by decide +kernel
theorem d_M_take_23 : decode um_M_take.2.1 23 = .ok (.aload_n 0, 1) := by decide +kernel
theorem d_M_take_24 : decode um_M_take.2.1 24 = .ok (.getfield 96, 3) := by decide +kernel
theorem d_M_take_27 : decode um_M_take.2.1 27 = .ok (.if_icmp .ge 33, 3) := by decide +kernel
theorem d_M_take_30 : decode um_M_take.2.1 30 = .ok (.aload_n 0, 1) := by decide +kernel
theorem d_M_take_31 : decode um_M_take.2.1 31 = .ok (.getfield 16, 3) := by decide +kernel
theorem d_M_take_34 : decode um_M_take.2.1 34 = .ok (.iload_n 3, 1) := by decide +kernel
theorem d_M_take_35 : decode um_M_take.2.1 35 = .ok (.aload_n 0, 1) := by decide +kernel
theorem d_M_take_36 : decode um_M_take.2.1 36 = .ok (.getfield 7, 3) := by decide +kernel
theorem d_M_take_39 : decode um_M_take.2.1 39 = .ok (.bipush 24, 2) := by decide +kernel
theorem d_M_take_41 : decode um_M_take.2.1 41 = .ok (.iload_n 1, 1) := by decide +kernel
theorem d_M_take_42 : decode um_M_take.2.1 42 = .ok (.imul, 1) := by decide +kernel
theorem d_M_take_43 : decode um_M_take.2.1 43 = .ok (.iload_n 3, 1) := by decide +kernel
theorem d_M_take_44 : decode um_M_take.2.1 44 = .ok (.iadd, 1) := by decide +kernel
theorem d_M_take_45 : decode um_M_take.2.1 45 = .ok (.iaload, 1) := by decide +kernel
theorem d_M_take_46 : decode um_M_take.2.1 46 = .ok (.iastore, 1) := by decide +kernel
theorem d_M_take_47 : decode um_M_take.2.1 47 = .ok (.aload_n 0, 1) := by decide +kernel
theorem d_M_take_48 : decode um_M_take.2.1 48 = .ok (.getfield 22, 3) := by decide +kernel
theorem d_M_take_51 : decode um_M_take.2.1 51 = .ok (.iload_n 3, 1) := by decide +kernel
theorem d_M_take_52 : decode um_M_take.2.1 52 = .ok (.iconst (-1), 1) := by decide +kernel
theorem d_M_take_53 : decode um_M_take.2.1 53 = .ok (.iastore, 1) := by decide +kernel
theorem d_M_take_54 : decode um_M_take.2.1 54 = .ok (.iinc 3 1, 3) := by decide +kernel
theorem d_M_take_57 : decode um_M_take.2.1 57 = .ok (.goto (-35), 3) := by decide +kernel
theorem d_M_take_60 : decode um_M_take.2.1 60 = .ok (.iconst 0, 1) := by decide +kernel
theorem d_M_take_61 : decode um_M_take.2.1 61 = .ok (.istore_n 3, 1) := by decide +kernel
theorem d_M_take_62 : decode um_M_take.2.1 62 = .ok (.iload_n 3, 1) := by decide +kernel
theorem d_M_take_63 : decode um_M_take.2.1 63 = .ok (.aload_n 0, 1) := by decide +kernel
theorem d_M_take_64 : decode um_M_take.2.1 64 = .ok (.getfield 100, 3) := by decide +kernel
theorem d_M_take_67 : decode um_M_take.2.1 67 = .ok (.if_icmp .ge 26, 3) := by decide +kernel
theorem d_M_take_70 : decode um_M_take.2.1 70 = .ok (.aload_n 0, 1) := by decide +kernel
theorem d_M_take_71 : decode um_M_take.2.1 71 = .ok (.getfield 19, 3) := by decide +kernel
theorem d_M_take_74 : decode um_M_take.2.1 74 = .ok (.iload_n 3, 1) := by decide +kernel
theorem d_M_take_75 : decode um_M_take.2.1 75 = .ok (.aload_n 0, 1) := by decide +kernel
theorem d_M_take_76 : decode um_M_take.2.1 76 = .ok (.getfield 7, 3) := by decide +kernel
theorem d_M_take_79 : decode um_M_take.2.1 79 = .ok (.bipush 24, 2) := by decide +kernel
theorem d_M_take_81 : decode um_M_take.2.1 81 = .ok (.iload_n 2, 1) := by decide +kernel
theorem d_M_take_82 : decode um_M_take.2.1 82 = .ok (.imul, 1) := by decide +kernel
theorem d_M_take_83 : decode um_M_take.2.1 83 = .ok (.iload_n 3, 1) := by decide +kernel
theorem d_M_take_84 : decode um_M_take.2.1 84 = .ok (.iadd, 1) := by decide +kernel
theorem d_M_take_85 : decode um_M_take.2.1 85 = .ok (.iaload, 1) := by decide +kernel
theorem d_M_take_86 : decode um_M_take.2.1 86 = .ok (.iastore, 1) := by decide +kernel
theorem d_M_take_87 : decode um_M_take.2.1 87 = .ok (.iinc 3 1, 3) := by decide +kernel
theorem d_M_take_90 : decode um_M_take.2.1 90 = .ok (.goto (-28), 3) := by decide +kernel
theorem d_M_take_93 : decode um_M_take.2.1 93 = .ok (.return_, 1) := by decide +kernel
theorem d_M_compareShort_0 : decode um_M_compareShort.2.1 0 = .ok (.iload_n 2, 1) := by decide +kernel
theorem d_M_compareShort_1 : decode um_M_compareShort.2.1 1 = .ok (.istore 5, 2) := by decide +kernel
theorem d_M_compareShort_3 : decode um_M_compareShort.2.1 3 = .ok (.iload 5, 2) := by decide +kernel
theorem d_M_compareShort_5 : decode um_M_compareShort.2.1 5 = .ok (.iload_n 1, 1) := by decide +kernel
theorem d_M_compareShort_6 : decode um_M_compareShort.2.1 6 = .ok (.if_icmp .lt 164, 3) := by decide +kernel
theorem d_M_compareShort_9 : decode um_M_compareShort.2.1 9 = .ok (.iload 4, 2) := by decide +kernel
theorem d_M_compareShort_11 : decode um_M_compareShort.2.1 11 = .ok (.istore 6, 2) := by decide +kernel
theorem d_M_compareShort_13 : decode um_M_compareShort.2.1 13 = .ok (.iload 6, 2) := by decide +kernel
theorem d_M_compareShort_15 : decode um_M_compareShort.2.1 15 = .ok (.iload_n 3, 1) := by decide +kernel
theorem d_M_compareShort_16 : decode um_M_compareShort.2.1 16 = .ok (.if_icmp .lt 148, 3) := by decide +kernel
theorem d_M_compareShort_19 : decode um_M_compareShort.2.1 19 = .ok (.iconst 0, 1) := by decide +kernel
theorem d_M_compareShort_20 : decode um_M_compareShort.2.1 20 = .ok (.istore 7, 2) := by decide +kernel
theorem d_M_compareShort_22 : decode um_M_compareShort.2.1 22 = .ok (.iload 5, 2) := by decide +kernel
theorem d_M_compareShort_24 : decode um_M_compareShort.2.1 24 = .ok (.iload_n 2, 1) := by decide +kernel
theorem d_M_compareShort_25 : decode um_M_compareShort.2.1 25 = .ok (.if_icmp .ge 118, 3) := by decide +kernel
theorem d_M_compareShort_28 : decode um_M_compareShort.2.1 28 = .ok (.iload 6, 2) := by decide +kernel
theorem d_M_compareShort_30 : decode um_M_compareShort.2.1 30 = .ok (.iload 4, 2) := by decide +kernel
theorem d_M_compareShort_32 : decode um_M_compareShort.2.1 32 = .ok (.if_icmp .ge 111, 3) := by decide +kernel
theorem d_M_compareShort_35 : decode um_M_compareShort.2.1 35 = .ok (.aload_n 0, 1) := by decide +kernel
theorem d_M_compareShort_36 : decode um_M_compareShort.2.1 36 = .ok (.getfield 25, 3) := by decide +kernel
theorem d_M_compareShort_39 : decode um_M_compareShort.2.1 39 = .ok (.bipush 25, 2) := by decide +kernel
theorem d_M_compareShort_41 : decode um_M_compareShort.2.1 41 = .ok (.iload 5, 2) := by decide +kernel
theorem d_M_compareShort_43 : decode um_M_compareShort.2.1 43 = .ok (.imul, 1) := by decide +kernel
theorem d_M_compareShort_44 : decode um_M_compareShort.2.1 44 = .ok (.bipush 25, 2) := by decide +kernel
theorem d_M_compareShort_46 : decode um_M_compareShort.2.1 46 = .ok (.iadd, 1) := by decide +kernel
theorem d_M_compareShort_47 : decode um_M_compareShort.2.1 47 = .ok (.iload 6, 2) := by decide +kernel
theorem d_M_compareShort_49 : decode um_M_compareShort.2.1 49 = .ok (.iadd, 1) := by decide +kernel
theorem d_M_compareShort_50 : decode um_M_compareShort.2.1 50 = .ok (.iaload, 1) := by decide +kernel
theorem d_M_compareShort_51 : decode um_M_compareShort.2.1 51 = .ok (.istore 8, 2) := by decide +kernel
theorem d_M_compareShort_53 : decode um_M_compareShort.2.1 53 = .ok (.aload_n 0, 1) := by decide +kernel
theorem d_M_compareShort_54 : decode um_M_compareShort.2.1 54 = .ok (.getfield 25, 3) := by decide +kernel
theorem d_M_compareShort_57 : decode um_M_compareShort.2.1 57 = .ok (.bipush 25, 2) := by decide +kernel
theorem d_M_compareShort_59 : decode um_M_compareShort.2.1 59 = .ok (.iload 5, 2) := by decide +kernel
theorem d_M_compareShort_61 : decode um_M_compareShort.2.1 61 = .ok (.imul, 1) := by decide +kernel
theorem d_M_compareShort_62 : decode um_M_compareShort.2.1 62 = .ok (.iload 6, 2) := by decide +kernel
theorem d_M_compareShort_64 : decode um_M_compareShort.2.1 64 = .ok (.iadd, 1) := by decide +kernel
theorem d_M_compareShort_65 : decode um_M_compareShort.2.1 65 = .ok (.iconst 1, 1) := by decide +kernel
theorem d_M_compareShort_66 : decode um_M_compareShort.2.1 66 = .ok (.iadd, 1) := by decide +kernel
theorem d_M_compareShort_67 : decode um_M_compareShort.2.1 67 = .ok (.iaload, 1) := by decide +kernel
theorem d_M_compareShort_68 : decode um_M_compareShort.2.1 68 = .ok (.istore 9, 2) := by decide +kernel
theorem d_M_compareShort_70 : decode um_M_compareShort.2.1 70 = .ok (.aload_n 0, 1) := by decide +kernel
theorem d_M_compareShort_71 : decode um_M_compareShort.2.1 71 = .ok (.getfield 16, 3) := by decide +kernel
theorem d_M_compareShort_74 : decode um_M_compareShort.2.1 74 = .ok (.iload 5, 2) := by decide +kernel
theorem d_M_compareShort_76 : decode um_M_compareShort.2.1 76 = .ok (.iaload, 1) := by decide +kernel
theorem d_M_compareShort_77 : decode um_M_compareShort.2.1 77 = .ok (.aload_n 0, 1) := by decide +kernel
theorem d_M_compareShort_78 : decode um_M_compareShort.2.1 78 = .ok (.getfield 19, 3) := by decide +kernel
theorem d_M_compareShort_81 : decode um_M_compareShort.2.1 81 = .ok (.iload 6, 2) := by decide +kernel
theorem d_M_compareShort_83 : decode um_M_compareShort.2.1 83 = .ok (.iaload, 1) := by decide +kernel
theorem d_M_compareShort_84 : decode um_M_compareShort.2.1 84 = .ok (.if_icmp .ne 24, 3) := by decide +kernel
theorem d_M_compareShort_87 : decode um_M_compareShort.2.1 87 = .ok (.aload_n 0, 1) := by decide +kernel
theorem d_M_compareShort_88 : decode um_M_compareShort.2.1 88 = .ok (.getfield 25, 3) := by decide +kernel
theorem d_M_compareShort_91 : decode um_M_compareShort.2.1 91 = .ok (.bipush 25, 2) := by decide +kernel
theorem d_M_compareShort_93 : decode um_M_compareShort.2.1 93 = .ok (.iload 5, 2) := by decide +kernel
theorem d_M_compareShort_95 : decode um_M_compareShort.2.1 95 = .ok (.imul, 1) := by decide +kernel
theorem d_M_compareShort_96 : decode um_M_compareShort.2.1 96 = .ok (.bipush 26, 2) := by decide +kernel
theorem d_M_compareShort_98 : decode um_M_compareShort.2.1 98 = .ok (.iadd, 1) := by decide +kernel
theorem d_M_compareShort_99 : decode um_M_compareShort.2.1 99 = .ok (.iload 6, 2) := by decide +kernel
theorem d_M_compareShort_101 : decode um_M_compareShort.2.1 101 = .ok (.iadd, 1) := by decide +kernel
theorem d_M_compareShort_102 : decode um_M_compareShort.2.1 102 = .ok (.iaload, 1) := by decide +kernel
theorem d_M_compareShort_103 : decode um_M_compareShort.2.1 103 = .ok (.iconst 1, 1) := by decide +kernel
theorem d_M_compareShort_104 : decode um_M_compareShort.2.1 104 = .ok (.iadd, 1) := by decide +kernel
theorem d_M_compareShort_105 : decode um_M_compareShort.2.1 105 = .ok (.goto 4, 3) := by decide +kernel
theorem d_M_compareShort_108 : decode um_M_compareShort.2.1 108 = .ok (.iconst 0, 1) := by decide +kernel
theorem d_M_compareShort_109 : decode um_M_compareShort.2.1 109 = .ok (.istore 10, 2) := by decide +kernel
theorem d_M_compareShort_111 : decode um_M_compareShort.2.1 111 = .ok (.iload 8, 2) := by decide +kernel
theorem d_M_compareShort_113 : decode um_M_compareShort.2.1 113 = .ok (.iload 9, 2) := by decide +kernel
theorem d_M_compareShort_115 : decode um_M_compareShort.2.1 115 = .ok (.if_icmp .le 8, 3) := by decide +kernel
theorem d_M_compareShort_118 : decode um_M_compareShort.2.1 118 = .ok (.iload 8, 2) := by decide +kernel
theorem d_M_compareShort_120 : decode um_M_compareShort.2.1 120 = .ok (.goto 5, 3) := by decide +kernel
theorem d_M_compareShort_123 : decode um_M_compareShort.2.1 123 = .ok (.iload 9, 2) := by decide +kernel
theorem d_M_compareShort_125 : decode um_M_compareShort.2.1 125 = .ok (.istore 7, 2) := by decide +kernel
theorem d_M_compareShort_127 : decode um_M_compareShort.2.1 127 = .ok (.iload 10, 2) := by decide +kernel
theorem d_M_compareShort_129 : decode um_M_compareShort.2.1 129 = .ok (.iload 7, 2) := by decide +kernel
theorem d_M_compareShort_131 : decode um_M_compareShort.2.1 131 = .ok (.if_icmp .le 8, 3) := by decide +kernel
theorem d_M_compareShort_134 : decode um_M_compareShort.2.1 134 = .ok (.iload 10, 2) := by decide +kernel
theorem d_M_compareShort_136 : decode um_M_compareShort.2.1 136 = .ok (.goto 5, 3) := by decide +kernel
theorem d_M_compareShort_139 : decode um_M_compareShort.2.1 139 = .ok (.iload 7, 2) := by decide +kernel
theorem d_M_compareShort_141 : decode um_M_compareShort.2.1 141 = .ok (.istore 7, 2) := by decide +kernel
theorem d_M_compareShort_143 : decode um_M_compareShort.2.1 143 = .ok (.aload_n 0, 1) := by decide +kernel
theorem d_M_compareShort_144 : decode um_M_compareShort.2.1 144 = .ok (.getfield 25, 3) := by decide +kernel
theorem d_M_compareShort_147 : decode um_M_compareShort.2.1 147 = .ok (.bipush 25, 2) := by decide +kernel
theorem d_M_compareShort_149 : decode um_M_compareShort.2.1 149 = .ok (.iload 5, 2) := by decide +kernel
theorem d_M_compareShort_151 : decode um_M_compareShort.2.1 151 = .ok (.imul, 1) := by decide +kernel
theorem d_M_compareShort_152 : decode um_M_compareShort.2.1 152 = .ok (.iload 6, 2) := by decide +kernel
theorem d_M_compareShort_154 : decode um_M_compareShort.2.1 154 = .ok (.iadd, 1) := by decide +kernel
theorem d_M_compareShort_155 : decode um_M_compareShort.2.1 155 = .ok (.iload 7, 2) := by decide +kernel
theorem d_M_compareShort_157 : decode um_M_compareShort.2.1 157 = .ok (.iastore, 1) := by decide +kernel
theorem d_M_compareShort_158 : decode um_M_compareShort.2.1 158 = .ok (.iinc 6 (-1), 3) := by decide +kernel
theorem d_M_compareShort_161 : decode um_M_compareShort.2.1 161 = .ok (.goto (-148), 3) := by decide +kernel
theorem d_M_compareShort_164 : decode um_M_compareShort.2.1 164 = .ok (.iinc 5 (-1), 3) := by decide +kernel
theorem d_M_compareShort_167 : decode um_M_compareShort.2.1 167 = .ok (.goto (-164), 3) := by decide +kernel
theorem d_M_compareShort_170 : decode um_M_compareShort.2.1 170 = .ok (.iload_n 1, 1) := by decide +kernel
theorem d_M_compareShort_171 : decode um_M_compareShort.2.1 171 = .ok (.istore 5, 2) := by decide +kernel
theorem d_M_compareShort_173 : decode um_M_compareShort.2.1 173 = .ok (.iload_n 3, 1) := by decide +kernel
theorem d_M_compareShort_174 : decode um_M_compareShort.2.1 174 = .ok (.istore 6, 2) := by decide +kernel
theorem d_M_compareShort_176 : decode um_M_compareShort.2.1 176 = .ok (.iload 5, 2) := by decide +kernel
theorem d_M_compareShort_178 : decode um_M_compareShort.2.1 178 = .ok (.iload_n 2, 1) := by decide +kernel
theorem d_M_compareShort_179 : decode um_M_compareShort.2.1 179 = .ok (.if_icmp .ge 91, 3) := by decide +kernel
theorem d_M_compareShort_182 : decode um_M_compareShort.2.1 182 = .ok (.iload 6, 2) := by decide +kernel
theorem d_M_compareShort_184 : decode um_M_compareShort.2.1 184 = .ok (.iload 4, 2) := by decide +kernel
theorem d_M_compareShort_186 : decode um_M_compareShort.2.1 186 = .ok (.if_icmp .ge 84, 3) := by decide +kernel
theorem d_M_compareShort_189 : decode um_M_compareShort.2.1 189 = .ok (.aload_n 0, 1) := by decide +kernel
theorem d_M_compareShort_190 : decode um_M_compareShort.2.1 190 = .ok (.getfield 16, 3) := by decide +kernel
theorem d_M_compareShort_193 : decode um_M_compareShort.2.1 193 = .ok (.iload 5, 2) := by decide +kernel
theorem d_M_compareShort_195 : decode um_M_compareShort.2.1 195 = .ok (.iaload, 1) := by decide +kernel
theorem d_M_compareShort_196 : decode um_M_compareShort.2.1 196 = .ok (.aload_n 0, 1) := by decide +kernel
theorem d_M_compareShort_197 : decode um_M_compareShort.2.1 197 = .ok (.getfield 19, 3) := by decide +kernel
theorem d_M_compareShort_200 : decode um_M_compareShort.2.1 200 = .ok (.iload 6, 2) := by decide +kernel
theorem d_M_compareShort_202 : decode um_M_compareShort.2.1 202 = .ok (.iaload, 1) := by decide +kernel
theorem d_M_compareShort_203 : decode um_M_compareShort.2.1 203 = .ok (.if_icmp .ne 21, 3) := by decide +kernel
theorem d_M_compareShort_206 : decode um_M_compareShort.2.1 206 = .ok (.aload_n 0, 1) := by decide +kernel
theorem d_M_compareShort_207 : decode um_M_compareShort.2.1 207 = .ok (.getfield 22, 3) := by decide +kernel
theorem d_M_compareShort_210 : decode um_M_compareShort.2.1 210 = .ok (.iload 5, 2) := by decide +kernel
theorem d_M_compareShort_212 : decode um_M_compareShort.2.1 212 = .ok (.iload 6, 2) := by decide +kernel
theorem d_M_compareShort_214 : decode um_M_compareShort.2.1 214 = .ok (.iastore, 1) := by decide +kernel
theorem d_M_compareShort_215 : decode um_M_compareShort.2.1 215 = .ok (.iinc 5 1, 3) := by decide +kernel
theorem d_M_compareShort_218 : decode um_M_compareShort.2.1 218 = .ok (.iinc 6 1, 3) := by decide +kernel
theorem d_M_compareShort_221 : decode um_M_compareShort.2.1 221 = .ok (.goto (-45), 3) := by decide +kernel
theorem d_M_compareShort_224 : decode um_M_compareShort.2.1 224 = .ok (.aload_n 0, 1) := by decide +kernel
theorem d_M_compareShort_225 : decode um_M_compareShort.2.1 225 = .ok (.getfield 25, 3) := by decide +kernel
theorem d_M_compareShort_228 : decode um_M_compareShort.2.1 228 = .ok (.bipush 25, 2) := by decide +kernel
theorem d_M_compareShort_230 : decode um_M_compareShort.2.1 230 = .ok (.iload 5, 2) := by decide +kernel
theorem d_M_compareShort_232 : decode um_M_compareShort.2.1 232 = .ok (.imul, 1) := by decide +kernel
theorem d_M_compareShort_233 : decode um_M_compareShort.2.1 233 = .ok (.bipush 25, 2) := by decide +kernel
theorem d_M_compareShort_235 : decode um_M_compareShort.2.1 235 = .ok (.iadd, 1) := by decide +kernel
theorem d_M_compareShort_236 : decode um_M_compareShort.2.1 236 = .ok (.iload 6, 2) := by decide +kernel
theorem d_M_compareShort_238 : decode um_M_compareShort.2.1 238 = .ok (.iadd, 1) := by decide +kernel
theorem d_M_compareShort_239 : decode um_M_compareShort.2.1 239 = .ok (.iaload, 1) := by decide +kernel
theorem d_M_compareShort_240 : decode um_M_compareShort.2.1 240 = .ok (.aload_n 0, 1) := by decide +kernel
theorem d_M_compareShort_241 : decode um_M_compareShort.2.1 241 = .ok (.getfield 25, 3) := by decide +kernel
theorem d_M_compareShort_244 : decode um_M_compareShort.2.1 244 = .ok (.bipush 25, 2) := by decide +kernel
theorem d_M_compareShort_246 : decode um_M_compareShort.2.1 246 = .ok (.iload 5, 2) := by decide +kernel
theorem d_M_compareShort_248 : decode um_M_compareShort.2.1 248 = .ok (.imul, 1) := by decide +kernel
theorem d_M_compareShort_249 : decode um_M_compareShort.2.1 249 = .ok (.iload 6, 2) := by decide +kernel
theorem d_M_compareShort_251 : decode um_M_compareShort.2.1 251 = .ok (.iadd, 1) := by decide +kernel
theorem d_M_compareShort_252 : decode um_M_compareShort.2.1 252 = .ok (.iconst 1, 1) := by decide +kernel
theorem d_M_compareShort_253 : decode um_M_compareShort.2.1 253 = .ok (.iadd, 1) := by decide +kernel
theorem d_M_compareShort_254 : decode um_M_compareShort.2.1 254 = .ok (.iaload, 1) := by decide +kernel
theorem d_M_compareShort_255 : decode um_M_compareShort.2.1 255 = .ok (.if_icmp .lt 9, 3) := by decide +kernel
theorem d_M_compareShort_258 : decode um_M_compareShort.2.1 258 = .ok (.iinc 5 1, 3) := by decide +kernel
theorem d_M_compareShort_261 : decode um_M_compareShort.2.1 261 = .ok (.goto (-85), 3) := by decide +kernel
theorem d_M_compareShort_264 : decode um_M_compareShort.2.1 264 = .ok (.iinc 6 1, 3) := by decide +kernel
theorem d_M_compareShort_267 : decode um_M_compareShort.2.1 267 = .ok (.goto (-91), 3) := by decide +kernel
theorem d_M_compareShort_270 : decode um_M_compareShort.2.1 270 = .ok (.return_, 1) := by decide +kernel
theorem d_M_await_0 : decode um_M_await.2.1 0 = .ok (.aload_n 0, 1) := by decide +kernel
theorem d_M_await_1 : decode um_M_await.2.1 1 = .ok (.getfield 28, 3) := by decide +kernel
theorem d_M_await_4 : decode um_M_await.2.1 4 = .ok (.aload_n 0, 1) := by decide +kernel
theorem d_M_await_5 : decode um_M_await.2.1 5 = .ok (.getfield 103, 3) := by decide +kernel
theorem d_M_await_8 : decode um_M_await.2.1 8 = .ok (.iload_n 1, 1) := by decide +kernel
theorem d_M_await_9 : decode um_M_await.2.1 9 = .ok (.iastore, 1) := by decide +kernel
theorem d_M_await_10 : decode um_M_await.2.1 10 = .ok (.aload_n 0, 1) := by decide +kernel
theorem d_M_await_11 : decode um_M_await.2.1 11 = .ok (.getfield 31, 3) := by decide +kernel
theorem d_M_await_14 : decode um_M_await.2.1 14 = .ok (.aload_n 0, 1) := by decide +kernel
theorem d_M_await_15 : decode um_M_await.2.1 15 = .ok (.getfield 103, 3) := by decide +kernel
theorem d_M_await_18 : decode um_M_await.2.1 18 = .ok (.iload_n 2, 1) := by decide +kernel
theorem d_M_await_19 : decode um_M_await.2.1 19 = .ok (.iastore, 1) := by decide +kernel
theorem d_M_await_20 : decode um_M_await.2.1 20 = .ok (.aload_n 0, 1) := by decide +kernel
theorem d_M_await_21 : decode um_M_await.2.1 21 = .ok (.getfield 34, 3) := by decide +kernel
theorem d_M_await_24 : decode um_M_await.2.1 24 = .ok (.aload_n 0, 1) := by decide +kernel
theorem d_M_await_25 : decode um_M_await.2.1 25 = .ok (.getfield 103, 3) := by decide +kernel
theorem d_M_await_28 : decode um_M_await.2.1 28 = .ok (.iload_n 3, 1) := by decide +kernel
theorem d_M_await_29 : decode um_M_await.2.1 29 = .ok (.iastore, 1) := by decide +kernel
theorem d_M_await_30 : decode um_M_await.2.1 30 = .ok (.aload_n 0, 1) := by decide +kernel
theorem d_M_await_31 : decode um_M_await.2.1 31 = .ok (.getfield 37, 3) := by decide +kernel
theorem d_M_await_34 : decode um_M_await.2.1 34 = .ok (.aload_n 0, 1) := by decide +kernel
theorem d_M_await_35 : decode um_M_await.2.1 35 = .ok (.getfield 103, 3) := by decide +kernel
theorem d_M_await_38 : decode um_M_await.2.1 38 = .ok (.iload 4, 2) := by decide +kernel
theorem d_M_await_40 : decode um_M_await.2.1 40 = .ok (.iastore, 1) := by decide +kernel
theorem d_M_await_41 : decode um_M_await.2.1 41 = .ok (.aload_n 0, 1) := by decide +kernel
theorem d_M_await_42 : decode um_M_await.2.1 42 = .ok (.dup, 1) := by decide +kernel
theorem d_M_await_43 : decode um_M_await.2.1 43 = .ok (.getfield 103, 3) := by decide +kernel
theorem d_M_await_46 : decode um_M_await.2.1 46 = .ok (.iconst 1, 1) := by decide +kernel
theorem d_M_await_47 : decode um_M_await.2.1 47 = .ok (.iadd, 1) := by decide +kernel
theorem d_M_await_48 : decode um_M_await.2.1 48 = .ok (.putfield 103, 3) := by decide +kernel
theorem d_M_await_51 : decode um_M_await.2.1 51 = .ok (.return_, 1) := by decide +kernel
theorem d_M_partner_0 : decode um_M_partner.2.1 0 = .ok (.iconst 0, 1) := by decide +kernel
theorem d_M_partner_1 : decode um_M_partner.2.1 1 = .ok (.istore 6, 2) := by decide +kernel
theorem d_M_partner_3 : decode um_M_partner.2.1 3 = .ok (.iload_n 2, 1) := by decide +kernel
theorem d_M_partner_4 : decode um_M_partner.2.1 4 = .ok (.istore 7, 2) := by decide +kernel
theorem d_M_partner_6 : decode um_M_partner.2.1 6 = .ok (.iload 7, 2) := by decide +kernel
theorem d_M_partner_8 : decode um_M_partner.2.1 8 = .ok (.iload_n 3, 1) := by decide +kernel
theorem d_M_partner_9 : decode um_M_partner.2.1 9 = .ok (.if_icmp .ge 36, 3) := by decide +kernel
theorem d_M_partner_12 : decode um_M_partner.2.1 12 = .ok (.aload_n 0, 1) := by decide +kernel
theorem d_M_partner_13 : decode um_M_partner.2.1 13 = .ok (.getfield 16, 3) := by decide +kernel
theorem d_M_partner_16 : decode um_M_partner.2.1 16 = .ok (.iload 7, 2) := by decide +kernel
theorem d_M_partner_18 : decode um_M_partner.2.1 18 = .ok (.iaload, 1) := by decide +kernel
theorem d_M_partner_19 : decode um_M_partner.2.1 19 = .ok (.aload_n 0, 1) := by decide +kernel
theorem d_M_partner_20 : decode um_M_partner.2.1 20 = .ok (.getfield 16, 3) := by decide +kernel
theorem d_M_partner_23 : decode um_M_partner.2.1 23 = .ok (.iload_n 1, 1) := by decide +kernel
theorem d_M_partner_24 : decode um_M_partner.2.1 24 = .ok (.iaload, 1) := by decide +kernel
theorem d_M_partner_25 : decode um_M_partner.2.1 25 = .ok (.if_icmp .ne 10, 3) := by decide +kernel
theorem d_M_partner_28 : decode um_M_partner.2.1 28 = .ok (.iload 6, 2) := by decide +kernel
theorem d_M_partner_30 : decode um_M_partner.2.1 30 = .ok (.iconst 1, 1) := by decide +kernel
theorem d_M_partner_31 : decode um_M_partner.2.1 31 = .ok (.iadd, 1) := by decide +kernel
theorem d_M_partner_32 : decode um_M_partner.2.1 32 = .ok (.goto 5, 3) := by decide +kernel
theorem d_M_partner_35 : decode um_M_partner.2.1 35 = .ok (.iload 6, 2) := by decide +kernel
theorem d_M_partner_37 : decode um_M_partner.2.1 37 = .ok (.istore 6, 2) := by decide +kernel
theorem d_M_partner_39 : decode um_M_partner.2.1 39 = .ok (.iinc 7 1, 3) := by decide +kernel
theorem d_M_partner_42 : decode um_M_partner.2.1 42 = .ok (.goto (-36), 3) := by decide +kernel
theorem d_M_partner_45 : decode um_M_partner.2.1 45 = .ok (.iconst 0, 1) := by decide +kernel
theorem d_M_partner_46 : decode um_M_partner.2.1 46 = .ok (.istore 7, 2) := by decide +kernel
theorem d_M_partner_48 : decode um_M_partner.2.1 48 = .ok (.iconst (-1), 1) := by decide +kernel
theorem d_M_partner_49 : decode um_M_partner.2.1 49 = .ok (.istore 8, 2) := by decide +kernel
theorem d_M_partner_51 : decode um_M_partner.2.1 51 = .ok (.iload 4, 2) := by decide +kernel
theorem d_M_partner_53 : decode um_M_partner.2.1 53 = .ok (.istore 9, 2) := by decide +kernel
theorem d_M_partner_55 : decode um_M_partner.2.1 55 = .ok (.iload 9, 2) := by decide +kernel
theorem d_M_partner_57 : decode um_M_partner.2.1 57 = .ok (.iload 5, 2) := by decide +kernel
theorem d_M_partner_59 : decode um_M_partner.2.1 59 = .ok (.if_icmp .ge 61, 3) := by decide +kernel
theorem d_M_partner_62 : decode um_M_partner.2.1 62 = .ok (.aload_n 0, 1) := by decide +kernel
theorem d_M_partner_63 : decode um_M_partner.2.1 63 = .ok (.getfield 19, 3) := by decide +kernel
theorem d_M_partner_66 : decode um_M_partner.2.1 66 = .ok (.iload 9, 2) := by decide +kernel
theorem d_M_partner_68 : decode um_M_partner.2.1 68 = .ok (.iaload, 1) := by decide +kernel
theorem d_M_partner_69 : decode um_M_partner.2.1 69 = .ok (.aload_n 0, 1) := by decide +kernel
theorem d_M_partner_70 : decode um_M_partner.2.1 70 = .ok (.getfield 16, 3) := by decide +kernel
theorem d_M_partner_73 : decode um_M_partner.2.1 73 = .ok (.iload_n 1, 1) := by decide +kernel
theorem d_M_partner_74 : decode um_M_partner.2.1 74 = .ok (.iaload, 1) := by decide +kernel
theorem d_M_partner_75 : decode um_M_partner.2.1 75 = .ok (.if_icmp .ne 10, 3) := by decide +kernel
theorem d_M_partner_78 : decode um_M_partner.2.1 78 = .ok (.iload 7, 2) := by decide +kernel
theorem d_M_partner_80 : decode um_M_partner.2.1 80 = .ok (.iconst 1, 1) := by decide +kernel
theorem d_M_partner_81 : decode um_M_partner.2.1 81 = .ok (.iadd, 1) := by decide +kernel
theorem d_M_partner_82 : decode um_M_partner.2.1 82 = .ok (.goto 5, 3) := by decide +kernel
theorem d_M_partner_85 : decode um_M_partner.2.1 85 = .ok (.iload 7, 2) := by decide +kernel
theorem d_M_partner_87 : decode um_M_partner.2.1 87 = .ok (.istore 7, 2) := by decide +kernel
theorem d_M_partner_89 : decode um_M_partner.2.1 89 = .ok (.aload_n 0, 1) := by decide +kernel
theorem d_M_partner_90 : decode um_M_partner.2.1 90 = .ok (.getfield 19, 3) := by decide +kernel
theorem d_M_partner_93 : decode um_M_partner.2.1 93 = .ok (.iload 9, 2) := by decide +kernel
theorem d_M_partner_95 : decode um_M_partner.2.1 95 = .ok (.iaload, 1) := by decide +kernel
theorem d_M_partner_96 : decode um_M_partner.2.1 96 = .ok (.aload_n 0, 1) := by decide +kernel
theorem d_M_partner_97 : decode um_M_partner.2.1 97 = .ok (.getfield 16, 3) := by decide +kernel
theorem d_M_partner_100 : decode um_M_partner.2.1 100 = .ok (.iload_n 1, 1) := by decide +kernel
theorem d_M_partner_101 : decode um_M_partner.2.1 101 = .ok (.iaload, 1) := by decide +kernel
theorem d_M_partner_102 : decode um_M_partner.2.1 102 = .ok (.if_icmp .ne 8, 3) := by decide +kernel
theorem d_M_partner_105 : decode um_M_partner.2.1 105 = .ok (.iload 9, 2) := by decide +kernel
theorem d_M_partner_107 : decode um_M_partner.2.1 107 = .ok (.goto 5, 3) := by decide +kernel
theorem d_M_partner_110 : decode um_M_partner.2.1 110 = .ok (.iload 8, 2) := by decide +kernel
theorem d_M_partner_112 : decode um_M_partner.2.1 112 = .ok (.istore 8, 2) := by decide +kernel
theorem d_M_partner_114 : decode um_M_partner.2.1 114 = .ok (.iinc 9 1, 3) := by decide +kernel
theorem d_M_partner_117 : decode um_M_partner.2.1 117 = .ok (.goto (-62), 3) := by decide +kernel
theorem d_M_partner_120 : decode um_M_partner.2.1 120 = .ok (.iload 6, 2) := by decide +kernel
theorem d_M_partner_122 : decode um_M_partner.2.1 122 = .ok (.iconst 1, 1) := by decide +kernel
theorem d_M_partner_123 : decode um_M_partner.2.1 123 = .ok (.if_icmp .ne 14, 3) := by decide +kernel
theorem d_M_partner_126 : decode um_M_partner.2.1 126 = .ok (.iload 7, 2) := by decide +kernel
theorem d_M_partner_128 : decode um_M_partner.2.1 128 = .ok (.iconst 1, 1) := by decide +kernel
theorem d_M_partner_129 : decode um_M_partner.2.1 129 = .ok (.if_icmp .ne 8, 3) := by decide +kernel
theorem d_M_partner_132 : decode um_M_partner.2.1 132 = .ok (.iload 8, 2) := by decide +kernel
theorem d_M_partner_134 : decode um_M_partner.2.1 134 = .ok (.goto 4, 3) := by decide +kernel
theorem d_M_partner_137 : decode um_M_partner.2.1 137 = .ok (.iconst (-1), 1) := by decide +kernel
theorem d_M_partner_138 : decode um_M_partner.2.1 138 = .ok (.ireturn, 1) := by decide +kernel
theorem d_M_findRanks_0 : decode um_M_findRanks.2.1 0 = .ok (.iconst 0, 1) := by decide +kernel
theorem d_M_findRanks_1 : decode um_M_findRanks.2.1 1 = .ok (.istore 5, 2) := by decide +kernel
theorem d_M_findRanks_3 : decode um_M_findRanks.2.1 3 = .ok (.iload_n 1, 1) := by decide +kernel
theorem d_M_findRanks_4 : decode um_M_findRanks.2.1 4 = .ok (.istore 6, 2) := by decide +kernel
theorem d_M_findRanks_6 : decode um_M_findRanks.2.1 6 = .ok (.iload 6, 2) := by decide +kernel
theorem d_M_findRanks_8 : decode um_M_findRanks.2.1 8 = .ok (.iload_n 2, 1) := by decide +kernel
theorem d_M_findRanks_9 : decode um_M_findRanks.2.1 9 = .ok (.if_icmp .ge 148, 3) := by decide +kernel
theorem d_M_findRanks_12 : decode um_M_findRanks.2.1 12 = .ok (.aload_n 0, 1) := by decide +kernel
theorem d_M_findRanks_13 : decode um_M_findRanks.2.1 13 = .ok (.getfield 40, 3) := by decide +kernel
theorem d_M_findRanks_16 : decode um_M_findRanks.2.1 16 = .ok (.iload 6, 2) := by decide +kernel
theorem d_M_findRanks_18 : decode um_M_findRanks.2.1 18 = .ok (.aload_n 0, 1) := by decide +kernel
theorem d_M_findRanks_19 : decode um_M_findRanks.2.1 19 = .ok (.iload 6, 2) := by decide +kernel
theorem d_M_findRanks_21 : decode um_M_findRanks.2.1 21 = .ok (.iload_n 1, 1) := by decide +kernel
theorem d_M_findRanks_22 : decode um_M_findRanks.2.1 22 = .ok (.iload_n 2, 1) := by decide +kernel
theorem d_M_findRanks_23 : decode um_M_findRanks.2.1 23 = .ok (.iload_n 3, 1) := by decide +kernel
theorem d_M_findRanks_24 : decode um_M_findRanks.2.1 24 = .ok (.iload 4, 2) := by decide +kernel
theorem d_M_findRanks_26 : decode um_M_findRanks.2.1 26 = .ok (.invokevirtual 106, 3) := by decide +kernel
theorem d_M_findRanks_29 : decode um_M_findRanks.2.1 29 = .ok (.iastore, 1) := by decide +kernel
theorem d_M_findRanks_30 : decode um_M_findRanks.2.1 30 = .ok (.aload_n 0, 1) := by decide +kernel
theorem d_M_findRanks_31 : decode um_M_findRanks.2.1 31 = .ok (.getfield 43, 3) := by decide +kernel
theorem d_M_findRanks_34 : decode um_M_findRanks.2.1 34 = .ok (.iload 6, 2) := by decide +kernel
theorem d_M_findRanks_36 : decode um_M_findRanks.2.1 36 = .ok (.iconst 0, 1) := by decide +kernel
theorem d_M_findRanks_37 : decode um_M_findRanks.2.1 37 = .ok (.iastore, 1) := by decide +kernel
theorem d_M_findRanks_38 : decode um_M_findRanks.2.1 38 = .ok (.aload_n 0, 1) := by decide +kernel
theorem d_M_findRanks_39 : decode um_M_findRanks.2.1 39 = .ok (.getfield 40, 3) := by decide +kernel
theorem d_M_findRanks_42 : decode um_M_findRanks.2.1 42 = .ok (.iload 6, 2) := by decide +kernel
theorem d_M_findRanks_44 : decode um_M_findRanks.2.1 44 = .ok (.iaload, 1) := by decide +kernel
theorem d_M_findRanks_45 : decode um_M_findRanks.2.1 45 = .ok (.ifCond .lt 106, 3) := by decide +kernel
theorem d_M_findRanks_48 : decode um_M_findRanks.2.1 48 = .ok (.iconst 0, 1) := by decide +kernel
theorem d_M_findRanks_49 : decode um_M_findRanks.2.1 49 = .ok (.istore 7, 2) := by decide +kernel
theorem d_M_findRanks_51 : decode um_M_findRanks.2.1 51 = .ok (.iload_n 1, 1) := by decide +kernel
theorem d_M_findRanks_52 : decode um_M_findRanks.2.1 52 = .ok (.istore 8, 2) := by decide +kernel
theorem d_M_findRanks_54 : decode um_M_findRanks.2.1 54 = .ok (.iload 8, 2) := by decide +kernel
theorem d_M_findRanks_56 : decode um_M_findRanks.2.1 56 = .ok (.iload 6, 2) := by decide +kernel
theorem d_M_findRanks_58 : decode um_M_findRanks.2.1 58 = .ok (.if_icmp .ge 62, 3) := by decide +kernel
theorem d_M_findRanks_61 : decode um_M_findRanks.2.1 61 = .ok (.aload_n 0, 1) := by decide +kernel
theorem d_M_findRanks_62 : decode um_M_findRanks.2.1 62 = .ok (.getfield 40, 3) := by decide +kernel
theorem d_M_findRanks_65 : decode um_M_findRanks.2.1 65 = .ok (.iload 8, 2) := by decide +kernel
theorem d_M_findRanks_67 : decode um_M_findRanks.2.1 67 = .ok (.iaload, 1) := by decide +kernel
theorem d_M_findRanks_68 : decode um_M_findRanks.2.1 68 = .ok (.ifCond .lt 42, 3) := by decide +kernel
theorem d_M_findRanks_71 : decode um_M_findRanks.2.1 71 = .ok (.aload_n 0, 1) := by decide +kernel
theorem d_M_findRanks_72 : decode um_M_findRanks.2.1 72 = .ok (.getfield 40, 3) := by decide +kernel
theorem d_M_findRanks_75 : decode um_M_findRanks.2.1 75 = .ok (.iload 8, 2) := by decide +kernel
theorem d_M_findRanks_77 : decode um_M_findRanks.2.1 77 = .ok (.iaload, 1) := by decide +kernel
theorem d_M_findRanks_78 : decode um_M_findRanks.2.1 78 = .ok (.aload_n 0, 1) := by decide +kernel
theorem d_M_findRanks_79 : decode um_M_findRanks.2.1 79 = .ok (.getfield 40, 3) := by decide +kernel
theorem d_M_findRanks_82 : decode um_M_findRanks.2.1 82 = .ok (.iload 6, 2) := by decide +kernel
theorem d_M_findRanks_84 : decode um_M_findRanks.2.1 84 = .ok (.iaload, 1) := by decide +kernel
theorem d_M_findRanks_85 : decode um_M_findRanks.2.1 85 = .ok (.if_icmp .ge 25, 3) := by decide +kernel
theorem d_M_findRanks_88 : decode um_M_findRanks.2.1 88 = .ok (.aload_n 0, 1) := by decide +kernel
theorem d_M_findRanks_89 : decode um_M_findRanks.2.1 89 = .ok (.getfield 43, 3) := by decide +kernel
theorem d_M_findRanks_92 : decode um_M_findRanks.2.1 92 = .ok (.iload 8, 2) := by decide +kernel
theorem d_M_findRanks_94 : decode um_M_findRanks.2.1 94 = .ok (.iaload, 1) := by decide +kernel
theorem d_M_findRanks_95 : decode um_M_findRanks.2.1 95 = .ok (.iload 7, 2) := by decide +kernel
theorem d_M_findRanks_97 : decode um_M_findRanks.2.1 97 = .ok (.if_icmp .le 13, 3) := by decide +kernel
theorem d_M_findRanks_100 : decode um_M_findRanks.2.1 100 = .ok (.aload_n 0, 1) := by decide +kernel
theorem d_M_findRanks_101 : decode um_M_findRanks.2.1 101 = .ok (.getfield 43, 3) := by decide +kernel
theorem d_M_findRanks_104 : decode um_M_findRanks.2.1 104 = .ok (.iload 8, 2) := by decide +kernel
theorem d_M_findRanks_106 : decode um_M_findRanks.2.1 106 = .ok (.iaload, 1) := by decide +kernel
theorem d_M_findRanks_107 : decode um_M_findRanks.2.1 107 = .ok (.goto 5, 3) := by decide +kernel
theorem d_M_findRanks_110 : decode um_M_findRanks.2.1 110 = .ok (.iload 7, 2) := by decide +kernel
theorem d_M_findRanks_112 : decode um_M_findRanks.2.1 112 = .ok (.istore 7, 2) := by decide +kernel
theorem d_M_findRanks_114 : decode um_M_findRanks.2.1 114 = .ok (.iinc 8 1, 3) := by decide +kernel
theorem d_M_findRanks_117 : decode um_M_findRanks.2.1 117 = .ok (.goto (-63), 3) := by decide +kernel
theorem d_M_findRanks_120 : decode um_M_findRanks.2.1 120 = .ok (.aload_n 0, 1) := by decide +kernel
theorem d_M_findRanks_121 : decode um_M_findRanks.2.1 121 = .ok (.getfield 43, 3) := by decide +kernel
theorem d_M_findRanks_124 : decode um_M_findRanks.2.1 124 = .ok (.iload 6, 2) := by decide +kernel
theorem d_M_findRanks_126 : decode um_M_findRanks.2.1 126 = .ok (.iload 7, 2) := by decide +kernel
theorem d_M_findRanks_128 : decode um_M_findRanks.2.1 128 = .ok (.iconst 1, 1) := by decide +kernel
theorem d_M_findRanks_129 : decode um_M_findRanks.2.1 129 = .ok (.iadd, 1) := by decide +kernel
theorem d_M_findRanks_130 : decode um_M_findRanks.2.1 130 = .ok (.iastore, 1) := by decide +kernel
theorem d_M_findRanks_131 : decode um_M_findRanks.2.1 131 = .ok (.iload 7, 2) := by decide +kernel
theorem d_M_findRanks_133 : decode um_M_findRanks.2.1 133 = .ok (.iconst 1, 1) := by decide +kernel
theorem d_M_findRanks_134 : decode um_M_findRanks.2.1 134 = .ok (.iadd, 1) := by decide +kernel
theorem d_M_findRanks_135 : decode um_M_findRanks.2.1 135 = .ok (.iload 5, 2) := by decide +kernel
theorem d_M_findRanks_137 : decode um_M_findRanks.2.1 137 = .ok (.if_icmp .le 10, 3) := by decide +kernel
theorem d_M_findRanks_140 : decode um_M_findRanks.2.1 140 = .ok (.iload 7, 2) := by decide +kernel
theorem d_M_findRanks_142 : decode um_M_findRanks.2.1 142 = .ok (.iconst 1, 1) := by decide +kernel
theorem d_M_findRanks_143 : decode um_M_findRanks.2.1 143 = .ok (.iadd, 1) := by decide +kernel
theorem d_M_findRanks_144 : decode um_M_findRanks.2.1 144 = .ok (.goto 5, 3) := by decide +kernel
theorem d_M_findRanks_147 : decode um_M_findRanks.2.1 147 = .ok (.iload 5, 2) := by decide +kernel
theorem d_M_findRanks_149 : decode um_M_findRanks.2.1 149 = .ok (.istore 5, 2) := by decide +kernel
theorem d_M_findRanks_151 : decode um_M_findRanks.2.1 151 = .ok (.iinc 6 1, 3) := by decide +kernel
theorem d_M_findRanks_154 : decode um_M_findRanks.2.1 154 = .ok (.goto (-148), 3) := by decide +kernel
theorem d_M_findRanks_157 : decode um_M_findRanks.2.1 157 = .ok (.iload 5, 2) := by decide +kernel
theorem d_M_findRanks_159 : decode um_M_findRanks.2.1 159 = .ok (.ireturn, 1) := by decide +kernel
theorem d_M_standOut_0 : decode um_M_standOut.2.1 0 = .ok (.iload_n 1, 1) := by decide +kernel
theorem d_M_standOut_1 : decode um_M_standOut.2.1 1 = .ok (.istore 5, 2) := by decide +kernel
theorem d_M_standOut_3 : decode um_M_standOut.2.1 3 = .ok (.iload_n 3, 1) := by decide +kernel
theorem d_M_standOut_4 : decode um_M_standOut.2.1 4 = .ok (.istore 6, 2) := by decide +kernel
theorem d_M_standOut_6 : decode um_M_standOut.2.1 6 = .ok (.iload 5, 2) := by decide +kernel
theorem d_M_standOut_8 : decode um_M_standOut.2.1 8 = .ok (.iload_n 2, 1) := by decide +kernel
theorem d_M_standOut_9 : decode um_M_standOut.2.1 9 = .ok (.if_icmp .ge 45, 3) := by decide +kernel
theorem d_M_standOut_12 : decode um_M_standOut.2.1 12 = .ok (.iload 6, 2) := by decide +kernel
theorem d_M_standOut_14 : decode um_M_standOut.2.1 14 = .ok (.iload 4, 2) := by decide +kernel
theorem d_M_standOut_16 : decode um_M_standOut.2.1 16 = .ok (.if_icmp .ge 38, 3) := by decide +kernel
theorem d_M_standOut_19 : decode um_M_standOut.2.1 19 = .ok (.aload_n 0, 1) := by decide +kernel
theorem d_M_standOut_20 : decode um_M_standOut.2.1 20 = .ok (.getfield 16, 3) := by decide +kernel
theorem d_M_standOut_23 : decode um_M_standOut.2.1 23 = .ok (.iload 5, 2) := by decide +kernel
theorem d_M_standOut_25 : decode um_M_standOut.2.1 25 = .ok (.iaload, 1) := by decide +kernel
theorem d_M_standOut_26 : decode um_M_standOut.2.1 26 = .ok (.aload_n 0, 1) := by decide +kernel
theorem d_M_standOut_27 : decode um_M_standOut.2.1 27 = .ok (.getfield 19, 3) := by decide +kernel
theorem d_M_standOut_30 : decode um_M_standOut.2.1 30 = .ok (.iload 6, 2) := by decide +kernel
theorem d_M_standOut_32 : decode um_M_standOut.2.1 32 = .ok (.iaload, 1) := by decide +kernel
theorem d_M_standOut_33 : decode um_M_standOut.2.1 33 = .ok (.if_icmp .ne 21, 3) := by decide +kernel
theorem d_M_standOut_36 : decode um_M_standOut.2.1 36 = .ok (.aload_n 0, 1) := by decide +kernel
theorem d_M_standOut_37 : decode um_M_standOut.2.1 37 = .ok (.getfield 22, 3) := by decide +kernel
theorem d_M_standOut_40 : decode um_M_standOut.2.1 40 = .ok (.iload 5, 2) := by decide +kernel
theorem d_M_standOut_42 : decode um_M_standOut.2.1 42 = .ok (.iload 6, 2) := by decide +kernel
theorem d_M_standOut_44 : decode um_M_standOut.2.1 44 = .ok (.iastore, 1) := by decide +kernel
theorem d_M_standOut_45 : decode um_M_standOut.2.1 45 = .ok (.iinc 5 1, 3) := by decide +kernel
theorem d_M_standOut_48 : decode um_M_standOut.2.1 48 = .ok (.iinc 6 1, 3) := by decide +kernel
theorem d_M_standOut_51 : decode um_M_standOut.2.1 51 = .ok (.goto (-45), 3) := by decide +kernel
theorem d_M_standOut_54 : decode um_M_standOut.2.1 54 = .ok (.iload_n 2, 1) := by decide +kernel
theorem d_M_standOut_55 : decode um_M_standOut.2.1 55 = .ok (.istore 7, 2) := by decide +kernel
theorem d_M_standOut_57 : decode um_M_standOut.2.1 57 = .ok (.iload 4, 2) := by decide +kernel
theorem d_M_standOut_59 : decode um_M_standOut.2.1 59 = .ok (.istore 8, 2) := by decide +kernel
theorem d_M_standOut_61 : decode um_M_standOut.2.1 61 = .ok (.iload 7, 2) := by decide +kernel
theorem d_M_standOut_63 : decode um_M_standOut.2.1 63 = .ok (.iload 5, 2) := by decide +kernel
theorem d_M_standOut_65 : decode um_M_standOut.2.1 65 = .ok (.if_icmp .le 49, 3) := by decide +kernel
theorem d_M_standOut_68 : decode um_M_standOut.2.1 68 = .ok (.iload 8, 2) := by decide +kernel
theorem d_M_standOut_70 : decode um_M_standOut.2.1 70 = .ok (.iload 6, 2) := by decide +kernel
theorem d_M_standOut_72 : decode um_M_standOut.2.1 72 = .ok (.if_icmp .le 42, 3) := by decide +kernel
theorem d_M_standOut_75 : decode um_M_standOut.2.1 75 = .ok (.aload_n 0, 1) := by decide +kernel
theorem d_M_standOut_76 : decode um_M_standOut.2.1 76 = .ok (.getfield 16, 3) := by decide +kernel
theorem d_M_standOut_79 : decode um_M_standOut.2.1 79 = .ok (.iload 7, 2) := by decide +kernel
theorem d_M_standOut_81 : decode um_M_standOut.2.1 81 = .ok (.iconst 1, 1) := by decide +kernel
theorem d_M_standOut_82 : decode um_M_standOut.2.1 82 = .ok (.isub, 1) := by decide +kernel
theorem d_M_standOut_83 : decode um_M_standOut.2.1 83 = .ok (.iaload, 1) := by decide +kernel
theorem d_M_standOut_84 : decode um_M_standOut.2.1 84 = .ok (.aload_n 0, 1) := by decide +kernel
theorem d_M_standOut_85 : decode um_M_standOut.2.1 85 = .ok (.getfield 19, 3) := by decide +kernel
theorem d_M_standOut_88 : decode um_M_standOut.2.1 88 = .ok (.iload 8, 2) := by decide +kernel
theorem d_M_standOut_90 : decode um_M_standOut.2.1 90 = .ok (.iconst 1, 1) := by decide +kernel
theorem d_M_standOut_91 : decode um_M_standOut.2.1 91 = .ok (.isub, 1) := by decide +kernel
theorem d_M_standOut_92 : decode um_M_standOut.2.1 92 = .ok (.iaload, 1) := by decide +kernel
theorem d_M_standOut_93 : decode um_M_standOut.2.1 93 = .ok (.if_icmp .ne 21, 3) := by decide +kernel
theorem d_M_standOut_96 : decode um_M_standOut.2.1 96 = .ok (.iinc 7 (-1), 3) := by decide +kernel
theorem d_M_standOut_99 : decode um_M_standOut.2.1 99 = .ok (.iinc 8 (-1), 3) := by decide +kernel
theorem d_M_standOut_102 : decode um_M_standOut.2.1 102 = .ok (.aload_n 0, 1) := by decide +kernel
theorem d_M_standOut_103 : decode um_M_standOut.2.1 103 = .ok (.getfield 22, 3) := by decide +kernel
theorem d_M_standOut_106 : decode um_M_standOut.2.1 106 = .ok (.iload 7, 2) := by decide +kernel
theorem d_M_standOut_108 : decode um_M_standOut.2.1 108 = .ok (.iload 8, 2) := by decide +kernel
theorem d_M_standOut_110 : decode um_M_standOut.2.1 110 = .ok (.iastore, 1) := by decide +kernel
theorem d_M_standOut_111 : decode um_M_standOut.2.1 111 = .ok (.goto (-50), 3) := by decide +kernel
theorem d_M_standOut_114 : decode um_M_standOut.2.1 114 = .ok (.aload_n 0, 1) := by decide +kernel
theorem d_M_standOut_115 : decode um_M_standOut.2.1 115 = .ok (.iload 5, 2) := by decide +kernel
theorem d_M_standOut_117 : decode um_M_standOut.2.1 117 = .ok (.iload 7, 2) := by decide +kernel
theorem d_M_standOut_119 : decode um_M_standOut.2.1 119 = .ok (.iload 6, 2) := by decide +kernel
theorem d_M_standOut_121 : decode um_M_standOut.2.1 121 = .ok (.iload 8, 2) := by decide +kernel
theorem d_M_standOut_123 : decode um_M_standOut.2.1 123 = .ok (.invokevirtual 110, 3) := by decide +kernel
theorem d_M_standOut_126 : decode um_M_standOut.2.1 126 = .ok (.istore 9, 2) := by decide +kernel
theorem d_M_standOut_128 : decode um_M_standOut.2.1 128 = .ok (.iload 9, 2) := by decide +kernel
theorem d_M_standOut_130 : decode um_M_standOut.2.1 130 = .ok (.ifCond .ne 16, 3) := by decide +kernel
theorem d_M_standOut_133 : decode um_M_standOut.2.1 133 = .ok (.aload_n 0, 1) := by decide +kernel
theorem d_M_standOut_134 : decode um_M_standOut.2.1 134 = .ok (.iload 5, 2) := by decide +kernel
theorem d_M_standOut_136 : decode um_M_standOut.2.1 136 = .ok (.iload 7, 2) := by decide +kernel
theorem d_M_standOut_138 : decode um_M_standOut.2.1 138 = .ok (.iload 6, 2) := by decide +kernel
theorem d_M_standOut_140 : decode um_M_standOut.2.1 140 = .ok (.iload 8, 2) := by decide +kernel
theorem d_M_standOut_142 : decode um_M_standOut.2.1 142 = .ok (.invokevirtual 114, 3) := by decide +kernel
theorem d_M_standOut_145 : decode um_M_standOut.2.1 145 = .ok (.return_, 1) := by decide +kernel
theorem d_M_standOut_146 : decode um_M_standOut.2.1 146 = .ok (.iload 7, 2) := by decide +kernel
theorem d_M_standOut_148 : decode um_M_standOut.2.1 148 = .ok (.istore 10, 2) := by decide +kernel
theorem d_M_standOut_150 : decode um_M_standOut.2.1 150 = .ok (.iload 8, 2) := by decide +kernel
theorem d_M_standOut_152 : decode um_M_standOut.2.1 152 = .ok (.istore 11, 2) := by decide +kernel
theorem d_M_standOut_154 : decode um_M_standOut.2.1 154 = .ok (.iload 7, 2) := by decide +kernel
theorem d_M_standOut_156 : decode um_M_standOut.2.1 156 = .ok (.iconst 1, 1) := by decide +kernel
theorem d_M_standOut_157 : decode um_M_standOut.2.1 157 = .ok (.isub, 1) := by decide +kernel
theorem d_M_standOut_158 : decode um_M_standOut.2.1 158 = .ok (.istore 12, 2) := by decide +kernel
theorem d_M_standOut_160 : decode um_M_standOut.2.1 160 = .ok (.iload 12, 2) := by decide +kernel
theorem d_M_standOut_162 : decode um_M_standOut.2.1 162 = .ok (.iload 5, 2) := by decide +kernel
theorem d_M_standOut_164 : decode um_M_standOut.2.1 164 = .ok (.if_icmp .lt 77, 3) := by decide +kernel
theorem d_M_standOut_167 : decode um_M_standOut.2.1 167 = .ok (.aload_n 0, 1) := by decide +kernel
theorem d_M_standOut_168 : decode um_M_standOut.2.1 168 = .ok (.getfield 43, 3) := by decide +kernel
theorem d_M_standOut_171 : decode um_M_standOut.2.1 171 = .ok (.iload 12, 2) := by decide +kernel
theorem d_M_standOut_173 : decode um_M_standOut.2.1 173 = .ok (.iaload, 1) := by decide +kernel
theorem d_M_standOut_174 : decode um_M_standOut.2.1 174 = .ok (.iload 9, 2) := by decide +kernel
theorem d_M_standOut_176 : decode um_M_standOut.2.1 176 = .ok (.if_icmp .ne 59, 3) := by decide +kernel
theorem d_M_standOut_179 : decode um_M_standOut.2.1 179 = .ok (.iload 9, 2) := by decide +kernel
theorem d_M_standOut_181 : decode um_M_standOut.2.1 181 = .ok (.ifCond .le 54, 3) := by decide +kernel
theorem d_M_standOut_184 : decode um_M_standOut.2.1 184 = .ok (.aload_n 0, 1) := by decide +kernel
theorem d_M_standOut_185 : decode um_M_standOut.2.1 185 = .ok (.getfield 22, 3) := by decide +kernel
theorem d_M_standOut_188 : decode um_M_standOut.2.1 188 = .ok (.iload 12, 2) := by decide +kernel
theorem d_M_standOut_190 : decode um_M_standOut.2.1 190 = .ok (.aload_n 0, 1) := by decide +kernel
theorem d_M_standOut_191 : decode um_M_standOut.2.1 191 = .ok (.getfield 40, 3) := by decide +kernel
theorem d_M_standOut_194 : decode um_M_standOut.2.1 194 = .ok (.iload 12, 2) := by decide +kernel
theorem d_M_standOut_196 : decode um_M_standOut.2.1 196 = .ok (.iaload, 1) := by decide +kernel
theorem d_M_standOut_197 : decode um_M_standOut.2.1 197 = .ok (.iastore, 1) := by decide +kernel
theorem d_M_standOut_198 : decode um_M_standOut.2.1 198 = .ok (.aload_n 0, 1) := by decide +kernel
theorem d_M_standOut_199 : decode um_M_standOut.2.1 199 = .ok (.iload 12, 2) := by decide +kernel
theorem d_M_standOut_201 : decode um_M_standOut.2.1 201 = .ok (.iconst 1, 1) := by decide +kernel
theorem d_M_standOut_202 : decode um_M_standOut.2.1 202 = .ok (.iadd, 1) := by decide +kernel
theorem d_M_standOut_203 : decode um_M_standOut.2.1 203 = .ok (.iload 10, 2) := by decide +kernel
theorem d_M_standOut_205 : decode um_M_standOut.2.1 205 = .ok (.aload_n 0, 1) := by decide +kernel
theorem d_M_standOut_206 : decode um_M_standOut.2.1 206 = .ok (.getfield 40, 3) := by decide +kernel
theorem d_M_standOut_209 : decode um_M_standOut.2.1 209 = .ok (.iload 12, 2) := by decide +kernel
theorem d_M_standOut_211 : decode um_M_standOut.2.1 211 = .ok (.iaload, 1) := by decide +kernel
theorem d_M_standOut_212 : decode um_M_standOut.2.1 212 = .ok (.iconst 1, 1) := by decide +kernel
theorem d_M_standOut_213 : decode um_M_standOut.2.1 213 = .ok (.iadd, 1) := by decide +kernel
theorem d_M_standOut_214 : decode um_M_standOut.2.1 214 = .ok (.iload 11, 2) := by decide +kernel
theorem d_M_standOut_216 : decode um_M_standOut.2.1 216 = .ok (.invokevirtual 118, 3) := by decide +kernel
theorem d_M_standOut_219 : decode um_M_standOut.2.1 219 = .ok (.iload 12, 2) := by decide +kernel
theorem d_M_standOut_221 : decode um_M_standOut.2.1 221 = .ok (.istore 10, 2) := by decide +kernel
theorem d_M_standOut_223 : decode um_M_standOut.2.1 223 = .ok (.aload_n 0, 1) := by decide +kernel
theorem d_M_standOut_224 : decode um_M_standOut.2.1 224 = .ok (.getfield 40, 3) := by decide +kernel
theorem d_M_standOut_227 : decode um_M_standOut.2.1 227 = .ok (.iload 12, 2) := by decide +kernel
theorem d_M_standOut_229 : decode um_M_standOut.2.1 229 = .ok (.iaload, 1) := by decide +kernel
theorem d_M_standOut_230 : decode um_M_standOut.2.1 230 = .ok (.istore 11, 2) := by decide +kernel
theorem d_M_standOut_232 : decode um_M_standOut.2.1 232 = .ok (.iinc 9 (-1), 3) := by decide +kernel
theorem d_M_standOut_235 : decode um_M_standOut.2.1 235 = .ok (.iinc 12 (-1), 3) := by decide +kernel
theorem d_M_standOut_238 : decode um_M_standOut.2.1 238 = .ok (.goto (-78), 3) := by decide +kernel
theorem d_M_standOut_241 : decode um_M_standOut.2.1 241 = .ok (.aload_n 0, 1) := by decide +kernel
theorem d_M_standOut_242 : decode um_M_standOut.2.1 242 = .ok (.iload 5, 2) := by decide +kernel
theorem d_M_standOut_244 : decode um_M_standOut.2.1 244 = .ok (.iload 10, 2) := by decide +kernel
theorem d_M_standOut_246 : decode um_M_standOut.2.1 246 = .ok (.iload 6, 2) := by decide +kernel
theorem d_M_standOut_248 : decode um_M_standOut.2.1 248 = .ok (.iload 11, 2) := by decide +kernel
theorem d_M_standOut_250 : decode um_M_standOut.2.1 250 = .ok (.invokevirtual 118, 3) := by decide +kernel
theorem d_M_standOut_253 : decode um_M_standOut.2.1 253 = .ok (.return_, 1) := by decide +kernel
theorem d_M_compareAll_0 : decode um_M_compareAll.2.1 0 = .ok (.iload_n 1, 1) := by decide +kernel
theorem d_M_compareAll_1 : decode um_M_compareAll.2.1 1 = .ok (.ifCond .ne 18, 3) := by decide +kernel
theorem d_M_compareAll_4 : decode um_M_compareAll.2.1 4 = .ok (.aload_n 0, 1) := by decide +kernel
theorem d_M_compareAll_5 : decode um_M_compareAll.2.1 5 = .ok (.iconst 0, 1) := by decide +kernel
theorem d_M_compareAll_6 : decode um_M_compareAll.2.1 6 = .ok (.aload_n 0, 1) := by decide +kernel
theorem d_M_compareAll_7 : decode um_M_compareAll.2.1 7 = .ok (.getfield 96, 3) := by decide +kernel
theorem d_M_compareAll_10 : decode um_M_compareAll.2.1 10 = .ok (.iconst 0, 1) := by decide +kernel
theorem d_M_compareAll_11 : decode um_M_compareAll.2.1 11 = .ok (.aload_n 0, 1) := by decide +kernel
theorem d_M_compareAll_12 : decode um_M_compareAll.2.1 12 = .ok (.getfield 100, 3) := by decide +kernel
theorem d_M_compareAll_15 : decode um_M_compareAll.2.1 15 = .ok (.invokevirtual 114, 3) := by decide +kernel
theorem d_M_compareAll_18 : decode um_M_compareAll.2.1 18 = .ok (.return_, 1) := by decide +kernel
theorem d_M_compareAll_19 : decode um_M_compareAll.2.1 19 = .ok (.aload_n 0, 1) := by decide +kernel
theorem d_M_compareAll_20 : decode um_M_compareAll.2.1 20 = .ok (.iconst 0, 1) := by decide +kernel
theorem d_M_compareAll_21 : decode um_M_compareAll.2.1 21 = .ok (.putfield 103, 3) := by decide +kernel
theorem d_M_compareAll_24 : decode um_M_compareAll.2.1 24 = .ok (.aload_n 0, 1) := by decide +kernel
theorem d_M_compareAll_25 : decode um_M_compareAll.2.1 25 = .ok (.iconst 0, 1) := by decide +kernel
theorem d_M_compareAll_26 : decode um_M_compareAll.2.1 26 = .ok (.aload_n 0, 1) := by decide +kernel
theorem d_M_compareAll_27 : decode um_M_compareAll.2.1 27 = .ok (.getfield 96, 3) := by decide +kernel
theorem d_M_compareAll_30 : decode um_M_compareAll.2.1 30 = .ok (.iconst 0, 1) := by decide +kernel
theorem d_M_compareAll_31 : decode um_M_compareAll.2.1 31 = .ok (.aload_n 0, 1) := by decide +kernel
theorem d_M_compareAll_32 : decode um_M_compareAll.2.1 32 = .ok (.getfield 100, 3) := by decide +kernel
theorem d_M_compareAll_35 : decode um_M_compareAll.2.1 35 = .ok (.invokevirtual 118, 3) := by decide +kernel
theorem d_M_compareAll_38 : decode um_M_compareAll.2.1 38 = .ok (.aload_n 0, 1) := by decide +kernel
theorem d_M_compareAll_39 : decode um_M_compareAll.2.1 39 = .ok (.getfield 103, 3) := by decide +kernel
theorem d_M_compareAll_42 : decode um_M_compareAll.2.1 42 = .ok (.ifCond .le 56, 3) := by decide +kernel
theorem d_M_compareAll_45 : decode um_M_compareAll.2.1 45 = .ok (.aload_n 0, 1) := by decide +kernel
theorem d_M_compareAll_46 : decode um_M_compareAll.2.1 46 = .ok (.dup, 1) := by decide +kernel
theorem d_M_compareAll_47 : decode um_M_compareAll.2.1 47 = .ok (.getfield 103, 3) := by decide +kernel
theorem d_M_compareAll_50 : decode um_M_compareAll.2.1 50 = .ok (.iconst 1, 1) := by decide +kernel
theorem d_M_compareAll_51 : decode um_M_compareAll.2.1 51 = .ok (.isub, 1) := by decide +kernel
theorem d_M_compareAll_52 : decode um_M_compareAll.2.1 52 = .ok (.putfield 103, 3) := by decide +kernel
theorem d_M_compareAll_55 : decode um_M_compareAll.2.1 55 = .ok (.aload_n 0, 1) := by decide +kernel
theorem d_M_compareAll_56 : decode um_M_compareAll.2.1 56 = .ok (.aload_n 0, 1) := by decide +kernel
theorem d_M_compareAll_57 : decode um_M_compareAll.2.1 57 = .ok (.getfield 28, 3) := by decide +kernel
theorem d_M_compareAll_60 : decode um_M_compareAll.2.1 60 = .ok (.aload_n 0, 1) := by decide +kernel
theorem d_M_compareAll_61 : decode um_M_compareAll.2.1 61 = .ok (.getfield 103, 3) := by decide +kernel
theorem d_M_compareAll_64 : decode um_M_compareAll.2.1 64 = .ok (.iaload, 1) := by decide +kernel
theorem d_M_compareAll_65 : decode um_M_compareAll.2.1 65 = .ok (.aload_n 0, 1) := by decide +kernel
theorem d_M_compareAll_66 : decode um_M_compareAll.2.1 66 = .ok (.getfield 31, 3) := by decide +kernel
theorem d_M_compareAll_69 : decode um_M_compareAll.2.1 69 = .ok (.aload_n 0, 1) := by decide +kernel
theorem d_M_compareAll_70 : decode um_M_compareAll.2.1 70 = .ok (.getfield 103, 3) := by decide +kernel
theorem d_M_compareAll_73 : decode um_M_compareAll.2.1 73 = .ok (.iaload, 1) := by decide +kernel
theorem d_M_compareAll_74 : decode um_M_compareAll.2.1 74 = .ok (.aload_n 0, 1) := by decide +kernel
theorem d_M_compareAll_75 : decode um_M_compareAll.2.1 75 = .ok (.getfield 34, 3) := by decide +kernel
theorem d_M_compareAll_78 : decode um_M_compareAll.2.1 78 = .ok (.aload_n 0, 1) := by decide +kernel
theorem d_M_compareAll_79 : decode um_M_compareAll.2.1 79 = .ok (.getfield 103, 3) := by decide +kernel
theorem d_M_compareAll_82 : decode um_M_compareAll.2.1 82 = .ok (.iaload, 1) := by decide +kernel
theorem d_M_compareAll_83 : decode um_M_compareAll.2.1 83 = .ok (.aload_n 0, 1) := by decide +kernel
theorem d_M_compareAll_84 : decode um_M_compareAll.2.1 84 = .ok (.getfield 37, 3) := by decide +kernel
theorem d_M_compareAll_87 : decode um_M_compareAll.2.1 87 = .ok (.aload_n 0, 1) := by decide +kernel
theorem d_M_compareAll_88 : decode um_M_compareAll.2.1 88 = .ok (.getfield 103, 3) := by decide +kernel
theorem d_M_compareAll_91 : decode um_M_compareAll.2.1 91 = .ok (.iaload, 1) := by decide +kernel
theorem d_M_compareAll_92 : decode um_M_compareAll.2.1 92 = .ok (.invokevirtual 121, 3) := by decide +kernel
theorem d_M_compareAll_95 : decode um_M_compareAll.2.1 95 = .ok (.goto (-57), 3) := by decide +kernel
theorem d_M_compareAll_98 : decode um_M_compareAll.2.1 98 = .ok (.return_, 1) := by decide +kernel
theorem d_M_compare_0 : decode um_M_compare.2.1 0 = .ok (.iload_n 1, 1) := by decide +kernel
theorem d_M_compare_1 : decode um_M_compare.2.1 1 = .ok (.iconst 0, 1) := by decide +kernel
theorem d_M_compare_2 : decode um_M_compare.2.1 2 = .ok (.iconst 3, 1) := by decide +kernel
theorem d_M_compare_3 : decode um_M_compare.2.1 3 = .ok (.invokestatic 88, 3) := by decide +kernel
theorem d_M_compare_6 : decode um_M_compare.2.1 6 = .ok (.ifCond .eq 21, 3) := by decide +kernel
theorem d_M_compare_9 : decode um_M_compare.2.1 9 = .ok (.iload_n 2, 1) := by decide +kernel
theorem d_M_compare_10 : decode um_M_compare.2.1 10 = .ok (.iconst 0, 1) := by decide +kernel
theorem d_M_compare_11 : decode um_M_compare.2.1 11 = .ok (.iconst 3, 1) := by decide +kernel
theorem d_M_compare_12 : decode um_M_compare.2.1 12 = .ok (.invokestatic 88, 3) := by decide +kernel
theorem d_M_compare_15 : decode um_M_compare.2.1 15 = .ok (.ifCond .eq 12, 3) := by decide +kernel
theorem d_M_compare_18 : decode um_M_compare.2.1 18 = .ok (.iload_n 3, 1) := by decide +kernel
theorem d_M_compare_19 : decode um_M_compare.2.1 19 = .ok (.iconst 0, 1) := by decide +kernel
theorem d_M_compare_20 : decode um_M_compare.2.1 20 = .ok (.iconst 1, 1) := by decide +kernel
theorem d_M_compare_21 : decode um_M_compare.2.1 21 = .ok (.invokestatic 88, 3) := by decide +kernel
theorem d_M_compare_24 : decode um_M_compare.2.1 24 = .ok (.ifCond .ne 5, 3) := by decide +kernel
theorem d_M_compare_27 : decode um_M_compare.2.1 27 = .ok (.iconst (-1), 1) := by decide +kernel
theorem d_M_compare_28 : decode um_M_compare.2.1 28 = .ok (.ireturn, 1) := by decide +kernel
theorem d_M_compare_29 : decode um_M_compare.2.1 29 = .ok (.aload_n 0, 1) := by decide +kernel
theorem d_M_compare_30 : decode um_M_compare.2.1 30 = .ok (.iload_n 1, 1) := by decide +kernel
theorem d_M_compare_31 : decode um_M_compare.2.1 31 = .ok (.invokevirtual 124, 3) := by decide +kernel
theorem d_M_compare_34 : decode um_M_compare.2.1 34 = .ok (.ifCond .eq 11, 3) := by decide +kernel
theorem d_M_compare_37 : decode um_M_compare.2.1 37 = .ok (.aload_n 0, 1) := by decide +kernel
theorem d_M_compare_38 : decode um_M_compare.2.1 38 = .ok (.iload_n 2, 1) := by decide +kernel
theorem d_M_compare_39 : decode um_M_compare.2.1 39 = .ok (.invokevirtual 124, 3) := by decide +kernel
theorem d_M_compare_42 : decode um_M_compare.2.1 42 = .ok (.ifCond .ne 6, 3) := by decide +kernel
theorem d_M_compare_45 : decode um_M_compare.2.1 45 = .ok (.bipush (-3), 2) := by decide +kernel
theorem d_M_compare_47 : decode um_M_compare.2.1 47 = .ok (.ireturn, 1) := by decide +kernel
theorem d_M_compare_48 : decode um_M_compare.2.1 48 = .ok (.aload_n 0, 1) := by decide +kernel
theorem d_M_compare_49 : decode um_M_compare.2.1 49 = .ok (.iload_n 1, 1) := by decide +kernel
theorem d_M_compare_50 : decode um_M_compare.2.1 50 = .ok (.iload_n 2, 1) := by decide +kernel
theorem d_M_compare_51 : decode um_M_compare.2.1 51 = .ok (.invokevirtual 127, 3) := by decide +kernel
theorem d_M_compare_54 : decode um_M_compare.2.1 54 = .ok (.aload_n 0, 1) := by decide +kernel
theorem d_M_compare_55 : decode um_M_compare.2.1 55 = .ok (.iload_n 3, 1) := by decide +kernel
theorem d_M_compare_56 : decode um_M_compare.2.1 56 = .ok (.invokevirtual 131, 3) := by decide +kernel
theorem d_M_compare_59 : decode um_M_compare.2.1 59 = .ok (.aload_n 0, 1) := by decide +kernel
theorem d_M_compare_60 : decode um_M_compare.2.1 60 = .ok (.iconst 1, 1) := by decide +kernel
theorem d_M_compare_61 : decode um_M_compare.2.1 61 = .ok (.putfield 135, 3) := by decide +kernel
theorem d_M_compare_64 : decode um_M_compare.2.1 64 = .ok (.aload_n 0, 1) := by decide +kernel
theorem d_M_compare_65 : decode um_M_compare.2.1 65 = .ok (.aload_n 0, 1) := by decide +kernel
theorem d_M_compare_66 : decode um_M_compare.2.1 66 = .ok (.getfield 96, 3) := by decide +kernel
theorem d_M_compare_69 : decode um_M_compare.2.1 69 = .ok (.putfield 139, 3) := by decide +kernel
theorem d_M_compare_72 : decode um_M_compare.2.1 72 = .ok (.aload_n 0, 1) := by decide +kernel
theorem d_M_compare_73 : decode um_M_compare.2.1 73 = .ok (.aload_n 0, 1) := by decide +kernel
theorem d_M_compare_74 : decode um_M_compare.2.1 74 = .ok (.getfield 100, 3) := by decide +kernel
theorem d_M_compare_77 : decode um_M_compare.2.1 77 = .ok (.putfield 142, 3) := by decide +kernel
theorem d_M_compare_80 : decode um_M_compare.2.1 80 = .ok (.iconst 0, 1) := by decide +kernel
theorem d_M_compare_81 : decode um_M_compare.2.1 81 = .ok (.istore 4, 2) := by decide +kernel
theorem d_M_compare_83 : decode um_M_compare.2.1 83 = .ok (.iconst 0, 1) := by decide +kernel
theorem d_M_compare_84 : decode um_M_compare.2.1 84 = .ok (.istore 5, 2) := by decide +kernel
theorem d_M_compare_86 : decode um_M_compare.2.1 86 = .ok (.iload 5, 2) := by decide +kernel
theorem d_M_compare_88 : decode um_M_compare.2.1 88 = .ok (.aload_n 0, 1) := by decide +kernel
theorem d_M_compare_89 : decode um_M_compare.2.1 89 = .ok (.getfield 96, 3) := by decide +kernel
theorem d_M_compare_92 : decode um_M_compare.2.1 92 = .ok (.if_icmp .ge 58, 3) := by decide +kernel
theorem d_M_compare_95 : decode um_M_compare.2.1 95 = .ok (.aload_n 0, 1) := by decide +kernel
theorem d_M_compare_96 : decode um_M_compare.2.1 96 = .ok (.getfield 46, 3) := by decide +kernel
theorem d_M_compare_99 : decode um_M_compare.2.1 99 = .ok (.iload 5, 2) := by decide +kernel
theorem d_M_compare_101 : decode um_M_compare.2.1 101 = .ok (.aload_n 0, 1) := by decide +kernel
theorem d_M_compare_102 : decode um_M_compare.2.1 102 = .ok (.getfield 16, 3) := by decide +kernel
theorem d_M_compare_105 : decode um_M_compare.2.1 105 = .ok (.iload 5, 2) := by decide +kernel
theorem d_M_compare_107 : decode um_M_compare.2.1 107 = .ok (.iaload, 1) := by decide +kernel
theorem d_M_compare_108 : decode um_M_compare.2.1 108 = .ok (.iastore, 1) := by decide +kernel
theorem d_M_compare_109 : decode um_M_compare.2.1 109 = .ok (.aload_n 0, 1) := by decide +kernel
theorem d_M_compare_110 : decode um_M_compare.2.1 110 = .ok (.getfield 52, 3) := by decide +kernel
theorem d_M_compare_113 : decode um_M_compare.2.1 113 = .ok (.iload 5, 2) := by decide +kernel
theorem d_M_compare_115 : decode um_M_compare.2.1 115 = .ok (.aload_n 0, 1) := by decide +kernel
theorem d_M_compare_116 : decode um_M_compare.2.1 116 = .ok (.getfield 22, 3) := by decide +kernel
theorem d_M_compare_119 : decode um_M_compare.2.1 119 = .ok (.iload 5, 2) := by decide +kernel
theorem d_M_compare_121 : decode um_M_compare.2.1 121 = .ok (.iaload, 1) := by decide +kernel
theorem d_M_compare_122 : decode um_M_compare.2.1 122 = .ok (.iastore, 1) := by decide +kernel
theorem d_M_compare_123 : decode um_M_compare.2.1 123 = .ok (.aload_n 0, 1) := by decide +kernel
theorem d_M_compare_124 : decode um_M_compare.2.1 124 = .ok (.getfield 22, 3) := by decide +kernel
theorem d_M_compare_127 : decode um_M_compare.2.1 127 = .ok (.iload 5, 2) := by decide +kernel
theorem d_M_compare_129 : decode um_M_compare.2.1 129 = .ok (.iaload, 1) := by decide +kernel
theorem d_M_compare_130 : decode um_M_compare.2.1 130 = .ok (.ifCond .lt 10, 3) := by decide +kernel
theorem d_M_compare_133 : decode um_M_compare.2.1 133 = .ok (.iload 4, 2) := by decide +kernel
theorem d_M_compare_135 : decode um_M_compare.2.1 135 = .ok (.iconst 1, 1) := by decide +kernel
theorem d_M_compare_136 : decode um_M_compare.2.1 136 = .ok (.iadd, 1) := by decide +kernel
theorem d_M_compare_137 : decode um_M_compare.2.1 137 = .ok (.goto 5, 3) := by decide +kernel
theorem d_M_compare_140 : decode um_M_compare.2.1 140 = .ok (.iload 4, 2) := by decide +kernel
theorem d_M_compare_142 : decode um_M_compare.2.1 142 = .ok (.istore 4, 2) := by decide +kernel
theorem d_M_compare_144 : decode um_M_compare.2.1 144 = .ok (.iinc 5 1, 3) := by decide +kernel
theorem d_M_compare_147 : decode um_M_compare.2.1 147 = .ok (.goto (-61), 3) := by decide +kernel
theorem d_M_compare_150 : decode um_M_compare.2.1 150 = .ok (.iconst 0, 1) := by decide +kernel
theorem d_M_compare_151 : decode um_M_compare.2.1 151 = .ok (.istore 5, 2) := by decide +kernel
theorem d_M_compare_153 : decode um_M_compare.2.1 153 = .ok (.iload 5, 2) := by decide +kernel
theorem d_M_compare_155 : decode um_M_compare.2.1 155 = .ok (.aload_n 0, 1) := by decide +kernel
theorem d_M_compare_156 : decode um_M_compare.2.1 156 = .ok (.getfield 100, 3) := by decide +kernel
end
section
theorem d_M_compare_159 : decode um_M_compare.2.1 159 = .ok (.if_icmp .ge 23, 3) := by decide +kernel
theorem d_M_compare_162 : decode um_M_compare.2.1 162 = .ok (.aload_n 0, 1) := by decide +kernel
theorem d_M_compare_163 : decode um_M_compare.2.1 163 = .ok (.getfield 49, 3) := by decide +kernel
theorem d_M_compare_166 : decode um_M_compare.2.1 166 = .ok (.iload 5, 2) := by decide +kernel
theorem d_M_compare_168 : decode um_M_compare.2.1 168 = .ok (.aload_n 0, 1) := by decide +kernel
theorem d_M_compare_169 : decode um_M_compare.2.1 169 = .ok (.getfield 19, 3) := by decide +kernel
theorem d_M_compare_172 : decode um_M_compare.2.1 172 = .ok (.iload 5, 2) := by decide +kernel
theorem d_M_compare_174 : decode um_M_compare.2.1 174 = .ok (.iaload, 1) := by decide +kernel
theorem d_M_compare_175 : decode um_M_compare.2.1 175 = .ok (.iastore, 1) := by decide +kernel
theorem d_M_compare_176 : decode um_M_compare.2.1 176 = .ok (.iinc 5 1, 3) := by decide +kernel
theorem d_M_compare_179 : decode um_M_compare.2.1 179 = .ok (.goto (-26), 3) := by decide +kernel
theorem d_M_compare_182 : decode um_M_compare.2.1 182 = .ok (.aload_n 0, 1) := by decide +kernel
theorem d_M_compare_183 : decode um_M_compare.2.1 183 = .ok (.getfield 96, 3) := by decide +kernel
theorem d_M_compare_186 : decode um_M_compare.2.1 186 = .ok (.aload_n 0, 1) := by decide +kernel
theorem d_M_compare_187 : decode um_M_compare.2.1 187 = .ok (.getfield 100, 3) := by decide +kernel
theorem d_M_compare_190 : decode um_M_compare.2.1 190 = .ok (.iadd, 1) := by decide +kernel
theorem d_M_compare_191 : decode um_M_compare.2.1 191 = .ok (.iconst 2, 1) := by decide +kernel
theorem d_M_compare_192 : decode um_M_compare.2.1 192 = .ok (.iload 4, 2) := by decide +kernel
theorem d_M_compare_194 : decode um_M_compare.2.1 194 = .ok (.imul, 1) := by decide +kernel
theorem d_M_compare_195 : decode um_M_compare.2.1 195 = .ok (.isub, 1) := by decide +kernel
theorem d_M_compare_196 : decode um_M_compare.2.1 196 = .ok (.ireturn, 1) := by decide +kernel
theorem d_M_match_0 : decode um_M_match.2.1 0 = .ok (.aload_n 0, 1) := by decide +kernel
theorem d_M_match_1 : decode um_M_match.2.1 1 = .ok (.getfield 135, 3) := by decide +kernel
theorem d_M_match_4 : decode um_M_match.2.1 4 = .ok (.ifCond .eq 35, 3) := by decide +kernel
theorem d_M_match_7 : decode um_M_match.2.1 7 = .ok (.iload_n 1, 1) := by decide +kernel
theorem d_M_match_8 : decode um_M_match.2.1 8 = .ok (.iconst 0, 1) := by decide +kernel
theorem d_M_match_9 : decode um_M_match.2.1 9 = .ok (.aload_n 0, 1) := by decide +kernel
theorem d_M_match_10 : decode um_M_match.2.1 10 = .ok (.getfield 139, 3) := by decide +kernel
theorem d_M_match_13 : decode um_M_match.2.1 13 = .ok (.iconst 1, 1) := by decide +kernel
theorem d_M_match_14 : decode um_M_match.2.1 14 = .ok (.isub, 1) := by decide +kernel
theorem d_M_match_15 : decode um_M_match.2.1 15 = .ok (.invokestatic 88, 3) := by decide +kernel
theorem d_M_match_18 : decode um_M_match.2.1 18 = .ok (.ifCond .eq 21, 3) := by decide +kernel
theorem d_M_match_21 : decode um_M_match.2.1 21 = .ok (.aload_n 0, 1) := by decide +kernel
theorem d_M_match_22 : decode um_M_match.2.1 22 = .ok (.getfield 52, 3) := by decide +kernel
theorem d_M_match_25 : decode um_M_match.2.1 25 = .ok (.iload_n 1, 1) := by decide +kernel
theorem d_M_match_26 : decode um_M_match.2.1 26 = .ok (.iaload, 1) := by decide +kernel
theorem d_M_match_27 : decode um_M_match.2.1 27 = .ok (.ifCond .lt 12, 3) := by decide +kernel
theorem d_M_match_30 : decode um_M_match.2.1 30 = .ok (.aload_n 0, 1) := by decide +kernel
theorem d_M_match_31 : decode um_M_match.2.1 31 = .ok (.getfield 52, 3) := by decide +kernel
theorem d_M_match_34 : decode um_M_match.2.1 34 = .ok (.iload_n 1, 1) := by decide +kernel
theorem d_M_match_35 : decode um_M_match.2.1 35 = .ok (.iaload, 1) := by decide +kernel
theorem d_M_match_36 : decode um_M_match.2.1 36 = .ok (.goto 5, 3) := by decide +kernel
theorem d_M_match_39 : decode um_M_match.2.1 39 = .ok (.bipush (-3), 2) := by decide +kernel
theorem d_M_match_41 : decode um_M_match.2.1 41 = .ok (.ireturn, 1) := by decide +kernel
theorem d_M_op_0 : decode um_M_op.2.1 0 = .ok (.aload_n 0, 1) := by decide +kernel
theorem d_M_op_1 : decode um_M_op.2.1 1 = .ok (.getfield 55, 3) := by decide +kernel
theorem d_M_op_4 : decode um_M_op.2.1 4 = .ok (.aload_n 0, 1) := by decide +kernel
theorem d_M_op_5 : decode um_M_op.2.1 5 = .ok (.getfield 145, 3) := by decide +kernel
theorem d_M_op_8 : decode um_M_op.2.1 8 = .ok (.iload_n 1, 1) := by decide +kernel
theorem d_M_op_9 : decode um_M_op.2.1 9 = .ok (.iastore, 1) := by decide +kernel
theorem d_M_op_10 : decode um_M_op.2.1 10 = .ok (.aload_n 0, 1) := by decide +kernel
theorem d_M_op_11 : decode um_M_op.2.1 11 = .ok (.getfield 58, 3) := by decide +kernel
theorem d_M_op_14 : decode um_M_op.2.1 14 = .ok (.aload_n 0, 1) := by decide +kernel
theorem d_M_op_15 : decode um_M_op.2.1 15 = .ok (.getfield 145, 3) := by decide +kernel
theorem d_M_op_18 : decode um_M_op.2.1 18 = .ok (.iload_n 2, 1) := by decide +kernel
theorem d_M_op_19 : decode um_M_op.2.1 19 = .ok (.iastore, 1) := by decide +kernel
theorem d_M_op_20 : decode um_M_op.2.1 20 = .ok (.aload_n 0, 1) := by decide +kernel
theorem d_M_op_21 : decode um_M_op.2.1 21 = .ok (.dup, 1) := by decide +kernel
theorem d_M_op_22 : decode um_M_op.2.1 22 = .ok (.getfield 145, 3) := by decide +kernel
theorem d_M_op_25 : decode um_M_op.2.1 25 = .ok (.iconst 1, 1) := by decide +kernel
theorem d_M_op_26 : decode um_M_op.2.1 26 = .ok (.iadd, 1) := by decide +kernel
theorem d_M_op_27 : decode um_M_op.2.1 27 = .ok (.putfield 145, 3) := by decide +kernel
theorem d_M_op_30 : decode um_M_op.2.1 30 = .ok (.return_, 1) := by decide +kernel
theorem d_M_row_0 : decode um_M_row.2.1 0 = .ok (.aload_n 0, 1) := by decide +kernel
theorem d_M_row_1 : decode um_M_row.2.1 1 = .ok (.iconst 0, 1) := by decide +kernel
theorem d_M_row_2 : decode um_M_row.2.1 2 = .ok (.putfield 145, 3) := by decide +kernel
theorem d_M_row_5 : decode um_M_row.2.1 5 = .ok (.iconst 0, 1) := by decide +kernel
theorem d_M_row_6 : decode um_M_row.2.1 6 = .ok (.istore_n 1, 1) := by decide +kernel
theorem d_M_row_7 : decode um_M_row.2.1 7 = .ok (.iconst 0, 1) := by decide +kernel
theorem d_M_row_8 : decode um_M_row.2.1 8 = .ok (.istore_n 2, 1) := by decide +kernel
theorem d_M_row_9 : decode um_M_row.2.1 9 = .ok (.iload_n 1, 1) := by decide +kernel
theorem d_M_row_10 : decode um_M_row.2.1 10 = .ok (.aload_n 0, 1) := by decide +kernel
theorem d_M_row_11 : decode um_M_row.2.1 11 = .ok (.getfield 139, 3) := by decide +kernel
theorem d_M_row_14 : decode um_M_row.2.1 14 = .ok (.if_icmp .lt 11, 3) := by decide +kernel
theorem d_M_row_17 : decode um_M_row.2.1 17 = .ok (.iload_n 2, 1) := by decide +kernel
theorem d_M_row_18 : decode um_M_row.2.1 18 = .ok (.aload_n 0, 1) := by decide +kernel
theorem d_M_row_19 : decode um_M_row.2.1 19 = .ok (.getfield 142, 3) := by decide +kernel
theorem d_M_row_22 : decode um_M_row.2.1 22 = .ok (.if_icmp .ge 112, 3) := by decide +kernel
theorem d_M_row_25 : decode um_M_row.2.1 25 = .ok (.iload_n 1, 1) := by decide +kernel
theorem d_M_row_26 : decode um_M_row.2.1 26 = .ok (.aload_n 0, 1) := by decide +kernel
theorem d_M_row_27 : decode um_M_row.2.1 27 = .ok (.getfield 139, 3) := by decide +kernel
theorem d_M_row_30 : decode um_M_row.2.1 30 = .ok (.if_icmp .ge 30, 3) := by decide +kernel
theorem d_M_row_33 : decode um_M_row.2.1 33 = .ok (.aload_n 0, 1) := by decide +kernel
theorem d_M_row_34 : decode um_M_row.2.1 34 = .ok (.getfield 52, 3) := by decide +kernel
theorem d_M_row_37 : decode um_M_row.2.1 37 = .ok (.iload_n 1, 1) := by decide +kernel
theorem d_M_row_38 : decode um_M_row.2.1 38 = .ok (.iaload, 1) := by decide +kernel
theorem d_M_row_39 : decode um_M_row.2.1 39 = .ok (.ifCond .ge 21, 3) := by decide +kernel
theorem d_M_row_42 : decode um_M_row.2.1 42 = .ok (.aload_n 0, 1) := by decide +kernel
theorem d_M_row_43 : decode um_M_row.2.1 43 = .ok (.bipush 45, 2) := by decide +kernel
theorem d_M_row_45 : decode um_M_row.2.1 45 = .ok (.aload_n 0, 1) := by decide +kernel
theorem d_M_row_46 : decode um_M_row.2.1 46 = .ok (.getfield 46, 3) := by decide +kernel
theorem d_M_row_49 : decode um_M_row.2.1 49 = .ok (.iload_n 1, 1) := by decide +kernel
theorem d_M_row_50 : decode um_M_row.2.1 50 = .ok (.iaload, 1) := by decide +kernel
theorem d_M_row_51 : decode um_M_row.2.1 51 = .ok (.invokevirtual 148, 3) := by decide +kernel
theorem d_M_row_54 : decode um_M_row.2.1 54 = .ok (.iinc 1 1, 3) := by decide +kernel
theorem d_M_row_57 : decode um_M_row.2.1 57 = .ok (.goto (-32), 3) := by decide +kernel
theorem d_M_row_60 : decode um_M_row.2.1 60 = .ok (.iload_n 1, 1) := by decide +kernel
theorem d_M_row_61 : decode um_M_row.2.1 61 = .ok (.aload_n 0, 1) := by decide +kernel
theorem d_M_row_62 : decode um_M_row.2.1 62 = .ok (.getfield 139, 3) := by decide +kernel
theorem d_M_row_65 : decode um_M_row.2.1 65 = .ok (.if_icmp .ge 12, 3) := by decide +kernel
theorem d_M_row_68 : decode um_M_row.2.1 68 = .ok (.aload_n 0, 1) := by decide +kernel
theorem d_M_row_69 : decode um_M_row.2.1 69 = .ok (.getfield 52, 3) := by decide +kernel
theorem d_M_row_72 : decode um_M_row.2.1 72 = .ok (.iload_n 1, 1) := by decide +kernel
theorem d_M_row_73 : decode um_M_row.2.1 73 = .ok (.iaload, 1) := by decide +kernel
theorem d_M_row_74 : decode um_M_row.2.1 74 = .ok (.goto 7, 3) := by decide +kernel
theorem d_M_row_77 : decode um_M_row.2.1 77 = .ok (.aload_n 0, 1) := by decide +kernel
theorem d_M_row_78 : decode um_M_row.2.1 78 = .ok (.getfield 142, 3) := by decide +kernel
theorem d_M_row_81 : decode um_M_row.2.1 81 = .ok (.istore_n 3, 1) := by decide +kernel
theorem d_M_row_82 : decode um_M_row.2.1 82 = .ok (.iload_n 2, 1) := by decide +kernel
theorem d_M_row_83 : decode um_M_row.2.1 83 = .ok (.iload_n 3, 1) := by decide +kernel
theorem d_M_row_84 : decode um_M_row.2.1 84 = .ok (.if_icmp .ge 21, 3) := by decide +kernel
theorem d_M_row_87 : decode um_M_row.2.1 87 = .ok (.aload_n 0, 1) := by decide +kernel
theorem d_M_row_88 : decode um_M_row.2.1 88 = .ok (.bipush 43, 2) := by decide +kernel
theorem d_M_row_90 : decode um_M_row.2.1 90 = .ok (.aload_n 0, 1) := by decide +kernel
theorem d_M_row_91 : decode um_M_row.2.1 91 = .ok (.getfield 49, 3) := by decide +kernel
theorem d_M_row_94 : decode um_M_row.2.1 94 = .ok (.iload_n 2, 1) := by decide +kernel
theorem d_M_row_95 : decode um_M_row.2.1 95 = .ok (.iaload, 1) := by decide +kernel
theorem d_M_row_96 : decode um_M_row.2.1 96 = .ok (.invokevirtual 148, 3) := by decide +kernel
theorem d_M_row_99 : decode um_M_row.2.1 99 = .ok (.iinc 2 1, 3) := by decide +kernel
theorem d_M_row_102 : decode um_M_row.2.1 102 = .ok (.goto (-20), 3) := by decide +kernel
theorem d_M_row_105 : decode um_M_row.2.1 105 = .ok (.iload_n 1, 1) := by decide +kernel
theorem d_M_row_106 : decode um_M_row.2.1 106 = .ok (.aload_n 0, 1) := by decide +kernel
theorem d_M_row_107 : decode um_M_row.2.1 107 = .ok (.getfield 139, 3) := by decide +kernel
theorem d_M_row_110 : decode um_M_row.2.1 110 = .ok (.if_icmp .ge 21, 3) := by decide +kernel
theorem d_M_row_113 : decode um_M_row.2.1 113 = .ok (.aload_n 0, 1) := by decide +kernel
theorem d_M_row_114 : decode um_M_row.2.1 114 = .ok (.bipush 32, 2) := by decide +kernel
theorem d_M_row_116 : decode um_M_row.2.1 116 = .ok (.aload_n 0, 1) := by decide +kernel
theorem d_M_row_117 : decode um_M_row.2.1 117 = .ok (.getfield 46, 3) := by decide +kernel
theorem d_M_row_120 : decode um_M_row.2.1 120 = .ok (.iload_n 1, 1) := by decide +kernel
theorem d_M_row_121 : decode um_M_row.2.1 121 = .ok (.iaload, 1) := by decide +kernel
theorem d_M_row_122 : decode um_M_row.2.1 122 = .ok (.invokevirtual 148, 3) := by decide +kernel
theorem d_M_row_125 : decode um_M_row.2.1 125 = .ok (.iinc 1 1, 3) := by decide +kernel
theorem d_M_row_128 : decode um_M_row.2.1 128 = .ok (.iinc 2 1, 3) := by decide +kernel
theorem d_M_row_131 : decode um_M_row.2.1 131 = .ok (.goto (-122), 3) := by decide +kernel
theorem d_M_row_134 : decode um_M_row.2.1 134 = .ok (.return_, 1) := by decide +kernel
theorem d_M_put_0 : decode um_M_put.2.1 0 = .ok (.aload_n 0, 1) := by decide +kernel
theorem d_M_put_1 : decode um_M_put.2.1 1 = .ok (.getfield 61, 3) := by decide +kernel
theorem d_M_put_4 : decode um_M_put.2.1 4 = .ok (.aload_n 0, 1) := by decide +kernel
theorem d_M_put_5 : decode um_M_put.2.1 5 = .ok (.getfield 151, 3) := by decide +kernel
theorem d_M_put_8 : decode um_M_put.2.1 8 = .ok (.iload_n 1, 1) := by decide +kernel
theorem d_M_put_9 : decode um_M_put.2.1 9 = .ok (.iastore, 1) := by decide +kernel
theorem d_M_put_10 : decode um_M_put.2.1 10 = .ok (.aload_n 0, 1) := by decide +kernel
theorem d_M_put_11 : decode um_M_put.2.1 11 = .ok (.dup, 1) := by decide +kernel
theorem d_M_put_12 : decode um_M_put.2.1 12 = .ok (.getfield 151, 3) := by decide +kernel
theorem d_M_put_15 : decode um_M_put.2.1 15 = .ok (.iconst 1, 1) := by decide +kernel
theorem d_M_put_16 : decode um_M_put.2.1 16 = .ok (.iadd, 1) := by decide +kernel
theorem d_M_put_17 : decode um_M_put.2.1 17 = .ok (.putfield 151, 3) := by decide +kernel
theorem d_M_put_20 : decode um_M_put.2.1 20 = .ok (.return_, 1) := by decide +kernel
theorem d_M_putNumber_0 : decode um_M_putNumber.2.1 0 = .ok (.iload_n 1, 1) := by decide +kernel
theorem d_M_putNumber_1 : decode um_M_putNumber.2.1 1 = .ok (.bipush 9, 2) := by decide +kernel
theorem d_M_putNumber_3 : decode um_M_putNumber.2.1 3 = .ok (.if_icmp .le 14, 3) := by decide +kernel
theorem d_M_putNumber_6 : decode um_M_putNumber.2.1 6 = .ok (.aload_n 0, 1) := by decide +kernel
theorem d_M_putNumber_7 : decode um_M_putNumber.2.1 7 = .ok (.bipush 48, 2) := by decide +kernel
theorem d_M_putNumber_9 : decode um_M_putNumber.2.1 9 = .ok (.iload_n 1, 1) := by decide +kernel
theorem d_M_putNumber_10 : decode um_M_putNumber.2.1 10 = .ok (.bipush 10, 2) := by decide +kernel
theorem d_M_putNumber_12 : decode um_M_putNumber.2.1 12 = .ok (.idiv, 1) := by decide +kernel
theorem d_M_putNumber_13 : decode um_M_putNumber.2.1 13 = .ok (.iadd, 1) := by decide +kernel
theorem d_M_putNumber_14 : decode um_M_putNumber.2.1 14 = .ok (.invokevirtual 154, 3) := by decide +kernel
theorem d_M_putNumber_17 : decode um_M_putNumber.2.1 17 = .ok (.aload_n 0, 1) := by decide +kernel
theorem d_M_putNumber_18 : decode um_M_putNumber.2.1 18 = .ok (.bipush 48, 2) := by decide +kernel
theorem d_M_putNumber_20 : decode um_M_putNumber.2.1 20 = .ok (.iload_n 1, 1) := by decide +kernel
theorem d_M_putNumber_21 : decode um_M_putNumber.2.1 21 = .ok (.bipush 10, 2) := by decide +kernel
theorem d_M_putNumber_23 : decode um_M_putNumber.2.1 23 = .ok (.irem, 1) := by decide +kernel
theorem d_M_putNumber_24 : decode um_M_putNumber.2.1 24 = .ok (.iadd, 1) := by decide +kernel
theorem d_M_putNumber_25 : decode um_M_putNumber.2.1 25 = .ok (.invokevirtual 154, 3) := by decide +kernel
theorem d_M_putNumber_28 : decode um_M_putNumber.2.1 28 = .ok (.return_, 1) := by decide +kernel
theorem d_M_others_0 : decode um_M_others.2.1 0 = .ok (.iconst 0, 1) := by decide +kernel
theorem d_M_others_1 : decode um_M_others.2.1 1 = .ok (.istore 4, 2) := by decide +kernel
theorem d_M_others_3 : decode um_M_others.2.1 3 = .ok (.iload_n 1, 1) := by decide +kernel
theorem d_M_others_4 : decode um_M_others.2.1 4 = .ok (.istore 5, 2) := by decide +kernel
theorem d_M_others_6 : decode um_M_others.2.1 6 = .ok (.iload 5, 2) := by decide +kernel
theorem d_M_others_8 : decode um_M_others.2.1 8 = .ok (.iload_n 2, 1) := by decide +kernel
theorem d_M_others_9 : decode um_M_others.2.1 9 = .ok (.if_icmp .ge 31, 3) := by decide +kernel
theorem d_M_others_12 : decode um_M_others.2.1 12 = .ok (.aload_n 0, 1) := by decide +kernel
theorem d_M_others_13 : decode um_M_others.2.1 13 = .ok (.getfield 55, 3) := by decide +kernel
theorem d_M_others_16 : decode um_M_others.2.1 16 = .ok (.iload 5, 2) := by decide +kernel
theorem d_M_others_18 : decode um_M_others.2.1 18 = .ok (.iaload, 1) := by decide +kernel
theorem d_M_others_19 : decode um_M_others.2.1 19 = .ok (.iload_n 3, 1) := by decide +kernel
theorem d_M_others_20 : decode um_M_others.2.1 20 = .ok (.if_icmp .eq 10, 3) := by decide +kernel
theorem d_M_others_23 : decode um_M_others.2.1 23 = .ok (.iload 4, 2) := by decide +kernel
theorem d_M_others_25 : decode um_M_others.2.1 25 = .ok (.iconst 1, 1) := by decide +kernel
theorem d_M_others_26 : decode um_M_others.2.1 26 = .ok (.iadd, 1) := by decide +kernel
theorem d_M_others_27 : decode um_M_others.2.1 27 = .ok (.goto 5, 3) := by decide +kernel
theorem d_M_others_30 : decode um_M_others.2.1 30 = .ok (.iload 4, 2) := by decide +kernel
theorem d_M_others_32 : decode um_M_others.2.1 32 = .ok (.istore 4, 2) := by decide +kernel
theorem d_M_others_34 : decode um_M_others.2.1 34 = .ok (.iinc 5 1, 3) := by decide +kernel
theorem d_M_others_37 : decode um_M_others.2.1 37 = .ok (.goto (-31), 3) := by decide +kernel
theorem d_M_others_40 : decode um_M_others.2.1 40 = .ok (.iload 4, 2) := by decide +kernel
theorem d_M_others_42 : decode um_M_others.2.1 42 = .ok (.ireturn, 1) := by decide +kernel
theorem d_M_putHunk_0 : decode um_M_putHunk.2.1 0 = .ok (.aload_n 0, 1) := by decide +kernel
theorem d_M_putHunk_1 : decode um_M_putHunk.2.1 1 = .ok (.bipush 64, 2) := by decide +kernel
theorem d_M_putHunk_3 : decode um_M_putHunk.2.1 3 = .ok (.invokevirtual 154, 3) := by decide +kernel
theorem d_M_putHunk_6 : decode um_M_putHunk.2.1 6 = .ok (.aload_n 0, 1) := by decide +kernel
theorem d_M_putHunk_7 : decode um_M_putHunk.2.1 7 = .ok (.aload_n 0, 1) := by decide +kernel
theorem d_M_putHunk_8 : decode um_M_putHunk.2.1 8 = .ok (.iconst 0, 1) := by decide +kernel
theorem d_M_putHunk_9 : decode um_M_putHunk.2.1 9 = .ok (.iload_n 1, 1) := by decide +kernel
theorem d_M_putHunk_10 : decode um_M_putHunk.2.1 10 = .ok (.bipush 43, 2) := by decide +kernel
theorem d_M_putHunk_12 : decode um_M_putHunk.2.1 12 = .ok (.invokevirtual 157, 3) := by decide +kernel
theorem d_M_putHunk_15 : decode um_M_putHunk.2.1 15 = .ok (.invokevirtual 161, 3) := by decide +kernel
theorem d_M_putHunk_18 : decode um_M_putHunk.2.1 18 = .ok (.aload_n 0, 1) := by decide +kernel
theorem d_M_putHunk_19 : decode um_M_putHunk.2.1 19 = .ok (.bipush 44, 2) := by decide +kernel
theorem d_M_putHunk_21 : decode um_M_putHunk.2.1 21 = .ok (.invokevirtual 154, 3) := by decide +kernel
theorem d_M_putHunk_24 : decode um_M_putHunk.2.1 24 = .ok (.aload_n 0, 1) := by decide +kernel
theorem d_M_putHunk_25 : decode um_M_putHunk.2.1 25 = .ok (.aload_n 0, 1) := by decide +kernel
theorem d_M_putHunk_26 : decode um_M_putHunk.2.1 26 = .ok (.iload_n 1, 1) := by decide +kernel
theorem d_M_putHunk_27 : decode um_M_putHunk.2.1 27 = .ok (.iload_n 2, 1) := by decide +kernel
theorem d_M_putHunk_28 : decode um_M_putHunk.2.1 28 = .ok (.bipush 43, 2) := by decide +kernel
theorem d_M_putHunk_30 : decode um_M_putHunk.2.1 30 = .ok (.invokevirtual 157, 3) := by decide +kernel
theorem d_M_putHunk_33 : decode um_M_putHunk.2.1 33 = .ok (.invokevirtual 161, 3) := by decide +kernel
theorem d_M_putHunk_36 : decode um_M_putHunk.2.1 36 = .ok (.aload_n 0, 1) := by decide +kernel
theorem d_M_putHunk_37 : decode um_M_putHunk.2.1 37 = .ok (.bipush 32, 2) := by decide +kernel
theorem d_M_putHunk_39 : decode um_M_putHunk.2.1 39 = .ok (.invokevirtual 154, 3) := by decide +kernel
theorem d_M_putHunk_42 : decode um_M_putHunk.2.1 42 = .ok (.aload_n 0, 1) := by decide +kernel
theorem d_M_putHunk_43 : decode um_M_putHunk.2.1 43 = .ok (.aload_n 0, 1) := by decide +kernel
theorem d_M_putHunk_44 : decode um_M_putHunk.2.1 44 = .ok (.iconst 0, 1) := by decide +kernel
theorem d_M_putHunk_45 : decode um_M_putHunk.2.1 45 = .ok (.iload_n 1, 1) := by decide +kernel
theorem d_M_putHunk_46 : decode um_M_putHunk.2.1 46 = .ok (.bipush 45, 2) := by decide +kernel
theorem d_M_putHunk_48 : decode um_M_putHunk.2.1 48 = .ok (.invokevirtual 157, 3) := by decide +kernel
theorem d_M_putHunk_51 : decode um_M_putHunk.2.1 51 = .ok (.invokevirtual 161, 3) := by decide +kernel
theorem d_M_putHunk_54 : decode um_M_putHunk.2.1 54 = .ok (.aload_n 0, 1) := by decide +kernel
theorem d_M_putHunk_55 : decode um_M_putHunk.2.1 55 = .ok (.bipush 44, 2) := by decide +kernel
theorem d_M_putHunk_57 : decode um_M_putHunk.2.1 57 = .ok (.invokevirtual 154, 3) := by decide +kernel
theorem d_M_putHunk_60 : decode um_M_putHunk.2.1 60 = .ok (.aload_n 0, 1) := by decide +kernel
theorem d_M_putHunk_61 : decode um_M_putHunk.2.1 61 = .ok (.aload_n 0, 1) := by decide +kernel
theorem d_M_putHunk_62 : decode um_M_putHunk.2.1 62 = .ok (.iload_n 1, 1) := by decide +kernel
theorem d_M_putHunk_63 : decode um_M_putHunk.2.1 63 = .ok (.iload_n 2, 1) := by decide +kernel
theorem d_M_putHunk_64 : decode um_M_putHunk.2.1 64 = .ok (.bipush 45, 2) := by decide +kernel
theorem d_M_putHunk_66 : decode um_M_putHunk.2.1 66 = .ok (.invokevirtual 157, 3) := by decide +kernel
theorem d_M_putHunk_69 : decode um_M_putHunk.2.1 69 = .ok (.invokevirtual 161, 3) := by decide +kernel
theorem d_M_putHunk_72 : decode um_M_putHunk.2.1 72 = .ok (.aload_n 0, 1) := by decide +kernel
theorem d_M_putHunk_73 : decode um_M_putHunk.2.1 73 = .ok (.bipush 10, 2) := by decide +kernel
theorem d_M_putHunk_75 : decode um_M_putHunk.2.1 75 = .ok (.invokevirtual 154, 3) := by decide +kernel
theorem d_M_putHunk_78 : decode um_M_putHunk.2.1 78 = .ok (.iload_n 1, 1) := by decide +kernel
theorem d_M_putHunk_79 : decode um_M_putHunk.2.1 79 = .ok (.istore_n 3, 1) := by decide +kernel
theorem d_M_putHunk_80 : decode um_M_putHunk.2.1 80 = .ok (.iload_n 3, 1) := by decide +kernel
theorem d_M_putHunk_81 : decode um_M_putHunk.2.1 81 = .ok (.iload_n 2, 1) := by decide +kernel
theorem d_M_putHunk_82 : decode um_M_putHunk.2.1 82 = .ok (.if_icmp .ge 35, 3) := by decide +kernel
theorem d_M_putHunk_85 : decode um_M_putHunk.2.1 85 = .ok (.aload_n 0, 1) := by decide +kernel
theorem d_M_putHunk_86 : decode um_M_putHunk.2.1 86 = .ok (.aload_n 0, 1) := by decide +kernel
theorem d_M_putHunk_87 : decode um_M_putHunk.2.1 87 = .ok (.getfield 55, 3) := by decide +kernel
theorem d_M_putHunk_90 : decode um_M_putHunk.2.1 90 = .ok (.iload_n 3, 1) := by decide +kernel
theorem d_M_putHunk_91 : decode um_M_putHunk.2.1 91 = .ok (.iaload, 1) := by decide +kernel
theorem d_M_putHunk_92 : decode um_M_putHunk.2.1 92 = .ok (.invokevirtual 154, 3) := by decide +kernel
theorem d_M_putHunk_95 : decode um_M_putHunk.2.1 95 = .ok (.aload_n 0, 1) := by decide +kernel
theorem d_M_putHunk_96 : decode um_M_putHunk.2.1 96 = .ok (.aload_n 0, 1) := by decide +kernel
theorem d_M_putHunk_97 : decode um_M_putHunk.2.1 97 = .ok (.getfield 58, 3) := by decide +kernel
theorem d_M_putHunk_100 : decode um_M_putHunk.2.1 100 = .ok (.iload_n 3, 1) := by decide +kernel
theorem d_M_putHunk_101 : decode um_M_putHunk.2.1 101 = .ok (.iaload, 1) := by decide +kernel
theorem d_M_putHunk_102 : decode um_M_putHunk.2.1 102 = .ok (.invokevirtual 154, 3) := by decide +kernel
theorem d_M_putHunk_105 : decode um_M_putHunk.2.1 105 = .ok (.aload_n 0, 1) := by decide +kernel
theorem d_M_putHunk_106 : decode um_M_putHunk.2.1 106 = .ok (.bipush 10, 2) := by decide +kernel
theorem d_M_putHunk_108 : decode um_M_putHunk.2.1 108 = .ok (.invokevirtual 154, 3) := by decide +kernel
theorem d_M_putHunk_111 : decode um_M_putHunk.2.1 111 = .ok (.iinc 3 1, 3) := by decide +kernel
theorem d_M_putHunk_114 : decode um_M_putHunk.2.1 114 = .ok (.goto (-34), 3) := by decide +kernel
theorem d_M_putHunk_117 : decode um_M_putHunk.2.1 117 = .ok (.return_, 1) := by decide +kernel
theorem d_M_lastOf_0 : decode um_M_lastOf.2.1 0 = .ok (.iload_n 1, 1) := by decide +kernel
theorem d_M_lastOf_1 : decode um_M_lastOf.2.1 1 = .ok (.istore_n 3, 1) := by decide +kernel
theorem d_M_lastOf_2 : decode um_M_lastOf.2.1 2 = .ok (.iload_n 1, 1) := by decide +kernel
theorem d_M_lastOf_3 : decode um_M_lastOf.2.1 3 = .ok (.istore 4, 2) := by decide +kernel
theorem d_M_lastOf_5 : decode um_M_lastOf.2.1 5 = .ok (.iload 4, 2) := by decide +kernel
theorem d_M_lastOf_7 : decode um_M_lastOf.2.1 7 = .ok (.aload_n 0, 1) := by decide +kernel
theorem d_M_lastOf_8 : decode um_M_lastOf.2.1 8 = .ok (.getfield 145, 3) := by decide +kernel
theorem d_M_lastOf_11 : decode um_M_lastOf.2.1 11 = .ok (.if_icmp .ge 40, 3) := by decide +kernel
theorem d_M_lastOf_14 : decode um_M_lastOf.2.1 14 = .ok (.iload 4, 2) := by decide +kernel
theorem d_M_lastOf_16 : decode um_M_lastOf.2.1 16 = .ok (.iload_n 3, 1) := by decide +kernel
theorem d_M_lastOf_17 : decode um_M_lastOf.2.1 17 = .ok (.isub, 1) := by decide +kernel
theorem d_M_lastOf_18 : decode um_M_lastOf.2.1 18 = .ok (.iconst 2, 1) := by decide +kernel
theorem d_M_lastOf_19 : decode um_M_lastOf.2.1 19 = .ok (.iload_n 2, 1) := by decide +kernel
theorem d_M_lastOf_20 : decode um_M_lastOf.2.1 20 = .ok (.imul, 1) := by decide +kernel
theorem d_M_lastOf_21 : decode um_M_lastOf.2.1 21 = .ok (.if_icmp .gt 30, 3) := by decide +kernel
theorem d_M_lastOf_24 : decode um_M_lastOf.2.1 24 = .ok (.aload_n 0, 1) := by decide +kernel
theorem d_M_lastOf_25 : decode um_M_lastOf.2.1 25 = .ok (.getfield 55, 3) := by decide +kernel
theorem d_M_lastOf_28 : decode um_M_lastOf.2.1 28 = .ok (.iload 4, 2) := by decide +kernel
theorem d_M_lastOf_30 : decode um_M_lastOf.2.1 30 = .ok (.iaload, 1) := by decide +kernel
theorem d_M_lastOf_31 : decode um_M_lastOf.2.1 31 = .ok (.bipush 32, 2) := by decide +kernel
theorem d_M_lastOf_33 : decode um_M_lastOf.2.1 33 = .ok (.if_icmp .eq 10, 3) := by decide +kernel
theorem d_M_lastOf_36 : decode um_M_lastOf.2.1 36 = .ok (.iload 4, 2) := by decide +kernel
theorem d_M_lastOf_38 : decode um_M_lastOf.2.1 38 = .ok (.iconst 1, 1) := by decide +kernel
theorem d_M_lastOf_39 : decode um_M_lastOf.2.1 39 = .ok (.iadd, 1) := by decide +kernel
theorem d_M_lastOf_40 : decode um_M_lastOf.2.1 40 = .ok (.goto 4, 3) := by decide +kernel
theorem d_M_lastOf_43 : decode um_M_lastOf.2.1 43 = .ok (.iload_n 3, 1) := by decide +kernel
theorem d_M_lastOf_44 : decode um_M_lastOf.2.1 44 = .ok (.istore_n 3, 1) := by decide +kernel
theorem d_M_lastOf_45 : decode um_M_lastOf.2.1 45 = .ok (.iinc 4 1, 3) := by decide +kernel
theorem d_M_lastOf_48 : decode um_M_lastOf.2.1 48 = .ok (.goto (-43), 3) := by decide +kernel
theorem d_M_lastOf_51 : decode um_M_lastOf.2.1 51 = .ok (.iload_n 3, 1) := by decide +kernel
theorem d_M_lastOf_52 : decode um_M_lastOf.2.1 52 = .ok (.ireturn, 1) := by decide +kernel
theorem d_M_write_0 : decode um_M_write.2.1 0 = .ok (.iload_n 1, 1) := by decide +kernel
theorem d_M_write_1 : decode um_M_write.2.1 1 = .ok (.iconst 0, 1) := by decide +kernel
theorem d_M_write_2 : decode um_M_write.2.1 2 = .ok (.iconst 3, 1) := by decide +kernel
theorem d_M_write_3 : decode um_M_write.2.1 3 = .ok (.invokestatic 88, 3) := by decide +kernel
theorem d_M_write_6 : decode um_M_write.2.1 6 = .ok (.ifCond .ne 5, 3) := by decide +kernel
theorem d_M_write_9 : decode um_M_write.2.1 9 = .ok (.iconst (-1), 1) := by decide +kernel
theorem d_M_write_10 : decode um_M_write.2.1 10 = .ok (.ireturn, 1) := by decide +kernel
theorem d_M_write_11 : decode um_M_write.2.1 11 = .ok (.aload_n 0, 1) := by decide +kernel
theorem d_M_write_12 : decode um_M_write.2.1 12 = .ok (.getfield 135, 3) := by decide +kernel
theorem d_M_write_15 : decode um_M_write.2.1 15 = .ok (.ifCond .ne 6, 3) := by decide +kernel
theorem d_M_write_18 : decode um_M_write.2.1 18 = .ok (.bipush (-3), 2) := by decide +kernel
theorem d_M_write_20 : decode um_M_write.2.1 20 = .ok (.ireturn, 1) := by decide +kernel
theorem d_M_write_21 : decode um_M_write.2.1 21 = .ok (.aload_n 0, 1) := by decide +kernel
theorem d_M_write_22 : decode um_M_write.2.1 22 = .ok (.invokevirtual 164, 3) := by decide +kernel
theorem d_M_write_25 : decode um_M_write.2.1 25 = .ok (.aload_n 0, 1) := by decide +kernel
theorem d_M_write_26 : decode um_M_write.2.1 26 = .ok (.iconst 0, 1) := by decide +kernel
theorem d_M_write_27 : decode um_M_write.2.1 27 = .ok (.putfield 151, 3) := by decide +kernel
theorem d_M_write_30 : decode um_M_write.2.1 30 = .ok (.iconst 0, 1) := by decide +kernel
theorem d_M_write_31 : decode um_M_write.2.1 31 = .ok (.istore_n 2, 1) := by decide +kernel
theorem d_M_write_32 : decode um_M_write.2.1 32 = .ok (.iconst 0, 1) := by decide +kernel
theorem d_M_write_33 : decode um_M_write.2.1 33 = .ok (.istore_n 3, 1) := by decide +kernel
theorem d_M_write_34 : decode um_M_write.2.1 34 = .ok (.iload_n 3, 1) := by decide +kernel
theorem d_M_write_35 : decode um_M_write.2.1 35 = .ok (.aload_n 0, 1) := by decide +kernel
theorem d_M_write_36 : decode um_M_write.2.1 36 = .ok (.getfield 145, 3) := by decide +kernel
theorem d_M_write_39 : decode um_M_write.2.1 39 = .ok (.if_icmp .ge 83, 3) := by decide +kernel
theorem d_M_write_42 : decode um_M_write.2.1 42 = .ok (.aload_n 0, 1) := by decide +kernel
theorem d_M_write_43 : decode um_M_write.2.1 43 = .ok (.getfield 55, 3) := by decide +kernel
theorem d_M_write_46 : decode um_M_write.2.1 46 = .ok (.iload_n 3, 1) := by decide +kernel
theorem d_M_write_47 : decode um_M_write.2.1 47 = .ok (.iaload, 1) := by decide +kernel
theorem d_M_write_48 : decode um_M_write.2.1 48 = .ok (.bipush 32, 2) := by decide +kernel
theorem d_M_write_50 : decode um_M_write.2.1 50 = .ok (.if_icmp .ne 9, 3) := by decide +kernel
theorem d_M_write_53 : decode um_M_write.2.1 53 = .ok (.iinc 3 1, 3) := by decide +kernel
theorem d_M_write_56 : decode um_M_write.2.1 56 = .ok (.goto (-22), 3) := by decide +kernel
theorem d_M_write_59 : decode um_M_write.2.1 59 = .ok (.aload_n 0, 1) := by decide +kernel
theorem d_M_write_60 : decode um_M_write.2.1 60 = .ok (.iload_n 3, 1) := by decide +kernel
theorem d_M_write_61 : decode um_M_write.2.1 61 = .ok (.iload_n 1, 1) := by decide +kernel
theorem d_M_write_62 : decode um_M_write.2.1 62 = .ok (.invokevirtual 167, 3) := by decide +kernel
theorem d_M_write_65 : decode um_M_write.2.1 65 = .ok (.istore 4, 2) := by decide +kernel
theorem d_M_write_67 : decode um_M_write.2.1 67 = .ok (.iload_n 3, 1) := by decide +kernel
theorem d_M_write_68 : decode um_M_write.2.1 68 = .ok (.iload_n 1, 1) := by decide +kernel
theorem d_M_write_69 : decode um_M_write.2.1 69 = .ok (.if_icmp .ge 7, 3) := by decide +kernel
theorem d_M_write_72 : decode um_M_write.2.1 72 = .ok (.iconst 0, 1) := by decide +kernel
theorem d_M_write_73 : decode um_M_write.2.1 73 = .ok (.goto 6, 3) := by decide +kernel
theorem d_M_write_76 : decode um_M_write.2.1 76 = .ok (.iload_n 3, 1) := by decide +kernel
theorem d_M_write_77 : decode um_M_write.2.1 77 = .ok (.iload_n 1, 1) := by decide +kernel
theorem d_M_write_78 : decode um_M_write.2.1 78 = .ok (.isub, 1) := by decide +kernel
theorem d_M_write_79 : decode um_M_write.2.1 79 = .ok (.istore 5, 2) := by decide +kernel
theorem d_M_write_81 : decode um_M_write.2.1 81 = .ok (.iload 4, 2) := by decide +kernel
theorem d_M_write_83 : decode um_M_write.2.1 83 = .ok (.iload_n 1, 1) := by decide +kernel
theorem d_M_write_84 : decode um_M_write.2.1 84 = .ok (.iadd, 1) := by decide +kernel
theorem d_M_write_85 : decode um_M_write.2.1 85 = .ok (.aload_n 0, 1) := by decide +kernel
theorem d_M_write_86 : decode um_M_write.2.1 86 = .ok (.getfield 145, 3) := by decide +kernel
theorem d_M_write_89 : decode um_M_write.2.1 89 = .ok (.if_icmp .le 10, 3) := by decide +kernel
theorem d_M_write_92 : decode um_M_write.2.1 92 = .ok (.aload_n 0, 1) := by decide +kernel
theorem d_M_write_93 : decode um_M_write.2.1 93 = .ok (.getfield 145, 3) := by decide +kernel
theorem d_M_write_96 : decode um_M_write.2.1 96 = .ok (.goto 7, 3) := by decide +kernel
theorem d_M_write_99 : decode um_M_write.2.1 99 = .ok (.iload 4, 2) := by decide +kernel
theorem d_M_write_101 : decode um_M_write.2.1 101 = .ok (.iload_n 1, 1) := by decide +kernel
theorem d_M_write_102 : decode um_M_write.2.1 102 = .ok (.iadd, 1) := by decide +kernel
theorem d_M_write_103 : decode um_M_write.2.1 103 = .ok (.istore 6, 2) := by decide +kernel
theorem d_M_write_105 : decode um_M_write.2.1 105 = .ok (.aload_n 0, 1) := by decide +kernel
theorem d_M_write_106 : decode um_M_write.2.1 106 = .ok (.iload 5, 2) := by decide +kernel
theorem d_M_write_108 : decode um_M_write.2.1 108 = .ok (.iload 6, 2) := by decide +kernel
theorem d_M_write_110 : decode um_M_write.2.1 110 = .ok (.invokevirtual 171, 3) := by decide +kernel
theorem d_M_write_113 : decode um_M_write.2.1 113 = .ok (.iinc 2 1, 3) := by decide +kernel
theorem d_M_write_116 : decode um_M_write.2.1 116 = .ok (.iload 4, 2) := by decide +kernel
theorem d_M_write_118 : decode um_M_write.2.1 118 = .ok (.istore_n 3, 1) := by decide +kernel
theorem d_M_write_119 : decode um_M_write.2.1 119 = .ok (.goto (-85), 3) := by decide +kernel
theorem d_M_write_122 : decode um_M_write.2.1 122 = .ok (.iload_n 2, 1) := by decide +kernel
theorem d_M_write_123 : decode um_M_write.2.1 123 = .ok (.ireturn, 1) := by decide +kernel
theorem d_M_type_0 : decode um_M_type.2.1 0 = .ok (.iload_n 3, 1) := by decide +kernel
theorem d_M_type_1 : decode um_M_type.2.1 1 = .ok (.iconst 1, 1) := by decide +kernel
theorem d_M_type_2 : decode um_M_type.2.1 2 = .ok (.bipush 8, 2) := by decide +kernel
theorem d_M_type_4 : decode um_M_type.2.1 4 = .ok (.invokestatic 88, 3) := by decide +kernel
theorem d_M_type_7 : decode um_M_type.2.1 7 = .ok (.ifCond .ne 5, 3) := by decide +kernel
theorem d_M_type_10 : decode um_M_type.2.1 10 = .ok (.iconst (-1), 1) := by decide +kernel
theorem d_M_type_11 : decode um_M_type.2.1 11 = .ok (.ireturn, 1) := by decide +kernel
theorem d_M_type_12 : decode um_M_type.2.1 12 = .ok (.aload_n 0, 1) := by decide +kernel
theorem d_M_type_13 : decode um_M_type.2.1 13 = .ok (.getfield 151, 3) := by decide +kernel
theorem d_M_type_16 : decode um_M_type.2.1 16 = .ok (.iload_n 3, 1) := by decide +kernel
theorem d_M_type_17 : decode um_M_type.2.1 17 = .ok (.iadd, 1) := by decide +kernel
theorem d_M_type_18 : decode um_M_type.2.1 18 = .ok (.sipush 900, 3) := by decide +kernel
theorem d_M_type_21 : decode um_M_type.2.1 21 = .ok (.if_icmp .le 6, 3) := by decide +kernel
theorem d_M_type_24 : decode um_M_type.2.1 24 = .ok (.bipush (-2), 2) := by decide +kernel
theorem d_M_type_26 : decode um_M_type.2.1 26 = .ok (.ireturn, 1) := by decide +kernel
theorem d_M_type_27 : decode um_M_type.2.1 27 = .ok (.iload_n 3, 1) := by decide +kernel
theorem d_M_type_28 : decode um_M_type.2.1 28 = .ok (.iconst 1, 1) := by decide +kernel
theorem d_M_type_29 : decode um_M_type.2.1 29 = .ok (.isub, 1) := by decide +kernel
theorem d_M_type_30 : decode um_M_type.2.1 30 = .ok (.istore 4, 2) := by decide +kernel
theorem d_M_type_32 : decode um_M_type.2.1 32 = .ok (.iload 4, 2) := by decide +kernel
theorem d_M_type_34 : decode um_M_type.2.1 34 = .ok (.ifCond .lt 25, 3) := by decide +kernel
theorem d_M_type_37 : decode um_M_type.2.1 37 = .ok (.aload_n 0, 1) := by decide +kernel
theorem d_M_type_38 : decode um_M_type.2.1 38 = .ok (.lload_n 1, 1) := by decide +kernel
theorem d_M_type_39 : decode um_M_type.2.1 39 = .ok (.bipush 8, 2) := by decide +kernel
theorem d_M_type_41 : decode um_M_type.2.1 41 = .ok (.iload 4, 2) := by decide +kernel
theorem d_M_type_43 : decode um_M_type.2.1 43 = .ok (.imul, 1) := by decide +kernel
theorem d_M_type_44 : decode um_M_type.2.1 44 = .ok (.lshr, 1) := by decide +kernel
theorem d_M_type_45 : decode um_M_type.2.1 45 = .ok (.l2i, 1) := by decide +kernel
theorem d_M_type_46 : decode um_M_type.2.1 46 = .ok (.sipush 255, 3) := by decide +kernel
theorem d_M_type_49 : decode um_M_type.2.1 49 = .ok (.iand, 1) := by decide +kernel
theorem d_M_type_50 : decode um_M_type.2.1 50 = .ok (.invokevirtual 154, 3) := by decide +kernel
theorem d_M_type_53 : decode um_M_type.2.1 53 = .ok (.iinc 4 (-1), 3) := by decide +kernel
theorem d_M_type_56 : decode um_M_type.2.1 56 = .ok (.goto (-24), 3) := by decide +kernel
theorem d_M_type_59 : decode um_M_type.2.1 59 = .ok (.aload_n 0, 1) := by decide +kernel
theorem d_M_type_60 : decode um_M_type.2.1 60 = .ok (.getfield 151, 3) := by decide +kernel
theorem d_M_type_63 : decode um_M_type.2.1 63 = .ok (.ireturn, 1) := by decide +kernel
theorem d_M_wipe_0 : decode um_M_wipe.2.1 0 = .ok (.aload_n 0, 1) := by decide +kernel
theorem d_M_wipe_1 : decode um_M_wipe.2.1 1 = .ok (.getfield 151, 3) := by decide +kernel
theorem d_M_wipe_4 : decode um_M_wipe.2.1 4 = .ok (.istore_n 1, 1) := by decide +kernel
theorem d_M_wipe_5 : decode um_M_wipe.2.1 5 = .ok (.aload_n 0, 1) := by decide +kernel
theorem d_M_wipe_6 : decode um_M_wipe.2.1 6 = .ok (.iconst 0, 1) := by decide +kernel
theorem d_M_wipe_7 : decode um_M_wipe.2.1 7 = .ok (.putfield 151, 3) := by decide +kernel
theorem d_M_wipe_10 : decode um_M_wipe.2.1 10 = .ok (.iload_n 1, 1) := by decide +kernel
theorem d_M_wipe_11 : decode um_M_wipe.2.1 11 = .ok (.ireturn, 1) := by decide +kernel
theorem d_M_character_0 : decode um_M_character.2.1 0 = .ok (.iload_n 1, 1) := by decide +kernel
theorem d_M_character_1 : decode um_M_character.2.1 1 = .ok (.iconst 0, 1) := by decide +kernel
theorem d_M_character_2 : decode um_M_character.2.1 2 = .ok (.aload_n 0, 1) := by decide +kernel
theorem d_M_character_3 : decode um_M_character.2.1 3 = .ok (.getfield 151, 3) := by decide +kernel
theorem d_M_character_6 : decode um_M_character.2.1 6 = .ok (.iconst 1, 1) := by decide +kernel
theorem d_M_character_7 : decode um_M_character.2.1 7 = .ok (.isub, 1) := by decide +kernel
theorem d_M_character_8 : decode um_M_character.2.1 8 = .ok (.invokestatic 88, 3) := by decide +kernel
theorem d_M_character_11 : decode um_M_character.2.1 11 = .ok (.ifCond .eq 12, 3) := by decide +kernel
theorem d_M_character_14 : decode um_M_character.2.1 14 = .ok (.aload_n 0, 1) := by decide +kernel
theorem d_M_character_15 : decode um_M_character.2.1 15 = .ok (.getfield 61, 3) := by decide +kernel
theorem d_M_character_18 : decode um_M_character.2.1 18 = .ok (.iload_n 1, 1) := by decide +kernel
theorem d_M_character_19 : decode um_M_character.2.1 19 = .ok (.iaload, 1) := by decide +kernel
theorem d_M_character_20 : decode um_M_character.2.1 20 = .ok (.goto 5, 3) := by decide +kernel
theorem d_M_character_23 : decode um_M_character.2.1 23 = .ok (.bipush (-3), 2) := by decide +kernel
theorem d_M_character_25 : decode um_M_character.2.1 25 = .ok (.ireturn, 1) := by decide +kernel
theorem d_M_look_0 : decode um_M_look.2.1 0 = .ok (.aload_n 0, 1) := by decide +kernel
theorem d_M_look_1 : decode um_M_look.2.1 1 = .ok (.getfield 174, 3) := by decide +kernel
theorem d_M_look_4 : decode um_M_look.2.1 4 = .ok (.aload_n 0, 1) := by decide +kernel
theorem d_M_look_5 : decode um_M_look.2.1 5 = .ok (.getfield 151, 3) := by decide +kernel
theorem d_M_look_8 : decode um_M_look.2.1 8 = .ok (.if_icmp .ge 15, 3) := by decide +kernel
theorem d_M_look_11 : decode um_M_look.2.1 11 = .ok (.aload_n 0, 1) := by decide +kernel
theorem d_M_look_12 : decode um_M_look.2.1 12 = .ok (.getfield 61, 3) := by decide +kernel
theorem d_M_look_15 : decode um_M_look.2.1 15 = .ok (.aload_n 0, 1) := by decide +kernel
theorem d_M_look_16 : decode um_M_look.2.1 16 = .ok (.getfield 174, 3) := by decide +kernel
theorem d_M_look_19 : decode um_M_look.2.1 19 = .ok (.iaload, 1) := by decide +kernel
theorem d_M_look_20 : decode um_M_look.2.1 20 = .ok (.goto 4, 3) := by decide +kernel
theorem d_M_look_23 : decode um_M_look.2.1 23 = .ok (.iconst (-1), 1) := by decide +kernel
theorem d_M_look_24 : decode um_M_look.2.1 24 = .ok (.ireturn, 1) := by decide +kernel
theorem d_M_want_0 : decode um_M_want.2.1 0 = .ok (.aload_n 0, 1) := by decide +kernel
theorem d_M_want_1 : decode um_M_want.2.1 1 = .ok (.aload_n 0, 1) := by decide +kernel
theorem d_M_want_2 : decode um_M_want.2.1 2 = .ok (.getfield 177, 3) := by decide +kernel
theorem d_M_want_5 : decode um_M_want.2.1 5 = .ok (.ifCond .ne 11, 3) := by decide +kernel
theorem d_M_want_8 : decode um_M_want.2.1 8 = .ok (.aload_n 0, 1) := by decide +kernel
theorem d_M_want_9 : decode um_M_want.2.1 9 = .ok (.invokevirtual 180, 3) := by decide +kernel
theorem d_M_want_12 : decode um_M_want.2.1 12 = .ok (.iload_n 1, 1) := by decide +kernel
theorem d_M_want_13 : decode um_M_want.2.1 13 = .ok (.if_icmp .eq 7, 3) := by decide +kernel
theorem d_M_want_16 : decode um_M_want.2.1 16 = .ok (.iconst 1, 1) := by decide +kernel
theorem d_M_want_17 : decode um_M_want.2.1 17 = .ok (.goto 4, 3) := by decide +kernel
theorem d_M_want_20 : decode um_M_want.2.1 20 = .ok (.iconst 0, 1) := by decide +kernel
theorem d_M_want_21 : decode um_M_want.2.1 21 = .ok (.putfield 177, 3) := by decide +kernel
theorem d_M_want_24 : decode um_M_want.2.1 24 = .ok (.aload_n 0, 1) := by decide +kernel
theorem d_M_want_25 : decode um_M_want.2.1 25 = .ok (.aload_n 0, 1) := by decide +kernel
theorem d_M_want_26 : decode um_M_want.2.1 26 = .ok (.getfield 177, 3) := by decide +kernel
theorem d_M_want_29 : decode um_M_want.2.1 29 = .ok (.ifCond .eq 10, 3) := by decide +kernel
theorem d_M_want_32 : decode um_M_want.2.1 32 = .ok (.aload_n 0, 1) := by decide +kernel
theorem d_M_want_33 : decode um_M_want.2.1 33 = .ok (.getfield 174, 3) := by decide +kernel
theorem d_M_want_36 : decode um_M_want.2.1 36 = .ok (.goto 9, 3) := by decide +kernel
theorem d_M_want_39 : decode um_M_want.2.1 39 = .ok (.aload_n 0, 1) := by decide +kernel
theorem d_M_want_40 : decode um_M_want.2.1 40 = .ok (.getfield 174, 3) := by decide +kernel
theorem d_M_want_43 : decode um_M_want.2.1 43 = .ok (.iconst 1, 1) := by decide +kernel
theorem d_M_want_44 : decode um_M_want.2.1 44 = .ok (.iadd, 1) := by decide +kernel
theorem d_M_want_45 : decode um_M_want.2.1 45 = .ok (.putfield 174, 3) := by decide +kernel
theorem d_M_want_48 : decode um_M_want.2.1 48 = .ok (.return_, 1) := by decide +kernel
theorem d_M_number_0 : decode um_M_number.2.1 0 = .ok (.aload_n 0, 1) := by decide +kernel
theorem d_M_number_1 : decode um_M_number.2.1 1 = .ok (.getfield 177, 3) := by decide +kernel
theorem d_M_number_4 : decode um_M_number.2.1 4 = .ok (.ifCond .ne 17, 3) := by decide +kernel
theorem d_M_number_7 : decode um_M_number.2.1 7 = .ok (.aload_n 0, 1) := by decide +kernel
theorem d_M_number_8 : decode um_M_number.2.1 8 = .ok (.invokevirtual 180, 3) := by decide +kernel
theorem d_M_number_11 : decode um_M_number.2.1 11 = .ok (.bipush 48, 2) := by decide +kernel
theorem d_M_number_13 : decode um_M_number.2.1 13 = .ok (.bipush 57, 2) := by decide +kernel
theorem d_M_number_15 : decode um_M_number.2.1 15 = .ok (.invokestatic 88, 3) := by decide +kernel
theorem d_M_number_18 : decode um_M_number.2.1 18 = .ok (.ifCond .ne 10, 3) := by decide +kernel
theorem d_M_number_21 : decode um_M_number.2.1 21 = .ok (.aload_n 0, 1) := by decide +kernel
theorem d_M_number_22 : decode um_M_number.2.1 22 = .ok (.iconst 1, 1) := by decide +kernel
theorem d_M_number_23 : decode um_M_number.2.1 23 = .ok (.putfield 177, 3) := by decide +kernel
theorem d_M_number_26 : decode um_M_number.2.1 26 = .ok (.iconst 0, 1) := by decide +kernel
theorem d_M_number_27 : decode um_M_number.2.1 27 = .ok (.ireturn, 1) := by decide +kernel
theorem d_M_number_28 : decode um_M_number.2.1 28 = .ok (.aload_n 0, 1) := by decide +kernel
theorem d_M_number_29 : decode um_M_number.2.1 29 = .ok (.invokevirtual 180, 3) := by decide +kernel
theorem d_M_number_32 : decode um_M_number.2.1 32 = .ok (.bipush 48, 2) := by decide +kernel
theorem d_M_number_34 : decode um_M_number.2.1 34 = .ok (.isub, 1) := by decide +kernel
theorem d_M_number_35 : decode um_M_number.2.1 35 = .ok (.istore_n 1, 1) := by decide +kernel
theorem d_M_number_36 : decode um_M_number.2.1 36 = .ok (.aload_n 0, 1) := by decide +kernel
theorem d_M_number_37 : decode um_M_number.2.1 37 = .ok (.dup, 1) := by decide +kernel
theorem d_M_number_38 : decode um_M_number.2.1 38 = .ok (.getfield 174, 3) := by decide +kernel
theorem d_M_number_41 : decode um_M_number.2.1 41 = .ok (.iconst 1, 1) := by decide +kernel
theorem d_M_number_42 : decode um_M_number.2.1 42 = .ok (.iadd, 1) := by decide +kernel
theorem d_M_number_43 : decode um_M_number.2.1 43 = .ok (.putfield 174, 3) := by decide +kernel
theorem d_M_number_46 : decode um_M_number.2.1 46 = .ok (.iload_n 1, 1) := by decide +kernel
theorem d_M_number_47 : decode um_M_number.2.1 47 = .ok (.ifCond .le 40, 3) := by decide +kernel
theorem d_M_number_50 : decode um_M_number.2.1 50 = .ok (.aload_n 0, 1) := by decide +kernel
theorem d_M_number_51 : decode um_M_number.2.1 51 = .ok (.invokevirtual 180, 3) := by decide +kernel
theorem d_M_number_54 : decode um_M_number.2.1 54 = .ok (.bipush 48, 2) := by decide +kernel
theorem d_M_number_56 : decode um_M_number.2.1 56 = .ok (.bipush 57, 2) := by decide +kernel
theorem d_M_number_58 : decode um_M_number.2.1 58 = .ok (.invokestatic 88, 3) := by decide +kernel
theorem d_M_number_61 : decode um_M_number.2.1 61 = .ok (.ifCond .eq 26, 3) := by decide +kernel
theorem d_M_number_64 : decode um_M_number.2.1 64 = .ok (.bipush 10, 2) := by decide +kernel
theorem d_M_number_66 : decode um_M_number.2.1 66 = .ok (.iload_n 1, 1) := by decide +kernel
theorem d_M_number_67 : decode um_M_number.2.1 67 = .ok (.imul, 1) := by decide +kernel
theorem d_M_number_68 : decode um_M_number.2.1 68 = .ok (.aload_n 0, 1) := by decide +kernel
theorem d_M_number_69 : decode um_M_number.2.1 69 = .ok (.invokevirtual 180, 3) := by decide +kernel
theorem d_M_number_72 : decode um_M_number.2.1 72 = .ok (.iadd, 1) := by decide +kernel
theorem d_M_number_73 : decode um_M_number.2.1 73 = .ok (.bipush 48, 2) := by decide +kernel
theorem d_M_number_75 : decode um_M_number.2.1 75 = .ok (.isub, 1) := by decide +kernel
theorem d_M_number_76 : decode um_M_number.2.1 76 = .ok (.istore_n 1, 1) := by decide +kernel
theorem d_M_number_77 : decode um_M_number.2.1 77 = .ok (.aload_n 0, 1) := by decide +kernel
theorem d_M_number_78 : decode um_M_number.2.1 78 = .ok (.dup, 1) := by decide +kernel
theorem d_M_number_79 : decode um_M_number.2.1 79 = .ok (.getfield 174, 3) := by decide +kernel
theorem d_M_number_82 : decode um_M_number.2.1 82 = .ok (.iconst 1, 1) := by decide +kernel
theorem d_M_number_83 : decode um_M_number.2.1 83 = .ok (.iadd, 1) := by decide +kernel
theorem d_M_number_84 : decode um_M_number.2.1 84 = .ok (.putfield 174, 3) := by decide +kernel
theorem d_M_number_87 : decode um_M_number.2.1 87 = .ok (.iload_n 1, 1) := by decide +kernel
theorem d_M_number_88 : decode um_M_number.2.1 88 = .ok (.ireturn, 1) := by decide +kernel
theorem d_M_readHunk_0 : decode um_M_readHunk.2.1 0 = .ok (.aload_n 0, 1) := by decide +kernel
theorem d_M_readHunk_1 : decode um_M_readHunk.2.1 1 = .ok (.bipush 64, 2) := by decide +kernel
theorem d_M_readHunk_3 : decode um_M_readHunk.2.1 3 = .ok (.invokevirtual 184, 3) := by decide +kernel
theorem d_M_readHunk_6 : decode um_M_readHunk.2.1 6 = .ok (.aload_n 0, 1) := by decide +kernel
theorem d_M_readHunk_7 : decode um_M_readHunk.2.1 7 = .ok (.getfield 64, 3) := by decide +kernel
theorem d_M_readHunk_10 : decode um_M_readHunk.2.1 10 = .ok (.aload_n 0, 1) := by decide +kernel
theorem d_M_readHunk_11 : decode um_M_readHunk.2.1 11 = .ok (.getfield 187, 3) := by decide +kernel
theorem d_M_readHunk_14 : decode um_M_readHunk.2.1 14 = .ok (.aload_n 0, 1) := by decide +kernel
theorem d_M_readHunk_15 : decode um_M_readHunk.2.1 15 = .ok (.invokevirtual 190, 3) := by decide +kernel
theorem d_M_readHunk_18 : decode um_M_readHunk.2.1 18 = .ok (.iastore, 1) := by decide +kernel
theorem d_M_readHunk_19 : decode um_M_readHunk.2.1 19 = .ok (.aload_n 0, 1) := by decide +kernel
theorem d_M_readHunk_20 : decode um_M_readHunk.2.1 20 = .ok (.bipush 44, 2) := by decide +kernel
theorem d_M_readHunk_22 : decode um_M_readHunk.2.1 22 = .ok (.invokevirtual 184, 3) := by decide +kernel
theorem d_M_readHunk_25 : decode um_M_readHunk.2.1 25 = .ok (.aload_n 0, 1) := by decide +kernel
theorem d_M_readHunk_26 : decode um_M_readHunk.2.1 26 = .ok (.invokevirtual 190, 3) := by decide +kernel
theorem d_M_readHunk_29 : decode um_M_readHunk.2.1 29 = .ok (.istore_n 1, 1) := by decide +kernel
theorem d_M_readHunk_30 : decode um_M_readHunk.2.1 30 = .ok (.aload_n 0, 1) := by decide +kernel
theorem d_M_readHunk_31 : decode um_M_readHunk.2.1 31 = .ok (.bipush 32, 2) := by decide +kernel
theorem d_M_readHunk_33 : decode um_M_readHunk.2.1 33 = .ok (.invokevirtual 184, 3) := by decide +kernel
theorem d_M_readHunk_36 : decode um_M_readHunk.2.1 36 = .ok (.aload_n 0, 1) := by decide +kernel
theorem d_M_readHunk_37 : decode um_M_readHunk.2.1 37 = .ok (.invokevirtual 190, 3) := by decide +kernel
theorem d_M_readHunk_40 : decode um_M_readHunk.2.1 40 = .ok (.pop, 1) := by decide +kernel
theorem d_M_readHunk_41 : decode um_M_readHunk.2.1 41 = .ok (.aload_n 0, 1) := by decide +kernel
theorem d_M_readHunk_42 : decode um_M_readHunk.2.1 42 = .ok (.bipush 44, 2) := by decide +kernel
theorem d_M_readHunk_44 : decode um_M_readHunk.2.1 44 = .ok (.invokevirtual 184, 3) := by decide +kernel
theorem d_M_readHunk_47 : decode um_M_readHunk.2.1 47 = .ok (.aload_n 0, 1) := by decide +kernel
theorem d_M_readHunk_48 : decode um_M_readHunk.2.1 48 = .ok (.invokevirtual 190, 3) := by decide +kernel
theorem d_M_readHunk_51 : decode um_M_readHunk.2.1 51 = .ok (.istore_n 2, 1) := by decide +kernel
theorem d_M_readHunk_52 : decode um_M_readHunk.2.1 52 = .ok (.aload_n 0, 1) := by decide +kernel
theorem d_M_readHunk_53 : decode um_M_readHunk.2.1 53 = .ok (.aload_n 0, 1) := by decide +kernel
theorem d_M_readHunk_54 : decode um_M_readHunk.2.1 54 = .ok (.getfield 177, 3) := by decide +kernel
theorem d_M_readHunk_57 : decode um_M_readHunk.2.1 57 = .ok (.ifCond .ne 11, 3) := by decide +kernel
theorem d_M_readHunk_60 : decode um_M_readHunk.2.1 60 = .ok (.iload_n 1, 1) := by decide +kernel
theorem d_M_readHunk_61 : decode um_M_readHunk.2.1 61 = .ok (.ifCond .ne 11, 3) := by decide +kernel
theorem d_M_readHunk_64 : decode um_M_readHunk.2.1 64 = .ok (.iload_n 2, 1) := by decide +kernel
theorem d_M_readHunk_65 : decode um_M_readHunk.2.1 65 = .ok (.ifCond .ne 7, 3) := by decide +kernel
theorem d_M_readHunk_68 : decode um_M_readHunk.2.1 68 = .ok (.iconst 1, 1) := by decide +kernel
theorem d_M_readHunk_69 : decode um_M_readHunk.2.1 69 = .ok (.goto 4, 3) := by decide +kernel
theorem d_M_readHunk_72 : decode um_M_readHunk.2.1 72 = .ok (.iconst 0, 1) := by decide +kernel
theorem d_M_readHunk_73 : decode um_M_readHunk.2.1 73 = .ok (.putfield 177, 3) := by decide +kernel
theorem d_M_readHunk_76 : decode um_M_readHunk.2.1 76 = .ok (.aload_n 0, 1) := by decide +kernel
theorem d_M_readHunk_77 : decode um_M_readHunk.2.1 77 = .ok (.bipush 10, 2) := by decide +kernel
theorem d_M_readHunk_79 : decode um_M_readHunk.2.1 79 = .ok (.invokevirtual 184, 3) := by decide +kernel
theorem d_M_readHunk_82 : decode um_M_readHunk.2.1 82 = .ok (.aload_n 0, 1) := by decide +kernel
theorem d_M_readHunk_83 : decode um_M_readHunk.2.1 83 = .ok (.getfield 67, 3) := by decide +kernel
theorem d_M_readHunk_86 : decode um_M_readHunk.2.1 86 = .ok (.aload_n 0, 1) := by decide +kernel
theorem d_M_readHunk_87 : decode um_M_readHunk.2.1 87 = .ok (.getfield 187, 3) := by decide +kernel
theorem d_M_readHunk_90 : decode um_M_readHunk.2.1 90 = .ok (.iload_n 1, 1) := by decide +kernel
theorem d_M_readHunk_91 : decode um_M_readHunk.2.1 91 = .ok (.iastore, 1) := by decide +kernel
theorem d_M_readHunk_92 : decode um_M_readHunk.2.1 92 = .ok (.aload_n 0, 1) := by decide +kernel
theorem d_M_readHunk_93 : decode um_M_readHunk.2.1 93 = .ok (.getfield 70, 3) := by decide +kernel
theorem d_M_readHunk_96 : decode um_M_readHunk.2.1 96 = .ok (.aload_n 0, 1) := by decide +kernel
theorem d_M_readHunk_97 : decode um_M_readHunk.2.1 97 = .ok (.getfield 187, 3) := by decide +kernel
theorem d_M_readHunk_100 : decode um_M_readHunk.2.1 100 = .ok (.iload_n 2, 1) := by decide +kernel
theorem d_M_readHunk_101 : decode um_M_readHunk.2.1 101 = .ok (.iastore, 1) := by decide +kernel
theorem d_M_readHunk_102 : decode um_M_readHunk.2.1 102 = .ok (.aload_n 0, 1) := by decide +kernel
theorem d_M_readHunk_103 : decode um_M_readHunk.2.1 103 = .ok (.getfield 76, 3) := by decide +kernel
theorem d_M_readHunk_106 : decode um_M_readHunk.2.1 106 = .ok (.aload_n 0, 1) := by decide +kernel
theorem d_M_readHunk_107 : decode um_M_readHunk.2.1 107 = .ok (.getfield 187, 3) := by decide +kernel
theorem d_M_readHunk_110 : decode um_M_readHunk.2.1 110 = .ok (.aload_n 0, 1) := by decide +kernel
theorem d_M_readHunk_111 : decode um_M_readHunk.2.1 111 = .ok (.getfield 174, 3) := by decide +kernel
theorem d_M_readHunk_114 : decode um_M_readHunk.2.1 114 = .ok (.iastore, 1) := by decide +kernel
theorem d_M_readHunk_115 : decode um_M_readHunk.2.1 115 = .ok (.iconst 0, 1) := by decide +kernel
theorem d_M_readHunk_116 : decode um_M_readHunk.2.1 116 = .ok (.istore_n 3, 1) := by decide +kernel
theorem d_M_readHunk_117 : decode um_M_readHunk.2.1 117 = .ok (.aload_n 0, 1) := by decide +kernel
theorem d_M_readHunk_118 : decode um_M_readHunk.2.1 118 = .ok (.getfield 177, 3) := by decide +kernel
theorem d_M_readHunk_121 : decode um_M_readHunk.2.1 121 = .ok (.ifCond .ne 215, 3) := by decide +kernel
theorem d_M_readHunk_124 : decode um_M_readHunk.2.1 124 = .ok (.iload_n 1, 1) := by decide +kernel
theorem d_M_readHunk_125 : decode um_M_readHunk.2.1 125 = .ok (.ifCond .gt 7, 3) := by decide +kernel
theorem d_M_readHunk_128 : decode um_M_readHunk.2.1 128 = .ok (.iload_n 2, 1) := by decide +kernel
theorem d_M_readHunk_129 : decode um_M_readHunk.2.1 129 = .ok (.ifCond .le 207, 3) := by decide +kernel
theorem d_M_readHunk_132 : decode um_M_readHunk.2.1 132 = .ok (.aload_n 0, 1) := by decide +kernel
theorem d_M_readHunk_133 : decode um_M_readHunk.2.1 133 = .ok (.invokevirtual 180, 3) := by decide +kernel
theorem d_M_readHunk_136 : decode um_M_readHunk.2.1 136 = .ok (.istore 4, 2) := by decide +kernel
theorem d_M_readHunk_138 : decode um_M_readHunk.2.1 138 = .ok (.iload 4, 2) := by decide +kernel
theorem d_M_readHunk_140 : decode um_M_readHunk.2.1 140 = .ok (.bipush 32, 2) := by decide +kernel
theorem d_M_readHunk_142 : decode um_M_readHunk.2.1 142 = .ok (.if_icmp .ne 19, 3) := by decide +kernel
theorem d_M_readHunk_145 : decode um_M_readHunk.2.1 145 = .ok (.iload_n 1, 1) := by decide +kernel
theorem d_M_readHunk_146 : decode um_M_readHunk.2.1 146 = .ok (.ifCond .le 11, 3) := by decide +kernel
theorem d_M_readHunk_149 : decode um_M_readHunk.2.1 149 = .ok (.iload_n 2, 1) := by decide +kernel
theorem d_M_readHunk_150 : decode um_M_readHunk.2.1 150 = .ok (.ifCond .le 7, 3) := by decide +kernel
theorem d_M_readHunk_153 : decode um_M_readHunk.2.1 153 = .ok (.iconst 1, 1) := by decide +kernel
theorem d_M_readHunk_154 : decode um_M_readHunk.2.1 154 = .ok (.goto 42, 3) := by decide +kernel
theorem d_M_readHunk_157 : decode um_M_readHunk.2.1 157 = .ok (.iconst 0, 1) := by decide +kernel
theorem d_M_readHunk_158 : decode um_M_readHunk.2.1 158 = .ok (.goto 38, 3) := by decide +kernel
theorem d_M_readHunk_161 : decode um_M_readHunk.2.1 161 = .ok (.iload 4, 2) := by decide +kernel
theorem d_M_readHunk_163 : decode um_M_readHunk.2.1 163 = .ok (.bipush 45, 2) := by decide +kernel
theorem d_M_readHunk_165 : decode um_M_readHunk.2.1 165 = .ok (.if_icmp .ne 15, 3) := by decide +kernel
theorem d_M_readHunk_168 : decode um_M_readHunk.2.1 168 = .ok (.iload_n 1, 1) := by decide +kernel
theorem d_M_readHunk_169 : decode um_M_readHunk.2.1 169 = .ok (.ifCond .le 7, 3) := by decide +kernel
theorem d_M_readHunk_172 : decode um_M_readHunk.2.1 172 = .ok (.iconst 1, 1) := by decide +kernel
theorem d_M_readHunk_173 : decode um_M_readHunk.2.1 173 = .ok (.goto 23, 3) := by decide +kernel
theorem d_M_readHunk_176 : decode um_M_readHunk.2.1 176 = .ok (.iconst 0, 1) := by decide +kernel
theorem d_M_readHunk_177 : decode um_M_readHunk.2.1 177 = .ok (.goto 19, 3) := by decide +kernel
theorem d_M_readHunk_180 : decode um_M_readHunk.2.1 180 = .ok (.iload 4, 2) := by decide +kernel
theorem d_M_readHunk_182 : decode um_M_readHunk.2.1 182 = .ok (.bipush 43, 2) := by decide +kernel
theorem d_M_readHunk_184 : decode um_M_readHunk.2.1 184 = .ok (.if_icmp .ne 11, 3) := by decide +kernel
theorem d_M_readHunk_187 : decode um_M_readHunk.2.1 187 = .ok (.iload_n 2, 1) := by decide +kernel
theorem d_M_readHunk_188 : decode um_M_readHunk.2.1 188 = .ok (.ifCond .le 7, 3) := by decide +kernel
theorem d_M_readHunk_191 : decode um_M_readHunk.2.1 191 = .ok (.iconst 1, 1) := by decide +kernel
theorem d_M_readHunk_192 : decode um_M_readHunk.2.1 192 = .ok (.goto 4, 3) := by decide +kernel
theorem d_M_readHunk_195 : decode um_M_readHunk.2.1 195 = .ok (.iconst 0, 1) := by decide +kernel
theorem d_M_readHunk_196 : decode um_M_readHunk.2.1 196 = .ok (.istore 5, 2) := by decide +kernel
theorem d_M_readHunk_198 : decode um_M_readHunk.2.1 198 = .ok (.aload_n 0, 1) := by decide +kernel
theorem d_M_readHunk_199 : decode um_M_readHunk.2.1 199 = .ok (.iload 5, 2) := by decide +kernel
theorem d_M_readHunk_201 : decode um_M_readHunk.2.1 201 = .ok (.ifCond .ne 7, 3) := by decide +kernel
theorem d_M_readHunk_204 : decode um_M_readHunk.2.1 204 = .ok (.iconst 1, 1) := by decide +kernel
theorem d_M_readHunk_205 : decode um_M_readHunk.2.1 205 = .ok (.goto 4, 3) := by decide +kernel
theorem d_M_readHunk_208 : decode um_M_readHunk.2.1 208 = .ok (.iconst 0, 1) := by decide +kernel
theorem d_M_readHunk_209 : decode um_M_readHunk.2.1 209 = .ok (.putfield 177, 3) := by decide +kernel
theorem d_M_readHunk_212 : decode um_M_readHunk.2.1 212 = .ok (.iload 5, 2) := by decide +kernel
theorem d_M_readHunk_214 : decode um_M_readHunk.2.1 214 = .ok (.ifCond .eq 16, 3) := by decide +kernel
theorem d_M_readHunk_217 : decode um_M_readHunk.2.1 217 = .ok (.iload 4, 2) := by decide +kernel
theorem d_M_readHunk_219 : decode um_M_readHunk.2.1 219 = .ok (.bipush 43, 2) := by decide +kernel
theorem d_M_readHunk_221 : decode um_M_readHunk.2.1 221 = .ok (.if_icmp .eq 9, 3) := by decide +kernel
theorem d_M_readHunk_224 : decode um_M_readHunk.2.1 224 = .ok (.iload_n 1, 1) := by decide +kernel
theorem d_M_readHunk_225 : decode um_M_readHunk.2.1 225 = .ok (.iconst 1, 1) := by decide +kernel
theorem d_M_readHunk_226 : decode um_M_readHunk.2.1 226 = .ok (.isub, 1) := by decide +kernel
theorem d_M_readHunk_227 : decode um_M_readHunk.2.1 227 = .ok (.goto 4, 3) := by decide +kernel
theorem d_M_readHunk_230 : decode um_M_readHunk.2.1 230 = .ok (.iload_n 1, 1) := by decide +kernel
theorem d_M_readHunk_231 : decode um_M_readHunk.2.1 231 = .ok (.istore_n 1, 1) := by decide +kernel
theorem d_M_readHunk_232 : decode um_M_readHunk.2.1 232 = .ok (.iload 5, 2) := by decide +kernel
theorem d_M_readHunk_234 : decode um_M_readHunk.2.1 234 = .ok (.ifCond .eq 16, 3) := by decide +kernel
theorem d_M_readHunk_237 : decode um_M_readHunk.2.1 237 = .ok (.iload 4, 2) := by decide +kernel
theorem d_M_readHunk_239 : decode um_M_readHunk.2.1 239 = .ok (.bipush 45, 2) := by decide +kernel
theorem d_M_readHunk_241 : decode um_M_readHunk.2.1 241 = .ok (.if_icmp .eq 9, 3) := by decide +kernel
theorem d_M_readHunk_244 : decode um_M_readHunk.2.1 244 = .ok (.iload_n 2, 1) := by decide +kernel
theorem d_M_readHunk_245 : decode um_M_readHunk.2.1 245 = .ok (.iconst 1, 1) := by decide +kernel
theorem d_M_readHunk_246 : decode um_M_readHunk.2.1 246 = .ok (.isub, 1) := by decide +kernel
theorem d_M_readHunk_247 : decode um_M_readHunk.2.1 247 = .ok (.goto 4, 3) := by decide +kernel
theorem d_M_readHunk_250 : decode um_M_readHunk.2.1 250 = .ok (.iload_n 2, 1) := by decide +kernel
theorem d_M_readHunk_251 : decode um_M_readHunk.2.1 251 = .ok (.istore_n 2, 1) := by decide +kernel
theorem d_M_readHunk_252 : decode um_M_readHunk.2.1 252 = .ok (.aload_n 0, 1) := by decide +kernel
theorem d_M_readHunk_253 : decode um_M_readHunk.2.1 253 = .ok (.iload 5, 2) := by decide +kernel
theorem d_M_readHunk_255 : decode um_M_readHunk.2.1 255 = .ok (.ifCond .eq 12, 3) := by decide +kernel
theorem d_M_readHunk_258 : decode um_M_readHunk.2.1 258 = .ok (.aload_n 0, 1) := by decide +kernel
theorem d_M_readHunk_259 : decode um_M_readHunk.2.1 259 = .ok (.getfield 174, 3) := by decide +kernel
theorem d_M_readHunk_262 : decode um_M_readHunk.2.1 262 = .ok (.iconst 1, 1) := by decide +kernel
theorem d_M_readHunk_263 : decode um_M_readHunk.2.1 263 = .ok (.iadd, 1) := by decide +kernel
theorem d_M_readHunk_264 : decode um_M_readHunk.2.1 264 = .ok (.goto 7, 3) := by decide +kernel
theorem d_M_readHunk_267 : decode um_M_readHunk.2.1 267 = .ok (.aload_n 0, 1) := by decide +kernel
theorem d_M_readHunk_268 : decode um_M_readHunk.2.1 268 = .ok (.getfield 174, 3) := by decide +kernel
theorem d_M_readHunk_271 : decode um_M_readHunk.2.1 271 = .ok (.putfield 174, 3) := by decide +kernel
theorem d_M_readHunk_274 : decode um_M_readHunk.2.1 274 = .ok (.aload_n 0, 1) := by decide +kernel
theorem d_M_readHunk_275 : decode um_M_readHunk.2.1 275 = .ok (.aload_n 0, 1) := by decide +kernel
theorem d_M_readHunk_276 : decode um_M_readHunk.2.1 276 = .ok (.getfield 177, 3) := by decide +kernel
theorem d_M_readHunk_279 : decode um_M_readHunk.2.1 279 = .ok (.ifCond .ne 13, 3) := by decide +kernel
theorem d_M_readHunk_282 : decode um_M_readHunk.2.1 282 = .ok (.aload_n 0, 1) := by decide +kernel
theorem d_M_readHunk_283 : decode um_M_readHunk.2.1 283 = .ok (.invokevirtual 180, 3) := by decide +kernel
theorem d_M_readHunk_286 : decode um_M_readHunk.2.1 286 = .ok (.invokestatic 92, 3) := by decide +kernel
theorem d_M_readHunk_289 : decode um_M_readHunk.2.1 289 = .ok (.ifCond .ne 7, 3) := by decide +kernel
theorem d_M_readHunk_292 : decode um_M_readHunk.2.1 292 = .ok (.iconst 1, 1) := by decide +kernel
theorem d_M_readHunk_293 : decode um_M_readHunk.2.1 293 = .ok (.goto 4, 3) := by decide +kernel
theorem d_M_readHunk_296 : decode um_M_readHunk.2.1 296 = .ok (.iconst 0, 1) := by decide +kernel
theorem d_M_readHunk_297 : decode um_M_readHunk.2.1 297 = .ok (.putfield 177, 3) := by decide +kernel
theorem d_M_readHunk_300 : decode um_M_readHunk.2.1 300 = .ok (.aload_n 0, 1) := by decide +kernel
theorem d_M_readHunk_301 : decode um_M_readHunk.2.1 301 = .ok (.aload_n 0, 1) := by decide +kernel
theorem d_M_readHunk_302 : decode um_M_readHunk.2.1 302 = .ok (.getfield 177, 3) := by decide +kernel
theorem d_M_readHunk_305 : decode um_M_readHunk.2.1 305 = .ok (.ifCond .eq 10, 3) := by decide +kernel
theorem d_M_readHunk_308 : decode um_M_readHunk.2.1 308 = .ok (.aload_n 0, 1) := by decide +kernel
theorem d_M_readHunk_309 : decode um_M_readHunk.2.1 309 = .ok (.getfield 174, 3) := by decide +kernel
theorem d_M_readHunk_312 : decode um_M_readHunk.2.1 312 = .ok (.goto 9, 3) := by decide +kernel
theorem d_M_readHunk_315 : decode um_M_readHunk.2.1 315 = .ok (.aload_n 0, 1) := by decide +kernel
theorem d_M_readHunk_316 : decode um_M_readHunk.2.1 316 = .ok (.getfield 174, 3) := by decide +kernel
theorem d_M_readHunk_319 : decode um_M_readHunk.2.1 319 = .ok (.iconst 1, 1) := by decide +kernel
theorem d_M_readHunk_320 : decode um_M_readHunk.2.1 320 = .ok (.iadd, 1) := by decide +kernel
theorem d_M_readHunk_321 : decode um_M_readHunk.2.1 321 = .ok (.putfield 174, 3) := by decide +kernel
theorem d_M_readHunk_324 : decode um_M_readHunk.2.1 324 = .ok (.aload_n 0, 1) := by decide +kernel
theorem d_M_readHunk_325 : decode um_M_readHunk.2.1 325 = .ok (.bipush 10, 2) := by decide +kernel
theorem d_M_readHunk_327 : decode um_M_readHunk.2.1 327 = .ok (.invokevirtual 184, 3) := by decide +kernel
theorem d_M_readHunk_330 : decode um_M_readHunk.2.1 330 = .ok (.iinc 3 1, 3) := by decide +kernel
theorem d_M_readHunk_333 : decode um_M_readHunk.2.1 333 = .ok (.goto (-216), 3) := by decide +kernel
theorem d_M_readHunk_336 : decode um_M_readHunk.2.1 336 = .ok (.aload_n 0, 1) := by decide +kernel
theorem d_M_readHunk_337 : decode um_M_readHunk.2.1 337 = .ok (.getfield 73, 3) := by decide +kernel
theorem d_M_readHunk_340 : decode um_M_readHunk.2.1 340 = .ok (.aload_n 0, 1) := by decide +kernel
theorem d_M_readHunk_341 : decode um_M_readHunk.2.1 341 = .ok (.getfield 187, 3) := by decide +kernel
theorem d_M_readHunk_344 : decode um_M_readHunk.2.1 344 = .ok (.iload_n 3, 1) := by decide +kernel
theorem d_M_readHunk_345 : decode um_M_readHunk.2.1 345 = .ok (.iastore, 1) := by decide +kernel
theorem d_M_readHunk_346 : decode um_M_readHunk.2.1 346 = .ok (.aload_n 0, 1) := by decide +kernel
theorem d_M_readHunk_347 : decode um_M_readHunk.2.1 347 = .ok (.dup, 1) := by decide +kernel
theorem d_M_readHunk_348 : decode um_M_readHunk.2.1 348 = .ok (.getfield 187, 3) := by decide +kernel
theorem d_M_readHunk_351 : decode um_M_readHunk.2.1 351 = .ok (.iconst 1, 1) := by decide +kernel
theorem d_M_readHunk_352 : decode um_M_readHunk.2.1 352 = .ok (.iadd, 1) := by decide +kernel
theorem d_M_readHunk_353 : decode um_M_readHunk.2.1 353 = .ok (.putfield 187, 3) := by decide +kernel
theorem d_M_readHunk_356 : decode um_M_readHunk.2.1 356 = .ok (.return_, 1) := by decide +kernel
theorem d_M_read_0 : decode um_M_read.2.1 0 = .ok (.aload_n 0, 1) := by decide +kernel
theorem d_M_read_1 : decode um_M_read.2.1 1 = .ok (.iconst 0, 1) := by decide +kernel
theorem d_M_read_2 : decode um_M_read.2.1 2 = .ok (.putfield 174, 3) := by decide +kernel
theorem d_M_read_5 : decode um_M_read.2.1 5 = .ok (.aload_n 0, 1) := by decide +kernel
theorem d_M_read_6 : decode um_M_read.2.1 6 = .ok (.iconst 0, 1) := by decide +kernel
theorem d_M_read_7 : decode um_M_read.2.1 7 = .ok (.putfield 187, 3) := by decide +kernel
theorem d_M_read_10 : decode um_M_read.2.1 10 = .ok (.aload_n 0, 1) := by decide +kernel
theorem d_M_read_11 : decode um_M_read.2.1 11 = .ok (.iconst 0, 1) := by decide +kernel
theorem d_M_read_12 : decode um_M_read.2.1 12 = .ok (.putfield 177, 3) := by decide +kernel
theorem d_M_read_15 : decode um_M_read.2.1 15 = .ok (.aload_n 0, 1) := by decide +kernel
theorem d_M_read_16 : decode um_M_read.2.1 16 = .ok (.getfield 174, 3) := by decide +kernel
theorem d_M_read_19 : decode um_M_read.2.1 19 = .ok (.aload_n 0, 1) := by decide +kernel
theorem d_M_read_20 : decode um_M_read.2.1 20 = .ok (.getfield 151, 3) := by decide +kernel
theorem d_M_read_23 : decode um_M_read.2.1 23 = .ok (.if_icmp .ge 17, 3) := by decide +kernel
theorem d_M_read_26 : decode um_M_read.2.1 26 = .ok (.aload_n 0, 1) := by decide +kernel
theorem d_M_read_27 : decode um_M_read.2.1 27 = .ok (.getfield 177, 3) := by decide +kernel
theorem d_M_read_30 : decode um_M_read.2.1 30 = .ok (.ifCond .ne 10, 3) := by decide +kernel
theorem d_M_read_33 : decode um_M_read.2.1 33 = .ok (.aload_n 0, 1) := by decide +kernel
theorem d_M_read_34 : decode um_M_read.2.1 34 = .ok (.invokevirtual 193, 3) := by decide +kernel
theorem d_M_read_37 : decode um_M_read.2.1 37 = .ok (.goto (-22), 3) := by decide +kernel
theorem d_M_read_40 : decode um_M_read.2.1 40 = .ok (.aload_n 0, 1) := by decide +kernel
theorem d_M_read_41 : decode um_M_read.2.1 41 = .ok (.getfield 177, 3) := by decide +kernel
theorem d_M_read_44 : decode um_M_read.2.1 44 = .ok (.ifCond .eq 10, 3) := by decide +kernel
theorem d_M_read_47 : decode um_M_read.2.1 47 = .ok (.aload_n 0, 1) := by decide +kernel
theorem d_M_read_48 : decode um_M_read.2.1 48 = .ok (.getfield 174, 3) := by decide +kernel
theorem d_M_read_51 : decode um_M_read.2.1 51 = .ok (.goto 4, 3) := by decide +kernel
theorem d_M_read_54 : decode um_M_read.2.1 54 = .ok (.iconst (-1), 1) := by decide +kernel
theorem d_M_read_55 : decode um_M_read.2.1 55 = .ok (.ireturn, 1) := by decide +kernel
theorem d_M_stands_0 : decode um_M_stands.2.1 0 = .ok (.iload_n 3, 1) := by decide +kernel
theorem d_M_stands_1 : decode um_M_stands.2.1 1 = .ok (.istore 4, 2) := by decide +kernel
theorem d_M_stands_3 : decode um_M_stands.2.1 3 = .ok (.iconst 1, 1) := by decide +kernel
theorem d_M_stands_4 : decode um_M_stands.2.1 4 = .ok (.istore 5, 2) := by decide +kernel
theorem d_M_stands_6 : decode um_M_stands.2.1 6 = .ok (.iconst 0, 1) := by decide +kernel
theorem d_M_stands_7 : decode um_M_stands.2.1 7 = .ok (.istore 6, 2) := by decide +kernel
theorem d_M_stands_9 : decode um_M_stands.2.1 9 = .ok (.iload 6, 2) := by decide +kernel
theorem d_M_stands_11 : decode um_M_stands.2.1 11 = .ok (.aload_n 0, 1) := by decide +kernel
theorem d_M_stands_12 : decode um_M_stands.2.1 12 = .ok (.getfield 73, 3) := by decide +kernel
theorem d_M_stands_15 : decode um_M_stands.2.1 15 = .ok (.iload_n 1, 1) := by decide +kernel
theorem d_M_stands_16 : decode um_M_stands.2.1 16 = .ok (.iaload, 1) := by decide +kernel
theorem d_M_stands_17 : decode um_M_stands.2.1 17 = .ok (.if_icmp .ge 73, 3) := by decide +kernel
theorem d_M_stands_20 : decode um_M_stands.2.1 20 = .ok (.aload_n 0, 1) := by decide +kernel
theorem d_M_stands_21 : decode um_M_stands.2.1 21 = .ok (.getfield 76, 3) := by decide +kernel
theorem d_M_stands_24 : decode um_M_stands.2.1 24 = .ok (.iload_n 1, 1) := by decide +kernel
theorem d_M_stands_25 : decode um_M_stands.2.1 25 = .ok (.iaload, 1) := by decide +kernel
theorem d_M_stands_26 : decode um_M_stands.2.1 26 = .ok (.iconst 3, 1) := by decide +kernel
theorem d_M_stands_27 : decode um_M_stands.2.1 27 = .ok (.iload 6, 2) := by decide +kernel
theorem d_M_stands_29 : decode um_M_stands.2.1 29 = .ok (.imul, 1) := by decide +kernel
theorem d_M_stands_30 : decode um_M_stands.2.1 30 = .ok (.iadd, 1) := by decide +kernel
theorem d_M_stands_31 : decode um_M_stands.2.1 31 = .ok (.istore 7, 2) := by decide +kernel
theorem d_M_stands_33 : decode um_M_stands.2.1 33 = .ok (.aload_n 0, 1) := by decide +kernel
theorem d_M_stands_34 : decode um_M_stands.2.1 34 = .ok (.getfield 61, 3) := by decide +kernel
theorem d_M_stands_37 : decode um_M_stands.2.1 37 = .ok (.iload 7, 2) := by decide +kernel
theorem d_M_stands_39 : decode um_M_stands.2.1 39 = .ok (.iaload, 1) := by decide +kernel
theorem d_M_stands_40 : decode um_M_stands.2.1 40 = .ok (.bipush 43, 2) := by decide +kernel
theorem d_M_stands_42 : decode um_M_stands.2.1 42 = .ok (.if_icmp .eq 42, 3) := by decide +kernel
theorem d_M_stands_45 : decode um_M_stands.2.1 45 = .ok (.iload 5, 2) := by decide +kernel
theorem d_M_stands_47 : decode um_M_stands.2.1 47 = .ok (.ifCond .eq 31, 3) := by decide +kernel
theorem d_M_stands_50 : decode um_M_stands.2.1 50 = .ok (.aload_n 0, 1) := by decide +kernel
theorem d_M_stands_51 : decode um_M_stands.2.1 51 = .ok (.getfield 7, 3) := by decide +kernel
theorem d_M_stands_54 : decode um_M_stands.2.1 54 = .ok (.bipush 24, 2) := by decide +kernel
theorem d_M_stands_56 : decode um_M_stands.2.1 56 = .ok (.iload_n 2, 1) := by decide +kernel
theorem d_M_stands_57 : decode um_M_stands.2.1 57 = .ok (.imul, 1) := by decide +kernel
theorem d_M_stands_58 : decode um_M_stands.2.1 58 = .ok (.iload 4, 2) := by decide +kernel
theorem d_M_stands_60 : decode um_M_stands.2.1 60 = .ok (.iadd, 1) := by decide +kernel
theorem d_M_stands_61 : decode um_M_stands.2.1 61 = .ok (.iaload, 1) := by decide +kernel
theorem d_M_stands_62 : decode um_M_stands.2.1 62 = .ok (.aload_n 0, 1) := by decide +kernel
theorem d_M_stands_63 : decode um_M_stands.2.1 63 = .ok (.getfield 61, 3) := by decide +kernel
theorem d_M_stands_66 : decode um_M_stands.2.1 66 = .ok (.iload 7, 2) := by decide +kernel
theorem d_M_stands_68 : decode um_M_stands.2.1 68 = .ok (.iconst 1, 1) := by decide +kernel
theorem d_M_stands_69 : decode um_M_stands.2.1 69 = .ok (.iadd, 1) := by decide +kernel
theorem d_M_stands_70 : decode um_M_stands.2.1 70 = .ok (.iaload, 1) := by decide +kernel
theorem d_M_stands_71 : decode um_M_stands.2.1 71 = .ok (.if_icmp .ne 7, 3) := by decide +kernel
theorem d_M_stands_74 : decode um_M_stands.2.1 74 = .ok (.iconst 1, 1) := by decide +kernel
theorem d_M_stands_75 : decode um_M_stands.2.1 75 = .ok (.goto 4, 3) := by decide +kernel
theorem d_M_stands_78 : decode um_M_stands.2.1 78 = .ok (.iconst 0, 1) := by decide +kernel
theorem d_M_stands_79 : decode um_M_stands.2.1 79 = .ok (.istore 5, 2) := by decide +kernel
theorem d_M_stands_81 : decode um_M_stands.2.1 81 = .ok (.iinc 4 1, 3) := by decide +kernel
theorem d_M_stands_84 : decode um_M_stands.2.1 84 = .ok (.iinc 6 1, 3) := by decide +kernel
theorem d_M_stands_87 : decode um_M_stands.2.1 87 = .ok (.goto (-78), 3) := by decide +kernel
theorem d_M_stands_90 : decode um_M_stands.2.1 90 = .ok (.iload 5, 2) := by decide +kernel
theorem d_M_stands_92 : decode um_M_stands.2.1 92 = .ok (.ireturn, 1) := by decide +kernel
theorem d_M_fit_0 : decode um_M_fit.2.1 0 = .ok (.iconst (-1), 1) := by decide +kernel
theorem d_M_fit_1 : decode um_M_fit.2.1 1 = .ok (.istore 4, 2) := by decide +kernel
theorem d_M_fit_3 : decode um_M_fit.2.1 3 = .ok (.sipush 1000, 3) := by decide +kernel
theorem d_M_fit_6 : decode um_M_fit.2.1 6 = .ok (.istore 5, 2) := by decide +kernel
theorem d_M_fit_8 : decode um_M_fit.2.1 8 = .ok (.iload_n 3, 1) := by decide +kernel
theorem d_M_fit_9 : decode um_M_fit.2.1 9 = .ok (.istore 6, 2) := by decide +kernel
theorem d_M_fit_11 : decode um_M_fit.2.1 11 = .ok (.iload 6, 2) := by decide +kernel
theorem d_M_fit_13 : decode um_M_fit.2.1 13 = .ok (.aload_n 0, 1) := by decide +kernel
theorem d_M_fit_14 : decode um_M_fit.2.1 14 = .ok (.getfield 67, 3) := by decide +kernel
theorem d_M_fit_17 : decode um_M_fit.2.1 17 = .ok (.iload_n 1, 1) := by decide +kernel
theorem d_M_fit_18 : decode um_M_fit.2.1 18 = .ok (.iaload, 1) := by decide +kernel
theorem d_M_fit_19 : decode um_M_fit.2.1 19 = .ok (.iadd, 1) := by decide +kernel
theorem d_M_fit_20 : decode um_M_fit.2.1 20 = .ok (.aload_n 0, 1) := by decide +kernel
theorem d_M_fit_21 : decode um_M_fit.2.1 21 = .ok (.getfield 13, 3) := by decide +kernel
theorem d_M_fit_24 : decode um_M_fit.2.1 24 = .ok (.iload_n 2, 1) := by decide +kernel
theorem d_M_fit_25 : decode um_M_fit.2.1 25 = .ok (.iaload, 1) := by decide +kernel
theorem d_M_fit_26 : decode um_M_fit.2.1 26 = .ok (.if_icmp .gt 69, 3) := by decide +kernel
theorem d_M_fit_29 : decode um_M_fit.2.1 29 = .ok (.iload 6, 2) := by decide +kernel
theorem d_M_fit_31 : decode um_M_fit.2.1 31 = .ok (.aload_n 0, 1) := by decide +kernel
theorem d_M_fit_32 : decode um_M_fit.2.1 32 = .ok (.getfield 64, 3) := by decide +kernel
theorem d_M_fit_35 : decode um_M_fit.2.1 35 = .ok (.iload_n 1, 1) := by decide +kernel
theorem d_M_fit_36 : decode um_M_fit.2.1 36 = .ok (.iaload, 1) := by decide +kernel
theorem d_M_fit_37 : decode um_M_fit.2.1 37 = .ok (.if_icmp .ge 15, 3) := by decide +kernel
theorem d_M_fit_40 : decode um_M_fit.2.1 40 = .ok (.aload_n 0, 1) := by decide +kernel
theorem d_M_fit_41 : decode um_M_fit.2.1 41 = .ok (.getfield 64, 3) := by decide +kernel
theorem d_M_fit_44 : decode um_M_fit.2.1 44 = .ok (.iload_n 1, 1) := by decide +kernel
theorem d_M_fit_45 : decode um_M_fit.2.1 45 = .ok (.iaload, 1) := by decide +kernel
theorem d_M_fit_46 : decode um_M_fit.2.1 46 = .ok (.iload 6, 2) := by decide +kernel
theorem d_M_fit_48 : decode um_M_fit.2.1 48 = .ok (.isub, 1) := by decide +kernel
theorem d_M_fit_49 : decode um_M_fit.2.1 49 = .ok (.goto 12, 3) := by decide +kernel
theorem d_M_fit_52 : decode um_M_fit.2.1 52 = .ok (.iload 6, 2) := by decide +kernel
theorem d_M_fit_54 : decode um_M_fit.2.1 54 = .ok (.aload_n 0, 1) := by decide +kernel
theorem d_M_fit_55 : decode um_M_fit.2.1 55 = .ok (.getfield 64, 3) := by decide +kernel
theorem d_M_fit_58 : decode um_M_fit.2.1 58 = .ok (.iload_n 1, 1) := by decide +kernel
theorem d_M_fit_59 : decode um_M_fit.2.1 59 = .ok (.iaload, 1) := by decide +kernel
theorem d_M_fit_60 : decode um_M_fit.2.1 60 = .ok (.isub, 1) := by decide +kernel
theorem d_M_fit_61 : decode um_M_fit.2.1 61 = .ok (.istore 7, 2) := by decide +kernel
theorem d_M_fit_63 : decode um_M_fit.2.1 63 = .ok (.iload 7, 2) := by decide +kernel
theorem d_M_fit_65 : decode um_M_fit.2.1 65 = .ok (.iload 5, 2) := by decide +kernel
theorem d_M_fit_67 : decode um_M_fit.2.1 67 = .ok (.if_icmp .ge 22, 3) := by decide +kernel
theorem d_M_fit_70 : decode um_M_fit.2.1 70 = .ok (.aload_n 0, 1) := by decide +kernel
theorem d_M_fit_71 : decode um_M_fit.2.1 71 = .ok (.iload_n 1, 1) := by decide +kernel
theorem d_M_fit_72 : decode um_M_fit.2.1 72 = .ok (.iload_n 2, 1) := by decide +kernel
theorem d_M_fit_73 : decode um_M_fit.2.1 73 = .ok (.iload 6, 2) := by decide +kernel
theorem d_M_fit_75 : decode um_M_fit.2.1 75 = .ok (.invokevirtual 196, 3) := by decide +kernel
theorem d_M_fit_78 : decode um_M_fit.2.1 78 = .ok (.ifCond .eq 11, 3) := by decide +kernel
theorem d_M_fit_81 : decode um_M_fit.2.1 81 = .ok (.iload 6, 2) := by decide +kernel
theorem d_M_fit_83 : decode um_M_fit.2.1 83 = .ok (.istore 4, 2) := by decide +kernel
theorem d_M_fit_85 : decode um_M_fit.2.1 85 = .ok (.iload 7, 2) := by decide +kernel
theorem d_M_fit_87 : decode um_M_fit.2.1 87 = .ok (.istore 5, 2) := by decide +kernel
theorem d_M_fit_89 : decode um_M_fit.2.1 89 = .ok (.iinc 6 1, 3) := by decide +kernel
theorem d_M_fit_92 : decode um_M_fit.2.1 92 = .ok (.goto (-81), 3) := by decide +kernel
theorem d_M_fit_95 : decode um_M_fit.2.1 95 = .ok (.iload 4, 2) := by decide +kernel
theorem d_M_fit_97 : decode um_M_fit.2.1 97 = .ok (.ireturn, 1) := by decide +kernel
theorem d_M_emit_0 : decode um_M_emit.2.1 0 = .ok (.aload_n 0, 1) := by decide +kernel
theorem d_M_emit_1 : decode um_M_emit.2.1 1 = .ok (.getfield 82, 3) := by decide +kernel
theorem d_M_emit_4 : decode um_M_emit.2.1 4 = .ok (.aload_n 0, 1) := by decide +kernel
theorem d_M_emit_5 : decode um_M_emit.2.1 5 = .ok (.getfield 199, 3) := by decide +kernel
theorem d_M_emit_8 : decode um_M_emit.2.1 8 = .ok (.iload_n 1, 1) := by decide +kernel
theorem d_M_emit_9 : decode um_M_emit.2.1 9 = .ok (.iastore, 1) := by decide +kernel
theorem d_M_emit_10 : decode um_M_emit.2.1 10 = .ok (.aload_n 0, 1) := by decide +kernel
theorem d_M_emit_11 : decode um_M_emit.2.1 11 = .ok (.dup, 1) := by decide +kernel
theorem d_M_emit_12 : decode um_M_emit.2.1 12 = .ok (.getfield 199, 3) := by decide +kernel
theorem d_M_emit_15 : decode um_M_emit.2.1 15 = .ok (.iconst 1, 1) := by decide +kernel
theorem d_M_emit_16 : decode um_M_emit.2.1 16 = .ok (.iadd, 1) := by decide +kernel
theorem d_M_emit_17 : decode um_M_emit.2.1 17 = .ok (.putfield 199, 3) := by decide +kernel
theorem d_M_emit_20 : decode um_M_emit.2.1 20 = .ok (.return_, 1) := by decide +kernel
theorem d_M_apply_0 : decode um_M_apply.2.1 0 = .ok (.iload_n 1, 1) := by decide +kernel
theorem d_M_apply_1 : decode um_M_apply.2.1 1 = .ok (.iconst 0, 1) := by decide +kernel
theorem d_M_apply_2 : decode um_M_apply.2.1 2 = .ok (.iconst 3, 1) := by decide +kernel
theorem d_M_apply_3 : decode um_M_apply.2.1 3 = .ok (.invokestatic 88, 3) := by decide +kernel
theorem d_M_apply_6 : decode um_M_apply.2.1 6 = .ok (.ifCond .eq 10, 3) := by decide +kernel
theorem d_M_apply_9 : decode um_M_apply.2.1 9 = .ok (.aload_n 0, 1) := by decide +kernel
theorem d_M_apply_10 : decode um_M_apply.2.1 10 = .ok (.invokevirtual 202, 3) := by decide +kernel
theorem d_M_apply_13 : decode um_M_apply.2.1 13 = .ok (.ifCond .lt 5, 3) := by decide +kernel
theorem d_M_apply_16 : decode um_M_apply.2.1 16 = .ok (.iconst (-1), 1) := by decide +kernel
theorem d_M_apply_17 : decode um_M_apply.2.1 17 = .ok (.ireturn, 1) := by decide +kernel
theorem d_M_apply_18 : decode um_M_apply.2.1 18 = .ok (.iconst 0, 1) := by decide +kernel
theorem d_M_apply_19 : decode um_M_apply.2.1 19 = .ok (.istore_n 2, 1) := by decide +kernel
theorem d_M_apply_20 : decode um_M_apply.2.1 20 = .ok (.aload_n 0, 1) := by decide +kernel
theorem d_M_apply_21 : decode um_M_apply.2.1 21 = .ok (.getfield 13, 3) := by decide +kernel
theorem d_M_apply_24 : decode um_M_apply.2.1 24 = .ok (.iload_n 1, 1) := by decide +kernel
theorem d_M_apply_25 : decode um_M_apply.2.1 25 = .ok (.iaload, 1) := by decide +kernel
theorem d_M_apply_26 : decode um_M_apply.2.1 26 = .ok (.istore_n 3, 1) := by decide +kernel
theorem d_M_apply_27 : decode um_M_apply.2.1 27 = .ok (.iconst 0, 1) := by decide +kernel
theorem d_M_apply_28 : decode um_M_apply.2.1 28 = .ok (.istore 4, 2) := by decide +kernel
theorem d_M_apply_30 : decode um_M_apply.2.1 30 = .ok (.iload 4, 2) := by decide +kernel
theorem d_M_apply_32 : decode um_M_apply.2.1 32 = .ok (.aload_n 0, 1) := by decide +kernel
theorem d_M_apply_33 : decode um_M_apply.2.1 33 = .ok (.getfield 187, 3) := by decide +kernel
theorem d_M_apply_36 : decode um_M_apply.2.1 36 = .ok (.if_icmp .ge 80, 3) := by decide +kernel
theorem d_M_apply_39 : decode um_M_apply.2.1 39 = .ok (.aload_n 0, 1) := by decide +kernel
theorem d_M_apply_40 : decode um_M_apply.2.1 40 = .ok (.getfield 79, 3) := by decide +kernel
theorem d_M_apply_43 : decode um_M_apply.2.1 43 = .ok (.iload 4, 2) := by decide +kernel
theorem d_M_apply_45 : decode um_M_apply.2.1 45 = .ok (.aload_n 0, 1) := by decide +kernel
theorem d_M_apply_46 : decode um_M_apply.2.1 46 = .ok (.iload 4, 2) := by decide +kernel
theorem d_M_apply_48 : decode um_M_apply.2.1 48 = .ok (.iload_n 1, 1) := by decide +kernel
theorem d_M_apply_49 : decode um_M_apply.2.1 49 = .ok (.iload_n 2, 1) := by decide +kernel
theorem d_M_apply_50 : decode um_M_apply.2.1 50 = .ok (.invokevirtual 205, 3) := by decide +kernel
theorem d_M_apply_53 : decode um_M_apply.2.1 53 = .ok (.iastore, 1) := by decide +kernel
theorem d_M_apply_54 : decode um_M_apply.2.1 54 = .ok (.iload_n 3, 1) := by decide +kernel
theorem d_M_apply_55 : decode um_M_apply.2.1 55 = .ok (.aload_n 0, 1) := by decide +kernel
theorem d_M_apply_56 : decode um_M_apply.2.1 56 = .ok (.getfield 70, 3) := by decide +kernel
theorem d_M_apply_59 : decode um_M_apply.2.1 59 = .ok (.iload 4, 2) := by decide +kernel
theorem d_M_apply_61 : decode um_M_apply.2.1 61 = .ok (.iaload, 1) := by decide +kernel
theorem d_M_apply_62 : decode um_M_apply.2.1 62 = .ok (.iadd, 1) := by decide +kernel
theorem d_M_apply_63 : decode um_M_apply.2.1 63 = .ok (.aload_n 0, 1) := by decide +kernel
theorem d_M_apply_64 : decode um_M_apply.2.1 64 = .ok (.getfield 67, 3) := by decide +kernel
theorem d_M_apply_67 : decode um_M_apply.2.1 67 = .ok (.iload 4, 2) := by decide +kernel
theorem d_M_apply_69 : decode um_M_apply.2.1 69 = .ok (.iaload, 1) := by decide +kernel
theorem d_M_apply_70 : decode um_M_apply.2.1 70 = .ok (.isub, 1) := by decide +kernel
theorem d_M_apply_71 : decode um_M_apply.2.1 71 = .ok (.istore_n 3, 1) := by decide +kernel
theorem d_M_apply_72 : decode um_M_apply.2.1 72 = .ok (.aload_n 0, 1) := by decide +kernel
theorem d_M_apply_73 : decode um_M_apply.2.1 73 = .ok (.getfield 79, 3) := by decide +kernel
theorem d_M_apply_76 : decode um_M_apply.2.1 76 = .ok (.iload 4, 2) := by decide +kernel
theorem d_M_apply_78 : decode um_M_apply.2.1 78 = .ok (.iaload, 1) := by decide +kernel
theorem d_M_apply_79 : decode um_M_apply.2.1 79 = .ok (.ifCond .lt 9, 3) := by decide +kernel
theorem d_M_apply_82 : decode um_M_apply.2.1 82 = .ok (.iload_n 3, 1) := by decide +kernel
theorem d_M_apply_83 : decode um_M_apply.2.1 83 = .ok (.bipush 24, 2) := by decide +kernel
theorem d_M_apply_85 : decode um_M_apply.2.1 85 = .ok (.if_icmp .le 9, 3) := by decide +kernel
theorem d_M_apply_88 : decode um_M_apply.2.1 88 = .ok (.bipush (-3), 2) := by decide +kernel
theorem d_M_apply_90 : decode um_M_apply.2.1 90 = .ok (.iload 4, 2) := by decide +kernel
theorem d_M_apply_92 : decode um_M_apply.2.1 92 = .ok (.isub, 1) := by decide +kernel
theorem d_M_apply_93 : decode um_M_apply.2.1 93 = .ok (.ireturn, 1) := by decide +kernel
theorem d_M_apply_94 : decode um_M_apply.2.1 94 = .ok (.aload_n 0, 1) := by decide +kernel
theorem d_M_apply_95 : decode um_M_apply.2.1 95 = .ok (.getfield 79, 3) := by decide +kernel
theorem d_M_apply_98 : decode um_M_apply.2.1 98 = .ok (.iload 4, 2) := by decide +kernel
theorem d_M_apply_100 : decode um_M_apply.2.1 100 = .ok (.iaload, 1) := by decide +kernel
theorem d_M_apply_101 : decode um_M_apply.2.1 101 = .ok (.aload_n 0, 1) := by decide +kernel
theorem d_M_apply_102 : decode um_M_apply.2.1 102 = .ok (.getfield 67, 3) := by decide +kernel
theorem d_M_apply_105 : decode um_M_apply.2.1 105 = .ok (.iload 4, 2) := by decide +kernel
theorem d_M_apply_107 : decode um_M_apply.2.1 107 = .ok (.iaload, 1) := by decide +kernel
theorem d_M_apply_108 : decode um_M_apply.2.1 108 = .ok (.iadd, 1) := by decide +kernel
theorem d_M_apply_109 : decode um_M_apply.2.1 109 = .ok (.istore_n 2, 1) := by decide +kernel
theorem d_M_apply_110 : decode um_M_apply.2.1 110 = .ok (.iinc 4 1, 3) := by decide +kernel
theorem d_M_apply_113 : decode um_M_apply.2.1 113 = .ok (.goto (-83), 3) := by decide +kernel
theorem d_M_apply_116 : decode um_M_apply.2.1 116 = .ok (.aload_n 0, 1) := by decide +kernel
theorem d_M_apply_117 : decode um_M_apply.2.1 117 = .ok (.iconst 0, 1) := by decide +kernel
theorem d_M_apply_118 : decode um_M_apply.2.1 118 = .ok (.putfield 199, 3) := by decide +kernel
theorem d_M_apply_121 : decode um_M_apply.2.1 121 = .ok (.iconst 0, 1) := by decide +kernel
theorem d_M_apply_122 : decode um_M_apply.2.1 122 = .ok (.istore 4, 2) := by decide +kernel
theorem d_M_apply_124 : decode um_M_apply.2.1 124 = .ok (.iconst 0, 1) := by decide +kernel
theorem d_M_apply_125 : decode um_M_apply.2.1 125 = .ok (.istore 5, 2) := by decide +kernel
theorem d_M_apply_127 : decode um_M_apply.2.1 127 = .ok (.iload 5, 2) := by decide +kernel
theorem d_M_apply_129 : decode um_M_apply.2.1 129 = .ok (.aload_n 0, 1) := by decide +kernel
theorem d_M_apply_130 : decode um_M_apply.2.1 130 = .ok (.getfield 187, 3) := by decide +kernel
theorem d_M_apply_133 : decode um_M_apply.2.1 133 = .ok (.if_icmp .ge 115, 3) := by decide +kernel
theorem d_M_apply_136 : decode um_M_apply.2.1 136 = .ok (.iload 4, 2) := by decide +kernel
theorem d_M_apply_138 : decode um_M_apply.2.1 138 = .ok (.aload_n 0, 1) := by decide +kernel
theorem d_M_apply_139 : decode um_M_apply.2.1 139 = .ok (.getfield 79, 3) := by decide +kernel
theorem d_M_apply_142 : decode um_M_apply.2.1 142 = .ok (.iload 5, 2) := by decide +kernel
theorem d_M_apply_144 : decode um_M_apply.2.1 144 = .ok (.iaload, 1) := by decide +kernel
theorem d_M_apply_145 : decode um_M_apply.2.1 145 = .ok (.if_icmp .ge 25, 3) := by decide +kernel
theorem d_M_apply_148 : decode um_M_apply.2.1 148 = .ok (.aload_n 0, 1) := by decide +kernel
theorem d_M_apply_149 : decode um_M_apply.2.1 149 = .ok (.aload_n 0, 1) := by decide +kernel
theorem d_M_apply_150 : decode um_M_apply.2.1 150 = .ok (.getfield 7, 3) := by decide +kernel
theorem d_M_apply_153 : decode um_M_apply.2.1 153 = .ok (.bipush 24, 2) := by decide +kernel
theorem d_M_apply_155 : decode um_M_apply.2.1 155 = .ok (.iload_n 1, 1) := by decide +kernel
theorem d_M_apply_156 : decode um_M_apply.2.1 156 = .ok (.imul, 1) := by decide +kernel
theorem d_M_apply_157 : decode um_M_apply.2.1 157 = .ok (.iload 4, 2) := by decide +kernel
theorem d_M_apply_159 : decode um_M_apply.2.1 159 = .ok (.iadd, 1) := by decide +kernel
theorem d_M_apply_160 : decode um_M_apply.2.1 160 = .ok (.iaload, 1) := by decide +kernel
theorem d_M_apply_161 : decode um_M_apply.2.1 161 = .ok (.invokevirtual 208, 3) := by decide +kernel
theorem d_M_apply_164 : decode um_M_apply.2.1 164 = .ok (.iinc 4 1, 3) := by decide +kernel
theorem d_M_apply_167 : decode um_M_apply.2.1 167 = .ok (.goto (-31), 3) := by decide +kernel
theorem d_M_apply_170 : decode um_M_apply.2.1 170 = .ok (.iconst 0, 1) := by decide +kernel
theorem d_M_apply_171 : decode um_M_apply.2.1 171 = .ok (.istore 6, 2) := by decide +kernel
theorem d_M_apply_173 : decode um_M_apply.2.1 173 = .ok (.iload 6, 2) := by decide +kernel
theorem d_M_apply_175 : decode um_M_apply.2.1 175 = .ok (.aload_n 0, 1) := by decide +kernel
theorem d_M_apply_176 : decode um_M_apply.2.1 176 = .ok (.getfield 73, 3) := by decide +kernel
theorem d_M_apply_179 : decode um_M_apply.2.1 179 = .ok (.iload 5, 2) := by decide +kernel
theorem d_M_apply_181 : decode um_M_apply.2.1 181 = .ok (.iaload, 1) := by decide +kernel
theorem d_M_apply_182 : decode um_M_apply.2.1 182 = .ok (.if_icmp .ge 48, 3) := by decide +kernel
theorem d_M_apply_185 : decode um_M_apply.2.1 185 = .ok (.aload_n 0, 1) := by decide +kernel
theorem d_M_apply_186 : decode um_M_apply.2.1 186 = .ok (.getfield 76, 3) := by decide +kernel
theorem d_M_apply_189 : decode um_M_apply.2.1 189 = .ok (.iload 5, 2) := by decide +kernel
theorem d_M_apply_191 : decode um_M_apply.2.1 191 = .ok (.iaload, 1) := by decide +kernel
theorem d_M_apply_192 : decode um_M_apply.2.1 192 = .ok (.iconst 3, 1) := by decide +kernel
theorem d_M_apply_193 : decode um_M_apply.2.1 193 = .ok (.iload 6, 2) := by decide +kernel
theorem d_M_apply_195 : decode um_M_apply.2.1 195 = .ok (.imul, 1) := by decide +kernel
theorem d_M_apply_196 : decode um_M_apply.2.1 196 = .ok (.iadd, 1) := by decide +kernel
theorem d_M_apply_197 : decode um_M_apply.2.1 197 = .ok (.istore 7, 2) := by decide +kernel
theorem d_M_apply_199 : decode um_M_apply.2.1 199 = .ok (.aload_n 0, 1) := by decide +kernel
theorem d_M_apply_200 : decode um_M_apply.2.1 200 = .ok (.getfield 61, 3) := by decide +kernel
theorem d_M_apply_203 : decode um_M_apply.2.1 203 = .ok (.iload 7, 2) := by decide +kernel
theorem d_M_apply_205 : decode um_M_apply.2.1 205 = .ok (.iaload, 1) := by decide +kernel
theorem d_M_apply_206 : decode um_M_apply.2.1 206 = .ok (.bipush 45, 2) := by decide +kernel
theorem d_M_apply_208 : decode um_M_apply.2.1 208 = .ok (.if_icmp .eq 16, 3) := by decide +kernel
theorem d_M_apply_211 : decode um_M_apply.2.1 211 = .ok (.aload_n 0, 1) := by decide +kernel
theorem d_M_apply_212 : decode um_M_apply.2.1 212 = .ok (.aload_n 0, 1) := by decide +kernel
theorem d_M_apply_213 : decode um_M_apply.2.1 213 = .ok (.getfield 61, 3) := by decide +kernel
theorem d_M_apply_216 : decode um_M_apply.2.1 216 = .ok (.iload 7, 2) := by decide +kernel
theorem d_M_apply_218 : decode um_M_apply.2.1 218 = .ok (.iconst 1, 1) := by decide +kernel
theorem d_M_apply_219 : decode um_M_apply.2.1 219 = .ok (.iadd, 1) := by decide +kernel
theorem d_M_apply_220 : decode um_M_apply.2.1 220 = .ok (.iaload, 1) := by decide +kernel
theorem d_M_apply_221 : decode um_M_apply.2.1 221 = .ok (.invokevirtual 208, 3) := by decide +kernel
theorem d_M_apply_224 : decode um_M_apply.2.1 224 = .ok (.iinc 6 1, 3) := by decide +kernel
theorem d_M_apply_227 : decode um_M_apply.2.1 227 = .ok (.goto (-54), 3) := by decide +kernel
theorem d_M_apply_230 : decode um_M_apply.2.1 230 = .ok (.iload 4, 2) := by decide +kernel
theorem d_M_apply_232 : decode um_M_apply.2.1 232 = .ok (.aload_n 0, 1) := by decide +kernel
theorem d_M_apply_233 : decode um_M_apply.2.1 233 = .ok (.getfield 67, 3) := by decide +kernel
theorem d_M_apply_236 : decode um_M_apply.2.1 236 = .ok (.iload 5, 2) := by decide +kernel
theorem d_M_apply_238 : decode um_M_apply.2.1 238 = .ok (.iaload, 1) := by decide +kernel
theorem d_M_apply_239 : decode um_M_apply.2.1 239 = .ok (.iadd, 1) := by decide +kernel
theorem d_M_apply_240 : decode um_M_apply.2.1 240 = .ok (.istore 4, 2) := by decide +kernel
theorem d_M_apply_242 : decode um_M_apply.2.1 242 = .ok (.iinc 5 1, 3) := by decide +kernel
theorem d_M_apply_245 : decode um_M_apply.2.1 245 = .ok (.goto (-118), 3) := by decide +kernel
theorem d_M_apply_248 : decode um_M_apply.2.1 248 = .ok (.iload 4, 2) := by decide +kernel
theorem d_M_apply_250 : decode um_M_apply.2.1 250 = .ok (.aload_n 0, 1) := by decide +kernel
theorem d_M_apply_251 : decode um_M_apply.2.1 251 = .ok (.getfield 13, 3) := by decide +kernel
theorem d_M_apply_254 : decode um_M_apply.2.1 254 = .ok (.iload_n 1, 1) := by decide +kernel
theorem d_M_apply_255 : decode um_M_apply.2.1 255 = .ok (.iaload, 1) := by decide +kernel
theorem d_M_apply_256 : decode um_M_apply.2.1 256 = .ok (.if_icmp .ge 25, 3) := by decide +kernel
theorem d_M_apply_259 : decode um_M_apply.2.1 259 = .ok (.aload_n 0, 1) := by decide +kernel
theorem d_M_apply_260 : decode um_M_apply.2.1 260 = .ok (.aload_n 0, 1) := by decide +kernel
theorem d_M_apply_261 : decode um_M_apply.2.1 261 = .ok (.getfield 7, 3) := by decide +kernel
theorem d_M_apply_264 : decode um_M_apply.2.1 264 = .ok (.bipush 24, 2) := by decide +kernel
theorem d_M_apply_266 : decode um_M_apply.2.1 266 = .ok (.iload_n 1, 1) := by decide +kernel
theorem d_M_apply_267 : decode um_M_apply.2.1 267 = .ok (.imul, 1) := by decide +kernel
theorem d_M_apply_268 : decode um_M_apply.2.1 268 = .ok (.iload 4, 2) := by decide +kernel
theorem d_M_apply_270 : decode um_M_apply.2.1 270 = .ok (.iadd, 1) := by decide +kernel
theorem d_M_apply_271 : decode um_M_apply.2.1 271 = .ok (.iaload, 1) := by decide +kernel
theorem d_M_apply_272 : decode um_M_apply.2.1 272 = .ok (.invokevirtual 208, 3) := by decide +kernel
theorem d_M_apply_275 : decode um_M_apply.2.1 275 = .ok (.iinc 4 1, 3) := by decide +kernel
theorem d_M_apply_278 : decode um_M_apply.2.1 278 = .ok (.goto (-30), 3) := by decide +kernel
theorem d_M_apply_281 : decode um_M_apply.2.1 281 = .ok (.aload_n 0, 1) := by decide +kernel
theorem d_M_apply_282 : decode um_M_apply.2.1 282 = .ok (.iload_n 1, 1) := by decide +kernel
theorem d_M_apply_283 : decode um_M_apply.2.1 283 = .ok (.invokevirtual 211, 3) := by decide +kernel
theorem d_M_apply_286 : decode um_M_apply.2.1 286 = .ok (.aload_n 0, 1) := by decide +kernel
theorem d_M_apply_287 : decode um_M_apply.2.1 287 = .ok (.getfield 187, 3) := by decide +kernel
theorem d_M_apply_290 : decode um_M_apply.2.1 290 = .ok (.ireturn, 1) := by decide +kernel
theorem d_M_keep_0 : decode um_M_keep.2.1 0 = .ok (.aload_n 0, 1) := by decide +kernel
theorem d_M_keep_1 : decode um_M_keep.2.1 1 = .ok (.getfield 13, 3) := by decide +kernel
theorem d_M_keep_4 : decode um_M_keep.2.1 4 = .ok (.iload_n 1, 1) := by decide +kernel
theorem d_M_keep_5 : decode um_M_keep.2.1 5 = .ok (.aload_n 0, 1) := by decide +kernel
theorem d_M_keep_6 : decode um_M_keep.2.1 6 = .ok (.getfield 199, 3) := by decide +kernel
theorem d_M_keep_9 : decode um_M_keep.2.1 9 = .ok (.iastore, 1) := by decide +kernel
theorem d_M_keep_10 : decode um_M_keep.2.1 10 = .ok (.iconst 0, 1) := by decide +kernel
theorem d_M_keep_11 : decode um_M_keep.2.1 11 = .ok (.istore_n 2, 1) := by decide +kernel
theorem d_M_keep_12 : decode um_M_keep.2.1 12 = .ok (.iload_n 2, 1) := by decide +kernel
theorem d_M_keep_13 : decode um_M_keep.2.1 13 = .ok (.aload_n 0, 1) := by decide +kernel
theorem d_M_keep_14 : decode um_M_keep.2.1 14 = .ok (.getfield 199, 3) := by decide +kernel
theorem d_M_keep_17 : decode um_M_keep.2.1 17 = .ok (.if_icmp .ge 26, 3) := by decide +kernel
theorem d_M_keep_20 : decode um_M_keep.2.1 20 = .ok (.aload_n 0, 1) := by decide +kernel
theorem d_M_keep_21 : decode um_M_keep.2.1 21 = .ok (.getfield 7, 3) := by decide +kernel
theorem d_M_keep_24 : decode um_M_keep.2.1 24 = .ok (.bipush 24, 2) := by decide +kernel
theorem d_M_keep_26 : decode um_M_keep.2.1 26 = .ok (.iload_n 1, 1) := by decide +kernel
theorem d_M_keep_27 : decode um_M_keep.2.1 27 = .ok (.imul, 1) := by decide +kernel
theorem d_M_keep_28 : decode um_M_keep.2.1 28 = .ok (.iload_n 2, 1) := by decide +kernel
theorem d_M_keep_29 : decode um_M_keep.2.1 29 = .ok (.iadd, 1) := by decide +kernel
theorem d_M_keep_30 : decode um_M_keep.2.1 30 = .ok (.aload_n 0, 1) := by decide +kernel
theorem d_M_keep_31 : decode um_M_keep.2.1 31 = .ok (.getfield 82, 3) := by decide +kernel
theorem d_M_keep_34 : decode um_M_keep.2.1 34 = .ok (.iload_n 2, 1) := by decide +kernel
theorem d_M_keep_35 : decode um_M_keep.2.1 35 = .ok (.iaload, 1) := by decide +kernel
theorem d_M_keep_36 : decode um_M_keep.2.1 36 = .ok (.iastore, 1) := by decide +kernel
theorem d_M_keep_37 : decode um_M_keep.2.1 37 = .ok (.iinc 2 1, 3) := by decide +kernel
theorem d_M_keep_40 : decode um_M_keep.2.1 40 = .ok (.goto (-28), 3) := by decide +kernel
theorem d_M_keep_43 : decode um_M_keep.2.1 43 = .ok (.return_, 1) := by decide +kernel
theorem d_M_sameParts_0 : decode um_M_sameParts.2.1 0 = .ok (.iload_n 3, 1) := by decide +kernel
theorem d_M_sameParts_1 : decode um_M_sameParts.2.1 1 = .ok (.iload_n 2, 1) := by decide +kernel
theorem d_M_sameParts_2 : decode um_M_sameParts.2.1 2 = .ok (.isub, 1) := by decide +kernel
theorem d_M_sameParts_3 : decode um_M_sameParts.2.1 3 = .ok (.iload 6, 2) := by decide +kernel
theorem d_M_sameParts_5 : decode um_M_sameParts.2.1 5 = .ok (.iload 5, 2) := by decide +kernel
theorem d_M_sameParts_7 : decode um_M_sameParts.2.1 7 = .ok (.isub, 1) := by decide +kernel
theorem d_M_sameParts_8 : decode um_M_sameParts.2.1 8 = .ok (.if_icmp .ne 7, 3) := by decide +kernel
theorem d_M_sameParts_11 : decode um_M_sameParts.2.1 11 = .ok (.iconst 1, 1) := by decide +kernel
theorem d_M_sameParts_12 : decode um_M_sameParts.2.1 12 = .ok (.goto 4, 3) := by decide +kernel
theorem d_M_sameParts_15 : decode um_M_sameParts.2.1 15 = .ok (.iconst 0, 1) := by decide +kernel
theorem d_M_sameParts_16 : decode um_M_sameParts.2.1 16 = .ok (.istore 7, 2) := by decide +kernel
theorem d_M_sameParts_18 : decode um_M_sameParts.2.1 18 = .ok (.iconst 0, 1) := by decide +kernel
theorem d_M_sameParts_19 : decode um_M_sameParts.2.1 19 = .ok (.istore 8, 2) := by decide +kernel
theorem d_M_sameParts_21 : decode um_M_sameParts.2.1 21 = .ok (.iload 8, 2) := by decide +kernel
theorem d_M_sameParts_23 : decode um_M_sameParts.2.1 23 = .ok (.iload_n 3, 1) := by decide +kernel
theorem d_M_sameParts_24 : decode um_M_sameParts.2.1 24 = .ok (.iload_n 2, 1) := by decide +kernel
theorem d_M_sameParts_25 : decode um_M_sameParts.2.1 25 = .ok (.isub, 1) := by decide +kernel
theorem d_M_sameParts_26 : decode um_M_sameParts.2.1 26 = .ok (.if_icmp .ge 54, 3) := by decide +kernel
theorem d_M_sameParts_29 : decode um_M_sameParts.2.1 29 = .ok (.iload 7, 2) := by decide +kernel
theorem d_M_sameParts_31 : decode um_M_sameParts.2.1 31 = .ok (.ifCond .eq 49, 3) := by decide +kernel
theorem d_M_sameParts_34 : decode um_M_sameParts.2.1 34 = .ok (.aload_n 0, 1) := by decide +kernel
theorem d_M_sameParts_35 : decode um_M_sameParts.2.1 35 = .ok (.getfield 7, 3) := by decide +kernel
theorem d_M_sameParts_38 : decode um_M_sameParts.2.1 38 = .ok (.bipush 24, 2) := by decide +kernel
theorem d_M_sameParts_40 : decode um_M_sameParts.2.1 40 = .ok (.iload_n 1, 1) := by decide +kernel
theorem d_M_sameParts_41 : decode um_M_sameParts.2.1 41 = .ok (.imul, 1) := by decide +kernel
theorem d_M_sameParts_42 : decode um_M_sameParts.2.1 42 = .ok (.iload_n 2, 1) := by decide +kernel
theorem d_M_sameParts_43 : decode um_M_sameParts.2.1 43 = .ok (.iadd, 1) := by decide +kernel
theorem d_M_sameParts_44 : decode um_M_sameParts.2.1 44 = .ok (.iload 8, 2) := by decide +kernel
theorem d_M_sameParts_46 : decode um_M_sameParts.2.1 46 = .ok (.iadd, 1) := by decide +kernel
theorem d_M_sameParts_47 : decode um_M_sameParts.2.1 47 = .ok (.iaload, 1) := by decide +kernel
theorem d_M_sameParts_48 : decode um_M_sameParts.2.1 48 = .ok (.aload_n 0, 1) := by decide +kernel
theorem d_M_sameParts_49 : decode um_M_sameParts.2.1 49 = .ok (.getfield 7, 3) := by decide +kernel
theorem d_M_sameParts_52 : decode um_M_sameParts.2.1 52 = .ok (.bipush 24, 2) := by decide +kernel
theorem d_M_sameParts_54 : decode um_M_sameParts.2.1 54 = .ok (.iload 4, 2) := by decide +kernel
theorem d_M_sameParts_56 : decode um_M_sameParts.2.1 56 = .ok (.imul, 1) := by decide +kernel
theorem d_M_sameParts_57 : decode um_M_sameParts.2.1 57 = .ok (.iload 5, 2) := by decide +kernel
theorem d_M_sameParts_59 : decode um_M_sameParts.2.1 59 = .ok (.iadd, 1) := by decide +kernel
theorem d_M_sameParts_60 : decode um_M_sameParts.2.1 60 = .ok (.iload 8, 2) := by decide +kernel
theorem d_M_sameParts_62 : decode um_M_sameParts.2.1 62 = .ok (.iadd, 1) := by decide +kernel
theorem d_M_sameParts_63 : decode um_M_sameParts.2.1 63 = .ok (.iaload, 1) := by decide +kernel
theorem d_M_sameParts_64 : decode um_M_sameParts.2.1 64 = .ok (.if_icmp .ne 7, 3) := by decide +kernel
theorem d_M_sameParts_67 : decode um_M_sameParts.2.1 67 = .ok (.iconst 1, 1) := by decide +kernel
theorem d_M_sameParts_68 : decode um_M_sameParts.2.1 68 = .ok (.goto 4, 3) := by decide +kernel
theorem d_M_sameParts_71 : decode um_M_sameParts.2.1 71 = .ok (.iconst 0, 1) := by decide +kernel
theorem d_M_sameParts_72 : decode um_M_sameParts.2.1 72 = .ok (.istore 7, 2) := by decide +kernel
theorem d_M_sameParts_74 : decode um_M_sameParts.2.1 74 = .ok (.iinc 8 1, 3) := by decide +kernel
theorem d_M_sameParts_77 : decode um_M_sameParts.2.1 77 = .ok (.goto (-56), 3) := by decide +kernel
theorem d_M_sameParts_80 : decode um_M_sameParts.2.1 80 = .ok (.iload 7, 2) := by decide +kernel
theorem d_M_sameParts_82 : decode um_M_sameParts.2.1 82 = .ok (.ireturn, 1) := by decide +kernel
theorem d_M_tryEmit_0 : decode um_M_tryEmit.2.1 0 = .ok (.aload_n 0, 1) := by decide +kernel
theorem d_M_tryEmit_1 : decode um_M_tryEmit.2.1 1 = .ok (.getfield 199, 3) := by decide +kernel
theorem d_M_tryEmit_4 : decode um_M_tryEmit.2.1 4 = .ok (.bipush 24, 2) := by decide +kernel
theorem d_M_tryEmit_6 : decode um_M_tryEmit.2.1 6 = .ok (.if_icmp .ne 5, 3) := by decide +kernel
theorem d_M_tryEmit_9 : decode um_M_tryEmit.2.1 9 = .ok (.iconst 0, 1) := by decide +kernel
theorem d_M_tryEmit_10 : decode um_M_tryEmit.2.1 10 = .ok (.ireturn, 1) := by decide +kernel
theorem d_M_tryEmit_11 : decode um_M_tryEmit.2.1 11 = .ok (.aload_n 0, 1) := by decide +kernel
theorem d_M_tryEmit_12 : decode um_M_tryEmit.2.1 12 = .ok (.iload_n 1, 1) := by decide +kernel
theorem d_M_tryEmit_13 : decode um_M_tryEmit.2.1 13 = .ok (.invokevirtual 208, 3) := by decide +kernel
theorem d_M_tryEmit_16 : decode um_M_tryEmit.2.1 16 = .ok (.iconst 1, 1) := by decide +kernel
theorem d_M_tryEmit_17 : decode um_M_tryEmit.2.1 17 = .ok (.ireturn, 1) := by decide +kernel
theorem d_M_emitPart_0 : decode um_M_emitPart.2.1 0 = .ok (.iconst 1, 1) := by decide +kernel
theorem d_M_emitPart_1 : decode um_M_emitPart.2.1 1 = .ok (.istore 4, 2) := by decide +kernel
theorem d_M_emitPart_3 : decode um_M_emitPart.2.1 3 = .ok (.iload_n 2, 1) := by decide +kernel
theorem d_M_emitPart_4 : decode um_M_emitPart.2.1 4 = .ok (.istore 5, 2) := by decide +kernel
theorem d_M_emitPart_6 : decode um_M_emitPart.2.1 6 = .ok (.iload 5, 2) := by decide +kernel
theorem d_M_emitPart_8 : decode um_M_emitPart.2.1 8 = .ok (.iload_n 3, 1) := by decide +kernel
theorem d_M_emitPart_9 : decode um_M_emitPart.2.1 9 = .ok (.if_icmp .ge 32, 3) := by decide +kernel
theorem d_M_emitPart_12 : decode um_M_emitPart.2.1 12 = .ok (.iload 4, 2) := by decide +kernel
theorem d_M_emitPart_14 : decode um_M_emitPart.2.1 14 = .ok (.ifCond .eq 27, 3) := by decide +kernel
theorem d_M_emitPart_17 : decode um_M_emitPart.2.1 17 = .ok (.aload_n 0, 1) := by decide +kernel
theorem d_M_emitPart_18 : decode um_M_emitPart.2.1 18 = .ok (.aload_n 0, 1) := by decide +kernel
theorem d_M_emitPart_19 : decode um_M_emitPart.2.1 19 = .ok (.getfield 7, 3) := by decide +kernel
theorem d_M_emitPart_22 : decode um_M_emitPart.2.1 22 = .ok (.bipush 24, 2) := by decide +kernel
theorem d_M_emitPart_24 : decode um_M_emitPart.2.1 24 = .ok (.iload_n 1, 1) := by decide +kernel
theorem d_M_emitPart_25 : decode um_M_emitPart.2.1 25 = .ok (.imul, 1) := by decide +kernel
theorem d_M_emitPart_26 : decode um_M_emitPart.2.1 26 = .ok (.iload 5, 2) := by decide +kernel
theorem d_M_emitPart_28 : decode um_M_emitPart.2.1 28 = .ok (.iadd, 1) := by decide +kernel
theorem d_M_emitPart_29 : decode um_M_emitPart.2.1 29 = .ok (.iaload, 1) := by decide +kernel
theorem d_M_emitPart_30 : decode um_M_emitPart.2.1 30 = .ok (.invokevirtual 214, 3) := by decide +kernel
theorem d_M_emitPart_33 : decode um_M_emitPart.2.1 33 = .ok (.istore 4, 2) := by decide +kernel
theorem d_M_emitPart_35 : decode um_M_emitPart.2.1 35 = .ok (.iinc 5 1, 3) := by decide +kernel
theorem d_M_emitPart_38 : decode um_M_emitPart.2.1 38 = .ok (.goto (-32), 3) := by decide +kernel
theorem d_M_emitPart_41 : decode um_M_emitPart.2.1 41 = .ok (.iload 4, 2) := by decide +kernel
theorem d_M_emitPart_43 : decode um_M_emitPart.2.1 43 = .ok (.ireturn, 1) := by decide +kernel
theorem d_M_mergeParts_0 : decode um_M_mergeParts.2.1 0 = .ok (.aload_n 0, 1) := by decide +kernel
theorem d_M_mergeParts_1 : decode um_M_mergeParts.2.1 1 = .ok (.iconst 1, 1) := by decide +kernel
theorem d_M_mergeParts_2 : decode um_M_mergeParts.2.1 2 = .ok (.iload_n 3, 1) := by decide +kernel
theorem d_M_mergeParts_3 : decode um_M_mergeParts.2.1 3 = .ok (.iload 4, 2) := by decide +kernel
theorem d_M_mergeParts_5 : decode um_M_mergeParts.2.1 5 = .ok (.iconst 0, 1) := by decide +kernel
theorem d_M_mergeParts_6 : decode um_M_mergeParts.2.1 6 = .ok (.iload_n 1, 1) := by decide +kernel
theorem d_M_mergeParts_7 : decode um_M_mergeParts.2.1 7 = .ok (.iload_n 2, 1) := by decide +kernel
theorem d_M_mergeParts_8 : decode um_M_mergeParts.2.1 8 = .ok (.invokevirtual 217, 3) := by decide +kernel
theorem d_M_mergeParts_11 : decode um_M_mergeParts.2.1 11 = .ok (.ifCond .eq 21, 3) := by decide +kernel
theorem d_M_mergeParts_14 : decode um_M_mergeParts.2.1 14 = .ok (.aload_n 0, 1) := by decide +kernel
theorem d_M_mergeParts_15 : decode um_M_mergeParts.2.1 15 = .ok (.iconst 2, 1) := by decide +kernel
theorem d_M_mergeParts_16 : decode um_M_mergeParts.2.1 16 = .ok (.iload 5, 2) := by decide +kernel
theorem d_M_mergeParts_18 : decode um_M_mergeParts.2.1 18 = .ok (.iload 6, 2) := by decide +kernel
theorem d_M_mergeParts_20 : decode um_M_mergeParts.2.1 20 = .ok (.invokevirtual 221, 3) := by decide +kernel
theorem d_M_mergeParts_23 : decode um_M_mergeParts.2.1 23 = .ok (.ifCond .eq 7, 3) := by decide +kernel
theorem d_M_mergeParts_26 : decode um_M_mergeParts.2.1 26 = .ok (.iconst 0, 1) := by decide +kernel
theorem d_M_mergeParts_27 : decode um_M_mergeParts.2.1 27 = .ok (.goto 4, 3) := by decide +kernel
theorem d_M_mergeParts_30 : decode um_M_mergeParts.2.1 30 = .ok (.iconst (-1), 1) := by decide +kernel
theorem d_M_mergeParts_31 : decode um_M_mergeParts.2.1 31 = .ok (.ireturn, 1) := by decide +kernel
theorem d_M_mergeParts_32 : decode um_M_mergeParts.2.1 32 = .ok (.aload_n 0, 1) := by decide +kernel
theorem d_M_mergeParts_33 : decode um_M_mergeParts.2.1 33 = .ok (.iconst 2, 1) := by decide +kernel
theorem d_M_mergeParts_34 : decode um_M_mergeParts.2.1 34 = .ok (.iload 5, 2) := by decide +kernel
theorem d_M_mergeParts_36 : decode um_M_mergeParts.2.1 36 = .ok (.iload 6, 2) := by decide +kernel
theorem d_M_mergeParts_38 : decode um_M_mergeParts.2.1 38 = .ok (.iconst 0, 1) := by decide +kernel
theorem d_M_mergeParts_39 : decode um_M_mergeParts.2.1 39 = .ok (.iload_n 1, 1) := by decide +kernel
theorem d_M_mergeParts_40 : decode um_M_mergeParts.2.1 40 = .ok (.iload_n 2, 1) := by decide +kernel
theorem d_M_mergeParts_41 : decode um_M_mergeParts.2.1 41 = .ok (.invokevirtual 217, 3) := by decide +kernel
theorem d_M_mergeParts_44 : decode um_M_mergeParts.2.1 44 = .ok (.ifCond .ne 19, 3) := by decide +kernel
theorem d_M_mergeParts_47 : decode um_M_mergeParts.2.1 47 = .ok (.aload_n 0, 1) := by decide +kernel
theorem d_M_mergeParts_48 : decode um_M_mergeParts.2.1 48 = .ok (.iconst 2, 1) := by decide +kernel
theorem d_M_mergeParts_49 : decode um_M_mergeParts.2.1 49 = .ok (.iload 5, 2) := by decide +kernel
theorem d_M_mergeParts_51 : decode um_M_mergeParts.2.1 51 = .ok (.iload 6, 2) := by decide +kernel
theorem d_M_mergeParts_53 : decode um_M_mergeParts.2.1 53 = .ok (.iconst 1, 1) := by decide +kernel
theorem d_M_mergeParts_54 : decode um_M_mergeParts.2.1 54 = .ok (.iload_n 3, 1) := by decide +kernel
theorem d_M_mergeParts_55 : decode um_M_mergeParts.2.1 55 = .ok (.iload 4, 2) := by decide +kernel
theorem d_M_mergeParts_57 : decode um_M_mergeParts.2.1 57 = .ok (.invokevirtual 217, 3) := by decide +kernel
theorem d_M_mergeParts_60 : decode um_M_mergeParts.2.1 60 = .ok (.ifCond .eq 20, 3) := by decide +kernel
theorem d_M_mergeParts_63 : decode um_M_mergeParts.2.1 63 = .ok (.aload_n 0, 1) := by decide +kernel
theorem d_M_mergeParts_64 : decode um_M_mergeParts.2.1 64 = .ok (.iconst 1, 1) := by decide +kernel
theorem d_M_mergeParts_65 : decode um_M_mergeParts.2.1 65 = .ok (.iload_n 3, 1) := by decide +kernel
theorem d_M_mergeParts_66 : decode um_M_mergeParts.2.1 66 = .ok (.iload 4, 2) := by decide +kernel
theorem d_M_mergeParts_68 : decode um_M_mergeParts.2.1 68 = .ok (.invokevirtual 221, 3) := by decide +kernel
theorem d_M_mergeParts_71 : decode um_M_mergeParts.2.1 71 = .ok (.ifCond .eq 7, 3) := by decide +kernel
theorem d_M_mergeParts_74 : decode um_M_mergeParts.2.1 74 = .ok (.iconst 0, 1) := by decide +kernel
theorem d_M_mergeParts_75 : decode um_M_mergeParts.2.1 75 = .ok (.goto 4, 3) := by decide +kernel
theorem d_M_mergeParts_78 : decode um_M_mergeParts.2.1 78 = .ok (.iconst (-1), 1) := by decide +kernel
theorem d_M_mergeParts_79 : decode um_M_mergeParts.2.1 79 = .ok (.ireturn, 1) := by decide +kernel
theorem d_M_mergeParts_80 : decode um_M_mergeParts.2.1 80 = .ok (.aload_n 0, 1) := by decide +kernel
theorem d_M_mergeParts_81 : decode um_M_mergeParts.2.1 81 = .ok (.bipush 60, 2) := by decide +kernel
theorem d_M_mergeParts_83 : decode um_M_mergeParts.2.1 83 = .ok (.invokevirtual 214, 3) := by decide +kernel
theorem d_M_mergeParts_86 : decode um_M_mergeParts.2.1 86 = .ok (.ifCond .eq 48, 3) := by decide +kernel
theorem d_M_mergeParts_89 : decode um_M_mergeParts.2.1 89 = .ok (.aload_n 0, 1) := by decide +kernel
theorem d_M_mergeParts_90 : decode um_M_mergeParts.2.1 90 = .ok (.iconst 1, 1) := by decide +kernel
theorem d_M_mergeParts_91 : decode um_M_mergeParts.2.1 91 = .ok (.iload_n 3, 1) := by decide +kernel
theorem d_M_mergeParts_92 : decode um_M_mergeParts.2.1 92 = .ok (.iload 4, 2) := by decide +kernel
theorem d_M_mergeParts_94 : decode um_M_mergeParts.2.1 94 = .ok (.invokevirtual 221, 3) := by decide +kernel
theorem d_M_mergeParts_97 : decode um_M_mergeParts.2.1 97 = .ok (.ifCond .eq 37, 3) := by decide +kernel
theorem d_M_mergeParts_100 : decode um_M_mergeParts.2.1 100 = .ok (.aload_n 0, 1) := by decide +kernel
theorem d_M_mergeParts_101 : decode um_M_mergeParts.2.1 101 = .ok (.bipush 61, 2) := by decide +kernel
theorem d_M_mergeParts_103 : decode um_M_mergeParts.2.1 103 = .ok (.invokevirtual 214, 3) := by decide +kernel
theorem d_M_mergeParts_106 : decode um_M_mergeParts.2.1 106 = .ok (.ifCond .eq 28, 3) := by decide +kernel
theorem d_M_mergeParts_109 : decode um_M_mergeParts.2.1 109 = .ok (.aload_n 0, 1) := by decide +kernel
theorem d_M_mergeParts_110 : decode um_M_mergeParts.2.1 110 = .ok (.iconst 2, 1) := by decide +kernel
theorem d_M_mergeParts_111 : decode um_M_mergeParts.2.1 111 = .ok (.iload 5, 2) := by decide +kernel
theorem d_M_mergeParts_113 : decode um_M_mergeParts.2.1 113 = .ok (.iload 6, 2) := by decide +kernel
theorem d_M_mergeParts_115 : decode um_M_mergeParts.2.1 115 = .ok (.invokevirtual 221, 3) := by decide +kernel
theorem d_M_mergeParts_118 : decode um_M_mergeParts.2.1 118 = .ok (.ifCond .eq 16, 3) := by decide +kernel
theorem d_M_mergeParts_121 : decode um_M_mergeParts.2.1 121 = .ok (.aload_n 0, 1) := by decide +kernel
theorem d_M_mergeParts_122 : decode um_M_mergeParts.2.1 122 = .ok (.bipush 62, 2) := by decide +kernel
theorem d_M_mergeParts_124 : decode um_M_mergeParts.2.1 124 = .ok (.invokevirtual 214, 3) := by decide +kernel
theorem d_M_mergeParts_127 : decode um_M_mergeParts.2.1 127 = .ok (.ifCond .eq 7, 3) := by decide +kernel
theorem d_M_mergeParts_130 : decode um_M_mergeParts.2.1 130 = .ok (.iconst 1, 1) := by decide +kernel
theorem d_M_mergeParts_131 : decode um_M_mergeParts.2.1 131 = .ok (.goto 4, 3) := by decide +kernel
theorem d_M_mergeParts_134 : decode um_M_mergeParts.2.1 134 = .ok (.iconst 0, 1) := by decide +kernel
theorem d_M_mergeParts_135 : decode um_M_mergeParts.2.1 135 = .ok (.istore 7, 2) := by decide +kernel
theorem d_M_mergeParts_137 : decode um_M_mergeParts.2.1 137 = .ok (.iload 7, 2) := by decide +kernel
theorem d_M_mergeParts_139 : decode um_M_mergeParts.2.1 139 = .ok (.ifCond .eq 7, 3) := by decide +kernel
theorem d_M_mergeParts_142 : decode um_M_mergeParts.2.1 142 = .ok (.iconst 1, 1) := by decide +kernel
theorem d_M_mergeParts_143 : decode um_M_mergeParts.2.1 143 = .ok (.goto 4, 3) := by decide +kernel
theorem d_M_mergeParts_146 : decode um_M_mergeParts.2.1 146 = .ok (.iconst (-1), 1) := by decide +kernel
theorem d_M_mergeParts_147 : decode um_M_mergeParts.2.1 147 = .ok (.ireturn, 1) := by decide +kernel
theorem d_M_merge_0 : decode um_M_merge.2.1 0 = .ok (.aload_n 0, 1) := by decide +kernel
theorem d_M_merge_1 : decode um_M_merge.2.1 1 = .ok (.iconst 0, 1) := by decide +kernel
theorem d_M_merge_2 : decode um_M_merge.2.1 2 = .ok (.invokevirtual 124, 3) := by decide +kernel
theorem d_M_merge_5 : decode um_M_merge.2.1 5 = .ok (.ifCond .eq 19, 3) := by decide +kernel
theorem d_M_merge_8 : decode um_M_merge.2.1 8 = .ok (.aload_n 0, 1) := by decide +kernel
theorem d_M_merge_9 : decode um_M_merge.2.1 9 = .ok (.iconst 1, 1) := by decide +kernel
theorem d_M_merge_10 : decode um_M_merge.2.1 10 = .ok (.invokevirtual 124, 3) := by decide +kernel
theorem d_M_merge_13 : decode um_M_merge.2.1 13 = .ok (.ifCond .eq 11, 3) := by decide +kernel
theorem d_M_merge_16 : decode um_M_merge.2.1 16 = .ok (.aload_n 0, 1) := by decide +kernel
theorem d_M_merge_17 : decode um_M_merge.2.1 17 = .ok (.iconst 2, 1) := by decide +kernel
theorem d_M_merge_18 : decode um_M_merge.2.1 18 = .ok (.invokevirtual 124, 3) := by decide +kernel
theorem d_M_merge_21 : decode um_M_merge.2.1 21 = .ok (.ifCond .ne 6, 3) := by decide +kernel
theorem d_M_merge_24 : decode um_M_merge.2.1 24 = .ok (.bipush (-3), 2) := by decide +kernel
theorem d_M_merge_26 : decode um_M_merge.2.1 26 = .ok (.ireturn, 1) := by decide +kernel
theorem d_M_merge_27 : decode um_M_merge.2.1 27 = .ok (.aload_n 0, 1) := by decide +kernel
theorem d_M_merge_28 : decode um_M_merge.2.1 28 = .ok (.iconst 0, 1) := by decide +kernel
theorem d_M_merge_29 : decode um_M_merge.2.1 29 = .ok (.iconst 2, 1) := by decide +kernel
theorem d_M_merge_30 : decode um_M_merge.2.1 30 = .ok (.invokevirtual 127, 3) := by decide +kernel
theorem d_M_merge_33 : decode um_M_merge.2.1 33 = .ok (.aload_n 0, 1) := by decide +kernel
theorem d_M_merge_34 : decode um_M_merge.2.1 34 = .ok (.iconst 0, 1) := by decide +kernel
theorem d_M_merge_35 : decode um_M_merge.2.1 35 = .ok (.invokevirtual 131, 3) := by decide +kernel
theorem d_M_merge_38 : decode um_M_merge.2.1 38 = .ok (.iconst 0, 1) := by decide +kernel
theorem d_M_merge_39 : decode um_M_merge.2.1 39 = .ok (.istore_n 1, 1) := by decide +kernel
theorem d_M_merge_40 : decode um_M_merge.2.1 40 = .ok (.iload_n 1, 1) := by decide +kernel
theorem d_M_merge_41 : decode um_M_merge.2.1 41 = .ok (.aload_n 0, 1) := by decide +kernel
theorem d_M_merge_42 : decode um_M_merge.2.1 42 = .ok (.getfield 96, 3) := by decide +kernel
theorem d_M_merge_45 : decode um_M_merge.2.1 45 = .ok (.if_icmp .ge 21, 3) := by decide +kernel
theorem d_M_merge_48 : decode um_M_merge.2.1 48 = .ok (.aload_n 0, 1) := by decide +kernel
theorem d_M_merge_49 : decode um_M_merge.2.1 49 = .ok (.getfield 85, 3) := by decide +kernel
theorem d_M_merge_52 : decode um_M_merge.2.1 52 = .ok (.iload_n 1, 1) := by decide +kernel
theorem d_M_merge_53 : decode um_M_merge.2.1 53 = .ok (.aload_n 0, 1) := by decide +kernel
theorem d_M_merge_54 : decode um_M_merge.2.1 54 = .ok (.getfield 22, 3) := by decide +kernel
theorem d_M_merge_57 : decode um_M_merge.2.1 57 = .ok (.iload_n 1, 1) := by decide +kernel
theorem d_M_merge_58 : decode um_M_merge.2.1 58 = .ok (.iaload, 1) := by decide +kernel
theorem d_M_merge_59 : decode um_M_merge.2.1 59 = .ok (.iastore, 1) := by decide +kernel
theorem d_M_merge_60 : decode um_M_merge.2.1 60 = .ok (.iinc 1 1, 3) := by decide +kernel
theorem d_M_merge_63 : decode um_M_merge.2.1 63 = .ok (.goto (-23), 3) := by decide +kernel
theorem d_M_merge_66 : decode um_M_merge.2.1 66 = .ok (.aload_n 0, 1) := by decide +kernel
theorem d_M_merge_67 : decode um_M_merge.2.1 67 = .ok (.iconst 0, 1) := by decide +kernel
theorem d_M_merge_68 : decode um_M_merge.2.1 68 = .ok (.iconst 1, 1) := by decide +kernel
theorem d_M_merge_69 : decode um_M_merge.2.1 69 = .ok (.invokevirtual 127, 3) := by decide +kernel
theorem d_M_merge_72 : decode um_M_merge.2.1 72 = .ok (.aload_n 0, 1) := by decide +kernel
theorem d_M_merge_73 : decode um_M_merge.2.1 73 = .ok (.iconst 0, 1) := by decide +kernel
theorem d_M_merge_74 : decode um_M_merge.2.1 74 = .ok (.invokevirtual 131, 3) := by decide +kernel
theorem d_M_merge_77 : decode um_M_merge.2.1 77 = .ok (.aload_n 0, 1) := by decide +kernel
theorem d_M_merge_78 : decode um_M_merge.2.1 78 = .ok (.iconst 0, 1) := by decide +kernel
theorem d_M_merge_79 : decode um_M_merge.2.1 79 = .ok (.putfield 199, 3) := by decide +kernel
theorem d_M_merge_82 : decode um_M_merge.2.1 82 = .ok (.iconst 0, 1) := by decide +kernel
theorem d_M_merge_83 : decode um_M_merge.2.1 83 = .ok (.istore_n 1, 1) := by decide +kernel
theorem d_M_merge_84 : decode um_M_merge.2.1 84 = .ok (.iconst 0, 1) := by decide +kernel
theorem d_M_merge_85 : decode um_M_merge.2.1 85 = .ok (.istore_n 2, 1) := by decide +kernel
theorem d_M_merge_86 : decode um_M_merge.2.1 86 = .ok (.iconst 0, 1) := by decide +kernel
theorem d_M_merge_87 : decode um_M_merge.2.1 87 = .ok (.istore_n 3, 1) := by decide +kernel
theorem d_M_merge_88 : decode um_M_merge.2.1 88 = .ok (.iconst 0, 1) := by decide +kernel
theorem d_M_merge_89 : decode um_M_merge.2.1 89 = .ok (.istore 4, 2) := by decide +kernel
theorem d_M_merge_91 : decode um_M_merge.2.1 91 = .ok (.iconst 0, 1) := by decide +kernel
theorem d_M_merge_92 : decode um_M_merge.2.1 92 = .ok (.istore 5, 2) := by decide +kernel
theorem d_M_merge_94 : decode um_M_merge.2.1 94 = .ok (.iload 5, 2) := by decide +kernel
theorem d_M_merge_96 : decode um_M_merge.2.1 96 = .ok (.aload_n 0, 1) := by decide +kernel
theorem d_M_merge_97 : decode um_M_merge.2.1 97 = .ok (.getfield 13, 3) := by decide +kernel
theorem d_M_merge_100 : decode um_M_merge.2.1 100 = .ok (.iconst 0, 1) := by decide +kernel
theorem d_M_merge_101 : decode um_M_merge.2.1 101 = .ok (.iaload, 1) := by decide +kernel
theorem d_M_merge_102 : decode um_M_merge.2.1 102 = .ok (.if_icmp .gt 183, 3) := by decide +kernel
theorem d_M_merge_105 : decode um_M_merge.2.1 105 = .ok (.iload 5, 2) := by decide +kernel
theorem d_M_merge_107 : decode um_M_merge.2.1 107 = .ok (.aload_n 0, 1) := by decide +kernel
theorem d_M_merge_108 : decode um_M_merge.2.1 108 = .ok (.getfield 13, 3) := by decide +kernel
theorem d_M_merge_111 : decode um_M_merge.2.1 111 = .ok (.iconst 0, 1) := by decide +kernel
theorem d_M_merge_112 : decode um_M_merge.2.1 112 = .ok (.iaload, 1) := by decide +kernel
theorem d_M_merge_113 : decode um_M_merge.2.1 113 = .ok (.if_icmp .ne 7, 3) := by decide +kernel
theorem d_M_merge_116 : decode um_M_merge.2.1 116 = .ok (.iconst 1, 1) := by decide +kernel
theorem d_M_merge_117 : decode um_M_merge.2.1 117 = .ok (.goto 4, 3) := by decide +kernel
theorem d_M_merge_120 : decode um_M_merge.2.1 120 = .ok (.iconst 0, 1) := by decide +kernel
theorem d_M_merge_121 : decode um_M_merge.2.1 121 = .ok (.istore 6, 2) := by decide +kernel
theorem d_M_merge_123 : decode um_M_merge.2.1 123 = .ok (.iload 6, 2) := by decide +kernel
theorem d_M_merge_125 : decode um_M_merge.2.1 125 = .ok (.ifCond .ne 23, 3) := by decide +kernel
theorem d_M_merge_128 : decode um_M_merge.2.1 128 = .ok (.aload_n 0, 1) := by decide +kernel
theorem d_M_merge_129 : decode um_M_merge.2.1 129 = .ok (.getfield 22, 3) := by decide +kernel
theorem d_M_merge_132 : decode um_M_merge.2.1 132 = .ok (.iload 5, 2) := by decide +kernel
theorem d_M_merge_134 : decode um_M_merge.2.1 134 = .ok (.iaload, 1) := by decide +kernel
theorem d_M_merge_135 : decode um_M_merge.2.1 135 = .ok (.ifCond .lt 144, 3) := by decide +kernel
theorem d_M_merge_138 : decode um_M_merge.2.1 138 = .ok (.aload_n 0, 1) := by decide +kernel
theorem d_M_merge_139 : decode um_M_merge.2.1 139 = .ok (.getfield 85, 3) := by decide +kernel
theorem d_M_merge_142 : decode um_M_merge.2.1 142 = .ok (.iload 5, 2) := by decide +kernel
theorem d_M_merge_144 : decode um_M_merge.2.1 144 = .ok (.iaload, 1) := by decide +kernel
theorem d_M_merge_145 : decode um_M_merge.2.1 145 = .ok (.ifCond .lt 134, 3) := by decide +kernel
theorem d_M_merge_148 : decode um_M_merge.2.1 148 = .ok (.aload_n 0, 1) := by decide +kernel
theorem d_M_merge_149 : decode um_M_merge.2.1 149 = .ok (.iload_n 2, 1) := by decide +kernel
theorem d_M_merge_150 : decode um_M_merge.2.1 150 = .ok (.iload 5, 2) := by decide +kernel
theorem d_M_merge_152 : decode um_M_merge.2.1 152 = .ok (.iload_n 3, 1) := by decide +kernel
theorem d_M_merge_153 : decode um_M_merge.2.1 153 = .ok (.iload 6, 2) := by decide +kernel
theorem d_M_merge_155 : decode um_M_merge.2.1 155 = .ok (.ifCond .eq 12, 3) := by decide +kernel
theorem d_M_merge_158 : decode um_M_merge.2.1 158 = .ok (.aload_n 0, 1) := by decide +kernel
theorem d_M_merge_159 : decode um_M_merge.2.1 159 = .ok (.getfield 13, 3) := by decide +kernel
theorem d_M_merge_162 : decode um_M_merge.2.1 162 = .ok (.iconst 1, 1) := by decide +kernel
theorem d_M_merge_163 : decode um_M_merge.2.1 163 = .ok (.iaload, 1) := by decide +kernel
theorem d_M_merge_164 : decode um_M_merge.2.1 164 = .ok (.goto 10, 3) := by decide +kernel
theorem d_M_merge_167 : decode um_M_merge.2.1 167 = .ok (.aload_n 0, 1) := by decide +kernel
theorem d_M_merge_168 : decode um_M_merge.2.1 168 = .ok (.getfield 22, 3) := by decide +kernel
theorem d_M_merge_171 : decode um_M_merge.2.1 171 = .ok (.iload 5, 2) := by decide +kernel
theorem d_M_merge_173 : decode um_M_merge.2.1 173 = .ok (.iaload, 1) := by decide +kernel
theorem d_M_merge_174 : decode um_M_merge.2.1 174 = .ok (.iload 4, 2) := by decide +kernel
theorem d_M_merge_176 : decode um_M_merge.2.1 176 = .ok (.iload 6, 2) := by decide +kernel
theorem d_M_merge_178 : decode um_M_merge.2.1 178 = .ok (.ifCond .eq 12, 3) := by decide +kernel
theorem d_M_merge_181 : decode um_M_merge.2.1 181 = .ok (.aload_n 0, 1) := by decide +kernel
theorem d_M_merge_182 : decode um_M_merge.2.1 182 = .ok (.getfield 13, 3) := by decide +kernel
theorem d_M_merge_185 : decode um_M_merge.2.1 185 = .ok (.iconst 2, 1) := by decide +kernel
theorem d_M_merge_186 : decode um_M_merge.2.1 186 = .ok (.iaload, 1) := by decide +kernel
theorem d_M_merge_187 : decode um_M_merge.2.1 187 = .ok (.goto 10, 3) := by decide +kernel
theorem d_M_merge_190 : decode um_M_merge.2.1 190 = .ok (.aload_n 0, 1) := by decide +kernel
theorem d_M_merge_191 : decode um_M_merge.2.1 191 = .ok (.getfield 85, 3) := by decide +kernel
theorem d_M_merge_194 : decode um_M_merge.2.1 194 = .ok (.iload 5, 2) := by decide +kernel
theorem d_M_merge_196 : decode um_M_merge.2.1 196 = .ok (.iaload, 1) := by decide +kernel
theorem d_M_merge_197 : decode um_M_merge.2.1 197 = .ok (.invokevirtual 224, 3) := by decide +kernel
theorem d_M_merge_200 : decode um_M_merge.2.1 200 = .ok (.istore 7, 2) := by decide +kernel
theorem d_M_merge_202 : decode um_M_merge.2.1 202 = .ok (.iload 7, 2) := by decide +kernel
theorem d_M_merge_204 : decode um_M_merge.2.1 204 = .ok (.ifCond .lt 22, 3) := by decide +kernel
theorem d_M_merge_207 : decode um_M_merge.2.1 207 = .ok (.iload 6, 2) := by decide +kernel
theorem d_M_merge_209 : decode um_M_merge.2.1 209 = .ok (.ifCond .ne 20, 3) := by decide +kernel
theorem d_M_merge_212 : decode um_M_merge.2.1 212 = .ok (.aload_n 0, 1) := by decide +kernel
theorem d_M_merge_213 : decode um_M_merge.2.1 213 = .ok (.aload_n 0, 1) := by decide +kernel
theorem d_M_merge_214 : decode um_M_merge.2.1 214 = .ok (.getfield 7, 3) := by decide +kernel
theorem d_M_merge_217 : decode um_M_merge.2.1 217 = .ok (.iload 5, 2) := by decide +kernel
theorem d_M_merge_219 : decode um_M_merge.2.1 219 = .ok (.iaload, 1) := by decide +kernel
theorem d_M_merge_220 : decode um_M_merge.2.1 220 = .ok (.invokevirtual 214, 3) := by decide +kernel
theorem d_M_merge_223 : decode um_M_merge.2.1 223 = .ok (.ifCond .ne 6, 3) := by decide +kernel
theorem d_M_merge_226 : decode um_M_merge.2.1 226 = .ok (.bipush (-2), 2) := by decide +kernel
theorem d_M_merge_228 : decode um_M_merge.2.1 228 = .ok (.ireturn, 1) := by decide +kernel
theorem d_M_merge_229 : decode um_M_merge.2.1 229 = .ok (.iload_n 1, 1) := by decide +kernel
theorem d_M_merge_230 : decode um_M_merge.2.1 230 = .ok (.iload 7, 2) := by decide +kernel
theorem d_M_merge_232 : decode um_M_merge.2.1 232 = .ok (.iadd, 1) := by decide +kernel
theorem d_M_merge_233 : decode um_M_merge.2.1 233 = .ok (.istore_n 1, 1) := by decide +kernel
theorem d_M_merge_234 : decode um_M_merge.2.1 234 = .ok (.iload 5, 2) := by decide +kernel
theorem d_M_merge_236 : decode um_M_merge.2.1 236 = .ok (.iconst 1, 1) := by decide +kernel
theorem d_M_merge_237 : decode um_M_merge.2.1 237 = .ok (.iadd, 1) := by decide +kernel
theorem d_M_merge_238 : decode um_M_merge.2.1 238 = .ok (.istore_n 2, 1) := by decide +kernel
theorem d_M_merge_239 : decode um_M_merge.2.1 239 = .ok (.iload 6, 2) := by decide +kernel
theorem d_M_merge_241 : decode um_M_merge.2.1 241 = .ok (.ifCond .eq 7, 3) := by decide +kernel
theorem d_M_merge_244 : decode um_M_merge.2.1 244 = .ok (.iload_n 3, 1) := by decide +kernel
theorem d_M_merge_245 : decode um_M_merge.2.1 245 = .ok (.goto 12, 3) := by decide +kernel
theorem d_M_merge_248 : decode um_M_merge.2.1 248 = .ok (.aload_n 0, 1) := by decide +kernel
theorem d_M_merge_249 : decode um_M_merge.2.1 249 = .ok (.getfield 22, 3) := by decide +kernel
theorem d_M_merge_252 : decode um_M_merge.2.1 252 = .ok (.iload 5, 2) := by decide +kernel
theorem d_M_merge_254 : decode um_M_merge.2.1 254 = .ok (.iaload, 1) := by decide +kernel
theorem d_M_merge_255 : decode um_M_merge.2.1 255 = .ok (.iconst 1, 1) := by decide +kernel
theorem d_M_merge_256 : decode um_M_merge.2.1 256 = .ok (.iadd, 1) := by decide +kernel
theorem d_M_merge_257 : decode um_M_merge.2.1 257 = .ok (.istore_n 3, 1) := by decide +kernel
theorem d_M_merge_258 : decode um_M_merge.2.1 258 = .ok (.iload 6, 2) := by decide +kernel
theorem d_M_merge_260 : decode um_M_merge.2.1 260 = .ok (.ifCond .eq 8, 3) := by decide +kernel
theorem d_M_merge_263 : decode um_M_merge.2.1 263 = .ok (.iload 4, 2) := by decide +kernel
theorem d_M_merge_265 : decode um_M_merge.2.1 265 = .ok (.goto 12, 3) := by decide +kernel
theorem d_M_merge_268 : decode um_M_merge.2.1 268 = .ok (.aload_n 0, 1) := by decide +kernel
theorem d_M_merge_269 : decode um_M_merge.2.1 269 = .ok (.getfield 85, 3) := by decide +kernel
theorem d_M_merge_272 : decode um_M_merge.2.1 272 = .ok (.iload 5, 2) := by decide +kernel
theorem d_M_merge_274 : decode um_M_merge.2.1 274 = .ok (.iaload, 1) := by decide +kernel
theorem d_M_merge_275 : decode um_M_merge.2.1 275 = .ok (.iconst 1, 1) := by decide +kernel
theorem d_M_merge_276 : decode um_M_merge.2.1 276 = .ok (.iadd, 1) := by decide +kernel
theorem d_M_merge_277 : decode um_M_merge.2.1 277 = .ok (.istore 4, 2) := by decide +kernel
theorem d_M_merge_279 : decode um_M_merge.2.1 279 = .ok (.iinc 5 1, 3) := by decide +kernel
theorem d_M_merge_282 : decode um_M_merge.2.1 282 = .ok (.goto (-188), 3) := by decide +kernel
theorem d_M_merge_285 : decode um_M_merge.2.1 285 = .ok (.aload_n 0, 1) := by decide +kernel
theorem d_M_merge_286 : decode um_M_merge.2.1 286 = .ok (.iconst 3, 1) := by decide +kernel
theorem d_M_merge_287 : decode um_M_merge.2.1 287 = .ok (.invokevirtual 211, 3) := by decide +kernel
theorem d_M_merge_290 : decode um_M_merge.2.1 290 = .ok (.iload_n 1, 1) := by decide +kernel
theorem d_M_merge_291 : decode um_M_merge.2.1 291 = .ok (.ireturn, 1) := by decide +kernel
theorem d_L_law_0 : decode code 0 = .ok (.new 7, 3) := by decide +kernel
theorem d_L_law_3 : decode code 3 = .ok (.dup, 1) := by decide +kernel
theorem d_L_law_4 : decode code 4 = .ok (.invokespecial 9, 3) := by decide +kernel
theorem d_L_law_7 : decode code 7 = .ok (.astore_n 1, 1) := by decide +kernel
theorem d_L_law_8 : decode code 8 = .ok (.new 10, 3) := by decide +kernel
theorem d_L_law_11 : decode code 11 = .ok (.dup, 1) := by decide +kernel
theorem d_L_law_12 : decode code 12 = .ok (.invokespecial 12, 3) := by decide +kernel
theorem d_L_law_15 : decode code 15 = .ok (.astore_n 2, 1) := by decide +kernel
theorem d_L_law_16 : decode code 16 = .ok (.iconst 0, 1) := by decide +kernel
theorem d_L_law_17 : decode code 17 = .ok (.istore_n 3, 1) := by decide +kernel
theorem d_L_law_18 : decode code 18 = .ok (.iload_n 3, 1) := by decide +kernel
theorem d_L_law_19 : decode code 19 = .ok (.aload_n 0, 1) := by decide +kernel
theorem d_L_law_20 : decode code 20 = .ok (.arraylength, 1) := by decide +kernel
theorem d_L_law_21 : decode code 21 = .ok (.iconst 5, 1) := by decide +kernel
theorem d_L_law_22 : decode code 22 = .ok (.isub, 1) := by decide +kernel
theorem d_L_law_23 : decode code 23 = .ok (.if_icmp .gt 472, 3) := by decide +kernel
theorem d_L_law_26 : decode code 26 = .ok (.aload_n 0, 1) := by decide +kernel
theorem d_L_law_27 : decode code 27 = .ok (.iload_n 3, 1) := by decide +kernel
theorem d_L_law_28 : decode code 28 = .ok (.iaload, 1) := by decide +kernel
theorem d_L_law_29 : decode code 29 = .ok (.bipush 15, 2) := by decide +kernel
theorem d_L_law_31 : decode code 31 = .ok (.iand, 1) := by decide +kernel
theorem d_L_law_32 : decode code 32 = .ok (.tableswitch 457 0 12 #[68, 141, 164, 187, 220, 263, 286, 309, 372, 385, 408, 421, 444], 68) := by decide +kernel
theorem d_L_law_100 : decode code 100 = .ok (.aload_n 1, 1) := by decide +kernel
theorem d_L_law_101 : decode code 101 = .ok (.aload_n 0, 1) := by decide +kernel
theorem d_L_law_102 : decode code 102 = .ok (.iload_n 3, 1) := by decide +kernel
theorem d_L_law_103 : decode code 103 = .ok (.iconst 1, 1) := by decide +kernel
theorem d_L_law_104 : decode code 104 = .ok (.iadd, 1) := by decide +kernel
theorem d_L_law_105 : decode code 105 = .ok (.iaload, 1) := by decide +kernel
theorem d_L_law_106 : decode code 106 = .ok (.aload_n 0, 1) := by decide +kernel
theorem d_L_law_107 : decode code 107 = .ok (.iload_n 3, 1) := by decide +kernel
theorem d_L_law_108 : decode code 108 = .ok (.iconst 2, 1) := by decide +kernel
theorem d_L_law_109 : decode code 109 = .ok (.iadd, 1) := by decide +kernel
theorem d_L_law_110 : decode code 110 = .ok (.iaload, 1) := by decide +kernel
theorem d_L_law_111 : decode code 111 = .ok (.i2l, 1) := by decide +kernel
theorem d_L_law_112 : decode code 112 = .ok (.bipush 32, 2) := by decide +kernel
theorem d_L_law_114 : decode code 114 = .ok (.lshl, 1) := by decide +kernel
theorem d_L_law_115 : decode code 115 = .ok (.aload_n 0, 1) := by decide +kernel
theorem d_L_law_116 : decode code 116 = .ok (.iload_n 3, 1) := by decide +kernel
theorem d_L_law_117 : decode code 117 = .ok (.iconst 3, 1) := by decide +kernel
theorem d_L_law_118 : decode code 118 = .ok (.iadd, 1) := by decide +kernel
theorem d_L_law_119 : decode code 119 = .ok (.iaload, 1) := by decide +kernel
theorem d_L_law_120 : decode code 120 = .ok (.i2l, 1) := by decide +kernel
theorem d_L_law_121 : decode code 121 = .ok (.ldc2_w 13, 3) := by decide +kernel
theorem d_L_law_124 : decode code 124 = .ok (.land, 1) := by decide +kernel
theorem d_L_law_125 : decode code 125 = .ok (.lor, 1) := by decide +kernel
theorem d_L_law_126 : decode code 126 = .ok (.aload_n 0, 1) := by decide +kernel
theorem d_L_law_127 : decode code 127 = .ok (.iload_n 3, 1) := by decide +kernel
theorem d_L_law_128 : decode code 128 = .ok (.iconst 4, 1) := by decide +kernel
theorem d_L_law_129 : decode code 129 = .ok (.iadd, 1) := by decide +kernel
theorem d_L_law_130 : decode code 130 = .ok (.iaload, 1) := by decide +kernel
theorem d_L_law_131 : decode code 131 = .ok (.invokevirtual 15, 3) := by decide +kernel
theorem d_L_law_134 : decode code 134 = .ok (.aload_n 2, 1) := by decide +kernel
theorem d_L_law_135 : decode code 135 = .ok (.aload_n 0, 1) := by decide +kernel
theorem d_L_law_136 : decode code 136 = .ok (.iload_n 3, 1) := by decide +kernel
theorem d_L_law_137 : decode code 137 = .ok (.iconst 1, 1) := by decide +kernel
theorem d_L_law_138 : decode code 138 = .ok (.iadd, 1) := by decide +kernel
theorem d_L_law_139 : decode code 139 = .ok (.iaload, 1) := by decide +kernel
theorem d_L_law_140 : decode code 140 = .ok (.aload_n 0, 1) := by decide +kernel
theorem d_L_law_141 : decode code 141 = .ok (.iload_n 3, 1) := by decide +kernel
theorem d_L_law_142 : decode code 142 = .ok (.iconst 2, 1) := by decide +kernel
theorem d_L_law_143 : decode code 143 = .ok (.iadd, 1) := by decide +kernel
theorem d_L_law_144 : decode code 144 = .ok (.iaload, 1) := by decide +kernel
theorem d_L_law_145 : decode code 145 = .ok (.i2l, 1) := by decide +kernel
theorem d_L_law_146 : decode code 146 = .ok (.bipush 32, 2) := by decide +kernel
theorem d_L_law_148 : decode code 148 = .ok (.lshl, 1) := by decide +kernel
theorem d_L_law_149 : decode code 149 = .ok (.aload_n 0, 1) := by decide +kernel
theorem d_L_law_150 : decode code 150 = .ok (.iload_n 3, 1) := by decide +kernel
theorem d_L_law_151 : decode code 151 = .ok (.iconst 3, 1) := by decide +kernel
theorem d_L_law_152 : decode code 152 = .ok (.iadd, 1) := by decide +kernel
theorem d_L_law_153 : decode code 153 = .ok (.iaload, 1) := by decide +kernel
theorem d_L_law_154 : decode code 154 = .ok (.i2l, 1) := by decide +kernel
theorem d_L_law_155 : decode code 155 = .ok (.ldc2_w 13, 3) := by decide +kernel
theorem d_L_law_158 : decode code 158 = .ok (.land, 1) := by decide +kernel
theorem d_L_law_159 : decode code 159 = .ok (.lor, 1) := by decide +kernel
theorem d_L_law_160 : decode code 160 = .ok (.aload_n 0, 1) := by decide +kernel
theorem d_L_law_161 : decode code 161 = .ok (.iload_n 3, 1) := by decide +kernel
theorem d_L_law_162 : decode code 162 = .ok (.iconst 4, 1) := by decide +kernel
theorem d_L_law_163 : decode code 163 = .ok (.iadd, 1) := by decide +kernel
theorem d_L_law_164 : decode code 164 = .ok (.iaload, 1) := by decide +kernel
theorem d_L_law_165 : decode code 165 = .ok (.invokevirtual 19, 3) := by decide +kernel
theorem d_L_law_168 : decode code 168 = .ok (.if_icmp .eq 321, 3) := by decide +kernel
theorem d_L_law_171 : decode code 171 = .ok (.iconst 0, 1) := by decide +kernel
theorem d_L_law_172 : decode code 172 = .ok (.ireturn, 1) := by decide +kernel
theorem d_L_law_173 : decode code 173 = .ok (.aload_n 1, 1) := by decide +kernel
theorem d_L_law_174 : decode code 174 = .ok (.aload_n 0, 1) := by decide +kernel
theorem d_L_law_175 : decode code 175 = .ok (.iload_n 3, 1) := by decide +kernel
theorem d_L_law_176 : decode code 176 = .ok (.iconst 1, 1) := by decide +kernel
theorem d_L_law_177 : decode code 177 = .ok (.iadd, 1) := by decide +kernel
theorem d_L_law_178 : decode code 178 = .ok (.iaload, 1) := by decide +kernel
theorem d_L_law_179 : decode code 179 = .ok (.invokevirtual 20, 3) := by decide +kernel
theorem d_L_law_182 : decode code 182 = .ok (.aload_n 2, 1) := by decide +kernel
theorem d_L_law_183 : decode code 183 = .ok (.aload_n 0, 1) := by decide +kernel
theorem d_L_law_184 : decode code 184 = .ok (.iload_n 3, 1) := by decide +kernel
theorem d_L_law_185 : decode code 185 = .ok (.iconst 1, 1) := by decide +kernel
theorem d_L_law_186 : decode code 186 = .ok (.iadd, 1) := by decide +kernel
theorem d_L_law_187 : decode code 187 = .ok (.iaload, 1) := by decide +kernel
theorem d_L_law_188 : decode code 188 = .ok (.invokevirtual 24, 3) := by decide +kernel
theorem d_L_law_191 : decode code 191 = .ok (.if_icmp .eq 298, 3) := by decide +kernel
theorem d_L_law_194 : decode code 194 = .ok (.iconst 0, 1) := by decide +kernel
theorem d_L_law_195 : decode code 195 = .ok (.ireturn, 1) := by decide +kernel
theorem d_L_law_196 : decode code 196 = .ok (.aload_n 1, 1) := by decide +kernel
theorem d_L_law_197 : decode code 197 = .ok (.aload_n 0, 1) := by decide +kernel
theorem d_L_law_198 : decode code 198 = .ok (.iload_n 3, 1) := by decide +kernel
theorem d_L_law_199 : decode code 199 = .ok (.iconst 1, 1) := by decide +kernel
theorem d_L_law_200 : decode code 200 = .ok (.iadd, 1) := by decide +kernel
theorem d_L_law_201 : decode code 201 = .ok (.iaload, 1) := by decide +kernel
theorem d_L_law_202 : decode code 202 = .ok (.invokevirtual 25, 3) := by decide +kernel
theorem d_L_law_205 : decode code 205 = .ok (.aload_n 2, 1) := by decide +kernel
theorem d_L_law_206 : decode code 206 = .ok (.aload_n 0, 1) := by decide +kernel
theorem d_L_law_207 : decode code 207 = .ok (.iload_n 3, 1) := by decide +kernel
theorem d_L_law_208 : decode code 208 = .ok (.iconst 1, 1) := by decide +kernel
theorem d_L_law_209 : decode code 209 = .ok (.iadd, 1) := by decide +kernel
theorem d_L_law_210 : decode code 210 = .ok (.iaload, 1) := by decide +kernel
theorem d_L_law_211 : decode code 211 = .ok (.invokevirtual 28, 3) := by decide +kernel
theorem d_L_law_214 : decode code 214 = .ok (.if_icmp .eq 275, 3) := by decide +kernel
theorem d_L_law_217 : decode code 217 = .ok (.iconst 0, 1) := by decide +kernel
theorem d_L_law_218 : decode code 218 = .ok (.ireturn, 1) := by decide +kernel
theorem d_L_law_219 : decode code 219 = .ok (.aload_n 1, 1) := by decide +kernel
theorem d_L_law_220 : decode code 220 = .ok (.aload_n 0, 1) := by decide +kernel
theorem d_L_law_221 : decode code 221 = .ok (.iload_n 3, 1) := by decide +kernel
theorem d_L_law_222 : decode code 222 = .ok (.iconst 1, 1) := by decide +kernel
theorem d_L_law_223 : decode code 223 = .ok (.iadd, 1) := by decide +kernel
theorem d_L_law_224 : decode code 224 = .ok (.iaload, 1) := by decide +kernel
theorem d_L_law_225 : decode code 225 = .ok (.aload_n 0, 1) := by decide +kernel
theorem d_L_law_226 : decode code 226 = .ok (.iload_n 3, 1) := by decide +kernel
theorem d_L_law_227 : decode code 227 = .ok (.iconst 2, 1) := by decide +kernel
theorem d_L_law_228 : decode code 228 = .ok (.iadd, 1) := by decide +kernel
theorem d_L_law_229 : decode code 229 = .ok (.iaload, 1) := by decide +kernel
theorem d_L_law_230 : decode code 230 = .ok (.invokevirtual 29, 3) := by decide +kernel
theorem d_L_law_233 : decode code 233 = .ok (.aload_n 2, 1) := by decide +kernel
theorem d_L_law_234 : decode code 234 = .ok (.aload_n 0, 1) := by decide +kernel
theorem d_L_law_235 : decode code 235 = .ok (.iload_n 3, 1) := by decide +kernel
theorem d_L_law_236 : decode code 236 = .ok (.iconst 1, 1) := by decide +kernel
theorem d_L_law_237 : decode code 237 = .ok (.iadd, 1) := by decide +kernel
theorem d_L_law_238 : decode code 238 = .ok (.iaload, 1) := by decide +kernel
theorem d_L_law_239 : decode code 239 = .ok (.aload_n 0, 1) := by decide +kernel
theorem d_L_law_240 : decode code 240 = .ok (.iload_n 3, 1) := by decide +kernel
theorem d_L_law_241 : decode code 241 = .ok (.iconst 2, 1) := by decide +kernel
theorem d_L_law_242 : decode code 242 = .ok (.iadd, 1) := by decide +kernel
theorem d_L_law_243 : decode code 243 = .ok (.iaload, 1) := by decide +kernel
theorem d_L_law_244 : decode code 244 = .ok (.invokevirtual 33, 3) := by decide +kernel
theorem d_L_law_247 : decode code 247 = .ok (.if_icmp .eq 242, 3) := by decide +kernel
theorem d_L_law_250 : decode code 250 = .ok (.iconst 0, 1) := by decide +kernel
theorem d_L_law_251 : decode code 251 = .ok (.ireturn, 1) := by decide +kernel
theorem d_L_law_252 : decode code 252 = .ok (.aload_n 1, 1) := by decide +kernel
theorem d_L_law_253 : decode code 253 = .ok (.aload_n 0, 1) := by decide +kernel
theorem d_L_law_254 : decode code 254 = .ok (.iload_n 3, 1) := by decide +kernel
theorem d_L_law_255 : decode code 255 = .ok (.iconst 1, 1) := by decide +kernel
theorem d_L_law_256 : decode code 256 = .ok (.iadd, 1) := by decide +kernel
theorem d_L_law_257 : decode code 257 = .ok (.iaload, 1) := by decide +kernel
theorem d_L_law_258 : decode code 258 = .ok (.aload_n 0, 1) := by decide +kernel
theorem d_L_law_259 : decode code 259 = .ok (.iload_n 3, 1) := by decide +kernel
theorem d_L_law_260 : decode code 260 = .ok (.iconst 2, 1) := by decide +kernel
theorem d_L_law_261 : decode code 261 = .ok (.iadd, 1) := by decide +kernel
theorem d_L_law_262 : decode code 262 = .ok (.iaload, 1) := by decide +kernel
theorem d_L_law_263 : decode code 263 = .ok (.aload_n 0, 1) := by decide +kernel
theorem d_L_law_264 : decode code 264 = .ok (.iload_n 3, 1) := by decide +kernel
theorem d_L_law_265 : decode code 265 = .ok (.iconst 3, 1) := by decide +kernel
theorem d_L_law_266 : decode code 266 = .ok (.iadd, 1) := by decide +kernel
theorem d_L_law_267 : decode code 267 = .ok (.iaload, 1) := by decide +kernel
theorem d_L_law_268 : decode code 268 = .ok (.invokevirtual 34, 3) := by decide +kernel
theorem d_L_law_271 : decode code 271 = .ok (.aload_n 2, 1) := by decide +kernel
theorem d_L_law_272 : decode code 272 = .ok (.aload_n 0, 1) := by decide +kernel
theorem d_L_law_273 : decode code 273 = .ok (.iload_n 3, 1) := by decide +kernel
theorem d_L_law_274 : decode code 274 = .ok (.iconst 1, 1) := by decide +kernel
theorem d_L_law_275 : decode code 275 = .ok (.iadd, 1) := by decide +kernel
theorem d_L_law_276 : decode code 276 = .ok (.iaload, 1) := by decide +kernel
theorem d_L_law_277 : decode code 277 = .ok (.aload_n 0, 1) := by decide +kernel
theorem d_L_law_278 : decode code 278 = .ok (.iload_n 3, 1) := by decide +kernel
theorem d_L_law_279 : decode code 279 = .ok (.iconst 2, 1) := by decide +kernel
theorem d_L_law_280 : decode code 280 = .ok (.iadd, 1) := by decide +kernel
theorem d_L_law_281 : decode code 281 = .ok (.iaload, 1) := by decide +kernel
theorem d_L_law_282 : decode code 282 = .ok (.aload_n 0, 1) := by decide +kernel
theorem d_L_law_283 : decode code 283 = .ok (.iload_n 3, 1) := by decide +kernel
theorem d_L_law_284 : decode code 284 = .ok (.iconst 3, 1) := by decide +kernel
theorem d_L_law_285 : decode code 285 = .ok (.iadd, 1) := by decide +kernel
theorem d_L_law_286 : decode code 286 = .ok (.iaload, 1) := by decide +kernel
theorem d_L_law_287 : decode code 287 = .ok (.invokevirtual 38, 3) := by decide +kernel
theorem d_L_law_290 : decode code 290 = .ok (.if_icmp .eq 199, 3) := by decide +kernel
theorem d_L_law_293 : decode code 293 = .ok (.iconst 0, 1) := by decide +kernel
theorem d_L_law_294 : decode code 294 = .ok (.ireturn, 1) := by decide +kernel
theorem d_L_law_295 : decode code 295 = .ok (.aload_n 1, 1) := by decide +kernel
theorem d_L_law_296 : decode code 296 = .ok (.aload_n 0, 1) := by decide +kernel
theorem d_L_law_297 : decode code 297 = .ok (.iload_n 3, 1) := by decide +kernel
theorem d_L_law_298 : decode code 298 = .ok (.iconst 1, 1) := by decide +kernel
theorem d_L_law_299 : decode code 299 = .ok (.iadd, 1) := by decide +kernel
theorem d_L_law_300 : decode code 300 = .ok (.iaload, 1) := by decide +kernel
theorem d_L_law_301 : decode code 301 = .ok (.invokevirtual 39, 3) := by decide +kernel
theorem d_L_law_304 : decode code 304 = .ok (.aload_n 2, 1) := by decide +kernel
theorem d_L_law_305 : decode code 305 = .ok (.aload_n 0, 1) := by decide +kernel
theorem d_L_law_306 : decode code 306 = .ok (.iload_n 3, 1) := by decide +kernel
theorem d_L_law_307 : decode code 307 = .ok (.iconst 1, 1) := by decide +kernel
theorem d_L_law_308 : decode code 308 = .ok (.iadd, 1) := by decide +kernel
theorem d_L_law_309 : decode code 309 = .ok (.iaload, 1) := by decide +kernel
theorem d_L_law_310 : decode code 310 = .ok (.invokevirtual 42, 3) := by decide +kernel
theorem d_L_law_313 : decode code 313 = .ok (.if_icmp .eq 176, 3) := by decide +kernel
theorem d_L_law_316 : decode code 316 = .ok (.iconst 0, 1) := by decide +kernel
theorem d_L_law_317 : decode code 317 = .ok (.ireturn, 1) := by decide +kernel
theorem d_L_law_318 : decode code 318 = .ok (.aload_n 1, 1) := by decide +kernel
theorem d_L_law_319 : decode code 319 = .ok (.aload_n 0, 1) := by decide +kernel
theorem d_L_law_320 : decode code 320 = .ok (.iload_n 3, 1) := by decide +kernel
theorem d_L_law_321 : decode code 321 = .ok (.iconst 1, 1) := by decide +kernel
theorem d_L_law_322 : decode code 322 = .ok (.iadd, 1) := by decide +kernel
theorem d_L_law_323 : decode code 323 = .ok (.iaload, 1) := by decide +kernel
theorem d_L_law_324 : decode code 324 = .ok (.invokevirtual 43, 3) := by decide +kernel
theorem d_L_law_327 : decode code 327 = .ok (.aload_n 2, 1) := by decide +kernel
theorem d_L_law_328 : decode code 328 = .ok (.aload_n 0, 1) := by decide +kernel
theorem d_L_law_329 : decode code 329 = .ok (.iload_n 3, 1) := by decide +kernel
theorem d_L_law_330 : decode code 330 = .ok (.iconst 1, 1) := by decide +kernel
theorem d_L_law_331 : decode code 331 = .ok (.iadd, 1) := by decide +kernel
theorem d_L_law_332 : decode code 332 = .ok (.iaload, 1) := by decide +kernel
theorem d_L_law_333 : decode code 333 = .ok (.invokevirtual 46, 3) := by decide +kernel
theorem d_L_law_336 : decode code 336 = .ok (.if_icmp .eq 153, 3) := by decide +kernel
theorem d_L_law_339 : decode code 339 = .ok (.iconst 0, 1) := by decide +kernel
theorem d_L_law_340 : decode code 340 = .ok (.ireturn, 1) := by decide +kernel
theorem d_L_law_341 : decode code 341 = .ok (.aload_n 1, 1) := by decide +kernel
theorem d_L_law_342 : decode code 342 = .ok (.aload_n 0, 1) := by decide +kernel
theorem d_L_law_343 : decode code 343 = .ok (.iload_n 3, 1) := by decide +kernel
theorem d_L_law_344 : decode code 344 = .ok (.iconst 1, 1) := by decide +kernel
theorem d_L_law_345 : decode code 345 = .ok (.iadd, 1) := by decide +kernel
theorem d_L_law_346 : decode code 346 = .ok (.iaload, 1) := by decide +kernel
theorem d_L_law_347 : decode code 347 = .ok (.i2l, 1) := by decide +kernel
theorem d_L_law_348 : decode code 348 = .ok (.bipush 32, 2) := by decide +kernel
theorem d_L_law_350 : decode code 350 = .ok (.lshl, 1) := by decide +kernel
theorem d_L_law_351 : decode code 351 = .ok (.aload_n 0, 1) := by decide +kernel
theorem d_L_law_352 : decode code 352 = .ok (.iload_n 3, 1) := by decide +kernel
theorem d_L_law_353 : decode code 353 = .ok (.iconst 2, 1) := by decide +kernel
theorem d_L_law_354 : decode code 354 = .ok (.iadd, 1) := by decide +kernel
theorem d_L_law_355 : decode code 355 = .ok (.iaload, 1) := by decide +kernel
theorem d_L_law_356 : decode code 356 = .ok (.i2l, 1) := by decide +kernel
theorem d_L_law_357 : decode code 357 = .ok (.ldc2_w 13, 3) := by decide +kernel
theorem d_L_law_360 : decode code 360 = .ok (.land, 1) := by decide +kernel
theorem d_L_law_361 : decode code 361 = .ok (.lor, 1) := by decide +kernel
theorem d_L_law_362 : decode code 362 = .ok (.aload_n 0, 1) := by decide +kernel
theorem d_L_law_363 : decode code 363 = .ok (.iload_n 3, 1) := by decide +kernel
theorem d_L_law_364 : decode code 364 = .ok (.iconst 3, 1) := by decide +kernel
theorem d_L_law_365 : decode code 365 = .ok (.iadd, 1) := by decide +kernel
theorem d_L_law_366 : decode code 366 = .ok (.iaload, 1) := by decide +kernel
theorem d_L_law_367 : decode code 367 = .ok (.invokevirtual 47, 3) := by decide +kernel
theorem d_L_law_370 : decode code 370 = .ok (.aload_n 2, 1) := by decide +kernel
theorem d_L_law_371 : decode code 371 = .ok (.aload_n 0, 1) := by decide +kernel
theorem d_L_law_372 : decode code 372 = .ok (.iload_n 3, 1) := by decide +kernel
theorem d_L_law_373 : decode code 373 = .ok (.iconst 1, 1) := by decide +kernel
theorem d_L_law_374 : decode code 374 = .ok (.iadd, 1) := by decide +kernel
theorem d_L_law_375 : decode code 375 = .ok (.iaload, 1) := by decide +kernel
theorem d_L_law_376 : decode code 376 = .ok (.i2l, 1) := by decide +kernel
theorem d_L_law_377 : decode code 377 = .ok (.bipush 32, 2) := by decide +kernel
theorem d_L_law_379 : decode code 379 = .ok (.lshl, 1) := by decide +kernel
theorem d_L_law_380 : decode code 380 = .ok (.aload_n 0, 1) := by decide +kernel
theorem d_L_law_381 : decode code 381 = .ok (.iload_n 3, 1) := by decide +kernel
theorem d_L_law_382 : decode code 382 = .ok (.iconst 2, 1) := by decide +kernel
theorem d_L_law_383 : decode code 383 = .ok (.iadd, 1) := by decide +kernel
theorem d_L_law_384 : decode code 384 = .ok (.iaload, 1) := by decide +kernel
theorem d_L_law_385 : decode code 385 = .ok (.i2l, 1) := by decide +kernel
theorem d_L_law_386 : decode code 386 = .ok (.ldc2_w 13, 3) := by decide +kernel
theorem d_L_law_389 : decode code 389 = .ok (.land, 1) := by decide +kernel
theorem d_L_law_390 : decode code 390 = .ok (.lor, 1) := by decide +kernel
theorem d_L_law_391 : decode code 391 = .ok (.aload_n 0, 1) := by decide +kernel
theorem d_L_law_392 : decode code 392 = .ok (.iload_n 3, 1) := by decide +kernel
theorem d_L_law_393 : decode code 393 = .ok (.iconst 3, 1) := by decide +kernel
theorem d_L_law_394 : decode code 394 = .ok (.iadd, 1) := by decide +kernel
theorem d_L_law_395 : decode code 395 = .ok (.iaload, 1) := by decide +kernel
theorem d_L_law_396 : decode code 396 = .ok (.invokevirtual 51, 3) := by decide +kernel
theorem d_L_law_399 : decode code 399 = .ok (.if_icmp .eq 90, 3) := by decide +kernel
theorem d_L_law_402 : decode code 402 = .ok (.iconst 0, 1) := by decide +kernel
theorem d_L_law_403 : decode code 403 = .ok (.ireturn, 1) := by decide +kernel
theorem d_L_law_404 : decode code 404 = .ok (.aload_n 1, 1) := by decide +kernel
theorem d_L_law_405 : decode code 405 = .ok (.invokevirtual 52, 3) := by decide +kernel
theorem d_L_law_408 : decode code 408 = .ok (.aload_n 2, 1) := by decide +kernel
theorem d_L_law_409 : decode code 409 = .ok (.invokevirtual 56, 3) := by decide +kernel
theorem d_L_law_412 : decode code 412 = .ok (.if_icmp .eq 77, 3) := by decide +kernel
theorem d_L_law_415 : decode code 415 = .ok (.iconst 0, 1) := by decide +kernel
theorem d_L_law_416 : decode code 416 = .ok (.ireturn, 1) := by decide +kernel
theorem d_L_law_417 : decode code 417 = .ok (.aload_n 1, 1) := by decide +kernel
theorem d_L_law_418 : decode code 418 = .ok (.aload_n 0, 1) := by decide +kernel
theorem d_L_law_419 : decode code 419 = .ok (.iload_n 3, 1) := by decide +kernel
theorem d_L_law_420 : decode code 420 = .ok (.iconst 1, 1) := by decide +kernel
theorem d_L_law_421 : decode code 421 = .ok (.iadd, 1) := by decide +kernel
theorem d_L_law_422 : decode code 422 = .ok (.iaload, 1) := by decide +kernel
theorem d_L_law_423 : decode code 423 = .ok (.invokevirtual 57, 3) := by decide +kernel
theorem d_L_law_426 : decode code 426 = .ok (.aload_n 2, 1) := by decide +kernel
theorem d_L_law_427 : decode code 427 = .ok (.aload_n 0, 1) := by decide +kernel
theorem d_L_law_428 : decode code 428 = .ok (.iload_n 3, 1) := by decide +kernel
theorem d_L_law_429 : decode code 429 = .ok (.iconst 1, 1) := by decide +kernel
theorem d_L_law_430 : decode code 430 = .ok (.iadd, 1) := by decide +kernel
theorem d_L_law_431 : decode code 431 = .ok (.iaload, 1) := by decide +kernel
theorem d_L_law_432 : decode code 432 = .ok (.invokevirtual 60, 3) := by decide +kernel
theorem d_L_law_435 : decode code 435 = .ok (.if_icmp .eq 54, 3) := by decide +kernel
theorem d_L_law_438 : decode code 438 = .ok (.iconst 0, 1) := by decide +kernel
theorem d_L_law_439 : decode code 439 = .ok (.ireturn, 1) := by decide +kernel
theorem d_L_law_440 : decode code 440 = .ok (.aload_n 1, 1) := by decide +kernel
theorem d_L_law_441 : decode code 441 = .ok (.invokevirtual 61, 3) := by decide +kernel
theorem d_L_law_444 : decode code 444 = .ok (.aload_n 2, 1) := by decide +kernel
theorem d_L_law_445 : decode code 445 = .ok (.invokevirtual 64, 3) := by decide +kernel
theorem d_L_law_448 : decode code 448 = .ok (.if_icmp .eq 41, 3) := by decide +kernel
theorem d_L_law_451 : decode code 451 = .ok (.iconst 0, 1) := by decide +kernel
theorem d_L_law_452 : decode code 452 = .ok (.ireturn, 1) := by decide +kernel
theorem d_L_law_453 : decode code 453 = .ok (.aload_n 1, 1) := by decide +kernel
theorem d_L_law_454 : decode code 454 = .ok (.aload_n 0, 1) := by decide +kernel
theorem d_L_law_455 : decode code 455 = .ok (.iload_n 3, 1) := by decide +kernel
theorem d_L_law_456 : decode code 456 = .ok (.iconst 1, 1) := by decide +kernel
theorem d_L_law_457 : decode code 457 = .ok (.iadd, 1) := by decide +kernel
theorem d_L_law_458 : decode code 458 = .ok (.iaload, 1) := by decide +kernel
theorem d_L_law_459 : decode code 459 = .ok (.invokevirtual 65, 3) := by decide +kernel
theorem d_L_law_462 : decode code 462 = .ok (.aload_n 2, 1) := by decide +kernel
theorem d_L_law_463 : decode code 463 = .ok (.aload_n 0, 1) := by decide +kernel
theorem d_L_law_464 : decode code 464 = .ok (.iload_n 3, 1) := by decide +kernel
theorem d_L_law_465 : decode code 465 = .ok (.iconst 1, 1) := by decide +kernel
theorem d_L_law_466 : decode code 466 = .ok (.iadd, 1) := by decide +kernel
theorem d_L_law_467 : decode code 467 = .ok (.iaload, 1) := by decide +kernel
theorem d_L_law_468 : decode code 468 = .ok (.invokevirtual 68, 3) := by decide +kernel
theorem d_L_law_471 : decode code 471 = .ok (.if_icmp .eq 18, 3) := by decide +kernel
theorem d_L_law_474 : decode code 474 = .ok (.iconst 0, 1) := by decide +kernel
theorem d_L_law_475 : decode code 475 = .ok (.ireturn, 1) := by decide +kernel
theorem d_L_law_476 : decode code 476 = .ok (.aload_n 1, 1) := by decide +kernel
theorem d_L_law_477 : decode code 477 = .ok (.invokevirtual 69, 3) := by decide +kernel
theorem d_L_law_480 : decode code 480 = .ok (.aload_n 2, 1) := by decide +kernel
theorem d_L_law_481 : decode code 481 = .ok (.invokevirtual 72, 3) := by decide +kernel
theorem d_L_law_484 : decode code 484 = .ok (.if_icmp .eq 5, 3) := by decide +kernel
theorem d_L_law_487 : decode code 487 = .ok (.iconst 0, 1) := by decide +kernel
theorem d_L_law_488 : decode code 488 = .ok (.ireturn, 1) := by decide +kernel
theorem d_L_law_489 : decode code 489 = .ok (.iinc 3 5, 3) := by decide +kernel
theorem d_L_law_492 : decode code 492 = .ok (.goto (-474), 3) := by decide +kernel
theorem d_L_law_495 : decode code 495 = .ok (.iconst 1, 1) := by decide +kernel
theorem d_L_law_496 : decode code 496 = .ok (.ireturn, 1) := by decide +kernel
end
section
def isB (v : Int32) : Prop := narrow .boolean (.int v) = .int v ∧ fits .boolean (.int v) = true
theorem isB_0 : isB 0 := ⟨rfl, rfl⟩
theorem isB_1 : isB 1 := ⟨rfl, rfl⟩
theorem vp_lt {i : Int32} {n : Nat} (h : vp_in i n) : i.toNatClampNeg < n := Nat.not_le.mp fun q => h (Or.inr q)
/-- the kinds of objects that come more than once: a text, a comparison, a range, a part -/
def isT (k : Nat) : Prop := lp_sh[k]? = some (.inr (1, [some (k + 1), none])) ∧ lp_sh[k + 1]? = some (.inl (24, none))
def isC (k : Nat) : Prop := lp_sh[k]? = some (.inr (2, [some (k + 1), some (k + 3), some (k + 5), none])) ∧ lp_sh[k + 1]? = some (.inr (1, [some (k + 2), none])) ∧ lp_sh[k + 2]? = some (.inl (24, none)) ∧ lp_sh[k + 3]? = some (.inr (1, [some (k + 4), none])) ∧ lp_sh[k + 4]? = some (.inl (24, none)) ∧ lp_sh[k + 5]? = some (.inl (24, none))
def isR (k : Nat) : Prop := lp_sh[k]? = some (.inr (3, [none, none, none, none]))
def isQ (k t : Nat) : Prop := lp_sh[k]? = some (.inr (10, [some t, none, none])) ∧ lp_sh[t]? = some (.inr (1, [some (t + 1), none])) ∧ lp_sh[t + 1]? = some (.inl (24, none))
section LPD
variable {g : lp_G} {u : lp_M} {M : lp_O} {cells slots pc : Nat} {lv : List (Nat × Value)} {st : List Value} {S : SS}
theorem sa_putIn {index ci j k : Nat} {T : List (Option Nat)} {v : Int32} (hf : lp_Fp u.1.cls index ci j .int false) (hd : decode u.2.1 pc = .ok (.putfield index, 3)) (hs : lp_sh[k]? = some (.inr (ci, T))) (hT : T[j]? = some none) (kk : ∀ S' : SS, S' = setI S k j v → Ab g u M cells slots (pc + 3) lv st (wc g S')) : Ab g u M cells slots pc lv (.int v :: .ref (g.2.1 + k) :: st) (wc g S) :=
  sa_putI hf hd hs hT (kk _ rfl)
theorem sa_putZn {index ci j k : Nat} {T : List (Option Nat)} {v : Int32} (hf : lp_Fp u.1.cls index ci j .boolean false) (hd : decode u.2.1 pc = .ok (.putfield index, 3)) (hs : lp_sh[k]? = some (.inr (ci, T))) (hT : T[j]? = some none) (hn : isB v) (kk : ∀ S' : SS, S' = setI S k j v → Ab g u M cells slots (pc + 3) lv st (wc g S')) : Ab g u M cells slots pc lv (.int v :: .ref (g.2.1 + k) :: st) (wc g S) :=
  sa_putZ hf hd hs hT hn.1 hn.2 (kk _ rfl)
theorem sa_iastn {k n : Nat} {i x : Int32} (hd : decode u.2.1 pc = .ok (.iastore, 1)) (hs : lp_sh[k]? = some (.inl (n, none))) (hin : vp_in i n) (kk : ∀ S' : SS, S' = setA S k i.toNatClampNeg x → Ab g u M cells slots (pc + 1) lv st (wc g S')) : Ab g u M cells slots pc lv (.int x :: .int i :: .ref (g.2.1 + k) :: st) (wc g S) :=
  sa_iast hd hs hin (kk _ rfl)
theorem sa_mmax {index d : Nat} {x y : Int32} (hcw : lp_cM u.1.cls index Lib.Math.max.name Lib.Math.max.code 2) (hd : decode u.2.1 pc = .ok (.invokestatic index, 3)) (hE : lp_en M (d + 1)) (hrs : (st.map fun v => v.category).sum ≤ 8) (hC : cells ≤ M.1.cells ∧ slots ≤ M.1.slots) (kk : Ab g u M cells slots (pc + 3) lv (.int (if x < y then y else x) :: st) (wc g S)) : Ab g u M cells slots pc lv (.int y :: .int x :: st) (wc g S) :=
  ab_mmax hcw hd (Nat.le_trans (Nat.le_add_left _ _) hE.1) (by have := hE.2; omega) hC kk
theorem sa_mmin {index d : Nat} {x y : Int32} (hcw : lp_cM u.1.cls index Lib.Math.min.name Lib.Math.min.code 2) (hd : decode u.2.1 pc = .ok (.invokestatic index, 3)) (hE : lp_en M (d + 1)) (hrs : (st.map fun v => v.category).sum ≤ 8) (hC : cells ≤ M.1.cells ∧ slots ≤ M.1.slots) (kk : Ab g u M cells slots (pc + 3) lv (.int (if y < x then y else x) :: st) (wc g S)) : Ab g u M cells slots pc lv (.int y :: .int x :: st) (wc g S) :=
  ab_mmin hcw hd (Nat.le_trans (Nat.le_add_left _ _) hE.1) (by have := hE.2; omega) hC kk
theorem sa_mabs {index d : Nat} {x : Int32} (hcw : lp_cM u.1.cls index Lib.Math.abs.name Lib.Math.abs.code 1) (hd : decode u.2.1 pc = .ok (.invokestatic index, 3)) (hE : lp_en M (d + 1)) (hrs : (st.map fun v => v.category).sum ≤ 8) (hC : cells ≤ M.1.cells ∧ slots ≤ M.1.slots) (kk : Ab g u M cells slots (pc + 3) lv (.int (if 0 ≤ x then x else 0 - x) :: st) (wc g S)) : Ab g u M cells slots pc lv (.int x :: st) (wc g S) :=
  ab_mabs hcw hd (Nat.le_trans (Nat.le_add_left _ _) hE.1) (by have := hE.2; omega) hC kk
end LPD
end

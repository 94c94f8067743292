section
-- ===== PART A: goes FIRST, ahead of the names: the tables' words, and 'selects' of the private methods out of them =====
/-- a private method of a class that the tables say can be made, by its rows of tables_1 -/
def lw_okq (q : MethodName × Nat) : Prop := (q.1.cls ≠ "java/lang/invoke/MethodHandle" ∧ q.1.cls ≠ "java/lang/invoke/VarHandle") ∧ Cond.instantiable q.1.cls q.2 ∈ tables_1 ∧ Cond.privateMethod q.1 ∈ tables_1 ∧ Cond.instanceMethod q.1 ∈ tables_1
theorem lw_p0 : lw_okq (⟨"LinePatcher$Shortest", "countMost", "(LLinePatcher$Comparison;LLinePatcher$Range;)V"⟩, 2) := ⟨⟨by decide +kernel, by decide +kernel⟩, List.mem_of_getElem? (i := 81) (by decide +kernel), List.mem_of_getElem? (i := 407) (by decide +kernel), List.mem_of_getElem? (i := 408) (by decide +kernel)⟩
theorem lw_p1 : lw_okq (⟨"LinePatcher$StandingOut", "keepForLater", "(IIII)V"⟩, 7) := ⟨⟨by decide +kernel, by decide +kernel⟩, List.mem_of_getElem? (i := 127) (by decide +kernel), List.mem_of_getElem? (i := 426) (by decide +kernel), List.mem_of_getElem? (i := 427) (by decide +kernel)⟩
theorem lw_p2 : lw_okq (⟨"LinePatcher$StandingOut", "matchRange", "(LLinePatcher$Comparison;LLinePatcher$Range;)V"⟩, 7) := ⟨⟨by decide +kernel, by decide +kernel⟩, List.mem_of_getElem? (i := 127) (by decide +kernel), List.mem_of_getElem? (i := 431) (by decide +kernel), List.mem_of_getElem? (i := 432) (by decide +kernel)⟩
theorem lw_p3 : lw_okq (⟨"LinePatcher$StandingOut", "matchBeginning", "(LLinePatcher$Comparison;LLinePatcher$Range;)V"⟩, 7) := ⟨⟨by decide +kernel, by decide +kernel⟩, List.mem_of_getElem? (i := 127) (by decide +kernel), List.mem_of_getElem? (i := 435) (by decide +kernel), List.mem_of_getElem? (i := 436) (by decide +kernel)⟩
theorem lw_p4 : lw_okq (⟨"LinePatcher$StandingOut", "matchEnd", "(LLinePatcher$Comparison;LLinePatcher$Range;)V"⟩, 7) := ⟨⟨by decide +kernel, by decide +kernel⟩, List.mem_of_getElem? (i := 127) (by decide +kernel), List.mem_of_getElem? (i := 441) (by decide +kernel), List.mem_of_getElem? (i := 442) (by decide +kernel)⟩
theorem lw_p5 : lw_okq (⟨"LinePatcher$StandingOut", "findPairs", "(LLinePatcher$Comparison;LLinePatcher$Range;)V"⟩, 7) := ⟨⟨by decide +kernel, by decide +kernel⟩, List.mem_of_getElem? (i := 127) (by decide +kernel), List.mem_of_getElem? (i := 445) (by decide +kernel), List.mem_of_getElem? (i := 446) (by decide +kernel)⟩
theorem lw_p6 : lw_okq (⟨"LinePatcher$StandingOut", "rankPairs", "()I"⟩, 7) := ⟨⟨by decide +kernel, by decide +kernel⟩, List.mem_of_getElem? (i := 127) (by decide +kernel), List.mem_of_getElem? (i := 454) (by decide +kernel), List.mem_of_getElem? (i := 455) (by decide +kernel)⟩
theorem lw_p7 : lw_okq (⟨"LinePatcher$StandingOut", "matchAnchors", "(LLinePatcher$Comparison;LLinePatcher$Range;I)V"⟩, 7) := ⟨⟨by decide +kernel, by decide +kernel⟩, List.mem_of_getElem? (i := 127) (by decide +kernel), List.mem_of_getElem? (i := 459) (by decide +kernel), List.mem_of_getElem? (i := 460) (by decide +kernel)⟩
theorem lw_p8 : lw_okq (⟨"LinePatcher$PatchWriter", "findChanges", "()V"⟩, 4) := ⟨⟨by decide +kernel, by decide +kernel⟩, List.mem_of_getElem? (i := 176) (by decide +kernel), List.mem_of_getElem? (i := 483) (by decide +kernel), List.mem_of_getElem? (i := 484) (by decide +kernel)⟩
theorem lw_p9 : lw_okq (⟨"LinePatcher$PatchWriter", "keepChange", "(IIII)V"⟩, 4) := ⟨⟨by decide +kernel, by decide +kernel⟩, List.mem_of_getElem? (i := 176) (by decide +kernel), List.mem_of_getElem? (i := 488) (by decide +kernel), List.mem_of_getElem? (i := 489) (by decide +kernel)⟩
theorem lw_p10 : lw_okq (⟨"LinePatcher$PatchWriter", "matchedBehind", "(I)I"⟩, 4) := ⟨⟨by decide +kernel, by decide +kernel⟩, List.mem_of_getElem? (i := 176) (by decide +kernel), List.mem_of_getElem? (i := 493) (by decide +kernel), List.mem_of_getElem? (i := 494) (by decide +kernel)⟩
theorem lw_p11 : lw_okq (⟨"LinePatcher$PatchWriter", "writeHunk", "(III)V"⟩, 4) := ⟨⟨by decide +kernel, by decide +kernel⟩, List.mem_of_getElem? (i := 176) (by decide +kernel), List.mem_of_getElem? (i := 497) (by decide +kernel), List.mem_of_getElem? (i := 498) (by decide +kernel)⟩
theorem lw_p12 : lw_okq (⟨"LinePatcher$PatchWriter", "matchedBefore", "(I)I"⟩, 4) := ⟨⟨by decide +kernel, by decide +kernel⟩, List.mem_of_getElem? (i := 176) (by decide +kernel), List.mem_of_getElem? (i := 501) (by decide +kernel), List.mem_of_getElem? (i := 502) (by decide +kernel)⟩
theorem lw_p13 : lw_okq (⟨"LinePatcher$PatchWriter", "writeHead", "(IIII)V"⟩, 4) := ⟨⟨by decide +kernel, by decide +kernel⟩, List.mem_of_getElem? (i := 176) (by decide +kernel), List.mem_of_getElem? (i := 508) (by decide +kernel), List.mem_of_getElem? (i := 509) (by decide +kernel)⟩
theorem lw_p14 : lw_okq (⟨"LinePatcher$PatchWriter", "writeLines", "(ILLinePatcher$Text;II)V"⟩, 4) := ⟨⟨by decide +kernel, by decide +kernel⟩, List.mem_of_getElem? (i := 176) (by decide +kernel), List.mem_of_getElem? (i := 521) (by decide +kernel), List.mem_of_getElem? (i := 522) (by decide +kernel)⟩
theorem lw_p15 : lw_okq (⟨"LinePatcher$PatchReader", "takeHead", "()Z"⟩, 9) := ⟨⟨by decide +kernel, by decide +kernel⟩, List.mem_of_getElem? (i := 197) (by decide +kernel), List.mem_of_getElem? (i := 562) (by decide +kernel), List.mem_of_getElem? (i := 563) (by decide +kernel)⟩
def lw_privs_1 : List (MethodName × Nat) := [(⟨"LinePatcher$Shortest", "countMost", "(LLinePatcher$Comparison;LLinePatcher$Range;)V"⟩, 2), (⟨"LinePatcher$StandingOut", "keepForLater", "(IIII)V"⟩, 7), (⟨"LinePatcher$StandingOut", "matchRange", "(LLinePatcher$Comparison;LLinePatcher$Range;)V"⟩, 7), (⟨"LinePatcher$StandingOut", "matchBeginning", "(LLinePatcher$Comparison;LLinePatcher$Range;)V"⟩, 7), (⟨"LinePatcher$StandingOut", "matchEnd", "(LLinePatcher$Comparison;LLinePatcher$Range;)V"⟩, 7), (⟨"LinePatcher$StandingOut", "findPairs", "(LLinePatcher$Comparison;LLinePatcher$Range;)V"⟩, 7), (⟨"LinePatcher$StandingOut", "rankPairs", "()I"⟩, 7), (⟨"LinePatcher$StandingOut", "matchAnchors", "(LLinePatcher$Comparison;LLinePatcher$Range;I)V"⟩, 7), (⟨"LinePatcher$PatchWriter", "findChanges", "()V"⟩, 4), (⟨"LinePatcher$PatchWriter", "keepChange", "(IIII)V"⟩, 4), (⟨"LinePatcher$PatchWriter", "matchedBehind", "(I)I"⟩, 4), (⟨"LinePatcher$PatchWriter", "writeHunk", "(III)V"⟩, 4), (⟨"LinePatcher$PatchWriter", "matchedBefore", "(I)I"⟩, 4), (⟨"LinePatcher$PatchWriter", "writeHead", "(IIII)V"⟩, 4), (⟨"LinePatcher$PatchWriter", "writeLines", "(ILLinePatcher$Text;II)V"⟩, 4), (⟨"LinePatcher$PatchReader", "takeHead", "()Z"⟩, 9)]
theorem lw_r1 : ∀ q ∈ lw_privs_1, lw_okq q := List.forall_mem_cons.mpr ⟨lw_p0, List.forall_mem_cons.mpr ⟨lw_p1, List.forall_mem_cons.mpr ⟨lw_p2, List.forall_mem_cons.mpr ⟨lw_p3, List.forall_mem_cons.mpr ⟨lw_p4, List.forall_mem_cons.mpr ⟨lw_p5, List.forall_mem_cons.mpr ⟨lw_p6, List.forall_mem_cons.mpr ⟨lw_p7, List.forall_mem_cons.mpr ⟨lw_p8, List.forall_mem_cons.mpr ⟨lw_p9, List.forall_mem_cons.mpr ⟨lw_p10, List.forall_mem_cons.mpr ⟨lw_p11, List.forall_mem_cons.mpr ⟨lw_p12, List.forall_mem_cons.mpr ⟨lw_p13, List.forall_mem_cons.mpr ⟨lw_p14, List.forall_mem_cons.mpr ⟨lw_p15, fun _ h => absurd h List.not_mem_nil⟩⟩⟩⟩⟩⟩⟩⟩⟩⟩⟩⟩⟩⟩⟩⟩
theorem lw_p16 : lw_okq (⟨"LinePatcher$PatchReader", "takeSign", "(I)Z"⟩, 9) := ⟨⟨by decide +kernel, by decide +kernel⟩, List.mem_of_getElem? (i := 197) (by decide +kernel), List.mem_of_getElem? (i := 566) (by decide +kernel), List.mem_of_getElem? (i := 567) (by decide +kernel)⟩
theorem lw_p17 : lw_okq (⟨"LinePatcher$PatchReader", "here", "()I"⟩, 9) := ⟨⟨by decide +kernel, by decide +kernel⟩, List.mem_of_getElem? (i := 197) (by decide +kernel), List.mem_of_getElem? (i := 570) (by decide +kernel), List.mem_of_getElem? (i := 571) (by decide +kernel)⟩
theorem lw_p18 : lw_okq (⟨"LinePatcher$PatchReader", "takeNumber", "()I"⟩, 9) := ⟨⟨by decide +kernel, by decide +kernel⟩, List.mem_of_getElem? (i := 197) (by decide +kernel), List.mem_of_getElem? (i := 574) (by decide +kernel), List.mem_of_getElem? (i := 575) (by decide +kernel)⟩
theorem lw_p19 : lw_okq (⟨"LinePatcher$PatchReader", "takeLines", "()Z"⟩, 9) := ⟨⟨by decide +kernel, by decide +kernel⟩, List.mem_of_getElem? (i := 197) (by decide +kernel), List.mem_of_getElem? (i := 581) (by decide +kernel), List.mem_of_getElem? (i := 582) (by decide +kernel)⟩
theorem lw_p20 : lw_okq (⟨"LinePatcher$PatchReader", "hasLinesDue", "()Z"⟩, 9) := ⟨⟨by decide +kernel, by decide +kernel⟩, List.mem_of_getElem? (i := 197) (by decide +kernel), List.mem_of_getElem? (i := 585) (by decide +kernel), List.mem_of_getElem? (i := 586) (by decide +kernel)⟩
theorem lw_p21 : lw_okq (⟨"LinePatcher$PatchReader", "takeLine", "()Z"⟩, 9) := ⟨⟨by decide +kernel, by decide +kernel⟩, List.mem_of_getElem? (i := 197) (by decide +kernel), List.mem_of_getElem? (i := 589) (by decide +kernel), List.mem_of_getElem? (i := 590) (by decide +kernel)⟩
theorem lw_p22 : lw_okq (⟨"LinePatcher$PatchFitter", "nearestPlace", "(LLinePatcher$Text;I)I"⟩, 2) := ⟨⟨by decide +kernel, by decide +kernel⟩, List.mem_of_getElem? (i := 236) (by decide +kernel), List.mem_of_getElem? (i := 605) (by decide +kernel), List.mem_of_getElem? (i := 606) (by decide +kernel)⟩
theorem lw_p23 : lw_okq (⟨"LinePatcher$PatchFitter", "distance", "(I)I"⟩, 2) := ⟨⟨by decide +kernel, by decide +kernel⟩, List.mem_of_getElem? (i := 236) (by decide +kernel), List.mem_of_getElem? (i := 609) (by decide +kernel), List.mem_of_getElem? (i := 610) (by decide +kernel)⟩
theorem lw_p24 : lw_okq (⟨"LinePatcher$PatchFitter", "fitsAt", "(LLinePatcher$Text;I)Z"⟩, 2) := ⟨⟨by decide +kernel, by decide +kernel⟩, List.mem_of_getElem? (i := 236) (by decide +kernel), List.mem_of_getElem? (i := 616) (by decide +kernel), List.mem_of_getElem? (i := 617) (by decide +kernel)⟩
theorem lw_p25 : lw_okq (⟨"LinePatcher$PatchFitter", "appendNewLines", "()V"⟩, 2) := ⟨⟨by decide +kernel, by decide +kernel⟩, List.mem_of_getElem? (i := 236) (by decide +kernel), List.mem_of_getElem? (i := 621) (by decide +kernel), List.mem_of_getElem? (i := 622) (by decide +kernel)⟩
theorem lw_p26 : lw_okq (⟨"LinePatcher$Merger", "settleParts", "(III)V"⟩, 9) := ⟨⟨by decide +kernel, by decide +kernel⟩, List.mem_of_getElem? (i := 251) (by decide +kernel), List.mem_of_getElem? (i := 638) (by decide +kernel), List.mem_of_getElem? (i := 639) (by decide +kernel)⟩
theorem lw_p27 : lw_okq (⟨"LinePatcher$Merger", "putPart", "(LLinePatcher$Part;)V"⟩, 9) := ⟨⟨by decide +kernel, by decide +kernel⟩, List.mem_of_getElem? (i := 251) (by decide +kernel), List.mem_of_getElem? (i := 646) (by decide +kernel), List.mem_of_getElem? (i := 647) (by decide +kernel)⟩
theorem lw_p28 : lw_okq (⟨"LinePatcher$Merger", "put", "(I)V"⟩, 9) := ⟨⟨by decide +kernel, by decide +kernel⟩, List.mem_of_getElem? (i := 251) (by decide +kernel), List.mem_of_getElem? (i := 650) (by decide +kernel), List.mem_of_getElem? (i := 651) (by decide +kernel)⟩
theorem lw_p29 : lw_okq (⟨"LinePatcher$Merger", "putConflict", "()V"⟩, 9) := ⟨⟨by decide +kernel, by decide +kernel⟩, List.mem_of_getElem? (i := 251) (by decide +kernel), List.mem_of_getElem? (i := 655) (by decide +kernel), List.mem_of_getElem? (i := 656) (by decide +kernel)⟩
theorem lw_p30 : lw_okq (⟨"LinePatcherModel", "allLetters", "(I)Z"⟩, 38) := ⟨⟨by decide +kernel, by decide +kernel⟩, List.mem_of_getElem? (i := 668) (by decide +kernel), List.mem_of_getElem? (i := 815) (by decide +kernel), List.mem_of_getElem? (i := 816) (by decide +kernel)⟩
theorem lw_p31 : lw_okq (⟨"LinePatcherModel", "take", "(II)V"⟩, 38) := ⟨⟨by decide +kernel, by decide +kernel⟩, List.mem_of_getElem? (i := 668) (by decide +kernel), List.mem_of_getElem? (i := 819) (by decide +kernel), List.mem_of_getElem? (i := 820) (by decide +kernel)⟩
def lw_privs_2 : List (MethodName × Nat) := [(⟨"LinePatcher$PatchReader", "takeSign", "(I)Z"⟩, 9), (⟨"LinePatcher$PatchReader", "here", "()I"⟩, 9), (⟨"LinePatcher$PatchReader", "takeNumber", "()I"⟩, 9), (⟨"LinePatcher$PatchReader", "takeLines", "()Z"⟩, 9), (⟨"LinePatcher$PatchReader", "hasLinesDue", "()Z"⟩, 9), (⟨"LinePatcher$PatchReader", "takeLine", "()Z"⟩, 9), (⟨"LinePatcher$PatchFitter", "nearestPlace", "(LLinePatcher$Text;I)I"⟩, 2), (⟨"LinePatcher$PatchFitter", "distance", "(I)I"⟩, 2), (⟨"LinePatcher$PatchFitter", "fitsAt", "(LLinePatcher$Text;I)Z"⟩, 2), (⟨"LinePatcher$PatchFitter", "appendNewLines", "()V"⟩, 2), (⟨"LinePatcher$Merger", "settleParts", "(III)V"⟩, 9), (⟨"LinePatcher$Merger", "putPart", "(LLinePatcher$Part;)V"⟩, 9), (⟨"LinePatcher$Merger", "put", "(I)V"⟩, 9), (⟨"LinePatcher$Merger", "putConflict", "()V"⟩, 9), (⟨"LinePatcherModel", "allLetters", "(I)Z"⟩, 38), (⟨"LinePatcherModel", "take", "(II)V"⟩, 38)]
theorem lw_r2 : ∀ q ∈ lw_privs_2, lw_okq q := List.forall_mem_cons.mpr ⟨lw_p16, List.forall_mem_cons.mpr ⟨lw_p17, List.forall_mem_cons.mpr ⟨lw_p18, List.forall_mem_cons.mpr ⟨lw_p19, List.forall_mem_cons.mpr ⟨lw_p20, List.forall_mem_cons.mpr ⟨lw_p21, List.forall_mem_cons.mpr ⟨lw_p22, List.forall_mem_cons.mpr ⟨lw_p23, List.forall_mem_cons.mpr ⟨lw_p24, List.forall_mem_cons.mpr ⟨lw_p25, List.forall_mem_cons.mpr ⟨lw_p26, List.forall_mem_cons.mpr ⟨lw_p27, List.forall_mem_cons.mpr ⟨lw_p28, List.forall_mem_cons.mpr ⟨lw_p29, List.forall_mem_cons.mpr ⟨lw_p30, List.forall_mem_cons.mpr ⟨lw_p31, fun _ h => absurd h List.not_mem_nil⟩⟩⟩⟩⟩⟩⟩⟩⟩⟩⟩⟩⟩⟩⟩⟩
theorem lw_p32 : lw_okq (⟨"LinePatcherModel", "compareAll", "(I)V"⟩, 38) := ⟨⟨by decide +kernel, by decide +kernel⟩, List.mem_of_getElem? (i := 668) (by decide +kernel), List.mem_of_getElem? (i := 823) (by decide +kernel), List.mem_of_getElem? (i := 824) (by decide +kernel)⟩
theorem lw_p33 : lw_okq (⟨"LinePatcherModel", "compareShort", "(IIII)V"⟩, 38) := ⟨⟨by decide +kernel, by decide +kernel⟩, List.mem_of_getElem? (i := 668) (by decide +kernel), List.mem_of_getElem? (i := 827) (by decide +kernel), List.mem_of_getElem? (i := 828) (by decide +kernel)⟩
theorem lw_p34 : lw_okq (⟨"LinePatcherModel", "await", "(IIII)V"⟩, 38) := ⟨⟨by decide +kernel, by decide +kernel⟩, List.mem_of_getElem? (i := 668) (by decide +kernel), List.mem_of_getElem? (i := 831) (by decide +kernel), List.mem_of_getElem? (i := 832) (by decide +kernel)⟩
theorem lw_p35 : lw_okq (⟨"LinePatcherModel", "standOut", "(IIII)V"⟩, 38) := ⟨⟨by decide +kernel, by decide +kernel⟩, List.mem_of_getElem? (i := 668) (by decide +kernel), List.mem_of_getElem? (i := 835) (by decide +kernel), List.mem_of_getElem? (i := 836) (by decide +kernel)⟩
theorem lw_p36 : lw_okq (⟨"LinePatcherModel", "findRanks", "(IIII)I"⟩, 38) := ⟨⟨by decide +kernel, by decide +kernel⟩, List.mem_of_getElem? (i := 668) (by decide +kernel), List.mem_of_getElem? (i := 839) (by decide +kernel), List.mem_of_getElem? (i := 840) (by decide +kernel)⟩
theorem lw_p37 : lw_okq (⟨"LinePatcherModel", "partner", "(IIIII)I"⟩, 38) := ⟨⟨by decide +kernel, by decide +kernel⟩, List.mem_of_getElem? (i := 668) (by decide +kernel), List.mem_of_getElem? (i := 843) (by decide +kernel), List.mem_of_getElem? (i := 844) (by decide +kernel)⟩
theorem lw_p38 : lw_okq (⟨"LinePatcherModel", "row", "()V"⟩, 38) := ⟨⟨by decide +kernel, by decide +kernel⟩, List.mem_of_getElem? (i := 668) (by decide +kernel), List.mem_of_getElem? (i := 855) (by decide +kernel), List.mem_of_getElem? (i := 856) (by decide +kernel)⟩
theorem lw_p39 : lw_okq (⟨"LinePatcherModel", "op", "(II)V"⟩, 38) := ⟨⟨by decide +kernel, by decide +kernel⟩, List.mem_of_getElem? (i := 668) (by decide +kernel), List.mem_of_getElem? (i := 859) (by decide +kernel), List.mem_of_getElem? (i := 860) (by decide +kernel)⟩
theorem lw_p40 : lw_okq (⟨"LinePatcherModel", "lastOf", "(II)I"⟩, 38) := ⟨⟨by decide +kernel, by decide +kernel⟩, List.mem_of_getElem? (i := 668) (by decide +kernel), List.mem_of_getElem? (i := 863) (by decide +kernel), List.mem_of_getElem? (i := 864) (by decide +kernel)⟩
theorem lw_p41 : lw_okq (⟨"LinePatcherModel", "putHunk", "(II)V"⟩, 38) := ⟨⟨by decide +kernel, by decide +kernel⟩, List.mem_of_getElem? (i := 668) (by decide +kernel), List.mem_of_getElem? (i := 867) (by decide +kernel), List.mem_of_getElem? (i := 868) (by decide +kernel)⟩
theorem lw_p42 : lw_okq (⟨"LinePatcherModel", "put", "(I)V"⟩, 38) := ⟨⟨by decide +kernel, by decide +kernel⟩, List.mem_of_getElem? (i := 668) (by decide +kernel), List.mem_of_getElem? (i := 871) (by decide +kernel), List.mem_of_getElem? (i := 872) (by decide +kernel)⟩
theorem lw_p43 : lw_okq (⟨"LinePatcherModel", "others", "(III)I"⟩, 38) := ⟨⟨by decide +kernel, by decide +kernel⟩, List.mem_of_getElem? (i := 668) (by decide +kernel), List.mem_of_getElem? (i := 875) (by decide +kernel), List.mem_of_getElem? (i := 876) (by decide +kernel)⟩
theorem lw_p44 : lw_okq (⟨"LinePatcherModel", "putNumber", "(I)V"⟩, 38) := ⟨⟨by decide +kernel, by decide +kernel⟩, List.mem_of_getElem? (i := 668) (by decide +kernel), List.mem_of_getElem? (i := 879) (by decide +kernel), List.mem_of_getElem? (i := 880) (by decide +kernel)⟩
theorem lw_p45 : lw_okq (⟨"LinePatcherModel", "readHunk", "()V"⟩, 38) := ⟨⟨by decide +kernel, by decide +kernel⟩, List.mem_of_getElem? (i := 668) (by decide +kernel), List.mem_of_getElem? (i := 899) (by decide +kernel), List.mem_of_getElem? (i := 900) (by decide +kernel)⟩
theorem lw_p46 : lw_okq (⟨"LinePatcherModel", "want", "(I)V"⟩, 38) := ⟨⟨by decide +kernel, by decide +kernel⟩, List.mem_of_getElem? (i := 668) (by decide +kernel), List.mem_of_getElem? (i := 903) (by decide +kernel), List.mem_of_getElem? (i := 904) (by decide +kernel)⟩
theorem lw_p47 : lw_okq (⟨"LinePatcherModel", "look", "()I"⟩, 38) := ⟨⟨by decide +kernel, by decide +kernel⟩, List.mem_of_getElem? (i := 668) (by decide +kernel), List.mem_of_getElem? (i := 907) (by decide +kernel), List.mem_of_getElem? (i := 908) (by decide +kernel)⟩
def lw_privs_3 : List (MethodName × Nat) := [(⟨"LinePatcherModel", "compareAll", "(I)V"⟩, 38), (⟨"LinePatcherModel", "compareShort", "(IIII)V"⟩, 38), (⟨"LinePatcherModel", "await", "(IIII)V"⟩, 38), (⟨"LinePatcherModel", "standOut", "(IIII)V"⟩, 38), (⟨"LinePatcherModel", "findRanks", "(IIII)I"⟩, 38), (⟨"LinePatcherModel", "partner", "(IIIII)I"⟩, 38), (⟨"LinePatcherModel", "row", "()V"⟩, 38), (⟨"LinePatcherModel", "op", "(II)V"⟩, 38), (⟨"LinePatcherModel", "lastOf", "(II)I"⟩, 38), (⟨"LinePatcherModel", "putHunk", "(II)V"⟩, 38), (⟨"LinePatcherModel", "put", "(I)V"⟩, 38), (⟨"LinePatcherModel", "others", "(III)I"⟩, 38), (⟨"LinePatcherModel", "putNumber", "(I)V"⟩, 38), (⟨"LinePatcherModel", "readHunk", "()V"⟩, 38), (⟨"LinePatcherModel", "want", "(I)V"⟩, 38), (⟨"LinePatcherModel", "look", "()I"⟩, 38)]
theorem lw_r3 : ∀ q ∈ lw_privs_3, lw_okq q := List.forall_mem_cons.mpr ⟨lw_p32, List.forall_mem_cons.mpr ⟨lw_p33, List.forall_mem_cons.mpr ⟨lw_p34, List.forall_mem_cons.mpr ⟨lw_p35, List.forall_mem_cons.mpr ⟨lw_p36, List.forall_mem_cons.mpr ⟨lw_p37, List.forall_mem_cons.mpr ⟨lw_p38, List.forall_mem_cons.mpr ⟨lw_p39, List.forall_mem_cons.mpr ⟨lw_p40, List.forall_mem_cons.mpr ⟨lw_p41, List.forall_mem_cons.mpr ⟨lw_p42, List.forall_mem_cons.mpr ⟨lw_p43, List.forall_mem_cons.mpr ⟨lw_p44, List.forall_mem_cons.mpr ⟨lw_p45, List.forall_mem_cons.mpr ⟨lw_p46, List.forall_mem_cons.mpr ⟨lw_p47, fun _ h => absurd h List.not_mem_nil⟩⟩⟩⟩⟩⟩⟩⟩⟩⟩⟩⟩⟩⟩⟩⟩
theorem lw_p48 : lw_okq (⟨"LinePatcherModel", "number", "()I"⟩, 38) := ⟨⟨by decide +kernel, by decide +kernel⟩, List.mem_of_getElem? (i := 668) (by decide +kernel), List.mem_of_getElem? (i := 911) (by decide +kernel), List.mem_of_getElem? (i := 912) (by decide +kernel)⟩
theorem lw_p49 : lw_okq (⟨"LinePatcherModel", "fit", "(III)I"⟩, 38) := ⟨⟨by decide +kernel, by decide +kernel⟩, List.mem_of_getElem? (i := 668) (by decide +kernel), List.mem_of_getElem? (i := 920) (by decide +kernel), List.mem_of_getElem? (i := 921) (by decide +kernel)⟩
theorem lw_p50 : lw_okq (⟨"LinePatcherModel", "stands", "(III)Z"⟩, 38) := ⟨⟨by decide +kernel, by decide +kernel⟩, List.mem_of_getElem? (i := 668) (by decide +kernel), List.mem_of_getElem? (i := 924) (by decide +kernel), List.mem_of_getElem? (i := 925) (by decide +kernel)⟩
theorem lw_p51 : lw_okq (⟨"LinePatcherModel", "emit", "(I)V"⟩, 38) := ⟨⟨by decide +kernel, by decide +kernel⟩, List.mem_of_getElem? (i := 668) (by decide +kernel), List.mem_of_getElem? (i := 928) (by decide +kernel), List.mem_of_getElem? (i := 929) (by decide +kernel)⟩
theorem lw_p52 : lw_okq (⟨"LinePatcherModel", "keep", "(I)V"⟩, 38) := ⟨⟨by decide +kernel, by decide +kernel⟩, List.mem_of_getElem? (i := 668) (by decide +kernel), List.mem_of_getElem? (i := 932) (by decide +kernel), List.mem_of_getElem? (i := 933) (by decide +kernel)⟩
theorem lw_p53 : lw_okq (⟨"LinePatcherModel", "mergeParts", "(IIIIII)I"⟩, 38) := ⟨⟨by decide +kernel, by decide +kernel⟩, List.mem_of_getElem? (i := 668) (by decide +kernel), List.mem_of_getElem? (i := 940) (by decide +kernel), List.mem_of_getElem? (i := 941) (by decide +kernel)⟩
theorem lw_p54 : lw_okq (⟨"LinePatcherModel", "sameParts", "(IIIIII)Z"⟩, 38) := ⟨⟨by decide +kernel, by decide +kernel⟩, List.mem_of_getElem? (i := 668) (by decide +kernel), List.mem_of_getElem? (i := 944) (by decide +kernel), List.mem_of_getElem? (i := 945) (by decide +kernel)⟩
theorem lw_p55 : lw_okq (⟨"LinePatcherModel", "emitPart", "(III)Z"⟩, 38) := ⟨⟨by decide +kernel, by decide +kernel⟩, List.mem_of_getElem? (i := 668) (by decide +kernel), List.mem_of_getElem? (i := 948) (by decide +kernel), List.mem_of_getElem? (i := 949) (by decide +kernel)⟩
theorem lw_p56 : lw_okq (⟨"LinePatcherModel", "tryEmit", "(I)Z"⟩, 38) := ⟨⟨by decide +kernel, by decide +kernel⟩, List.mem_of_getElem? (i := 668) (by decide +kernel), List.mem_of_getElem? (i := 952) (by decide +kernel), List.mem_of_getElem? (i := 953) (by decide +kernel)⟩
def lw_privs_4 : List (MethodName × Nat) := [(⟨"LinePatcherModel", "number", "()I"⟩, 38), (⟨"LinePatcherModel", "fit", "(III)I"⟩, 38), (⟨"LinePatcherModel", "stands", "(III)Z"⟩, 38), (⟨"LinePatcherModel", "emit", "(I)V"⟩, 38), (⟨"LinePatcherModel", "keep", "(I)V"⟩, 38), (⟨"LinePatcherModel", "mergeParts", "(IIIIII)I"⟩, 38), (⟨"LinePatcherModel", "sameParts", "(IIIIII)Z"⟩, 38), (⟨"LinePatcherModel", "emitPart", "(III)Z"⟩, 38), (⟨"LinePatcherModel", "tryEmit", "(I)Z"⟩, 38)]
theorem lw_r4 : ∀ q ∈ lw_privs_4, lw_okq q := List.forall_mem_cons.mpr ⟨lw_p48, List.forall_mem_cons.mpr ⟨lw_p49, List.forall_mem_cons.mpr ⟨lw_p50, List.forall_mem_cons.mpr ⟨lw_p51, List.forall_mem_cons.mpr ⟨lw_p52, List.forall_mem_cons.mpr ⟨lw_p53, List.forall_mem_cons.mpr ⟨lw_p54, List.forall_mem_cons.mpr ⟨lw_p55, List.forall_mem_cons.mpr ⟨lw_p56, fun _ h => absurd h List.not_mem_nil⟩⟩⟩⟩⟩⟩⟩⟩⟩
def lw_privs : List (MethodName × Nat) := lw_privs_1 ++ (lw_privs_2 ++ (lw_privs_3 ++ (lw_privs_4)))
def lw_tbl : List Cond := k2_sels lw_privs ++ tables_1
theorem lw_privs_ok : ∀ q ∈ lw_privs, lw_okq q := by
  show ∀ q ∈ lw_privs_1 ++ (lw_privs_2 ++ (lw_privs_3 ++ (lw_privs_4))), lw_okq q
  exact List.forall_mem_append.mpr ⟨lw_r1, List.forall_mem_append.mpr ⟨lw_r2, List.forall_mem_append.mpr ⟨lw_r3, lw_r4⟩⟩⟩
/-! words that a callee keeps -/
def lp_W : List Cond := lw_tbl.filter goodWord
theorem lp_Wgood : ∀ x ∈ lp_W, (x.onTables && x.keeps) = true ∨ ∃ ty, x = .arrayClass ty := fun x h => good_of_word (List.mem_filter.mp h).2
theorem lp_in {w : Cond} (i : Nat) (h : lw_tbl[i]? = some w) (hg : goodWord w = true) : w ∈ lp_W := List.mem_filter.mpr ⟨List.mem_of_getElem? h, hg⟩
def ff_P : u_T := fun k => match k with
  | 0 => ("LinePatcher", "texts", "[LLinePatcher$Text;", true)
  | 1 => ("LinePatcher", "latest", "LLinePatcher$Comparison;", true)
  | 2 => ("LinePatcher", "compared", "Z", false)
  | 3 => ("LinePatcher", "shortest", "LLinePatcher$Shortest;", true)
  | 4 => ("LinePatcher", "standingOut", "LLinePatcher$StandingOut;", true)
  | 5 => ("LinePatcher", "paper", "LLinePatcher$Paper;", true)
  | 6 => ("LinePatcher", "writer", "LLinePatcher$PatchWriter;", true)
  | 7 => ("LinePatcher", "reader", "LLinePatcher$PatchReader;", true)
  | 8 => ("LinePatcher", "fitter", "LLinePatcher$PatchFitter;", true)
  | _ => ("LinePatcher", "merger", "LLinePatcher$Merger;", true)
def tf_P : Nat → FieldType := fun k => match k with
  | 0 => .array (.object "LinePatcher$Text")
  | 1 => .object "LinePatcher$Comparison"
  | 2 => .boolean
  | 3 => .object "LinePatcher$Shortest"
  | 4 => .object "LinePatcher$StandingOut"
  | 5 => .object "LinePatcher$Paper"
  | 6 => .object "LinePatcher$PatchWriter"
  | 7 => .object "LinePatcher$PatchReader"
  | 8 => .object "LinePatcher$PatchFitter"
  | _ => .object "LinePatcher$Merger"
def ff_T : u_T := fun k => match k with
  | 0 => ("LinePatcher$Text", "lines", "[I", true)
  | _ => ("LinePatcher$Text", "count", "I", false)
def tf_T : Nat → FieldType := fun k => match k with
  | 0 => .array .int
  | _ => .int
def ff_C : u_T := fun k => match k with
  | 0 => ("LinePatcher$Comparison", "x", "LLinePatcher$Text;", true)
  | 1 => ("LinePatcher$Comparison", "y", "LLinePatcher$Text;", true)
  | 2 => ("LinePatcher$Comparison", "partners", "[I", true)
  | _ => ("LinePatcher$Comparison", "matched", "I", false)
def tf_C : Nat → FieldType := fun k => match k with
  | 0 => .object "LinePatcher$Text"
  | 1 => .object "LinePatcher$Text"
  | 2 => .array .int
  | _ => .int
def ff_R : u_T := fun k => match k with
  | 0 => ("LinePatcher$Range", "x", "I", false)
  | 1 => ("LinePatcher$Range", "xEnd", "I", false)
  | 2 => ("LinePatcher$Range", "y", "I", false)
  | _ => ("LinePatcher$Range", "yEnd", "I", false)
def tf_R : Nat → FieldType := fun k => match k with
  | 0 => .int
  | 1 => .int
  | 2 => .int
  | _ => .int
def ff_S : u_T := fun k => match k with
  | 0 => ("LinePatcher$Shortest", "most", "[[I", true)
  | _ => ("LinePatcher$Shortest", "whole", "LLinePatcher$Range;", true)
def tf_S : Nat → FieldType := fun k => match k with
  | 0 => .array (.array .int)
  | _ => .object "LinePatcher$Range"
def ff_O : u_T := fun k => match k with
  | 0 => ("LinePatcher$StandingOut", "shortest", "LLinePatcher$Shortest;", true)
  | 1 => ("LinePatcher$StandingOut", "ranges", "[LLinePatcher$Range;", true)
  | 2 => ("LinePatcher$StandingOut", "rangeCount", "I", false)
  | 3 => ("LinePatcher$StandingOut", "pairX", "[I", true)
  | 4 => ("LinePatcher$StandingOut", "pairY", "[I", true)
  | 5 => ("LinePatcher$StandingOut", "ranks", "[I", true)
  | _ => ("LinePatcher$StandingOut", "pairCount", "I", false)
def tf_O : Nat → FieldType := fun k => match k with
  | 0 => .object "LinePatcher$Shortest"
  | 1 => .array (.object "LinePatcher$Range")
  | 2 => .int
  | 3 => .array .int
  | 4 => .array .int
  | 5 => .array .int
  | _ => .int
def ff_A : u_T := fun k => match k with
  | 0 => ("LinePatcher$Paper", "characters", "[I", true)
  | _ => ("LinePatcher$Paper", "length", "I", false)
def tf_A : Nat → FieldType := fun k => match k with
  | 0 => .array .int
  | _ => .int
def ff_W : u_T := fun k => match k with
  | 0 => ("LinePatcher$PatchWriter", "comparison", "LLinePatcher$Comparison;", true)
  | 1 => ("LinePatcher$PatchWriter", "paper", "LLinePatcher$Paper;", true)
  | 2 => ("LinePatcher$PatchWriter", "changes", "[LLinePatcher$Range;", true)
  | _ => ("LinePatcher$PatchWriter", "changeCount", "I", false)
def tf_W : Nat → FieldType := fun k => match k with
  | 0 => .object "LinePatcher$Comparison"
  | 1 => .object "LinePatcher$Paper"
  | 2 => .array (.object "LinePatcher$Range")
  | _ => .int
def ff_D : u_T := fun k => match k with
  | 0 => ("LinePatcher$PatchReader", "paper", "LLinePatcher$Paper;", true)
  | 1 => ("LinePatcher$PatchReader", "place", "I", false)
  | 2 => ("LinePatcher$PatchReader", "named", "I", false)
  | 3 => ("LinePatcher$PatchReader", "oldDue", "I", false)
  | 4 => ("LinePatcher$PatchReader", "newDue", "I", false)
  | 5 => ("LinePatcher$PatchReader", "oldLines", "[I", true)
  | 6 => ("LinePatcher$PatchReader", "oldCount", "I", false)
  | 7 => ("LinePatcher$PatchReader", "newLines", "[I", true)
  | _ => ("LinePatcher$PatchReader", "newCount", "I", false)
def tf_D : Nat → FieldType := fun k => match k with
  | 0 => .object "LinePatcher$Paper"
  | 1 => .int
  | 2 => .int
  | 3 => .int
  | 4 => .int
  | 5 => .array .int
  | 6 => .int
  | 7 => .array .int
  | _ => .int
def ff_F : u_T := fun k => match k with
  | 0 => ("LinePatcher$PatchFitter", "reader", "LLinePatcher$PatchReader;", true)
  | _ => ("LinePatcher$PatchFitter", "patched", "LLinePatcher$Text;", true)
def tf_F : Nat → FieldType := fun k => match k with
  | 0 => .object "LinePatcher$PatchReader"
  | _ => .object "LinePatcher$Text"
def ff_Q : u_T := fun k => match k with
  | 0 => ("LinePatcher$Part", "text", "LLinePatcher$Text;", true)
  | 1 => ("LinePatcher$Part", "from", "I", false)
  | _ => ("LinePatcher$Part", "to", "I", false)
def tf_Q : Nat → FieldType := fun k => match k with
  | 0 => .object "LinePatcher$Text"
  | 1 => .int
  | _ => .int
def ff_G : u_T := fun k => match k with
  | 0 => ("LinePatcher$Merger", "shortest", "LLinePatcher$Shortest;", true)
  | 1 => ("LinePatcher$Merger", "withOne", "LLinePatcher$Comparison;", true)
  | 2 => ("LinePatcher$Merger", "withTwo", "LLinePatcher$Comparison;", true)
  | 3 => ("LinePatcher$Merger", "base", "LLinePatcher$Part;", true)
  | 4 => ("LinePatcher$Merger", "one", "LLinePatcher$Part;", true)
  | 5 => ("LinePatcher$Merger", "two", "LLinePatcher$Part;", true)
  | 6 => ("LinePatcher$Merger", "merged", "LLinePatcher$Text;", true)
  | 7 => ("LinePatcher$Merger", "total", "I", false)
  | _ => ("LinePatcher$Merger", "conflicts", "I", false)
def tf_G : Nat → FieldType := fun k => match k with
  | 0 => .object "LinePatcher$Shortest"
  | 1 => .object "LinePatcher$Comparison"
  | 2 => .object "LinePatcher$Comparison"
  | 3 => .object "LinePatcher$Part"
  | 4 => .object "LinePatcher$Part"
  | 5 => .object "LinePatcher$Part"
  | 6 => .object "LinePatcher$Text"
  | 7 => .int
  | _ => .int
def ff_M : u_T := fun k => match k with
  | 0 => ("LinePatcherModel", "lines", "[I", false)
  | 1 => ("LinePatcherModel", "sizes", "[I", false)
  | 2 => ("LinePatcherModel", "an", "I", false)
  | 3 => ("LinePatcherModel", "bn", "I", false)
  | 4 => ("LinePatcherModel", "a", "[I", false)
  | 5 => ("LinePatcherModel", "b", "[I", false)
  | 6 => ("LinePatcherModel", "mate", "[I", false)
  | 7 => ("LinePatcherModel", "left", "[I", false)
  | 8 => ("LinePatcherModel", "waiting", "I", false)
  | 9 => ("LinePatcherModel", "fromA", "[I", false)
  | 10 => ("LinePatcherModel", "toA", "[I", false)
  | 11 => ("LinePatcherModel", "fromB", "[I", false)
  | 12 => ("LinePatcherModel", "toB", "[I", false)
  | 13 => ("LinePatcherModel", "pairOf", "[I", false)
  | 14 => ("LinePatcherModel", "rank", "[I", false)
  | 15 => ("LinePatcherModel", "compared", "Z", false)
  | 16 => ("LinePatcherModel", "xn", "I", false)
  | 17 => ("LinePatcherModel", "yn", "I", false)
  | 18 => ("LinePatcherModel", "xs", "[I", false)
  | 19 => ("LinePatcherModel", "ys", "[I", false)
  | 20 => ("LinePatcherModel", "match", "[I", false)
  | 21 => ("LinePatcherModel", "ops", "I", false)
  | 22 => ("LinePatcherModel", "kinds", "[I", false)
  | 23 => ("LinePatcherModel", "shown", "[I", false)
  | 24 => ("LinePatcherModel", "length", "I", false)
  | 25 => ("LinePatcherModel", "paper", "[I", false)
  | 26 => ("LinePatcherModel", "hunks", "I", false)
  | 27 => ("LinePatcherModel", "named", "[I", false)
  | 28 => ("LinePatcherModel", "olds", "[I", false)
  | 29 => ("LinePatcherModel", "news", "[I", false)
  | 30 => ("LinePatcherModel", "all", "[I", false)
  | 31 => ("LinePatcherModel", "begins", "[I", false)
  | 32 => ("LinePatcherModel", "found", "[I", false)
  | 33 => ("LinePatcherModel", "at", "I", false)
  | 34 => ("LinePatcherModel", "failed", "Z", false)
  | 35 => ("LinePatcherModel", "outSize", "I", false)
  | 36 => ("LinePatcherModel", "out", "[I", false)
  | _ => ("LinePatcherModel", "second", "[I", false)
def tf_M : Nat → FieldType := fun k => match k with
  | 0 => .array .int
  | 1 => .array .int
  | 2 => .int
  | 3 => .int
  | 4 => .array .int
  | 5 => .array .int
  | 6 => .array .int
  | 7 => .array .int
  | 8 => .int
  | 9 => .array .int
  | 10 => .array .int
  | 11 => .array .int
  | 12 => .array .int
  | 13 => .array .int
  | 14 => .array .int
  | 15 => .boolean
  | 16 => .int
  | 17 => .int
  | 18 => .array .int
  | 19 => .array .int
  | 20 => .array .int
  | 21 => .int
  | 22 => .array .int
  | 23 => .array .int
  | 24 => .int
  | 25 => .array .int
  | 26 => .int
  | 27 => .array .int
  | 28 => .array .int
  | 29 => .array .int
  | 30 => .array .int
  | 31 => .array .int
  | 32 => .array .int
  | 33 => .int
  | 34 => .boolean
  | 35 => .int
  | 36 => .array .int
  | _ => .array .int
abbrev vwCl : List vw_C := [("LinePatcher", ff_P, 10), ("LinePatcher$Text", ff_T, 2), ("LinePatcher$Comparison", ff_C, 4), ("LinePatcher$Range", ff_R, 4), ("LinePatcher$Shortest", ff_S, 2), ("LinePatcher$StandingOut", ff_O, 7), ("LinePatcher$Paper", ff_A, 2), ("LinePatcher$PatchWriter", ff_W, 4), ("LinePatcher$PatchReader", ff_D, 9), ("LinePatcher$PatchFitter", ff_F, 2), ("LinePatcher$Part", ff_Q, 3), ("LinePatcher$Merger", ff_G, 9), ("LinePatcherModel", ff_M, 38)]
def lp_tys (tc : Nat → ClassId) : List (ClassId × FieldType) := [(tc 0, .int), (tc 1, .object "LinePatcher$Text"), (tc 2, .object "LinePatcher$Range"), (tc 3, .array .int)]
def lp_nm : List (String × Nat × MethodName × String) := [("LinePatcher", 17, ⟨"LinePatcher$Comparison", "<init>", "()V"⟩, "LinePatcher"), ("LinePatcher$Comparison", 11, ⟨"LinePatcher$Text", "<init>", "()V"⟩, "LinePatcher"), ("LinePatcher", 24, ⟨"LinePatcher$Shortest", "<init>", "()V"⟩, "LinePatcher"), ("LinePatcher$Shortest", 18, ⟨"LinePatcher$Range", "<init>", "()V"⟩, "LinePatcher"), ("LinePatcher$StandingOut", 31, ⟨"LinePatcher$Range", "<init>", "()V"⟩, "LinePatcher"), ("LinePatcher", 40, ⟨"LinePatcher$Paper", "<init>", "()V"⟩, "LinePatcher"), ("LinePatcher$PatchWriter", 25, ⟨"LinePatcher$Range", "<init>", "()V"⟩, "LinePatcher"), ("LinePatcher$PatchFitter", 11, ⟨"LinePatcher$Text", "<init>", "()V"⟩, "LinePatcher"), ("LinePatcher$Merger", 11, ⟨"LinePatcher$Comparison", "<init>", "()V"⟩, "LinePatcher"), ("LinePatcher$Merger", 45, ⟨"LinePatcher$Text", "<init>", "()V"⟩, "LinePatcher"), ("LinePatcher", 79, ⟨"LinePatcher$Text", "<init>", "()V"⟩, "LinePatcher"), ("LinePatcher$Text", 27, ⟨"LinePatcher", "isLetter", "(I)Z"⟩, "LinePatcher"), ("LinePatcher$PatchReader", 79, ⟨"LinePatcher", "isLetter", "(I)Z"⟩, "LinePatcher")]
def lp_ao : List String := ["LinePatcher$Text", "LinePatcher$Range"]
end
section
/-! base: one judgement for a place in a method, over a list of cells that lie side by side from one address on -/
abbrev lp_G : Type := Launch × Nat × (Nat → ClassId) × va_G
abbrev lp_M : Type := MethodName × ByteArray × Nat × Option FieldType
abbrev lp_O : Type := Room × (Array Value → State → Prop) × (List Frame → Array Value → State → State → Prop)
def lp_ws (sz : Nat) (cs : List va_E) : va_W := cs.mapIdx (fun k e => (sz + k, e))
theorem lp_ws_get (sz : Nat) (cs : List va_E) (k : Nat) : (lp_ws sz cs)[k]? = (cs[k]?).map (fun e => (sz + k, e)) := by
  simp [lp_ws]
theorem lp_ws_at {sz : Nat} {cs : List va_E} {k : Nat} {e : va_E} (h : cs[k]? = some e) : (lp_ws sz cs)[k]? = some (sz + k, e) := by
  rw [lp_ws_get, h]; rfl
theorem lp_ws_len (sz : Nat) (cs : List va_E) : (lp_ws sz cs).length = cs.length := by
  simp [lp_ws]
theorem lp_ws_set {sz : Nat} {cs : List va_E} {k : Nat} {e : va_E} : (lp_ws sz cs).set k (sz + k, e) = lp_ws sz (cs.set k e) := by
  apply List.ext_getElem?
  intro j
  rw [lp_ws_get, List.getElem?_set, List.getElem?_set, lp_ws_len, lp_ws_get]
  by_cases h : k = j
  · subst h
    by_cases h2 : k < cs.length
    · simp [h2]
    · simp [h2]
  · simp [h]
theorem lp_ws_app {sz : Nat} {cs : List va_E} {e : va_E} : lp_ws sz (cs ++ [e]) = lp_ws sz cs ++ [(sz + cs.length, e)] := by
  simp [lp_ws, List.mapIdx_append]
theorem lp_ws_D (sz : Nat) (cs : List va_E) : va_D (fun q => sz ≤ q) (lp_ws sz cs) := by
  refine ⟨fun i j p q hi hj h => ?_, fun k q hk => ?_⟩
  · rw [lp_ws_get] at hi hj
    obtain ⟨e1, -, rfl⟩ := Option.map_eq_some_iff.mp hi
    obtain ⟨e2, -, rfl⟩ := Option.map_eq_some_iff.mp hj
    have h : sz + i = sz + j := h
    omega
  · rw [lp_ws_get] at hk
    obtain ⟨e1, -, rfl⟩ := Option.map_eq_some_iff.mp hk
    exact Nat.le_add_right _ _
/-- what the tables say, at any state of the run -/
def lp_K (g : lp_G) (U : State) : Prop := va_K g.2.2.2 vwCl (lp_tys g.2.2.1) U ∧ (∀ q ∈ lp_nm, va_Nw (.methodLinkNest q.1 q.2.1 q.2.2.1 q.2.2.2) U) ∧ (∀ C ∈ lp_ao, va_AO C U) ∧ U.vm.findClass "[I" = some (g.2.2.1 0) ∧ ∃ kA, U.vm.classes[g.2.2.1 3]? = some kA ∧ kA.kind = .array (g.2.2.1 0) (.array .int)
theorem lp_K.warm {g : lp_G} {s U : State} (hW : s.WarmedH U.vm) (h : lp_K g s) : lp_K g U := by
  refine ⟨va_K.moved hW.alike h.1, fun q hq => va_Nw.warmM hW (h.2.1 q hq), fun C hC => va_AO.moved hW.alike (h.2.2.1 C hC), by rw [hW.alike.findClass]; exact h.2.2.2.1, ?_⟩
  obtain ⟨kA, h1, h2⟩ := h.2.2.2.2
  obtain ⟨k', hk', he⟩ := hW.alike.2.2 _ _ h1
  exact ⟨k', hk', by rw [he]; exact h2⟩
theorem lp_K.same {g : lp_G} {s U : State} (hv : s.vm = U.vm) (h : lp_K g s) : lp_K g U :=
  ⟨va_K.moved (by rw [hv]; exact Vm.Alike.refl _) h.1, fun q hq => va_Nw.same rfl hv (h.2.1 q hq), fun C hC => va_AO.moved (by rw [hv]; exact Vm.Alike.refl _) (h.2.2.1 C hC), by rw [← hv]; exact h.2.2.2.1, by rw [← hv]; exact h.2.2.2.2⟩
/-- the heap holds the cells, and none beyond them -/
def lp_Wo (g : lp_G) (cs : List va_E) (H : Heap) : Prop := va_P g.2.2.2 vwCl (lp_ws g.2.1 cs) H ∧ H.size = g.2.1 + cs.length
def lp_Cx (g : lp_G) (u : lp_M) (M : lp_O) (p : Program) (s : State) (m : MethodId) (args : Array Value) (meth : Method) (c : Code) : Prop :=
  p.tables.exec = Jvm.exec ∧ c.code = u.2.1 ∧ c.maxLocals = u.2.2.1 ∧ meth.sig.returnType = u.2.2.2 ∧ s.vm.findClass u.1.cls = some m.cls ∧ (∀ w ∈ lp_W, w.before args s = true) ∧ lp_K g s ∧ meth.locks = false ∧ (u.1.name = "<init>" → meth.name = "<init>") ∧ g.2.1 ≤ s.heap.size ∧ M.2.1 args s
def Ab (g : lp_G) (u : lp_M) (M : lp_O) (cells slots : Nat) (pc : Nat) (lv : List (Nat × Value)) (st : List Value) (cs : List va_E) : Prop :=
  ∀ (p : Program) (e : Env) (s : State) (m : MethodId) (args : Array Value) (below : List Frame) (meth : Method) (c : Code), lp_Cx g u M p s m args meth c →
  ∀ (ls : Array Slot) (H : Heap) (locs : List Loc), lv_has ls u.2.2.1 lv → lp_Wo g cs H → va_S (fun q => g.2.1 ≤ q) s.heap H locs →
  W p g.1 e M.1 s m args below meth c H locs cells slots (M.2.2 below args s) (F0 m pc ls st)
section LPA
variable {g : lp_G} {u : lp_M} {M : lp_O} {cells slots pc : Nat} {lv : List (Nat × Value)} {st : List Value} {cs : List va_E}
theorem ab_sub {lv' : List (Nat × Value)} (ks : List Nat) (h : lv_pick lv ks = lv') (kk : Ab g u M cells slots pc lv' st cs) : Ab g u M cells slots pc lv st cs :=
  fun p e s m args below meth c X ls H locs hl hw hS => kk p e s m args below meth c X ls H locs (lv_sub hl ks h) hw hS
theorem ab_pc {pc' : Nat} (h : pc = pc') (kk : Ab g u M cells slots pc' lv st cs) : Ab g u M cells slots pc lv st cs := h ▸ kk
theorem ab_widen {k n : Nat} (h1 : cells ≤ k) (h2 : slots ≤ n) (kk : Ab g u M k n pc lv st cs) : Ab g u M cells slots pc lv st cs :=
  fun p e s m args below meth c X ls H locs hl hw hS => W.widen h1 h2 (kk p e s m args below meth c X ls H locs hl hw hS)
theorem ab_iconst {n : Int} {v : Int32} (hd : decode u.2.1 pc = .ok (.iconst n, 1)) (hv : Int32.ofInt n = v) (kk : Ab g u M cells slots (pc + 1) lv (.int v :: st) cs) : Ab g u M cells slots pc lv (st) cs :=
  fun p e s m args below meth c X ls H locs hl hw hS => lv_iconst X.1 X.2.1 hd hv (kk p e s m args below meth c X ls H locs hl hw hS)
theorem ab_bipush {n : Int} {v : Int32} (hd : decode u.2.1 pc = .ok (.bipush n, 2)) (hv : (Int8.ofInt n).toInt32 = v) (kk : Ab g u M cells slots (pc + 2) lv (.int v :: st) cs) : Ab g u M cells slots pc lv (st) cs :=
  fun p e s m args below meth c X ls H locs hl hw hS => lv_bipush X.1 X.2.1 hd hv (kk p e s m args below meth c X ls H locs hl hw hS)
theorem ab_sipush {n : Int} {v : Int32} (hd : decode u.2.1 pc = .ok (.sipush n, 3)) (hv : (Int16.ofInt n).toInt32 = v) (kk : Ab g u M cells slots (pc + 3) lv (.int v :: st) cs) : Ab g u M cells slots pc lv (st) cs :=
  fun p e s m args below meth c X ls H locs hl hw hS => lv_sipush X.1 X.2.1 hd hv (kk p e s m args below meth c X ls H locs hl hw hS)
theorem ab_ldc2 {index : Nat} {v : Int64} (hd : decode u.2.1 pc = .ok (.ldc2_w index, 3)) (hw0 : Cond.constantLong u.1.cls index v ∈ lp_W) (kk : Ab g u M cells slots (pc + 3) lv (.long v :: st) cs) : Ab g u M cells slots pc lv st cs :=
  fun p e s m args below meth c X ls H locs hl hw hS => lv_ldc2 X.1 X.2.1 X.2.2.2.2.1 (X.2.2.2.2.2.1 _ hw0) hd (kk p e s m args below meth c X ls H locs hl hw hS)
theorem ab_iload_n {k : Fin 4} {i : Nat} {x : Int32} (j : Nat) (hd : decode u.2.1 pc = .ok (.iload_n k, 1)) (hi : (k : Nat) = i) (hj : lv[j]? = some (i, .int x)) (kk : Ab g u M cells slots (pc + 1) lv (.int x :: st) cs) : Ab g u M cells slots pc lv st cs :=
  fun p e s m args below meth c X ls H locs hl hw hS => lv_iload_n X.1 X.2.1 hd hi (lv_at hl j hj) (kk p e s m args below meth c X ls H locs hl hw hS)
theorem ab_iload {i : Nat} {x : Int32} (j : Nat) (hd : decode u.2.1 pc = .ok (.iload i, 2)) (hj : lv[j]? = some (i, .int x)) (kk : Ab g u M cells slots (pc + 2) lv (.int x :: st) cs) : Ab g u M cells slots pc lv st cs :=
  fun p e s m args below meth c X ls H locs hl hw hS => lv_iload X.1 X.2.1 hd (lv_at hl j hj) (kk p e s m args below meth c X ls H locs hl hw hS)
theorem ab_lload_n {k : Fin 4} {i : Nat} {x : Int64} (j : Nat) (hd : decode u.2.1 pc = .ok (.lload_n k, 1)) (hi : (k : Nat) = i) (hj : lv[j]? = some (i, .long x)) (kk : Ab g u M cells slots (pc + 1) lv (.long x :: st) cs) : Ab g u M cells slots pc lv st cs :=
  fun p e s m args below meth c X ls H locs hl hw hS => lv_lload_n X.1 X.2.1 hd hi (lv_at hl j hj) (kk p e s m args below meth c X ls H locs hl hw hS)
theorem ab_lload {i : Nat} {x : Int64} (j : Nat) (hd : decode u.2.1 pc = .ok (.lload i, 2)) (hj : lv[j]? = some (i, .long x)) (kk : Ab g u M cells slots (pc + 2) lv (.long x :: st) cs) : Ab g u M cells slots pc lv st cs :=
  fun p e s m args below meth c X ls H locs hl hw hS => lv_lload X.1 X.2.1 hd (lv_at hl j hj) (kk p e s m args below meth c X ls H locs hl hw hS)
theorem ab_aload_n {k : Fin 4} {i : Nat} {x : Nat} (j : Nat) (hd : decode u.2.1 pc = .ok (.aload_n k, 1)) (hi : (k : Nat) = i) (hj : lv[j]? = some (i, .ref x)) (kk : Ab g u M cells slots (pc + 1) lv (.ref x :: st) cs) : Ab g u M cells slots pc lv st cs :=
  fun p e s m args below meth c X ls H locs hl hw hS => lv_aload_n X.1 X.2.1 hd hi (lv_at hl j hj) (kk p e s m args below meth c X ls H locs hl hw hS)
theorem ab_aload {i : Nat} {x : Nat} (j : Nat) (hd : decode u.2.1 pc = .ok (.aload i, 2)) (hj : lv[j]? = some (i, .ref x)) (kk : Ab g u M cells slots (pc + 2) lv (.ref x :: st) cs) : Ab g u M cells slots pc lv st cs :=
  fun p e s m args below meth c X ls H locs hl hw hS => lv_aload X.1 X.2.1 hd (lv_at hl j hj) (kk p e s m args below meth c X ls H locs hl hw hS)
theorem ab_istore_n {k : Fin 4} {i : Nat} {x : Int32} {lv' : List (Nat × Value)} (hd : decode u.2.1 pc = .ok (.istore_n k, 1)) (hi : (k : Nat) = i) (hn : i < u.2.2.1) (hv : (i, Value.int x) :: lv.filter (fun q => !(q.1 == i) && !(q.1 + 1 == i && q.2.category == 2)) = lv') (kk : Ab g u M cells slots (pc + 1) lv' st cs) : Ab g u M cells slots pc lv (.int x :: st) cs :=
  fun p e s m args below meth c X ls H locs hl hw hS => lv_istore_n X.1 X.2.1 hd hi hl hn hv (fun ls' hl' => kk p e s m args below meth c X ls' H locs hl' hw hS)
theorem ab_istore {i : Nat} {x : Int32} {lv' : List (Nat × Value)} (hd : decode u.2.1 pc = .ok (.istore i, 2)) (hn : i < u.2.2.1) (hv : (i, Value.int x) :: lv.filter (fun q => !(q.1 == i) && !(q.1 + 1 == i && q.2.category == 2)) = lv') (kk : Ab g u M cells slots (pc + 2) lv' st cs) : Ab g u M cells slots pc lv (.int x :: st) cs :=
  fun p e s m args below meth c X ls H locs hl hw hS => lv_istore X.1 X.2.1 hd hl hn hv (fun ls' hl' => kk p e s m args below meth c X ls' H locs hl' hw hS)
theorem ab_astore_n {k : Fin 4} {i : Nat} {x : Nat} {lv' : List (Nat × Value)} (hd : decode u.2.1 pc = .ok (.astore_n k, 1)) (hi : (k : Nat) = i) (hn : i < u.2.2.1) (hv : (i, Value.ref x) :: lv.filter (fun q => !(q.1 == i) && !(q.1 + 1 == i && q.2.category == 2)) = lv') (kk : Ab g u M cells slots (pc + 1) lv' st cs) : Ab g u M cells slots pc lv (.ref x :: st) cs :=
  fun p e s m args below meth c X ls H locs hl hw hS => lv_astore_n X.1 X.2.1 hd hi hl hn hv (fun ls' hl' => kk p e s m args below meth c X ls' H locs hl' hw hS)
theorem ab_astore {i : Nat} {x : Nat} {lv' : List (Nat × Value)} (hd : decode u.2.1 pc = .ok (.astore i, 2)) (hn : i < u.2.2.1) (hv : (i, Value.ref x) :: lv.filter (fun q => !(q.1 == i) && !(q.1 + 1 == i && q.2.category == 2)) = lv') (kk : Ab g u M cells slots (pc + 2) lv' st cs) : Ab g u M cells slots pc lv (.ref x :: st) cs :=
  fun p e s m args below meth c X ls H locs hl hw hS => lv_astore X.1 X.2.1 hd hl hn hv (fun ls' hl' => kk p e s m args below meth c X ls' H locs hl' hw hS)
theorem ab_iinc {i : Nat} {n : Int} {x v : Int32} {lv' : List (Nat × Value)} (j : Nat) (hd : decode u.2.1 pc = .ok (.iinc i n, 3)) (hj : lv[j]? = some (i, .int x)) (hx : x + Int32.ofInt n = v) (hn : i < u.2.2.1) (hv : (i, Value.int v) :: lv.filter (fun q => !(q.1 == i) && !(q.1 + 1 == i && q.2.category == 2)) = lv') (kk : Ab g u M cells slots (pc + 3) lv' st cs) : Ab g u M cells slots pc lv st cs :=
  fun p e s m args below meth c X ls H locs hl hw hS => lv_iinc X.1 X.2.1 hd hl hj hx hn hv (fun ls' hl' => kk p e s m args below meth c X ls' H locs hl' hw hS)
theorem ab_iadd {x y : Int32} (hd : decode u.2.1 pc = .ok (.iadd, 1))  (kk : Ab g u M cells slots (pc + 1) lv (.int (x + y) :: st) cs) : Ab g u M cells slots pc lv (.int y :: .int x :: st) cs :=
  fun p e s m args below meth c X ls H locs hl hw hS => lv_iadd X.1 X.2.1 hd  (kk p e s m args below meth c X ls H locs hl hw hS)
theorem ab_isub {x y : Int32} (hd : decode u.2.1 pc = .ok (.isub, 1))  (kk : Ab g u M cells slots (pc + 1) lv (.int (x - y) :: st) cs) : Ab g u M cells slots pc lv (.int y :: .int x :: st) cs :=
  fun p e s m args below meth c X ls H locs hl hw hS => lv_isub X.1 X.2.1 hd  (kk p e s m args below meth c X ls H locs hl hw hS)
theorem ab_imul {x y : Int32} (hd : decode u.2.1 pc = .ok (.imul, 1))  (kk : Ab g u M cells slots (pc + 1) lv (.int (x * y) :: st) cs) : Ab g u M cells slots pc lv (.int y :: .int x :: st) cs :=
  fun p e s m args below meth c X ls H locs hl hw hS => lv_imul X.1 X.2.1 hd  (kk p e s m args below meth c X ls H locs hl hw hS)
theorem ab_iand {x y : Int32} (hd : decode u.2.1 pc = .ok (.iand, 1))  (kk : Ab g u M cells slots (pc + 1) lv (.int (x &&& y) :: st) cs) : Ab g u M cells slots pc lv (.int y :: .int x :: st) cs :=
  fun p e s m args below meth c X ls H locs hl hw hS => lv_iand X.1 X.2.1 hd  (kk p e s m args below meth c X ls H locs hl hw hS)
theorem ab_ior {x y : Int32} (hd : decode u.2.1 pc = .ok (.ior, 1))  (kk : Ab g u M cells slots (pc + 1) lv (.int (x ||| y) :: st) cs) : Ab g u M cells slots pc lv (.int y :: .int x :: st) cs :=
  fun p e s m args below meth c X ls H locs hl hw hS => lv_ior X.1 X.2.1 hd  (kk p e s m args below meth c X ls H locs hl hw hS)
theorem ab_idiv {x y : Int32} (hd : decode u.2.1 pc = .ok (.idiv, 1)) (hne : ¬ y = 0) (kk : Ab g u M cells slots (pc + 1) lv (.int (x / y) :: st) cs) : Ab g u M cells slots pc lv (.int y :: .int x :: st) cs :=
  fun p e s m args below meth c X ls H locs hl hw hS => lv_idiv X.1 X.2.1 hd hne (kk p e s m args below meth c X ls H locs hl hw hS)
theorem ab_irem {x y : Int32} (hd : decode u.2.1 pc = .ok (.irem, 1)) (hne : ¬ y = 0) (kk : Ab g u M cells slots (pc + 1) lv (.int (x - x / y * y) :: st) cs) : Ab g u M cells slots pc lv (.int y :: .int x :: st) cs :=
  fun p e s m args below meth c X ls H locs hl hw hS => lv_irem X.1 X.2.1 hd hne (kk p e s m args below meth c X ls H locs hl hw hS)
theorem ab_land {x y : Int64} (hd : decode u.2.1 pc = .ok (.land, 1))  (kk : Ab g u M cells slots (pc + 1) lv (.long (x &&& y) :: st) cs) : Ab g u M cells slots pc lv (.long y :: .long x :: st) cs :=
  fun p e s m args below meth c X ls H locs hl hw hS => lv_land X.1 X.2.1 hd  (kk p e s m args below meth c X ls H locs hl hw hS)
theorem ab_lor {x y : Int64} (hd : decode u.2.1 pc = .ok (.lor, 1))  (kk : Ab g u M cells slots (pc + 1) lv (.long (x ||| y) :: st) cs) : Ab g u M cells slots pc lv (.long y :: .long x :: st) cs :=
  fun p e s m args below meth c X ls H locs hl hw hS => lv_lor X.1 X.2.1 hd  (kk p e s m args below meth c X ls H locs hl hw hS)
theorem ab_i2l {x : Int32} {v : Int64} (hd : decode u.2.1 pc = .ok (.i2l, 1)) (hv : x.toInt64 = v) (kk : Ab g u M cells slots (pc + 1) lv (.long v :: st) cs) : Ab g u M cells slots pc lv (.int x :: st) cs :=
  fun p e s m args below meth c X ls H locs hl hw hS => lv_i2l X.1 X.2.1 hd hv (kk p e s m args below meth c X ls H locs hl hw hS)
theorem ab_l2i {x : Int64} {v : Int32} (hd : decode u.2.1 pc = .ok (.l2i, 1)) (hv : x.toInt32 = v) (kk : Ab g u M cells slots (pc + 1) lv (.int v :: st) cs) : Ab g u M cells slots pc lv (.long x :: st) cs :=
  fun p e s m args below meth c X ls H locs hl hw hS => lv_l2i X.1 X.2.1 hd hv (kk p e s m args below meth c X ls H locs hl hw hS)
theorem ab_lushr {x v : Int64} {y : Int32} (hd : decode u.2.1 pc = .ok (.lushr, 1)) (hv : (x.toUInt64 >>> (y.toInt64.toUInt64 &&& Int64.toUInt64 63)).toInt64 = v) (kk : Ab g u M cells slots (pc + 1) lv (.long v :: st) cs) : Ab g u M cells slots pc lv (.int y :: .long x :: st) cs :=
  fun p e s m args below meth c X ls H locs hl hw hS => lv_lushr X.1 X.2.1 hd hv (kk p e s m args below meth c X ls H locs hl hw hS)
theorem ab_lshr {x v : Int64} {y : Int32} (hd : decode u.2.1 pc = .ok (.lshr, 1)) (hv : x >>> (y.toInt64 &&& 63) = v) (kk : Ab g u M cells slots (pc + 1) lv (.long v :: st) cs) : Ab g u M cells slots pc lv (.int y :: .long x :: st) cs :=
  fun p e s m args below meth c X ls H locs hl hw hS => lv_lshr X.1 X.2.1 hd hv (kk p e s m args below meth c X ls H locs hl hw hS)
theorem ab_lshl {x v : Int64} {y : Int32} (hd : decode u.2.1 pc = .ok (.lshl, 1)) (hv : x <<< (y.toInt64 &&& 63) = v) (kk : Ab g u M cells slots (pc + 1) lv (.long v :: st) cs) : Ab g u M cells slots pc lv (.int y :: .long x :: st) cs :=
  fun p e s m args below meth c X ls H locs hl hw hS => lv_lshl X.1 X.2.1 hd hv (kk p e s m args below meth c X ls H locs hl hw hS)
theorem ab_dup {va : Value} (hd : decode u.2.1 pc = .ok (.dup, 1)) (hva : va.category = 1) (kk : Ab g u M cells slots (pc + 1) lv (va :: va :: st) cs) : Ab g u M cells slots pc lv (va :: st) cs :=
  fun p e s m args below meth c X ls H locs hl hw hS => lv_dup X.1 X.2.1 hd hva (kk p e s m args below meth c X ls H locs hl hw hS)
theorem ab_pop {va : Value} (hd : decode u.2.1 pc = .ok (.pop, 1)) (hva : va.category = 1) (kk : Ab g u M cells slots (pc + 1) lv (st) cs) : Ab g u M cells slots pc lv (va :: st) cs :=
  fun p e s m args below meth c X ls H locs hl hw hS => lv_pop X.1 X.2.1 hd hva (kk p e s m args below meth c X ls H locs hl hw hS)
theorem ab_dup_x1 {va vb : Value} (hd : decode u.2.1 pc = .ok (.dup_x1, 1)) (hva : va.category = 1) (hvb : vb.category = 1) (kk : Ab g u M cells slots (pc + 1) lv (va :: vb :: va :: st) cs) : Ab g u M cells slots pc lv (va :: vb :: st) cs :=
  fun p e s m args below meth c X ls H locs hl hw hS => lv_dup_x1 X.1 X.2.1 hd hva hvb (kk p e s m args below meth c X ls H locs hl hw hS)
theorem ab_dup2_11 {va vb : Value} (hd : decode u.2.1 pc = .ok (.dup2, 1)) (hva : va.category = 1) (hvb : vb.category = 1) (kk : Ab g u M cells slots (pc + 1) lv (va :: vb :: va :: vb :: st) cs) : Ab g u M cells slots pc lv (va :: vb :: st) cs :=
  fun p e s m args below meth c X ls H locs hl hw hS => lv_dup2_11 X.1 X.2.1 hd hva hvb (kk p e s m args below meth c X ls H locs hl hw hS)
theorem ab_dup_x2 {va vb vd : Value} (hd : decode u.2.1 pc = .ok (.dup_x2, 1)) (hva : va.category = 1) (hvb : vb.category = 1) (hvd : vd.category = 1) (kk : Ab g u M cells slots (pc + 1) lv (va :: vb :: vd :: va :: st) cs) : Ab g u M cells slots pc lv (va :: vb :: vd :: st) cs :=
  fun p e s m args below meth c X ls H locs hl hw hS => lv_dup_x2 X.1 X.2.1 hd hva hvb hvd (kk p e s m args below meth c X ls H locs hl hw hS)
theorem ab_if_eq {x : Int32} {off : Int} {tgt : Nat} (hd : decode u.2.1 pc = .ok (.ifCond .eq off, 3)) (ht : (pc : Int) + off = (tgt : Int)) (kt : x = 0 → Ab g u M cells slots tgt lv st cs) (kf : ¬ x = 0 → Ab g u M cells slots (pc + 3) lv st cs) : Ab g u M cells slots pc lv (.int x :: st) cs :=
  fun p e s m args below meth c X ls H locs hl hw hS => lv_if_eq X.1 X.2.1 hd ht (fun h => kt h p e s m args below meth c X ls H locs hl hw hS) (fun h => kf h p e s m args below meth c X ls H locs hl hw hS)
theorem ab_if_ne {x : Int32} {off : Int} {tgt : Nat} (hd : decode u.2.1 pc = .ok (.ifCond .ne off, 3)) (ht : (pc : Int) + off = (tgt : Int)) (kt : ¬ x = 0 → Ab g u M cells slots tgt lv st cs) (kf : x = 0 → Ab g u M cells slots (pc + 3) lv st cs) : Ab g u M cells slots pc lv (.int x :: st) cs :=
  fun p e s m args below meth c X ls H locs hl hw hS => lv_if_ne X.1 X.2.1 hd ht (fun h => kt h p e s m args below meth c X ls H locs hl hw hS) (fun h => kf h p e s m args below meth c X ls H locs hl hw hS)
theorem ab_if_lt {x : Int32} {off : Int} {tgt : Nat} (hd : decode u.2.1 pc = .ok (.ifCond .lt off, 3)) (ht : (pc : Int) + off = (tgt : Int)) (kt : x < 0 → Ab g u M cells slots tgt lv st cs) (kf : ¬ x < 0 → Ab g u M cells slots (pc + 3) lv st cs) : Ab g u M cells slots pc lv (.int x :: st) cs :=
  fun p e s m args below meth c X ls H locs hl hw hS => lv_if_lt X.1 X.2.1 hd ht (fun h => kt h p e s m args below meth c X ls H locs hl hw hS) (fun h => kf h p e s m args below meth c X ls H locs hl hw hS)
theorem ab_if_ge {x : Int32} {off : Int} {tgt : Nat} (hd : decode u.2.1 pc = .ok (.ifCond .ge off, 3)) (ht : (pc : Int) + off = (tgt : Int)) (kt : 0 ≤ x → Ab g u M cells slots tgt lv st cs) (kf : ¬ 0 ≤ x → Ab g u M cells slots (pc + 3) lv st cs) : Ab g u M cells slots pc lv (.int x :: st) cs :=
  fun p e s m args below meth c X ls H locs hl hw hS => lv_if_ge X.1 X.2.1 hd ht (fun h => kt h p e s m args below meth c X ls H locs hl hw hS) (fun h => kf h p e s m args below meth c X ls H locs hl hw hS)
theorem ab_if_gt {x : Int32} {off : Int} {tgt : Nat} (hd : decode u.2.1 pc = .ok (.ifCond .gt off, 3)) (ht : (pc : Int) + off = (tgt : Int)) (kt : 0 < x → Ab g u M cells slots tgt lv st cs) (kf : ¬ 0 < x → Ab g u M cells slots (pc + 3) lv st cs) : Ab g u M cells slots pc lv (.int x :: st) cs :=
  fun p e s m args below meth c X ls H locs hl hw hS => lv_if_gt X.1 X.2.1 hd ht (fun h => kt h p e s m args below meth c X ls H locs hl hw hS) (fun h => kf h p e s m args below meth c X ls H locs hl hw hS)
theorem ab_if_le {x : Int32} {off : Int} {tgt : Nat} (hd : decode u.2.1 pc = .ok (.ifCond .le off, 3)) (ht : (pc : Int) + off = (tgt : Int)) (kt : x ≤ 0 → Ab g u M cells slots tgt lv st cs) (kf : ¬ x ≤ 0 → Ab g u M cells slots (pc + 3) lv st cs) : Ab g u M cells slots pc lv (.int x :: st) cs :=
  fun p e s m args below meth c X ls H locs hl hw hS => lv_if_le X.1 X.2.1 hd ht (fun h => kt h p e s m args below meth c X ls H locs hl hw hS) (fun h => kf h p e s m args below meth c X ls H locs hl hw hS)
theorem ab_icmp_eq {x y : Int32} {off : Int} {tgt : Nat} (hd : decode u.2.1 pc = .ok (.if_icmp .eq off, 3)) (ht : (pc : Int) + off = (tgt : Int)) (kt : x = y → Ab g u M cells slots tgt lv st cs) (kf : ¬ x = y → Ab g u M cells slots (pc + 3) lv st cs) : Ab g u M cells slots pc lv (.int y :: .int x :: st) cs :=
  fun p e s m args below meth c X ls H locs hl hw hS => lv_icmp_eq X.1 X.2.1 hd ht (fun h => kt h p e s m args below meth c X ls H locs hl hw hS) (fun h => kf h p e s m args below meth c X ls H locs hl hw hS)
theorem ab_icmp_ne {x y : Int32} {off : Int} {tgt : Nat} (hd : decode u.2.1 pc = .ok (.if_icmp .ne off, 3)) (ht : (pc : Int) + off = (tgt : Int)) (kt : ¬ x = y → Ab g u M cells slots tgt lv st cs) (kf : x = y → Ab g u M cells slots (pc + 3) lv st cs) : Ab g u M cells slots pc lv (.int y :: .int x :: st) cs :=
  fun p e s m args below meth c X ls H locs hl hw hS => lv_icmp_ne X.1 X.2.1 hd ht (fun h => kt h p e s m args below meth c X ls H locs hl hw hS) (fun h => kf h p e s m args below meth c X ls H locs hl hw hS)
theorem ab_icmp_lt {x y : Int32} {off : Int} {tgt : Nat} (hd : decode u.2.1 pc = .ok (.if_icmp .lt off, 3)) (ht : (pc : Int) + off = (tgt : Int)) (kt : x < y → Ab g u M cells slots tgt lv st cs) (kf : ¬ x < y → Ab g u M cells slots (pc + 3) lv st cs) : Ab g u M cells slots pc lv (.int y :: .int x :: st) cs :=
  fun p e s m args below meth c X ls H locs hl hw hS => lv_icmp_lt X.1 X.2.1 hd ht (fun h => kt h p e s m args below meth c X ls H locs hl hw hS) (fun h => kf h p e s m args below meth c X ls H locs hl hw hS)
theorem ab_icmp_ge {x y : Int32} {off : Int} {tgt : Nat} (hd : decode u.2.1 pc = .ok (.if_icmp .ge off, 3)) (ht : (pc : Int) + off = (tgt : Int)) (kt : y ≤ x → Ab g u M cells slots tgt lv st cs) (kf : ¬ y ≤ x → Ab g u M cells slots (pc + 3) lv st cs) : Ab g u M cells slots pc lv (.int y :: .int x :: st) cs :=
  fun p e s m args below meth c X ls H locs hl hw hS => lv_icmp_ge X.1 X.2.1 hd ht (fun h => kt h p e s m args below meth c X ls H locs hl hw hS) (fun h => kf h p e s m args below meth c X ls H locs hl hw hS)
theorem ab_icmp_gt {x y : Int32} {off : Int} {tgt : Nat} (hd : decode u.2.1 pc = .ok (.if_icmp .gt off, 3)) (ht : (pc : Int) + off = (tgt : Int)) (kt : y < x → Ab g u M cells slots tgt lv st cs) (kf : ¬ y < x → Ab g u M cells slots (pc + 3) lv st cs) : Ab g u M cells slots pc lv (.int y :: .int x :: st) cs :=
  fun p e s m args below meth c X ls H locs hl hw hS => lv_icmp_gt X.1 X.2.1 hd ht (fun h => kt h p e s m args below meth c X ls H locs hl hw hS) (fun h => kf h p e s m args below meth c X ls H locs hl hw hS)
theorem ab_icmp_le {x y : Int32} {off : Int} {tgt : Nat} (hd : decode u.2.1 pc = .ok (.if_icmp .le off, 3)) (ht : (pc : Int) + off = (tgt : Int)) (kt : x ≤ y → Ab g u M cells slots tgt lv st cs) (kf : ¬ x ≤ y → Ab g u M cells slots (pc + 3) lv st cs) : Ab g u M cells slots pc lv (.int y :: .int x :: st) cs :=
  fun p e s m args below meth c X ls H locs hl hw hS => lv_icmp_le X.1 X.2.1 hd ht (fun h => kt h p e s m args below meth c X ls H locs hl hw hS) (fun h => kf h p e s m args below meth c X ls H locs hl hw hS)
theorem ab_goto {off : Int} {tgt : Nat} (hd : decode u.2.1 pc = .ok (.goto off, 3)) (ht : (pc : Int) + off = (tgt : Int)) (kk : Ab g u M cells slots tgt lv st cs) : Ab g u M cells slots pc lv st cs :=
  fun p e s m args below meth c X ls H locs hl hw hS => lv_goto X.1 X.2.1 hd ht (kk p e s m args below meth c X ls H locs hl hw hS)
theorem ab_tableOut {dflt lo hi : Int} {offs : Array Int} {len : Nat} {x : Int32} {tgt : Nat} (hd : decode u.2.1 pc = .ok (.tableswitch dflt lo hi offs, len)) (h : x.toInt < lo ∨ hi < x.toInt) (ht : (pc : Int) + dflt = (tgt : Int)) (kk : Ab g u M cells slots tgt lv st cs) : Ab g u M cells slots pc lv (.int x :: st) cs :=
  fun p e s m args below meth c X ls H locs hl hw hS => lv_tableOut X.1 X.2.1 hd h ht (kk p e s m args below meth c X ls H locs hl hw hS)
theorem ab_tableIn {dflt lo hi : Int} {offs : Array Int} {len : Nat} {x : Int32} {off : Int} {tgt : Nat} (hd : decode u.2.1 pc = .ok (.tableswitch dflt lo hi offs, len)) (h1 : ¬ x.toInt < lo) (h2 : ¬ hi < x.toInt) (ho : offs[(x.toInt - lo).toNat]? = some off) (ht : (pc : Int) + off = (tgt : Int)) (kk : Ab g u M cells slots tgt lv st cs) : Ab g u M cells slots pc lv (.int x :: st) cs :=
  fun p e s m args below meth c X ls H locs hl hw hS => lv_tableIn X.1 X.2.1 hd h1 h2 ho ht (kk p e s m args below meth c X ls H locs hl hw hS)
end LPA
/-! rows that read or write a cell, calls, ends -/
def lp_F (own : String) (index ci j : Nat) : Prop := ∃ (C : String) (T : u_T) (N : Nat), vwCl[ci]? = some (C, T, N) ∧ (∀ w ∈ u_ws C T N, w ∈ lp_W) ∧ j < N ∧ Cond.fieldLink own index C (T j).2.1 (T j).2.2.1 ∈ lp_W ∧ (T j).1 = C
/-- a class, its fields' types; that their names are apart -/
def lp_C (ci : Nat) (C : String) (T : u_T) (N : Nat) : Prop := vwCl[ci]? = some (C, T, N) ∧ (∀ w ∈ u_ws C T N, w ∈ lp_W) ∧ (∃ tf : Nat → FieldType, ∀ k, k < N → parseFieldDescriptor (T k).2.2.1 = some (tf k)) ∧ ∀ a, a < N → ∀ b, b < N → a ≠ b → (T a).2.1 ≠ (T b).2.1
def lp_Fp (own : String) (index ci j : Nat) (ty : FieldType) (fin : Bool) : Prop := ∃ (C : String) (T : u_T) (N : Nat), lp_C ci C T N ∧ j < N ∧ Cond.fieldLink own index C (T j).2.1 (T j).2.2.1 ∈ lp_W ∧ (T j).1 = C ∧ (T j).2.2.2 = fin ∧ parseFieldDescriptor (T j).2.2.1 = some ty ∧ (fin = true → C = own)
def lp_wm (w : lp_M) : List Cond := Cond.code w.1 w.2.1 w.2.2.1 w.2.2.2 :: lp_W
def lp_rm (d mc ms : Nat) : Room := { frames := d, cells := mc, slots := ms, locals := 34 * d }
def lp_Pc (g : lp_G) (av : List Value) (cs : List va_E) : Array Value → State → Prop := va_Pc av (fun U => lp_Wo g cs U.heap ∧ lp_K g U)
def lp_Qc (g : lp_G) (QB : Option Value → List va_E → Prop) : Array Value → State → Outcome → State → Prop := fun _ st oc t => (∃ (v : Option Value) (cs : List va_E), oc = .returned v ∧ QB v cs ∧ lp_Wo g cs t.heap) ∧ va_F (fun q => g.2.1 ≤ q) st t
/-- a method's contract at these arguments and cells -/
def Mb (g : lp_G) (w : lp_M) (d mc ms : Nat) (av : List Value) (cs : List va_E) (QB : Option Value → List va_E → Prop) : Prop :=
  Met g.1 w.1 (lp_wm w) (lp_rm d mc ms) (lp_Pc g av cs) (lp_Qc g QB) mc ms (fun q => g.2.1 ≤ q)
theorem Mb.mono {g : lp_G} {w : lp_M} {d mc ms : Nat} {av : List Value} {cs : List va_E} {QB QB' : Option Value → List va_E → Prop} (h : Mb g w d mc ms av cs QB) (hq : ∀ v cs', QB v cs' → QB' v cs') : Mb g w d mc ms av cs QB' := by
  intro p e h1 h2 h3 s m args below h4 h5 h6 h7
  obtain ⟨n, o, a1, a2, a3, ⟨⟨v, cs', b1, b2, b3⟩, b4⟩, a5⟩ := h p e h1 h2 h3 s m args below h4 h5 h6 h7
  exact ⟨n, o, a1, a2, a3, ⟨⟨v, cs', b1, hq v cs' b2, b3⟩, b4⟩, a5⟩
def lp_md (g : lp_G) (d mc ms : Nat) (QB : Option Value → List va_E → Prop) : lp_O := (lp_rm d mc ms, fun _ _ => True, fun below args s => MQ below (lp_Qc g QB) args s mc ms (fun q => g.2.1 ≤ q))
theorem lp_blind {g : lp_G} {av : List Value} {cs : List va_E} : FrameBlind (lp_Pc g av cs) := fun a U f mk h => ⟨h.1, h.2.1, lp_K.same (s := U) (U := U.calling f mk a) rfl h.2.2⟩
theorem lp_gi {w : lp_M} (hc : Cond.code w.1 w.2.1 w.2.2.1 w.2.2.2 ∈ lp_W) : GoodIn lp_W (lp_wm w) := fun x hx => by
  rcases List.mem_cons.mp hx with h | h
  · rw [h]; exact ⟨hc, lp_Wgood _ hc⟩
  · exact ⟨h, lp_Wgood _ h⟩
/-- what a call needs of the words, but its link -/
def lp_c0 (w : lp_M) (n : Nat) : Prop := Cond.initialized w.1.cls ∈ lp_W ∧ Cond.code w.1 w.2.1 w.2.2.1 w.2.2.2 ∈ lp_W ∧ (w.1.cls ≠ "java/lang/invoke/MethodHandle" ∧ w.1.cls ≠ "java/lang/invoke/VarHandle" ∧ (parseMethodDescriptor w.1.desc).map (fun d => d.parameters.length) = some n)
def lp_cV (own : String) (index : Nat) (w : lp_M) (n : Nat) : Prop := lp_c0 w n ∧ Cond.methodLink own index w.1 ∈ lp_W ∧ Cond.instanceMethod w.1 ∈ lp_W ∧ Cond.selects w.1.cls w.1 w.1 ∈ lp_W
def lp_cVN (own : String) (index : Nat) (w : lp_M) (n : Nat) : Prop := lp_c0 w n ∧ (∃ host, (own, index, w.1, host) ∈ lp_nm) ∧ Cond.instanceMethod w.1 ∈ lp_W ∧ Cond.selects w.1.cls w.1 w.1 ∈ lp_W
def lp_cS (own : String) (index : Nat) (w : lp_M) (n : Nat) : Prop := lp_c0 w n ∧ Cond.methodLink own index w.1 ∈ lp_W ∧ Cond.static w.1 ∈ lp_W
def lp_cSN (own : String) (index : Nat) (w : lp_M) (n : Nat) : Prop := lp_c0 w n ∧ (∃ host, (own, index, w.1, host) ∈ lp_nm) ∧ Cond.static w.1 ∈ lp_W
def lp_cI (own : String) (index : Nat) (w : lp_M) (n : Nat) : Prop := lp_c0 w n ∧ Cond.methodLink own index w.1 ∈ lp_W ∧ Cond.instanceMethod w.1 ∈ lp_W ∧ w.1.name = "<init>" ∧ w.2.2.2 = none
def lp_cIN (own : String) (index : Nat) (w : lp_M) (n : Nat) : Prop := lp_c0 w n ∧ (∃ host, (own, index, w.1, host) ∈ lp_nm) ∧ Cond.instanceMethod w.1 ∈ lp_W ∧ w.1.name = "<init>" ∧ w.2.2.2 = none
section LPB
variable {g : lp_G} {u : lp_M} {M : lp_O} {cells slots pc : Nat} {lv : List (Nat × Value)} {st : List Value} {cs : List va_E}
theorem ab_get {index ci j k : Nat} {fs : List Value} {v : Value} (hf : lp_F u.1.cls index ci j) (hd : decode u.2.1 pc = .ok (.getfield index, 3)) (he : cs[k]? = some (.inr (ci, fs))) (hv : fs[j]? = some v) (kk : Ab g u M cells slots (pc + 3) lv (v :: st) cs) : Ab g u M cells slots pc lv (.ref (g.2.1 + k) :: st) cs := by
  intro p e s m args below meth c X ls H locs hl hw hS
  obtain ⟨C, T, N, hc, hin, hj, hlk, hdc⟩ := hf
  exact va_get X.1 X.2.1 X.2.2.2.2.2.1 hin X.2.2.2.2.1 X.2.2.2.2.2.2.1.1 hw.1 k (lp_ws_at he) hc j hj (X.2.2.2.2.2.1 _ hlk) (fun x hx => by rw [hdc] at hx; exact hx) hv hd (kk p e s m args below meth c X ls H locs hl hw hS)
theorem ab_put {index ci j k : Nat} {fs : List Value} {v : Value} {ty : FieldType} (hf : lp_Fp u.1.cls index ci j ty false) (hd : decode u.2.1 pc = .ok (.putfield index, 3)) (he : cs[k]? = some (.inr (ci, fs))) (hjl : j < fs.length) (hn : narrow ty v = v) (hfit : fits ty v = true)
    (kk : Ab g u M cells slots (pc + 3) lv st (cs.set k (.inr (ci, fs.set j v)))) : Ab g u M cells slots pc lv (v :: .ref (g.2.1 + k) :: st) cs := by
  intro p e s m args below meth c X ls H locs hl hw hS
  obtain ⟨C, T, N, ⟨hc, hin, ⟨tf, hty⟩, hnm⟩, hj, hlk, hdc, hfin, hdt, -⟩ := hf
  have hts := X.2.2.2.2.2.1
  have hK := X.2.2.2.2.2.2.1.1
  have he' := lp_ws_at (sz := g.2.1) he
  have hap := va_apart (own := u.1.cls) hts hin tf hty hnm hK hc
  obtain ⟨r, h1, cell, q1, q2, q3, q4⟩ := hw.1 k _ he'
  have hr : r = (C, T, N) := Option.some.inj (h1.symm.trans hc)
  subst hr
  obtain ⟨hSl, hfc, kC, hkC, hkind⟩ := hK.1 ci _ hc
  obtain ⟨cf, kf, fi, f, hi, hsl⟩ := hSl j hj
  have hlay := hts _ (hin _ (u_in_lay hj))
  unfold u_lay at hlay
  rw [if_neg (by rw [hfin]; decide)] at hlay
  have hst := (u_facts hfc hkC (u_lays hts hin hj) hi).1
  have h6 := u_store hfc hkC hkind hlay hi hdt hn hfit
  refine W.putK X.1 X.2.1 (f := f) ⟨X.2.2.2.2.1, hts _ hlk, ⟨cf, kf, fi, by rw [← hdc]; exact hi⟩, hst⟩ (by rw [q2]; exact h6) q1 q3 (by rw [hsl]; exact k2_hasslot (q4 j hj)) rfl rfl hd fun H' e1 e2 e3 => ?_
  rw [hsl] at e1 ⊢
  refine kk p e s m args below meth c X ls H' _ hl ⟨?_, by rw [e2, hw.2, List.length_set]⟩ (hS.put e2 e3 (Nat.le_add_right _ _))
  rw [← lp_ws_set]
  exact hw.1.set (lp_ws_D _ _) he' ⟨_, hc, t_OB.to (V := updV (vp_V fs) j v) ⟨_, e1, q2, q3, t_set q4 hap hj v⟩ (fun i _ => vp_updV_set hjl v i)⟩ e3
theorem ab_putF {index ci j k : Nat} {fs : List Value} {v : Value} {ty : FieldType} (hf : lp_Fp u.1.cls index ci j ty true) (hu : u.1.name = "<init>") (hd : decode u.2.1 pc = .ok (.putfield index, 3)) (he : cs[k]? = some (.inr (ci, fs))) (hjl : j < fs.length) (hn : narrow ty v = v) (hfit : fits ty v = true)
    (kk : Ab g u M cells slots (pc + 3) lv st (cs.set k (.inr (ci, fs.set j v)))) : Ab g u M cells slots pc lv (v :: .ref (g.2.1 + k) :: st) cs := by
  intro p e s m args below meth c X ls H locs hl hw hS
  obtain ⟨C, T, N, ⟨hc, hin, ⟨tf, hty⟩, hnm⟩, hj, hlk, hdc, hfin, hdt, hco⟩ := hf
  have hts := X.2.2.2.2.2.1
  have hK := X.2.2.2.2.2.2.1.1
  have he' := lp_ws_at (sz := g.2.1) he
  have hap := va_apart (own := u.1.cls) hts hin tf hty hnm hK hc
  obtain ⟨r, h1, cell, q1, q2, q3, q4⟩ := hw.1 k _ he'
  have hr : r = (C, T, N) := Option.some.inj (h1.symm.trans hc)
  subst hr
  obtain ⟨hSl, hfc, kC, hkC, hkind⟩ := hK.1 ci _ hc
  obtain ⟨cf, kf, fi, f, hi, hsl⟩ := hSl j hj
  have hlay := hts _ (hin _ (u_in_lay hj))
  unfold u_lay at hlay
  rw [if_pos hfin] at hlay
  have hst := (u_facts hfc hkC (u_lays hts hin hj) hi).1
  have hcf : m.cls = cf := by
    obtain ⟨_, _, c', _, _, _, -, -, hf', -, -, -, hown2, -⟩ := Cond.laysFinal_spec hlay
    have e1 : c' = cf := by have := hi.symm.trans hf'; simp at this; exact this.1.symm
    rw [hdc, hco rfl] at hown2
    rw [← e1]; exact Option.some.inj (X.2.2.2.2.1.symm.trans hown2)
  have h6 := u_fits hfc hkC hkind (Or.inr hlay) hi hdt hn hfit
  refine W.putFinK X.1 X.2.1 X.2.2.2.2.1 (hts _ hlk) (by rw [← hdc]; exact hi) hst hcf (X.2.2.2.2.2.2.2.2.1 hu) (by rw [q2]; exact h6) q1 q3 (by rw [hsl]; exact k2_hasslot (q4 j hj)) rfl rfl hd fun H' e1 e2 e3 => ?_
  rw [hsl] at e1 ⊢
  refine kk p e s m args below meth c X ls H' _ hl ⟨?_, by rw [e2, hw.2, List.length_set]⟩ (hS.put e2 e3 (Nat.le_add_right _ _))
  rw [← lp_ws_set]
  exact hw.1.set (lp_ws_D _ _) he' ⟨_, hc, t_OB.to (V := updV (vp_V fs) j v) ⟨_, e1, q2, q3, t_set q4 hap hj v⟩ (fun i _ => vp_updV_set hjl v i)⟩ e3
theorem ab_iald {k n : Nat} {f : Nat → Int32} {i : Int32} (hd : decode u.2.1 pc = .ok (.iaload, 1)) (he : cs[k]? = some (.inl (g.2.2.1 0, n, .inl f))) (hin : vp_in i n) (kk : Ab g u M cells slots (pc + 1) lv (.int (f i.toNatClampNeg) :: st) cs) : Ab g u M cells slots pc lv (.int i :: .ref (g.2.1 + k) :: st) cs :=
  fun p e s m args below meth c X ls H locs hl hw hS => va_iald X.1 X.2.1 X.2.2.2.2.2.2.1.1 hw.1 k 0 (lp_ws_at he) rfl hin hd (kk p e s m args below meth c X ls H locs hl hw hS)
theorem ab_iast {k n : Nat} {f : Nat → Int32} {i x : Int32} (hd : decode u.2.1 pc = .ok (.iastore, 1)) (he : cs[k]? = some (.inl (g.2.2.1 0, n, .inl f))) (hin : vp_in i n) (kk : Ab g u M cells slots (pc + 1) lv st (cs.set k (.inl (g.2.2.1 0, n, .inl (upd f i.toNatClampNeg x))))) : Ab g u M cells slots pc lv (.int x :: .int i :: .ref (g.2.1 + k) :: st) cs := by
  intro p e s m args below meth c X ls H locs hl hw hS
  have hK := X.2.2.2.2.2.2.1.1
  have he' := lp_ws_at (sz := g.2.1) he
  refine W.iast X.1 X.2.1 (hw.1 k _ he') ((hK.2 0 _ rfl).1 n (fun j => .int (f j))) (fun q => by cases q) (by show ¬ (i < 0 ∨ (arrV _ _ _).slots.size ≤ _); rw [arrV_size]; exact hin) rfl rfl hd fun H1 e1 z oq => ?_
  refine kk p e s m args below meth c X ls H1 _ hl ⟨?_, by rw [z, hw.2, List.length_set]⟩ (hS.put z oq (Nat.le_add_right _ _))
  rw [← lp_ws_set]
  refine hw.1.set (lp_ws_D _ _) he' ?_ oq
  show H1[_]? = some (vp_cell _ _)
  rw [e1, vp_cell_i, vp_cell_i, arrV_store]
  congr 2
  funext q
  by_cases hq : q = i.toNatClampNeg
  · subst hq
    simp [updV, upd]
  · simp [updV, upd, hq]
theorem ab_aald {t k n r : Nat} {f : Nat → Option Nat} {i : Int32} {ty : FieldType} (hd : decode u.2.1 pc = .ok (.aaload, 1)) (he : cs[k]? = some (.inl (g.2.2.1 t, n, .inr (.inr (.inr (.inr f)))))) (ht : (lp_tys g.2.2.1)[t]? = some (g.2.2.1 t, ty)) (hty : ty.isReference = true) (hin : vp_in i n) (hr : f i.toNatClampNeg = some r) (kk : Ab g u M cells slots (pc + 1) lv (.ref r :: st) cs) : Ab g u M cells slots pc lv (.int i :: .ref (g.2.1 + k) :: st) cs := by
  intro p e s m args below meth c X ls H locs hl hw hS
  have hK := X.2.2.2.2.2.2.1.1
  have hlt : i.toNatClampNeg < n := Nat.not_le.mp fun q => hin (Or.inr q)
  refine W.aald (v := .ref r) (ty := ty) X.1 X.2.1 (hw.1 k _ (lp_ws_at he)) ((hK.2 t _ ht).1 n (fun j => va_rf (f j))) hty (fun q => by cases q) (by show ¬ (i < 0 ∨ (arrV _ _ _).slots.size ≤ _); rw [arrV_size]; exact hin) (by show (arrV _ _ _).slots[_]? = _; rw [arrV_read _ _ hlt, hr]; rfl) rfl rfl hd (kk p e s m args below meth c X ls H locs hl hw hS)
/-- an object into an array of its class -/
theorem ab_aast {t k n r ci : Nat} {f : Nat → Option Nat} {i : Int32} {q0 : vw_C} {fs : List Value} (hd : decode u.2.1 pc = .ok (.aastore, 1)) (he : cs[k]? = some (.inl (g.2.2.1 t, n, .inr (.inr (.inr (.inr f)))))) (ht : (lp_tys g.2.2.1)[t]? = some (g.2.2.1 t, .object q0.1)) (hv : cs[r]? = some (.inr (ci, fs))) (hc : vwCl[ci]? = some q0) (hin : vp_in i n)
    (kk : Ab g u M cells slots (pc + 1) lv st (cs.set k (.inl (g.2.2.1 t, n, .inr (.inr (.inr (.inr (va_up f i.toNatClampNeg (some (g.2.1 + r)))))))))) : Ab g u M cells slots pc lv (.ref (g.2.1 + r) :: .int i :: .ref (g.2.1 + k) :: st) cs := by
  intro p e s m args below meth c X ls H locs hl hw hS
  have hK := X.2.2.2.2.2.2.1.1
  have he' := lp_ws_at (sz := g.2.1) he
  have hlt : i.toNatClampNeg < n := Nat.not_le.mp fun q => hin (Or.inr q)
  have h0 : ¬ i < 0 := fun q => hin (Or.inl q)
  obtain ⟨r', hr', cellV, g1, g2, g3, -⟩ := hw.1 r _ (lp_ws_at hv)
  have hcls := (hK.1 ci q0 hc).2
  obtain ⟨kA, comp, k1, k2, k3, -⟩ := (hK.2 t _ ht).2
  have hcomp : comp = g.2.2.2.1 ci := Option.some.inj (k3.symm.trans hcls.1)
  subst hcomp
  obtain ⟨kC, hkC, -⟩ := hcls.2
  refine W.aast X.1 X.2.1 (hw.1 k _ he') (fun q h => by cases h) (fun h => by cases h) k1 k2 rfl hkC ⟨h0, by show _ < (arrV _ _ _).slots.size; rw [arrV_size]; exact hlt⟩ g1 (fun q h => by rw [g3] at h; cases h) (by rw [g2]; exact hkC) (by rw [g2]; exact va_assign hcls) rfl rfl hd fun H1 e1 z oq => ?_
  refine kk p e s m args below meth c X ls H1 _ hl ⟨?_, by rw [z, hw.2, List.length_set]⟩ (hS.put z oq (Nat.le_add_right _ _))
  rw [← lp_ws_set]
  refine hw.1.set (lp_ws_D _ _) he' ?_ oq
  show H1[_]? = some (vp_cell _ _)
  rw [e1, vp_cell_q, vp_cell_q, arrV_store]
  congr 2
  funext q
  by_cases hq : q = i.toNatClampNeg
  · subst hq
    simp [updV, va_up, va_rf]
  · simp [updV, va_up, hq]
theorem lp_grow {g : lp_G} {cs : List va_E} {a : va_E} {H H1 : Heap} (hw : lp_Wo g cs H) (z : H1.size = H.size + 1) (o : ∀ q : Nat, q < H.size → H1[q]? = H[q]?) (ha : va_at g.2.2.2 vwCl (H.size, a) H1) : lp_Wo g (cs ++ [a]) H1 := by
  refine ⟨?_, by rw [z, hw.2, List.length_append]; rfl⟩
  rw [lp_ws_app]
  refine (hw.1.kept (fun k x hx => o x.1 ((hw.1 k x hx).lt))).app (fun k x hx => ?_)
  have hz : k < 1 := (List.getElem?_eq_some_iff.mp hx).1
  rw [show k = 0 by omega] at hx
  cases hx
  rw [← hw.2]
  exact ha
theorem lp_growS {A : Nat → Prop} {H0 H H1 : Heap} {locs : List Loc} (hS : va_S A H0 H locs) (z : H1.size = H.size + 1) (o : ∀ q : Nat, q < H.size → H1[q]? = H[q]?) : va_S A H0 H1 locs :=
  ⟨Nat.le_trans hS.1 (by omega), fun x h1 h2 => (o x (Nat.lt_of_lt_of_le h1 hS.1)).trans (hS.2.1 x h1 h2), hS.2.2⟩
theorem ab_new {index ci : Nat} {C : String} {T : u_T} {N : Nat} {fs : List Value} (hC : lp_C ci C T N) (hcl : Cond.classLink u.1.cls index C ∈ lp_W) (hinst : Cond.instantiable C N ∈ lp_W) (hini : Cond.initialized C ∈ lp_W) (tf : Nat → FieldType) (hty : ∀ k, k < N → parseFieldDescriptor (T k).2.2.1 = some (tf k)) (hfs : ∀ j, j < N → defaultValue (tf j) = vp_V fs j)
    (hcells : cells + 1 ≤ M.1.cells) (hslots : slots + N ≤ M.1.slots) (hd : decode u.2.1 pc = .ok (.new index, 3)) (kk : Ab g u M (cells + 1) (slots + N) (pc + 3) lv (.ref (g.2.1 + cs.length) :: st) (cs ++ [.inr (ci, fs)])) : Ab g u M cells slots pc lv st cs := by
  intro p e s m args below meth c X ls H locs hl hw hS
  obtain ⟨hc, hin, -, -⟩ := hC
  have hts := X.2.2.2.2.2.1
  have hKn := X.2.2.2.2.2.2.1.1.1 ci _ hc
  refine W.newcK X.1 X.2.1 X.2.2.2.2.1 (hts _ hcl) (hts _ hinst) (hts _ hini) rfl hd hcells hslots hKn.2.1 rfl fun H1 kC hkC e1 z1 o1 => ?_
  have hb := (u_born tf hts hin hKn hkC e1 hty).to hfs
  have k1 := kk p e s m args below meth c X ls H1 locs hl (lp_grow hw z1 o1 ⟨_, hc, hb⟩) (lp_growS hS z1 o1)
  rw [← hw.2] at k1
  exact k1
theorem ab_newa {n : Int32} {N : Nat} (harr : Cond.arrayClass .int ∈ lp_W) (hn : ¬ n < 0) (hN : n.toNatClampNeg = N) (hbytes : N * 4 ≤ 536870912) (hcells : cells + 1 ≤ M.1.cells) (hslots : slots + N ≤ M.1.slots) (hd : decode u.2.1 pc = .ok (.newarray .int, 2))
    (kk : Ab g u M (cells + 1) (slots + N) (pc + 2) lv (.ref (g.2.1 + cs.length) :: st) (cs ++ [.inl (g.2.2.1 0, N, .inl (fun _ => 0))])) : Ab g u M cells slots pc lv (.int n :: st) cs := by
  intro p e s m args below meth c X ls H locs hl hw hS
  refine va_newaK (atype := .int) X.1 X.2.1 (X.2.2.2.2.2.1 _ harr) rfl hd rfl hn hN hbytes hcells hslots rfl fun H1 cA e1 z1 o1 hAr hNm => ?_
  have hcA : cA = g.2.2.1 0 := Option.some.inj (hNm.symm.trans X.2.2.2.2.2.2.1.2.2.2.1)
  subst hcA
  have k1 := kk p e s m args below meth c X ls H1 locs hl (lp_grow hw z1 o1 (show H1[H.size]? = some (vp_cell _ _) by rw [vp_cell_i]; exact e1)) (lp_growS hS z1 o1)
  rw [← hw.2] at k1
  exact k1
theorem ab_newq {index t : Nat} {C : String} {n : Int32} {N : Nat} (hcl : Cond.classLink u.1.cls index C ∈ lp_W) (hao : C ∈ lp_ao) (ht : (lp_tys g.2.2.1)[t]? = some (g.2.2.1 t, .object C)) (hn : ¬ n < 0) (hN : n.toNatClampNeg = N) (hbytes : N * 4 ≤ 536870912) (hcells : cells + 1 ≤ M.1.cells) (hslots : slots + N ≤ M.1.slots) (hd : decode u.2.1 pc = .ok (.anewarray index, 3))
    (kk : Ab g u M (cells + 1) (slots + N) (pc + 3) lv (.ref (g.2.1 + cs.length) :: st) (cs ++ [.inl (g.2.2.1 t, N, .inr (.inr (.inr (.inr (fun _ => none)))))])) : Ab g u M cells slots pc lv (.int n :: st) cs := by
  intro p e s m args below meth c X ls H locs hl hw hS
  subst hN
  have hK := X.2.2.2.2.2.2.1
  refine W.anew X.1 X.2.1 X.2.2.2.2.1 (X.2.2.2.2.2.1 _ hcl) (va_AO.use (hK.2.2.1 C hao)) rfl hd rfl hn hbytes hcells hslots fun cA kA comp f1 f2 f3 f4 => ?_
  obtain ⟨kA', comp', w1, w2, w3, w4⟩ := (hK.1.2 t _ ht).2
  have hcA : cA = g.2.2.1 t := Option.some.inj (f1.symm.trans w4)
  subst hcA
  generalize hH1 : H.push ({ cls := g.2.2.1 t, slots := Array.replicate n.toNatClampNeg .null, vm := .none } : Cell) = H1
  have z1 : H1.size = H.size + 1 := by rw [← hH1, Array.size_push]
  have e1 : H1[H.size]? = some (arrV (g.2.2.1 t) n.toNatClampNeg (fun _ => .null)) := by rw [← hH1, Array.getElem?_push_size, ← arrV_new]
  have o1 : ∀ q : Nat, q < H.size → H1[q]? = H[q]? := fun q hq => by rw [← hH1, Array.getElem?_push, if_neg (Nat.ne_of_lt hq)]
  have k1 := kk p e s m args below meth c X ls H1 locs hl (lp_grow hw z1 o1 (show H1[H.size]? = some (vp_cell _ _) by rw [vp_cell_q]; exact e1)) (lp_growS hS z1 o1)
  rw [← hw.2] at k1
  exact k1
theorem ab_objInit {index : Nat} {a : Nat} (hlink : Cond.methodLink u.1.cls index objectInit ∈ lp_W) (hinst : Cond.instanceMethod objectInit ∈ lp_W) (hcode : Cond.code objectInit ⟨#[0xb1]⟩ 1 none ∈ lp_W) (hd : decode u.2.1 pc = .ok (.invokespecial index, 3)) (hf : 1 ≤ M.1.frames) (hlo : (st.map fun v => v.category).sum + 12 ≤ M.1.locals)
    (kk : Ab g u M cells slots (pc + 3) lv st cs) : Ab g u M cells slots pc lv (.ref a :: st) cs := by
  intro p e s m args below meth c X ls H locs hl hw hS
  have hts := X.2.2.2.2.2.1
  exact W.objInit X.1 X.2.1 X.2.2.2.2.1 (hts _ hlink) (hts _ hinst) (hts _ hcode) rfl (by rw [X.2.2.1]; exact hl.1) rfl hd hf (by show 2 * 0 + _ + 12 ≤ _; omega) (kk p e s m args below meth c X ls H locs hl hw hS)
theorem ab_iret {d mc ms : Nat} {QB : Option Value → List va_E → Prop} {v : Int32} (hr : u.2.2.2 = some .int) (hd : decode u.2.1 pc = .ok (.ireturn, 1)) (hq : QB (some (.int v)) cs) : Ab g u (lp_md g d mc ms QB) mc ms pc lv [.int v] cs :=
  fun p e s m args below meth c X ls H locs hl hw hS => W.iret X.1 X.2.1 (X.2.2.2.1.trans hr) (fun t ht hW => ⟨⟨_, cs, rfl, hq, by rw [ht]; exact hw⟩, hS.F ht⟩) hS.2.2 hd X.2.2.2.2.2.2.2.1
theorem ab_zret {d mc ms : Nat} {QB : Option Value → List va_E → Prop} {v : Int32} (hr : u.2.2.2 = some .boolean) (hn : narrow .boolean (.int v) = .int v) (hd : decode u.2.1 pc = .ok (.ireturn, 1)) (hq : QB (some (.int v)) cs) : Ab g u (lp_md g d mc ms QB) mc ms pc lv [.int v] cs :=
  fun p e s m args below meth c X ls H locs hl hw hS => W.zret X.1 X.2.1 (X.2.2.2.1.trans hr) hn (fun t ht hW => ⟨⟨_, cs, rfl, hq, by rw [ht]; exact hw⟩, hS.F ht⟩) hS.2.2 hd X.2.2.2.2.2.2.2.1
theorem ab_vret {d mc ms : Nat} {QB : Option Value → List va_E → Prop} (hr : u.2.2.2 = none) (hd : decode u.2.1 pc = .ok (.return_, 1)) (hq : QB none cs) : Ab g u (lp_md g d mc ms QB) mc ms pc lv [] cs :=
  fun p e s m args below meth c X ls H locs hl hw hS => W.vret X.1 X.2.1 (X.2.2.2.1.trans hr) (fun t ht hW => ⟨⟨_, cs, rfl, hq, by rw [ht]; exact hw⟩, hS.F ht⟩) hS.2.2 hd X.2.2.2.2.2.2.2.1
theorem ab_entry {d mc ms : Nat} {QB : Option Value → List va_E → Prop} {av : List Value} (hy : plainName u.1.cls = true) (hn : (lg_sl av).length ≤ u.2.2.1) (h : Ab g u (lp_md g d mc ms QB) 0 0 0 (lv_args 0 av) [] cs) : Mb g u d mc ms av cs QB := by
  refine Met.ofW (cc := u.2.1) (maxL := u.2.2.1) (ret := u.2.2.2) hy rfl ?_
  intro p e s m args below meth c s₁ B hml hv
  obtain ⟨rfl, hw, hK⟩ := hv
  have hts := atoms_spec (ws := lp_wm u) B.pre
  rw [lg_entry_eq]
  exact h p e s m _ below meth c ⟨B.exec, B.bytes, hml, B.returns, findClass_of_methodNamed B.named, fun w hw => hts w (List.mem_cons_of_mem _ hw), hK, B.notSynchronized, fun hin => by rw [(name_of_methodNamed B.named B.method).1]; exact hin, by rw [hw.2]; exact Nat.le_add_right _ _, trivial⟩ _ s.heap [] (lv_entry av hn) hw va_S.rf
theorem lp_after {p : Program} {e : Env} {R : Room} {s : State} {m : MethodId} {args a : Array Value} {below : List Frame} {meth : Method} {c : Code} {H : Heap} {locs : List Loc} {mc ms : Nat} {ls : Array Slot} {st0 rest : List Value} {Q : State → Prop} {QB : Option Value → List va_E → Prop}
    (hr : va_Run p g.1 e R s m args below meth c H locs cells slots mc ms (F0 m pc ls st0) rest (lp_Qc g QB a) (fun q => g.2.1 ≤ q)) (hS : va_S (fun q => g.2.1 ≤ q) s.heap H locs)
    (kk : ∀ (v : Option Value) (cs' : List va_E) (H1 : Heap) (locs1 : List Loc), QB v cs' → lp_Wo g cs' H1 → va_S (fun q => g.2.1 ≤ q) s.heap H1 locs1 → W p g.1 e R s m args below meth c H1 locs1 (cells + mc) (slots + ms) Q (F0 m (pc + 3) ls (v.toList ++ rest))) : W p g.1 e R s m args below meth c H locs cells slots Q (F0 m pc ls st0) := by
  intro T hT X
  obtain ⟨v, st₀, t, T', L, h0, X', hL, e1, e2, ⟨⟨v', cs', hv, hq, hwo⟩, hz, hk⟩, hgo⟩ := hr T hT X
  cases hv
  rw [h0] at hz hk
  obtain ⟨t2, a1, b1⟩ := kk v cs' T'.heap (locs ++ L) hq (by rw [e1]; exact hwo)
    ⟨Nat.le_trans hS.1 (by rw [e1]; exact hz), fun q h1 h2 => by rw [e1, hk q (Nat.lt_of_lt_of_le h1 hS.1) h2]; exact hS.2.1 q h1 h2, fun q hq => by
      rcases List.mem_append.mp hq with h | h
      · exact hS.2.2 q h
      · exact hL q h⟩ T' rfl X'
  exact ⟨t2, hgo t2 a1, b1⟩
theorem ab_callV {index k ci d mc ms : Nat} {w : lp_M} {As rest fs : List Value} {q0 : vw_C} {QB : Option Value → List va_E → Prop} (hcw : lp_cV u.1.cls index w As.length) (hd : decode u.2.1 pc = .ok (.invokevirtual index, 3)) (he : cs[k]? = some (.inr (ci, fs))) (hci : vwCl[ci]? = some q0) (hcn : q0.1 = w.1.cls) (hst : st = As.reverse ++ .ref (g.2.1 + k) :: rest) (hrs : (rest.map fun v => v.category).sum ≤ 8)
    (hR : d + 1 ≤ M.1.frames ∧ 8 + (w.2.2.1 + 11) + 34 * d ≤ M.1.locals) (hC : cells + mc ≤ M.1.cells ∧ slots + ms ≤ M.1.slots) (hM : Mb g w d mc ms (.ref (g.2.1 + k) :: As) cs QB) (kk : ∀ v cs', QB v cs' → Ab g u M (cells + mc) (slots + ms) (pc + 3) lv (v.toList ++ rest) cs') : Ab g u M cells slots pc lv st cs := by
  intro p e s m args below meth c X ls H locs hl hw hS
  subst hst
  obtain ⟨⟨hini, hcode, hdd⟩, hlink, hinst, hsel⟩ := hcw
  have hts := X.2.2.2.2.2.1
  have hK := X.2.2.2.2.2.2.1
  refine lp_after (va_runV (As := As) (rest := rest) (nL := u.2.2.1) (C := w.1.cls) ⟨X.1, X.2.1, X.2.2.1, X.2.2.2.2.1, hts⟩ hM ⟨callB_of (ws' := lp_W) As.length hts (lp_gi hcode) rfl rfl rfl (hts _ hini) (hts _ hlink) hdd hR, hts _ hinst, hts _ hsel⟩ ⟨lp_blind, by rw [← hcn]; exact va_recv hK.1 hw.1 hci (lp_ws_at he), fun U hU hW => ⟨rfl, by rw [hU]; exact hw, lp_K.warm hW hK⟩⟩ rfl rfl hl.1 rfl (lv_room hrs) hd hC) hS ?_
  intro v cs' H1 locs1 hq hwo hS1
  exact kk v cs' hq p e s m args below meth c X ls H1 locs1 hl hwo hS1
theorem ab_callVN {index k ci d mc ms : Nat} {w : lp_M} {As rest fs : List Value} {q0 : vw_C} {QB : Option Value → List va_E → Prop} (hcw : lp_cVN u.1.cls index w As.length) (hd : decode u.2.1 pc = .ok (.invokevirtual index, 3)) (he : cs[k]? = some (.inr (ci, fs))) (hci : vwCl[ci]? = some q0) (hcn : q0.1 = w.1.cls) (hst : st = As.reverse ++ .ref (g.2.1 + k) :: rest) (hrs : (rest.map fun v => v.category).sum ≤ 8)
    (hR : d + 1 ≤ M.1.frames ∧ 8 + (w.2.2.1 + 11) + 34 * d ≤ M.1.locals) (hC : cells + mc ≤ M.1.cells ∧ slots + ms ≤ M.1.slots) (hM : Mb g w d mc ms (.ref (g.2.1 + k) :: As) cs QB) (kk : ∀ v cs', QB v cs' → Ab g u M (cells + mc) (slots + ms) (pc + 3) lv (v.toList ++ rest) cs') : Ab g u M cells slots pc lv st cs := by
  intro p e s m args below meth c X ls H locs hl hw hS
  subst hst
  obtain ⟨⟨hini, hcode, hdd⟩, ⟨host, hlink⟩, hinst, hsel⟩ := hcw
  have hts := X.2.2.2.2.2.1
  have hK := X.2.2.2.2.2.2.1
  refine lp_after (va_runVN (As := As) (rest := rest) (nL := u.2.2.1) (C := w.1.cls) ⟨X.1, X.2.1, X.2.2.1, X.2.2.2.2.1, hts⟩ hM ⟨va_cnB (ws' := lp_W) As.length hts (lp_gi hcode) rfl rfl rfl (hK.2.1 _ hlink) (hts _ hini) hdd hR, hts _ hinst, hts _ hsel⟩ ⟨lp_blind, by rw [← hcn]; exact va_recv hK.1 hw.1 hci (lp_ws_at he), fun U hU hW => ⟨rfl, by rw [hU]; exact hw, lp_K.warm hW hK⟩⟩ rfl rfl hl.1 rfl (lv_room hrs) hd hC) hS ?_
  intro v cs' H1 locs1 hq hwo hS1
  exact kk v cs' hq p e s m args below meth c X ls H1 locs1 hl hwo hS1
theorem ab_callS {index d mc ms : Nat} {w : lp_M} {As rest : List Value} {QB : Option Value → List va_E → Prop} (hcw : lp_cS u.1.cls index w As.length) (hd : decode u.2.1 pc = .ok (.invokestatic index, 3)) (hst : st = As.reverse ++ rest) (hrs : (rest.map fun v => v.category).sum ≤ 8)
    (hR : d + 1 ≤ M.1.frames ∧ 8 + (w.2.2.1 + 11) + 34 * d ≤ M.1.locals) (hC : cells + mc ≤ M.1.cells ∧ slots + ms ≤ M.1.slots) (hM : Mb g w d mc ms As cs QB) (kk : ∀ v cs', QB v cs' → Ab g u M (cells + mc) (slots + ms) (pc + 3) lv (v.toList ++ rest) cs') : Ab g u M cells slots pc lv st cs := by
  intro p e s m args below meth c X ls H locs hl hw hS
  subst hst
  obtain ⟨⟨hini, hcode, hdd⟩, hlink, hstat⟩ := hcw
  have hts := X.2.2.2.2.2.1
  have hK := X.2.2.2.2.2.2.1
  refine lp_after (va_runS (As := As) (rest := rest) (nL := u.2.2.1) ⟨X.1, X.2.1, X.2.2.1, X.2.2.2.2.1, hts⟩ hM ⟨callB_of (ws' := lp_W) As.length hts (lp_gi hcode) rfl rfl rfl (hts _ hini) (hts _ hlink) hdd hR, hts _ hstat⟩ ⟨lp_blind, fun U hU hW => ⟨rfl, by rw [hU]; exact hw, lp_K.warm hW hK⟩⟩ rfl rfl hl.1 rfl (lv_room hrs) hd hC) hS ?_
  intro v cs' H1 locs1 hq hwo hS1
  exact kk v cs' hq p e s m args below meth c X ls H1 locs1 hl hwo hS1
theorem ab_callSN {index d mc ms : Nat} {w : lp_M} {As rest : List Value} {QB : Option Value → List va_E → Prop} (hcw : lp_cSN u.1.cls index w As.length) (hd : decode u.2.1 pc = .ok (.invokestatic index, 3)) (hst : st = As.reverse ++ rest) (hrs : (rest.map fun v => v.category).sum ≤ 8)
    (hR : d + 1 ≤ M.1.frames ∧ 8 + (w.2.2.1 + 11) + 34 * d ≤ M.1.locals) (hC : cells + mc ≤ M.1.cells ∧ slots + ms ≤ M.1.slots) (hM : Mb g w d mc ms As cs QB) (kk : ∀ v cs', QB v cs' → Ab g u M (cells + mc) (slots + ms) (pc + 3) lv (v.toList ++ rest) cs') : Ab g u M cells slots pc lv st cs := by
  intro p e s m args below meth c X ls H locs hl hw hS
  subst hst
  obtain ⟨⟨hini, hcode, hdd⟩, ⟨host, hlink⟩, hstat⟩ := hcw
  have hts := X.2.2.2.2.2.1
  have hK := X.2.2.2.2.2.2.1
  refine lp_after (va_runSN (As := As) (rest := rest) (nL := u.2.2.1) ⟨X.1, X.2.1, X.2.2.1, X.2.2.2.2.1, hts⟩ hM ⟨va_cnB (ws' := lp_W) As.length hts (lp_gi hcode) rfl rfl rfl (hK.2.1 _ hlink) (hts _ hini) hdd hR, hts _ hstat, trivial⟩ ⟨lp_blind, fun U hU hW => ⟨rfl, by rw [hU]; exact hw, lp_K.warm hW hK⟩⟩ rfl rfl hl.1 rfl (lv_room hrs) hd hC) hS ?_
  intro v cs' H1 locs1 hq hwo hS1
  exact kk v cs' hq p e s m args below meth c X ls H1 locs1 hl hwo hS1
theorem ab_callI {index d mc ms : Nat} {b : Nat} {w : lp_M} {As rest : List Value} {QB : Option Value → List va_E → Prop} (hcw : lp_cI u.1.cls index w As.length) (hd : decode u.2.1 pc = .ok (.invokespecial index, 3)) (hst : st = As.reverse ++ .ref b :: rest) (hrs : (rest.map fun v => v.category).sum ≤ 8)
    (hR : d + 1 ≤ M.1.frames ∧ 8 + (w.2.2.1 + 11) + 34 * d ≤ M.1.locals) (hC : cells + mc ≤ M.1.cells ∧ slots + ms ≤ M.1.slots) (hM : Mb g w d mc ms (.ref b :: As) cs QB) (kk : ∀ v cs', QB v cs' → Ab g u M (cells + mc) (slots + ms) (pc + 3) lv (v.toList ++ rest) cs') : Ab g u M cells slots pc lv st cs := by
  intro p e s m args below meth c X ls H locs hl hw hS
  subst hst
  obtain ⟨⟨hini, hcode, hdd⟩, hlink, hinst, hnm, hnn⟩ := hcw
  have hts := X.2.2.2.2.2.1
  have hK := X.2.2.2.2.2.2.1
  refine lp_after (va_runI (As := As) (rest := rest) (nL := u.2.2.1) (b := b) (bytes := w.2.1) (maxL := w.2.2.1) (n := As.length) ⟨X.1, X.2.1, X.2.2.1, X.2.2.2.2.1, hts⟩ hM ⟨callB_of (ws' := lp_W) As.length hts (lp_gi hcode) (by rw [← hnn]; rfl) rfl rfl (hts _ hini) (hts _ hlink) hdd hR, hnm, hts _ hinst⟩ ⟨lp_blind, fun U hU hW => ⟨rfl, by rw [hU]; exact hw, lp_K.warm hW hK⟩⟩ rfl rfl hl.1 rfl (lv_room hrs) hd hC) hS ?_
  intro v cs' H1 locs1 hq hwo hS1
  exact kk v cs' hq p e s m args below meth c X ls H1 locs1 hl hwo hS1
theorem ab_callIN {index d mc ms : Nat} {b : Nat} {w : lp_M} {As rest : List Value} {QB : Option Value → List va_E → Prop} (hcw : lp_cIN u.1.cls index w As.length) (hd : decode u.2.1 pc = .ok (.invokespecial index, 3)) (hst : st = As.reverse ++ .ref b :: rest) (hrs : (rest.map fun v => v.category).sum ≤ 8)
    (hR : d + 1 ≤ M.1.frames ∧ 8 + (w.2.2.1 + 11) + 34 * d ≤ M.1.locals) (hC : cells + mc ≤ M.1.cells ∧ slots + ms ≤ M.1.slots) (hM : Mb g w d mc ms (.ref b :: As) cs QB) (kk : ∀ v cs', QB v cs' → Ab g u M (cells + mc) (slots + ms) (pc + 3) lv (v.toList ++ rest) cs') : Ab g u M cells slots pc lv st cs := by
  intro p e s m args below meth c X ls H locs hl hw hS
  subst hst
  obtain ⟨⟨hini, hcode, hdd⟩, ⟨host, hlink⟩, hinst, hnm, hnn⟩ := hcw
  have hts := X.2.2.2.2.2.1
  have hK := X.2.2.2.2.2.2.1
  refine lp_after (va_runIN (As := As) (rest := rest) (nL := u.2.2.1) (b := b) (bytes := w.2.1) (maxL := w.2.2.1) (n := As.length) ⟨X.1, X.2.1, X.2.2.1, X.2.2.2.2.1, hts⟩ hM ⟨va_cnB (ws' := lp_W) As.length hts (lp_gi hcode) (by rw [← hnn]; rfl) rfl rfl (hK.2.1 _ hlink) (hts _ hini) hdd hR, hnm, hts _ hinst⟩ ⟨lp_blind, fun U hU hW => ⟨rfl, by rw [hU]; exact hw, lp_K.warm hW hK⟩⟩ rfl rfl hl.1 rfl (lv_room hrs) hd hC) hS ?_
  intro v cs' H1 locs1 hq hwo hS1
  exact kk v cs' hq p e s m args below meth c X ls H1 locs1 hl hwo hS1
def lp_cM (own : String) (index : Nat) (y : MethodName) (code : ByteArray) (n : Nat) : Prop := Cond.methodLink own index y ∈ lp_W ∧ Cond.static y ∈ lp_W ∧ Cond.initialized "java/lang/Math" ∈ lp_W ∧ Cond.code y code n (some .int) ∈ lp_W
theorem ab_mmax {index : Nat} {x y : Int32} (hcw : lp_cM u.1.cls index Lib.Math.max.name Lib.Math.max.code 2) (hd : decode u.2.1 pc = .ok (.invokestatic index, 3)) (hf : 1 ≤ M.1.frames) (hlo : (st.map fun v => v.category).sum + 13 ≤ M.1.locals) (hC : cells ≤ M.1.cells ∧ slots ≤ M.1.slots) (kk : Ab g u M cells slots (pc + 3) lv (.int (if x < y then y else x) :: st) cs) : Ab g u M cells slots pc lv (.int y :: .int x :: st) cs :=
  fun p e s m args below meth c X ls H locs hl hw hS => va_mmax X.1 X.2.1 (X.2.2.1.trans hl.1.symm) X.2.2.2.2.1 (X.2.2.2.2.2.1 _ hcw.1) (X.2.2.2.2.2.1 _ hcw.2.1) (X.2.2.2.2.2.1 _ hcw.2.2.1) (X.2.2.2.2.2.1 _ hcw.2.2.2) hf hlo hC.1 hC.2 hd (kk p e s m args below meth c X ls H locs hl hw hS)
theorem ab_mmin {index : Nat} {x y : Int32} (hcw : lp_cM u.1.cls index Lib.Math.min.name Lib.Math.min.code 2) (hd : decode u.2.1 pc = .ok (.invokestatic index, 3)) (hf : 1 ≤ M.1.frames) (hlo : (st.map fun v => v.category).sum + 13 ≤ M.1.locals) (hC : cells ≤ M.1.cells ∧ slots ≤ M.1.slots) (kk : Ab g u M cells slots (pc + 3) lv (.int (if y < x then y else x) :: st) cs) : Ab g u M cells slots pc lv (.int y :: .int x :: st) cs :=
  fun p e s m args below meth c X ls H locs hl hw hS => va_mmin X.1 X.2.1 (X.2.2.1.trans hl.1.symm) X.2.2.2.2.1 (X.2.2.2.2.2.1 _ hcw.1) (X.2.2.2.2.2.1 _ hcw.2.1) (X.2.2.2.2.2.1 _ hcw.2.2.1) (X.2.2.2.2.2.1 _ hcw.2.2.2) hf hlo hC.1 hC.2 hd (kk p e s m args below meth c X ls H locs hl hw hS)
theorem ab_mabs {index : Nat} {x : Int32} (hcw : lp_cM u.1.cls index Lib.Math.abs.name Lib.Math.abs.code 1) (hd : decode u.2.1 pc = .ok (.invokestatic index, 3)) (hf : 1 ≤ M.1.frames) (hlo : (st.map fun v => v.category).sum + 13 ≤ M.1.locals) (hC : cells ≤ M.1.cells ∧ slots ≤ M.1.slots) (kk : Ab g u M cells slots (pc + 3) lv (.int (if 0 ≤ x then x else 0 - x) :: st) cs) : Ab g u M cells slots pc lv (.int x :: st) cs :=
  fun p e s m args below meth c X ls H locs hl hw hS => va_mabs X.1 X.2.1 (X.2.2.1.trans hl.1.symm) X.2.2.2.2.1 (X.2.2.2.2.2.1 _ hcw.1) (X.2.2.2.2.2.1 _ hcw.2.1) (X.2.2.2.2.2.1 _ hcw.2.2.1) (X.2.2.2.2.2.1 _ hcw.2.2.2) hf hlo hC.1 hC.2 hd (kk p e s m args below meth c X ls H locs hl hw hS)
end LPB
end
section
abbrev lp_Sh : Type := (Nat × Option (Nat × Nat × Nat)) ⊕ (Nat × List (Option Nat))
def lp_sh : List lp_Sh := [.inr (0, [some 1, some 2, none, some 8, some 36, some 90, some 92, some 119, some 122, some 125]), .inl (4, some (1, 143, 2)), .inr (2, [some 3, some 5, some 7, none]), .inr (1, [some 4, none]), .inl (24, none), .inr (1, [some 6, none]), .inl (24, none), .inl (24, none), .inr (4, [some 9, some 35]), .inl (25, some (3, 10, 1)), .inl (25, none), .inl (25, none), .inl (25, none), .inl (25, none), .inl (25, none), .inl (25, none), .inl (25, none), .inl (25, none), .inl (25, none), .inl (25, none), .inl (25, none), .inl (25, none), .inl (25, none), .inl (25, none), .inl (25, none), .inl (25, none), .inl (25, none), .inl (25, none), .inl (25, none), .inl (25, none), .inl (25, none), .inl (25, none), .inl (25, none), .inl (25, none), .inl (25, none), .inr (3, [none, none, none, none]), .inr (5, [some 8, some 37, none, some 38, some 39, some 40, none]), .inl (49, some (2, 41, 1)), .inl (24, none), .inl (24, none), .inl (24, none), .inr (3, [none, none, none, none]), .inr (3, [none, none, none, none]), .inr (3, [none, none, none, none]), .inr (3, [none, none, none, none]), .inr (3, [none, none, none, none]), .inr (3, [none, none, none, none]), .inr (3, [none, none, none, none]), .inr (3, [none, none, none, none]), .inr (3, [none, none, none, none]), .inr (3, [none, none, none, none]), .inr (3, [none, none, none, none]), .inr (3, [none, none, none, none]), .inr (3, [none, none, none, none]), .inr (3, [none, none, none, none]), .inr (3, [none, none, none, none]), .inr (3, [none, none, none, none]), .inr (3, [none, none, none, none]), .inr (3, [none, none, none, none]), .inr (3, [none, none, none, none]), .inr (3, [none, none, none, none]), .inr (3, [none, none, none, none]), .inr (3, [none, none, none, none]), .inr (3, [none, none, none, none]), .inr (3, [none, none, none, none]), .inr (3, [none, none, none, none]), .inr (3, [none, none, none, none]), .inr (3, [none, none, none, none]), .inr (3, [none, none, none, none]), .inr (3, [none, none, none, none]), .inr (3, [none, none, none, none]), .inr (3, [none, none, none, none]), .inr (3, [none, none, none, none]), .inr (3, [none, none, none, none]), .inr (3, [none, none, none, none]), .inr (3, [none, none, none, none]), .inr (3, [none, none, none, none]), .inr (3, [none, none, none, none]), .inr (3, [none, none, none, none]), .inr (3, [none, none, none, none]), .inr (3, [none, none, none, none]), .inr (3, [none, none, none, none]), .inr (3, [none, none, none, none]), .inr (3, [none, none, none, none]), .inr (3, [none, none, none, none]), .inr (3, [none, none, none, none]), .inr (3, [none, none, none, none]), .inr (3, [none, none, none, none]), .inr (3, [none, none, none, none]), .inr (3, [none, none, none, none]), .inr (6, [some 91, none]), .inl (900, none), .inr (7, [some 2, some 90, some 93, none]), .inl (25, some (2, 94, 1)), .inr (3, [none, none, none, none]), .inr (3, [none, none, none, none]), .inr (3, [none, none, none, none]), .inr (3, [none, none, none, none]), .inr (3, [none, none, none, none]), .inr (3, [none, none, none, none]), .inr (3, [none, none, none, none]), .inr (3, [none, none, none, none]), .inr (3, [none, none, none, none]), .inr (3, [none, none, none, none]), .inr (3, [none, none, none, none]), .inr (3, [none, none, none, none]), .inr (3, [none, none, none, none]), .inr (3, [none, none, none, none]), .inr (3, [none, none, none, none]), .inr (3, [none, none, none, none]), .inr (3, [none, none, none, none]), .inr (3, [none, none, none, none]), .inr (3, [none, none, none, none]), .inr (3, [none, none, none, none]), .inr (3, [none, none, none, none]), .inr (3, [none, none, none, none]), .inr (3, [none, none, none, none]), .inr (3, [none, none, none, none]), .inr (3, [none, none, none, none]), .inr (8, [some 90, none, none, none, none, some 120, none, some 121, none]), .inl (99, none), .inl (99, none), .inr (9, [some 119, some 123]), .inr (1, [some 124, none]), .inl (24, none), .inr (11, [some 8, some 126, some 132, some 138, some 139, some 140, some 141, none, none]), .inr (2, [some 127, some 129, some 131, none]), .inr (1, [some 128, none]), .inl (24, none), .inr (1, [some 130, none]), .inl (24, none), .inl (24, none), .inr (2, [some 133, some 135, some 137, none]), .inr (1, [some 134, none]), .inl (24, none), .inr (1, [some 136, none]), .inl (24, none), .inl (24, none), .inr (10, [some 127, none, none]), .inr (10, [some 129, none, none]), .inr (10, [some 135, none, none]), .inr (1, [some 142, none]), .inl (24, none), .inr (1, [some 144, none]), .inl (24, none), .inr (1, [some 146, none]), .inl (24, none), .inr (1, [some 148, none]), .inl (24, none), .inr (1, [some 150, none]), .inl (24, none), .inr (12, [some 152, some 153, none, none, some 154, some 155, some 156, some 157, none, some 158, some 159, some 160, some 161, some 162, some 163, none, none, none, some 164, some 165, some 166, none, some 167, some 168, none, some 169, none, some 170, some 171, some 172, some 173, some 174, some 175, none, none, none, some 176, some 177]), .inl (96, none), .inl (4, none), .inl (24, none), .inl (24, none), .inl (24, none), .inl (625, none), .inl (60, none), .inl (60, none), .inl (60, none), .inl (60, none), .inl (24, none), .inl (24, none), .inl (24, none), .inl (24, none), .inl (24, none), .inl (48, none), .inl (48, none), .inl (900, none), .inl (80, none), .inl (80, none), .inl (80, none), .inl (80, none), .inl (80, none), .inl (80, none), .inl (24, none), .inl (24, none)]
/-! the cells after both objects are made: their kinds never change; what changes are ints: a state is two functions, place and slot to int, place and index to int -/
abbrev SS : Type := (Nat → Nat → Int32) × (Nat → Nat → Int32)
def setI (S : SS) (k j : Nat) (v : Int32) : SS := (fun a b => if a = k ∧ b = j then v else S.1 a b, S.2)
def setA (S : SS) (k i : Nat) (v : Int32) : SS := (S.1, fun a b => if a = k ∧ b = i then v else S.2 a b)
def lp_fv (g : lp_G) (S : SS) (k j : Nat) (o : Option Nat) : Value := match o with
  | none => .int (S.1 k j)
  | some r => .ref (g.2.1 + r)
def lp_cell (g : lp_G) (S : SS) (k : Nat) (x : lp_Sh) : va_E := match x with
  | .inl (n, none) => .inl (g.2.2.1 0, n, .inl (S.2 k))
  | .inl (n, some (t, b, w)) => .inl (g.2.2.1 t, n, .inr (.inr (.inr (.inr (fun j => if j < n then some (g.2.1 + (b + w * j)) else none)))))
  | .inr (ci, T) => .inr (ci, T.mapIdx (lp_fv g S k))
def wc (g : lp_G) (S : SS) : List va_E := lp_sh.mapIdx (lp_cell g S)
theorem wc_at {g : lp_G} {S : SS} {k : Nat} {x : lp_Sh} (h : lp_sh[k]? = some x) : (wc g S)[k]? = some (lp_cell g S k x) := by
  simp [wc, h]
theorem wc_len (g : lp_G) (S : SS) : (wc g S).length = lp_sh.length := by simp [wc]
theorem lp_cell_ne {g : lp_G} {S S' : SS} {k : Nat} {x : lp_Sh} (h1 : S'.1 k = S.1 k) (h2 : S'.2 k = S.2 k) : lp_cell g S' k x = lp_cell g S k x := by
  rcases x with ⟨n, _ | ⟨t, b, w⟩⟩ | ⟨ci, T⟩
  · simp only [lp_cell, h2]
  · rfl
  · have e : lp_fv g S' k = lp_fv g S k := by
      funext j o
      cases o
      · simp only [lp_fv, h1]
      · rfl
    simp only [lp_cell, e]
theorem wc_set {g : lp_G} {S S' : SS} {k : Nat} {x : lp_Sh} {e : va_E} (h : ∀ j, j ≠ k → S'.1 j = S.1 j ∧ S'.2 j = S.2 j) (hk : lp_sh[k]? = some x) (he : lp_cell g S' k x = e) : (wc g S).set k e = wc g S' := by
  apply List.ext_getElem?
  intro j
  rw [List.getElem?_set]
  by_cases hj : k = j
  · subst hj
    rw [if_pos rfl, wc_len, if_pos (List.getElem?_eq_some_iff.mp hk).1, wc_at hk, he]
  · rw [if_neg hj]
    simp only [wc, List.getElem?_mapIdx]
    cases lp_sh[j]? with
    | none => rfl
    | some y => simp only [Option.map_some, lp_cell_ne (h j (fun q => hj q.symm)).1 (h j (fun q => hj q.symm)).2]
theorem wc_setI {g : lp_G} {S : SS} {k j ci : Nat} {T : List (Option Nat)} {v : Int32} (hk : lp_sh[k]? = some (.inr (ci, T))) (hT : T[j]? = some none) : (wc g S).set k (.inr (ci, (T.mapIdx (lp_fv g S k)).set j (.int v))) = wc g (setI S k j v) := by
  refine wc_set (fun i hi => ⟨?_, rfl⟩) hk ?_
  · funext b
    simp [setI, hi]
  · show Sum.inr (ci, _) = Sum.inr (ci, _)
    congr 2
    apply List.ext_getElem?
    intro i
    rw [List.getElem?_set, List.getElem?_mapIdx]
    by_cases hi : j = i
    · subst hi
      have hl : j < T.length := (List.getElem?_eq_some_iff.mp hT).1
      rw [if_pos rfl, List.length_mapIdx, if_pos hl, hT]
      simp [lp_fv, setI]
    · simp only [hi, if_false, List.getElem?_mapIdx]
      cases T[i]? with
      | none => rfl
      | some o =>
        cases o with
        | none => simp [lp_fv, setI, Ne.symm hi]
        | some r => rfl
theorem wc_setA {g : lp_G} {S : SS} {k n i : Nat} {v : Int32} (hk : lp_sh[k]? = some (.inl (n, none))) : (wc g S).set k (.inl (g.2.2.1 0, n, .inl (upd (S.2 k) i v))) = wc g (setA S k i v) := by
  refine wc_set (fun j hj => ⟨rfl, ?_⟩) hk ?_
  · funext b
    simp [setA, hj]
  · show Sum.inl (g.2.2.1 0, n, Sum.inl _) = Sum.inl (g.2.2.1 0, n, Sum.inl _)
    congr 3
    refine congrArg Sum.inl (funext fun b => ?_)
    simp [setA, upd]
def lp_QS (g : lp_G) (QS : Option Value → SS → Prop) : Option Value → List va_E → Prop := fun v cs => ∃ S, cs = wc g S ∧ QS v S
theorem lp_QS.use {g : lp_G} {QS : Option Value → SS → Prop} {v : Option Value} {cs : List va_E} (P : Option Value → List va_E → Prop) (h : lp_QS g QS v cs) (k : ∀ S', QS v S' → P v (wc g S')) : P v cs := by
  obtain ⟨S', h1, h2⟩ := h
  rw [h1]
  exact k S' h2
/-- a method that answers an int (or a boolean), one that answers nothing -/
def MtI (g : lp_G) (w : lp_M) (d : Nat) (av : List Value) (S : SS) (Q : Int32 → SS → Prop) : Prop := Mb g w d 0 0 av (wc g S) (lp_QS g (fun v S' => ∃ r, v = some (.int r) ∧ Q r S'))
def MtV (g : lp_G) (w : lp_M) (d : Nat) (av : List Value) (S : SS) (Q : SS → Prop) : Prop := Mb g w d 0 0 av (wc g S) (lp_QS g (fun v S' => v = none ∧ Q S'))
theorem MtI.mono {g : lp_G} {w : lp_M} {d : Nat} {av : List Value} {S : SS} {Q Q' : Int32 → SS → Prop} (h : MtI g w d av S Q) (hq : ∀ r S', Q r S' → Q' r S') : MtI g w d av S Q' :=
  Mb.mono h (fun _ _ ⟨S', e, r, hv, hQ⟩ => ⟨S', e, r, hv, hq r S' hQ⟩)
theorem MtV.mono {g : lp_G} {w : lp_M} {d : Nat} {av : List Value} {S : SS} {Q Q' : SS → Prop} (h : MtV g w d av S Q) (hq : ∀ S', Q S' → Q' S') : MtV g w d av S Q' :=
  Mb.mono h (fun _ _ ⟨S', e, hv, hQ⟩ => ⟨S', e, hv, hq S' hQ⟩)
def mdI (g : lp_G) (d : Nat) (Q : Int32 → SS → Prop) : lp_O := lp_md g d 0 0 (lp_QS g (fun v S' => ∃ r, v = some (.int r) ∧ Q r S'))
def mdV (g : lp_G) (d : Nat) (Q : SS → Prop) : lp_O := lp_md g d 0 0 (lp_QS g (fun v S' => v = none ∧ Q S'))
abbrev AtI (g : lp_G) (u : lp_M) (d : Nat) (Q : Int32 → SS → Prop) (pc : Nat) (lv : List (Nat × Value)) (st : List Value) (S : SS) : Prop := Ab g u (mdI g d Q) 0 0 pc lv st (wc g S)
abbrev AtV (g : lp_G) (u : lp_M) (d : Nat) (Q : SS → Prop) (pc : Nat) (lv : List (Nat × Value)) (st : List Value) (S : SS) : Prop := Ab g u (mdV g d Q) 0 0 pc lv st (wc g S)
/-- the room for a call of depth d -/
def lp_en (M : lp_O) (d : Nat) : Prop := d ≤ M.1.frames ∧ 34 * d ≤ M.1.locals
theorem enI {g : lp_G} {d : Nat} {Q : Int32 → SS → Prop} : lp_en (mdI g d Q) d := ⟨Nat.le_refl _, Nat.le_refl _⟩
theorem enV {g : lp_G} {d : Nat} {Q : SS → Prop} : lp_en (mdV g d Q) d := ⟨Nat.le_refl _, Nat.le_refl _⟩
theorem lp_en.call {M : lp_O} {d : Nat} (h : lp_en M (d + 1)) {w : lp_M} (hm : w.2.2.1 ≤ 15) : d + 1 ≤ M.1.frames ∧ 8 + (w.2.2.1 + 11) + 34 * d ≤ M.1.locals := ⟨h.1, by have := h.2; omega⟩
section LPC
variable {g : lp_G} {u : lp_M} {M : lp_O} {cells slots pc : Nat} {lv : List (Nat × Value)} {st : List Value} {S : SS}
theorem sa_getI {index ci j k : Nat} {T : List (Option Nat)} (hf : lp_F u.1.cls index ci j) (hd : decode u.2.1 pc = .ok (.getfield index, 3)) (hs : lp_sh[k]? = some (.inr (ci, T))) (hT : T[j]? = some none) (kk : Ab g u M cells slots (pc + 3) lv (.int (S.1 k j) :: st) (wc g S)) : Ab g u M cells slots pc lv (.ref (g.2.1 + k) :: st) (wc g S) :=
  ab_get (v := .int (S.1 k j)) hf hd (wc_at hs) (by rw [List.getElem?_mapIdx, hT]; rfl) kk
theorem sa_getR {index ci j k r : Nat} {T : List (Option Nat)} (hf : lp_F u.1.cls index ci j) (hd : decode u.2.1 pc = .ok (.getfield index, 3)) (hs : lp_sh[k]? = some (.inr (ci, T))) (hT : T[j]? = some (some r)) (kk : Ab g u M cells slots (pc + 3) lv (.ref (g.2.1 + r) :: st) (wc g S)) : Ab g u M cells slots pc lv (.ref (g.2.1 + k) :: st) (wc g S) :=
  ab_get (v := .ref (g.2.1 + r)) hf hd (wc_at hs) (by rw [List.getElem?_mapIdx, hT]; rfl) kk
theorem sa_putI {index ci j k : Nat} {T : List (Option Nat)} {v : Int32} (hf : lp_Fp u.1.cls index ci j .int false) (hd : decode u.2.1 pc = .ok (.putfield index, 3)) (hs : lp_sh[k]? = some (.inr (ci, T))) (hT : T[j]? = some none) (kk : Ab g u M cells slots (pc + 3) lv st (wc g (setI S k j v))) : Ab g u M cells slots pc lv (.int v :: .ref (g.2.1 + k) :: st) (wc g S) :=
  ab_put hf hd (wc_at hs) (by rw [List.length_mapIdx]; exact (List.getElem?_eq_some_iff.mp hT).1) rfl rfl (by rw [wc_setI hs hT]; exact kk)
theorem sa_putZ {index ci j k : Nat} {T : List (Option Nat)} {v : Int32} (hf : lp_Fp u.1.cls index ci j .boolean false) (hd : decode u.2.1 pc = .ok (.putfield index, 3)) (hs : lp_sh[k]? = some (.inr (ci, T))) (hT : T[j]? = some none) (hn : narrow .boolean (.int v) = .int v) (hfit : fits .boolean (.int v) = true) (kk : Ab g u M cells slots (pc + 3) lv st (wc g (setI S k j v))) : Ab g u M cells slots pc lv (.int v :: .ref (g.2.1 + k) :: st) (wc g S) :=
  ab_put hf hd (wc_at hs) (by rw [List.length_mapIdx]; exact (List.getElem?_eq_some_iff.mp hT).1) hn hfit (by rw [wc_setI hs hT]; exact kk)
theorem sa_iald {k n : Nat} {i : Int32} (hd : decode u.2.1 pc = .ok (.iaload, 1)) (hs : lp_sh[k]? = some (.inl (n, none))) (hin : vp_in i n) (kk : Ab g u M cells slots (pc + 1) lv (.int (S.2 k i.toNatClampNeg) :: st) (wc g S)) : Ab g u M cells slots pc lv (.int i :: .ref (g.2.1 + k) :: st) (wc g S) :=
  ab_iald (f := S.2 k) hd (wc_at hs) hin kk
theorem sa_iast {k n : Nat} {i x : Int32} (hd : decode u.2.1 pc = .ok (.iastore, 1)) (hs : lp_sh[k]? = some (.inl (n, none))) (hin : vp_in i n) (kk : Ab g u M cells slots (pc + 1) lv st (wc g (setA S k i.toNatClampNeg x))) : Ab g u M cells slots pc lv (.int x :: .int i :: .ref (g.2.1 + k) :: st) (wc g S) :=
  ab_iast (f := S.2 k) hd (wc_at hs) hin (by rw [wc_setA hs]; exact kk)
theorem sa_aald {k n t b w : Nat} {i : Int32} {ty : FieldType} (hd : decode u.2.1 pc = .ok (.aaload, 1)) (hs : lp_sh[k]? = some (.inl (n, some (t, b, w)))) (ht : (lp_tys g.2.2.1)[t]? = some (g.2.2.1 t, ty)) (hty : ty.isReference = true) (hin : vp_in i n) (kk : Ab g u M cells slots (pc + 1) lv (.ref (g.2.1 + (b + w * i.toNatClampNeg)) :: st) (wc g S)) : Ab g u M cells slots pc lv (.int i :: .ref (g.2.1 + k) :: st) (wc g S) :=
  ab_aald hd (wc_at hs) ht hty hin (if_pos (Nat.not_le.mp fun q => hin (Or.inr q))) kk
theorem sa_iretI {d : Nat} {Q : Int32 → SS → Prop} {v : Int32} (hr : u.2.2.2 = some .int) (hd : decode u.2.1 pc = .ok (.ireturn, 1)) (hq : Q v S) : Ab g u (mdI g d Q) 0 0 pc lv [.int v] (wc g S) := ab_iret hr hd ⟨S, rfl, v, rfl, hq⟩
theorem sa_iretZ {d : Nat} {Q : Int32 → SS → Prop} {v : Int32} (hr : u.2.2.2 = some .boolean) (hn : narrow .boolean (.int v) = .int v) (hd : decode u.2.1 pc = .ok (.ireturn, 1)) (hq : Q v S) : Ab g u (mdI g d Q) 0 0 pc lv [.int v] (wc g S) := ab_zret hr hn hd ⟨S, rfl, v, rfl, hq⟩
theorem sa_ret {d : Nat} {Q : SS → Prop} (hr : u.2.2.2 = none) (hd : decode u.2.1 pc = .ok (.return_, 1)) (hq : Q S) : Ab g u (mdV g d Q) 0 0 pc lv [] (wc g S) := ab_vret hr hd ⟨S, rfl, rfl, hq⟩
theorem sa_entryI {d : Nat} {Q : Int32 → SS → Prop} {av : List Value} {lv' : List (Nat × Value)} (hy : plainName u.1.cls = true) (hn : (lg_sl av).length ≤ u.2.2.1) (hlv : lv_args 0 av = lv') (h : Ab g u (mdI g d Q) 0 0 0 lv' [] (wc g S)) : MtI g u d av S Q := ab_entry hy hn (by rw [hlv]; exact h)
theorem sa_entryV {d : Nat} {Q : SS → Prop} {av : List Value} {lv' : List (Nat × Value)} (hy : plainName u.1.cls = true) (hn : (lg_sl av).length ≤ u.2.2.1) (hlv : lv_args 0 av = lv') (h : Ab g u (mdV g d Q) 0 0 0 lv' [] (wc g S)) : MtV g u d av S Q := ab_entry hy hn (by rw [hlv]; exact h)
theorem sa_callVi {index k ci d : Nat} {w : lp_M} {T : List (Option Nat)} {As rest : List Value} {q0 : vw_C} {Q : Int32 → SS → Prop} (hcw : lp_cV u.1.cls index w As.length) (hd : decode u.2.1 pc = .ok (.invokevirtual index, 3)) (hs : lp_sh[k]? = some (.inr (ci, T))) (hci : vwCl[ci]? = some q0) (hcn : q0.1 = w.1.cls) (hst : st = As.reverse ++ .ref (g.2.1 + k) :: rest) (hrs : (rest.map fun v => v.category).sum ≤ 8)
    (hE : lp_en M (d + 1)) (hm : w.2.2.1 ≤ 15) (hC : cells ≤ M.1.cells ∧ slots ≤ M.1.slots) (hM : MtI g w d (.ref (g.2.1 + k) :: As) S Q) (kk : ∀ r S', Q r S' → Ab g u M cells slots (pc + 3) lv (.int r :: rest) (wc g S')) : Ab g u M cells slots pc lv st (wc g S) :=
  ab_callV hcw hd (wc_at hs) hci hcn hst hrs (hE.call hm) hC hM (fun v cs' h => lp_QS.use (fun v cs => Ab g u M cells slots (pc + 3) lv (v.toList ++ rest) cs) h (fun S' ⟨r, hv, hQ⟩ => by rw [hv]; exact kk r S' hQ))
theorem sa_callVv {index k ci d : Nat} {w : lp_M} {T : List (Option Nat)} {As rest : List Value} {q0 : vw_C} {Q : SS → Prop} (hcw : lp_cV u.1.cls index w As.length) (hd : decode u.2.1 pc = .ok (.invokevirtual index, 3)) (hs : lp_sh[k]? = some (.inr (ci, T))) (hci : vwCl[ci]? = some q0) (hcn : q0.1 = w.1.cls) (hst : st = As.reverse ++ .ref (g.2.1 + k) :: rest) (hrs : (rest.map fun v => v.category).sum ≤ 8)
    (hE : lp_en M (d + 1)) (hm : w.2.2.1 ≤ 15) (hC : cells ≤ M.1.cells ∧ slots ≤ M.1.slots) (hM : MtV g w d (.ref (g.2.1 + k) :: As) S Q) (kk : ∀ S', Q S' → Ab g u M cells slots (pc + 3) lv rest (wc g S')) : Ab g u M cells slots pc lv st (wc g S) :=
  ab_callV hcw hd (wc_at hs) hci hcn hst hrs (hE.call hm) hC hM (fun v cs' h => lp_QS.use (fun v cs => Ab g u M cells slots (pc + 3) lv (v.toList ++ rest) cs) h (fun S' ⟨hv, hQ⟩ => by rw [hv]; exact kk S' hQ))
theorem sa_callVNi {index k ci d : Nat} {w : lp_M} {T : List (Option Nat)} {As rest : List Value} {q0 : vw_C} {Q : Int32 → SS → Prop} (hcw : lp_cVN u.1.cls index w As.length) (hd : decode u.2.1 pc = .ok (.invokevirtual index, 3)) (hs : lp_sh[k]? = some (.inr (ci, T))) (hci : vwCl[ci]? = some q0) (hcn : q0.1 = w.1.cls) (hst : st = As.reverse ++ .ref (g.2.1 + k) :: rest) (hrs : (rest.map fun v => v.category).sum ≤ 8)
    (hE : lp_en M (d + 1)) (hm : w.2.2.1 ≤ 15) (hC : cells ≤ M.1.cells ∧ slots ≤ M.1.slots) (hM : MtI g w d (.ref (g.2.1 + k) :: As) S Q) (kk : ∀ r S', Q r S' → Ab g u M cells slots (pc + 3) lv (.int r :: rest) (wc g S')) : Ab g u M cells slots pc lv st (wc g S) :=
  ab_callVN hcw hd (wc_at hs) hci hcn hst hrs (hE.call hm) hC hM (fun v cs' h => lp_QS.use (fun v cs => Ab g u M cells slots (pc + 3) lv (v.toList ++ rest) cs) h (fun S' ⟨r, hv, hQ⟩ => by rw [hv]; exact kk r S' hQ))
theorem sa_callVNv {index k ci d : Nat} {w : lp_M} {T : List (Option Nat)} {As rest : List Value} {q0 : vw_C} {Q : SS → Prop} (hcw : lp_cVN u.1.cls index w As.length) (hd : decode u.2.1 pc = .ok (.invokevirtual index, 3)) (hs : lp_sh[k]? = some (.inr (ci, T))) (hci : vwCl[ci]? = some q0) (hcn : q0.1 = w.1.cls) (hst : st = As.reverse ++ .ref (g.2.1 + k) :: rest) (hrs : (rest.map fun v => v.category).sum ≤ 8)
    (hE : lp_en M (d + 1)) (hm : w.2.2.1 ≤ 15) (hC : cells ≤ M.1.cells ∧ slots ≤ M.1.slots) (hM : MtV g w d (.ref (g.2.1 + k) :: As) S Q) (kk : ∀ S', Q S' → Ab g u M cells slots (pc + 3) lv rest (wc g S')) : Ab g u M cells slots pc lv st (wc g S) :=
  ab_callVN hcw hd (wc_at hs) hci hcn hst hrs (hE.call hm) hC hM (fun v cs' h => lp_QS.use (fun v cs => Ab g u M cells slots (pc + 3) lv (v.toList ++ rest) cs) h (fun S' ⟨hv, hQ⟩ => by rw [hv]; exact kk S' hQ))
theorem sa_callSi {index d : Nat} {w : lp_M} {As rest : List Value} {Q : Int32 → SS → Prop} (hcw : lp_cS u.1.cls index w As.length) (hd : decode u.2.1 pc = .ok (.invokestatic index, 3)) (hst : st = As.reverse ++ rest) (hrs : (rest.map fun v => v.category).sum ≤ 8)
    (hE : lp_en M (d + 1)) (hm : w.2.2.1 ≤ 15) (hC : cells ≤ M.1.cells ∧ slots ≤ M.1.slots) (hM : MtI g w d As S Q) (kk : ∀ r S', Q r S' → Ab g u M cells slots (pc + 3) lv (.int r :: rest) (wc g S')) : Ab g u M cells slots pc lv st (wc g S) :=
  ab_callS hcw hd hst hrs (hE.call hm) hC hM (fun v cs' h => lp_QS.use (fun v cs => Ab g u M cells slots (pc + 3) lv (v.toList ++ rest) cs) h (fun S' ⟨r, hv, hQ⟩ => by rw [hv]; exact kk r S' hQ))
theorem sa_callSNi {index d : Nat} {w : lp_M} {As rest : List Value} {Q : Int32 → SS → Prop} (hcw : lp_cSN u.1.cls index w As.length) (hd : decode u.2.1 pc = .ok (.invokestatic index, 3)) (hst : st = As.reverse ++ rest) (hrs : (rest.map fun v => v.category).sum ≤ 8)
    (hE : lp_en M (d + 1)) (hm : w.2.2.1 ≤ 15) (hC : cells ≤ M.1.cells ∧ slots ≤ M.1.slots) (hM : MtI g w d As S Q) (kk : ∀ r S', Q r S' → Ab g u M cells slots (pc + 3) lv (.int r :: rest) (wc g S')) : Ab g u M cells slots pc lv st (wc g S) :=
  ab_callSN hcw hd hst hrs (hE.call hm) hC hM (fun v cs' h => lp_QS.use (fun v cs => Ab g u M cells slots (pc + 3) lv (v.toList ++ rest) cs) h (fun S' ⟨r, hv, hQ⟩ => by rw [hv]; exact kk r S' hQ))
end LPC
theorem sh_0 : lp_sh[0]? = some (.inr (0, [some 1, some 2, none, some 8, some 36, some 90, some 92, some 119, some 122, some 125])) := rfl
theorem sh_1 : lp_sh[1]? = some (.inl (4, some (1, 143, 2))) := rfl
theorem sh_2 : lp_sh[2]? = some (.inr (2, [some 3, some 5, some 7, none])) := rfl
theorem sh_3 : lp_sh[3]? = some (.inr (1, [some 4, none])) := rfl
theorem sh_4 : lp_sh[4]? = some (.inl (24, none)) := rfl
theorem sh_5 : lp_sh[5]? = some (.inr (1, [some 6, none])) := rfl
theorem sh_6 : lp_sh[6]? = some (.inl (24, none)) := rfl
theorem sh_7 : lp_sh[7]? = some (.inl (24, none)) := rfl
theorem sh_8 : lp_sh[8]? = some (.inr (4, [some 9, some 35])) := rfl
theorem sh_9 : lp_sh[9]? = some (.inl (25, some (3, 10, 1))) := rfl
theorem sh_10 : lp_sh[10]? = some (.inl (25, none)) := rfl
theorem sh_11 : lp_sh[11]? = some (.inl (25, none)) := rfl
theorem sh_12 : lp_sh[12]? = some (.inl (25, none)) := rfl
theorem sh_13 : lp_sh[13]? = some (.inl (25, none)) := rfl
theorem sh_14 : lp_sh[14]? = some (.inl (25, none)) := rfl
theorem sh_15 : lp_sh[15]? = some (.inl (25, none)) := rfl
theorem sh_16 : lp_sh[16]? = some (.inl (25, none)) := rfl
theorem sh_17 : lp_sh[17]? = some (.inl (25, none)) := rfl
theorem sh_18 : lp_sh[18]? = some (.inl (25, none)) := rfl
theorem sh_19 : lp_sh[19]? = some (.inl (25, none)) := rfl
theorem sh_20 : lp_sh[20]? = some (.inl (25, none)) := rfl
theorem sh_21 : lp_sh[21]? = some (.inl (25, none)) := rfl
theorem sh_22 : lp_sh[22]? = some (.inl (25, none)) := rfl
theorem sh_23 : lp_sh[23]? = some (.inl (25, none)) := rfl
theorem sh_24 : lp_sh[24]? = some (.inl (25, none)) := rfl
theorem sh_25 : lp_sh[25]? = some (.inl (25, none)) := rfl
theorem sh_26 : lp_sh[26]? = some (.inl (25, none)) := rfl
theorem sh_27 : lp_sh[27]? = some (.inl (25, none)) := rfl
theorem sh_28 : lp_sh[28]? = some (.inl (25, none)) := rfl
theorem sh_29 : lp_sh[29]? = some (.inl (25, none)) := rfl
theorem sh_30 : lp_sh[30]? = some (.inl (25, none)) := rfl
theorem sh_31 : lp_sh[31]? = some (.inl (25, none)) := rfl
theorem sh_32 : lp_sh[32]? = some (.inl (25, none)) := rfl
theorem sh_33 : lp_sh[33]? = some (.inl (25, none)) := rfl
theorem sh_34 : lp_sh[34]? = some (.inl (25, none)) := rfl
theorem sh_35 : lp_sh[35]? = some (.inr (3, [none, none, none, none])) := rfl
theorem sh_36 : lp_sh[36]? = some (.inr (5, [some 8, some 37, none, some 38, some 39, some 40, none])) := rfl
theorem sh_37 : lp_sh[37]? = some (.inl (49, some (2, 41, 1))) := rfl
theorem sh_38 : lp_sh[38]? = some (.inl (24, none)) := rfl
theorem sh_39 : lp_sh[39]? = some (.inl (24, none)) := rfl
theorem sh_40 : lp_sh[40]? = some (.inl (24, none)) := rfl
theorem sh_41 : lp_sh[41]? = some (.inr (3, [none, none, none, none])) := rfl
theorem sh_42 : lp_sh[42]? = some (.inr (3, [none, none, none, none])) := rfl
theorem sh_43 : lp_sh[43]? = some (.inr (3, [none, none, none, none])) := rfl
theorem sh_44 : lp_sh[44]? = some (.inr (3, [none, none, none, none])) := rfl
theorem sh_45 : lp_sh[45]? = some (.inr (3, [none, none, none, none])) := rfl
theorem sh_46 : lp_sh[46]? = some (.inr (3, [none, none, none, none])) := rfl
theorem sh_47 : lp_sh[47]? = some (.inr (3, [none, none, none, none])) := rfl
theorem sh_48 : lp_sh[48]? = some (.inr (3, [none, none, none, none])) := rfl
theorem sh_49 : lp_sh[49]? = some (.inr (3, [none, none, none, none])) := rfl
theorem sh_50 : lp_sh[50]? = some (.inr (3, [none, none, none, none])) := rfl
theorem sh_51 : lp_sh[51]? = some (.inr (3, [none, none, none, none])) := rfl
theorem sh_52 : lp_sh[52]? = some (.inr (3, [none, none, none, none])) := rfl
theorem sh_53 : lp_sh[53]? = some (.inr (3, [none, none, none, none])) := rfl
theorem sh_54 : lp_sh[54]? = some (.inr (3, [none, none, none, none])) := rfl
theorem sh_55 : lp_sh[55]? = some (.inr (3, [none, none, none, none])) := rfl
theorem sh_56 : lp_sh[56]? = some (.inr (3, [none, none, none, none])) := rfl
theorem sh_57 : lp_sh[57]? = some (.inr (3, [none, none, none, none])) := rfl
theorem sh_58 : lp_sh[58]? = some (.inr (3, [none, none, none, none])) := rfl
theorem sh_59 : lp_sh[59]? = some (.inr (3, [none, none, none, none])) := rfl
theorem sh_60 : lp_sh[60]? = some (.inr (3, [none, none, none, none])) := rfl
theorem sh_61 : lp_sh[61]? = some (.inr (3, [none, none, none, none])) := rfl
theorem sh_62 : lp_sh[62]? = some (.inr (3, [none, none, none, none])) := rfl
theorem sh_63 : lp_sh[63]? = some (.inr (3, [none, none, none, none])) := rfl
theorem sh_64 : lp_sh[64]? = some (.inr (3, [none, none, none, none])) := rfl
theorem sh_65 : lp_sh[65]? = some (.inr (3, [none, none, none, none])) := rfl
theorem sh_66 : lp_sh[66]? = some (.inr (3, [none, none, none, none])) := rfl
theorem sh_67 : lp_sh[67]? = some (.inr (3, [none, none, none, none])) := rfl
theorem sh_68 : lp_sh[68]? = some (.inr (3, [none, none, none, none])) := rfl
theorem sh_69 : lp_sh[69]? = some (.inr (3, [none, none, none, none])) := rfl
theorem sh_70 : lp_sh[70]? = some (.inr (3, [none, none, none, none])) := rfl
theorem sh_71 : lp_sh[71]? = some (.inr (3, [none, none, none, none])) := rfl
theorem sh_72 : lp_sh[72]? = some (.inr (3, [none, none, none, none])) := rfl
theorem sh_73 : lp_sh[73]? = some (.inr (3, [none, none, none, none])) := rfl
theorem sh_74 : lp_sh[74]? = some (.inr (3, [none, none, none, none])) := rfl
theorem sh_75 : lp_sh[75]? = some (.inr (3, [none, none, none, none])) := rfl
theorem sh_76 : lp_sh[76]? = some (.inr (3, [none, none, none, none])) := rfl
theorem sh_77 : lp_sh[77]? = some (.inr (3, [none, none, none, none])) := rfl
theorem sh_78 : lp_sh[78]? = some (.inr (3, [none, none, none, none])) := rfl
theorem sh_79 : lp_sh[79]? = some (.inr (3, [none, none, none, none])) := rfl
theorem sh_80 : lp_sh[80]? = some (.inr (3, [none, none, none, none])) := rfl
theorem sh_81 : lp_sh[81]? = some (.inr (3, [none, none, none, none])) := rfl
theorem sh_82 : lp_sh[82]? = some (.inr (3, [none, none, none, none])) := rfl
theorem sh_83 : lp_sh[83]? = some (.inr (3, [none, none, none, none])) := rfl
theorem sh_84 : lp_sh[84]? = some (.inr (3, [none, none, none, none])) := rfl
theorem sh_85 : lp_sh[85]? = some (.inr (3, [none, none, none, none])) := rfl
theorem sh_86 : lp_sh[86]? = some (.inr (3, [none, none, none, none])) := rfl
theorem sh_87 : lp_sh[87]? = some (.inr (3, [none, none, none, none])) := rfl
theorem sh_88 : lp_sh[88]? = some (.inr (3, [none, none, none, none])) := rfl
theorem sh_89 : lp_sh[89]? = some (.inr (3, [none, none, none, none])) := rfl
theorem sh_90 : lp_sh[90]? = some (.inr (6, [some 91, none])) := rfl
theorem sh_91 : lp_sh[91]? = some (.inl (900, none)) := rfl
theorem sh_92 : lp_sh[92]? = some (.inr (7, [some 2, some 90, some 93, none])) := rfl
theorem sh_93 : lp_sh[93]? = some (.inl (25, some (2, 94, 1))) := rfl
theorem sh_94 : lp_sh[94]? = some (.inr (3, [none, none, none, none])) := rfl
theorem sh_95 : lp_sh[95]? = some (.inr (3, [none, none, none, none])) := rfl
theorem sh_96 : lp_sh[96]? = some (.inr (3, [none, none, none, none])) := rfl
theorem sh_97 : lp_sh[97]? = some (.inr (3, [none, none, none, none])) := rfl
theorem sh_98 : lp_sh[98]? = some (.inr (3, [none, none, none, none])) := rfl
theorem sh_99 : lp_sh[99]? = some (.inr (3, [none, none, none, none])) := rfl
theorem sh_100 : lp_sh[100]? = some (.inr (3, [none, none, none, none])) := rfl
theorem sh_101 : lp_sh[101]? = some (.inr (3, [none, none, none, none])) := rfl
theorem sh_102 : lp_sh[102]? = some (.inr (3, [none, none, none, none])) := rfl
theorem sh_103 : lp_sh[103]? = some (.inr (3, [none, none, none, none])) := rfl
theorem sh_104 : lp_sh[104]? = some (.inr (3, [none, none, none, none])) := rfl
theorem sh_105 : lp_sh[105]? = some (.inr (3, [none, none, none, none])) := rfl
theorem sh_106 : lp_sh[106]? = some (.inr (3, [none, none, none, none])) := rfl
theorem sh_107 : lp_sh[107]? = some (.inr (3, [none, none, none, none])) := rfl
theorem sh_108 : lp_sh[108]? = some (.inr (3, [none, none, none, none])) := rfl
theorem sh_109 : lp_sh[109]? = some (.inr (3, [none, none, none, none])) := rfl
theorem sh_110 : lp_sh[110]? = some (.inr (3, [none, none, none, none])) := rfl
theorem sh_111 : lp_sh[111]? = some (.inr (3, [none, none, none, none])) := rfl
theorem sh_112 : lp_sh[112]? = some (.inr (3, [none, none, none, none])) := rfl
theorem sh_113 : lp_sh[113]? = some (.inr (3, [none, none, none, none])) := rfl
theorem sh_114 : lp_sh[114]? = some (.inr (3, [none, none, none, none])) := rfl
theorem sh_115 : lp_sh[115]? = some (.inr (3, [none, none, none, none])) := rfl
theorem sh_116 : lp_sh[116]? = some (.inr (3, [none, none, none, none])) := rfl
theorem sh_117 : lp_sh[117]? = some (.inr (3, [none, none, none, none])) := rfl
theorem sh_118 : lp_sh[118]? = some (.inr (3, [none, none, none, none])) := rfl
theorem sh_119 : lp_sh[119]? = some (.inr (8, [some 90, none, none, none, none, some 120, none, some 121, none])) := rfl
theorem sh_120 : lp_sh[120]? = some (.inl (99, none)) := rfl
theorem sh_121 : lp_sh[121]? = some (.inl (99, none)) := rfl
theorem sh_122 : lp_sh[122]? = some (.inr (9, [some 119, some 123])) := rfl
theorem sh_123 : lp_sh[123]? = some (.inr (1, [some 124, none])) := rfl
theorem sh_124 : lp_sh[124]? = some (.inl (24, none)) := rfl
theorem sh_125 : lp_sh[125]? = some (.inr (11, [some 8, some 126, some 132, some 138, some 139, some 140, some 141, none, none])) := rfl
theorem sh_126 : lp_sh[126]? = some (.inr (2, [some 127, some 129, some 131, none])) := rfl
theorem sh_127 : lp_sh[127]? = some (.inr (1, [some 128, none])) := rfl
theorem sh_128 : lp_sh[128]? = some (.inl (24, none)) := rfl
theorem sh_129 : lp_sh[129]? = some (.inr (1, [some 130, none])) := rfl
theorem sh_130 : lp_sh[130]? = some (.inl (24, none)) := rfl
theorem sh_131 : lp_sh[131]? = some (.inl (24, none)) := rfl
theorem sh_132 : lp_sh[132]? = some (.inr (2, [some 133, some 135, some 137, none])) := rfl
theorem sh_133 : lp_sh[133]? = some (.inr (1, [some 134, none])) := rfl
theorem sh_134 : lp_sh[134]? = some (.inl (24, none)) := rfl
theorem sh_135 : lp_sh[135]? = some (.inr (1, [some 136, none])) := rfl
theorem sh_136 : lp_sh[136]? = some (.inl (24, none)) := rfl
theorem sh_137 : lp_sh[137]? = some (.inl (24, none)) := rfl
theorem sh_138 : lp_sh[138]? = some (.inr (10, [some 127, none, none])) := rfl
theorem sh_139 : lp_sh[139]? = some (.inr (10, [some 129, none, none])) := rfl
theorem sh_140 : lp_sh[140]? = some (.inr (10, [some 135, none, none])) := rfl
theorem sh_141 : lp_sh[141]? = some (.inr (1, [some 142, none])) := rfl
theorem sh_142 : lp_sh[142]? = some (.inl (24, none)) := rfl
theorem sh_143 : lp_sh[143]? = some (.inr (1, [some 144, none])) := rfl
theorem sh_144 : lp_sh[144]? = some (.inl (24, none)) := rfl
theorem sh_145 : lp_sh[145]? = some (.inr (1, [some 146, none])) := rfl
theorem sh_146 : lp_sh[146]? = some (.inl (24, none)) := rfl
theorem sh_147 : lp_sh[147]? = some (.inr (1, [some 148, none])) := rfl
theorem sh_148 : lp_sh[148]? = some (.inl (24, none)) := rfl
theorem sh_149 : lp_sh[149]? = some (.inr (1, [some 150, none])) := rfl
theorem sh_150 : lp_sh[150]? = some (.inl (24, none)) := rfl
theorem sh_151 : lp_sh[151]? = some (.inr (12, [some 152, some 153, none, none, some 154, some 155, some 156, some 157, none, some 158, some 159, some 160, some 161, some 162, some 163, none, none, none, some 164, some 165, some 166, none, some 167, some 168, none, some 169, none, some 170, some 171, some 172, some 173, some 174, some 175, none, none, none, some 176, some 177])) := rfl
theorem sh_152 : lp_sh[152]? = some (.inl (96, none)) := rfl
theorem sh_153 : lp_sh[153]? = some (.inl (4, none)) := rfl
theorem sh_154 : lp_sh[154]? = some (.inl (24, none)) := rfl
theorem sh_155 : lp_sh[155]? = some (.inl (24, none)) := rfl
theorem sh_156 : lp_sh[156]? = some (.inl (24, none)) := rfl
theorem sh_157 : lp_sh[157]? = some (.inl (625, none)) := rfl
theorem sh_158 : lp_sh[158]? = some (.inl (60, none)) := rfl
theorem sh_159 : lp_sh[159]? = some (.inl (60, none)) := rfl
theorem sh_160 : lp_sh[160]? = some (.inl (60, none)) := rfl
theorem sh_161 : lp_sh[161]? = some (.inl (60, none)) := rfl
theorem sh_162 : lp_sh[162]? = some (.inl (24, none)) := rfl
theorem sh_163 : lp_sh[163]? = some (.inl (24, none)) := rfl
theorem sh_164 : lp_sh[164]? = some (.inl (24, none)) := rfl
theorem sh_165 : lp_sh[165]? = some (.inl (24, none)) := rfl
theorem sh_166 : lp_sh[166]? = some (.inl (24, none)) := rfl
theorem sh_167 : lp_sh[167]? = some (.inl (48, none)) := rfl
theorem sh_168 : lp_sh[168]? = some (.inl (48, none)) := rfl
theorem sh_169 : lp_sh[169]? = some (.inl (900, none)) := rfl
theorem sh_170 : lp_sh[170]? = some (.inl (80, none)) := rfl
theorem sh_171 : lp_sh[171]? = some (.inl (80, none)) := rfl
theorem sh_172 : lp_sh[172]? = some (.inl (80, none)) := rfl
theorem sh_173 : lp_sh[173]? = some (.inl (80, none)) := rfl
theorem sh_174 : lp_sh[174]? = some (.inl (80, none)) := rfl
theorem sh_175 : lp_sh[175]? = some (.inl (80, none)) := rfl
theorem sh_176 : lp_sh[176]? = some (.inl (24, none)) := rfl
theorem sh_177 : lp_sh[177]? = some (.inl (24, none)) := rfl
theorem sr_1 (i : Nat) (hi : i < 4) : lp_sh[143 + 2 * i]? = some (.inr (1, [some (143 + 2 * i + 1), none])) := match i, hi with
  | 0, _ => rfl
  | 1, _ => rfl
  | 2, _ => rfl
  | 3, _ => rfl
  | i + 4, hi => absurd hi (by omega)
theorem sr_1_1 (i : Nat) (hi : i < 4) : lp_sh[143 + 2 * i + 1]? = some (.inl (24, none)) := match i, hi with
  | 0, _ => rfl
  | 1, _ => rfl
  | 2, _ => rfl
  | 3, _ => rfl
  | i + 4, hi => absurd hi (by omega)
theorem sr_9 (i : Nat) (hi : i < 25) : lp_sh[10 + 1 * i]? = some (.inl (25, none)) := match i, hi with
  | 0, _ => rfl
  | 1, _ => rfl
  | 2, _ => rfl
  | 3, _ => rfl
  | 4, _ => rfl
  | 5, _ => rfl
  | 6, _ => rfl
  | 7, _ => rfl
  | 8, _ => rfl
  | 9, _ => rfl
  | 10, _ => rfl
  | 11, _ => rfl
  | 12, _ => rfl
  | 13, _ => rfl
  | 14, _ => rfl
  | 15, _ => rfl
  | 16, _ => rfl
  | 17, _ => rfl
  | 18, _ => rfl
  | 19, _ => rfl
  | 20, _ => rfl
  | 21, _ => rfl
  | 22, _ => rfl
  | 23, _ => rfl
  | 24, _ => rfl
  | i + 25, hi => absurd hi (by omega)
theorem sr_37 (i : Nat) (hi : i < 49) : lp_sh[41 + 1 * i]? = some (.inr (3, [none, none, none, none])) := match i, hi with
  | 0, _ => rfl
  | 1, _ => rfl
  | 2, _ => rfl
  | 3, _ => rfl
  | 4, _ => rfl
  | 5, _ => rfl
  | 6, _ => rfl
  | 7, _ => rfl
  | 8, _ => rfl
  | 9, _ => rfl
  | 10, _ => rfl
  | 11, _ => rfl
  | 12, _ => rfl
  | 13, _ => rfl
  | 14, _ => rfl
  | 15, _ => rfl
  | 16, _ => rfl
  | 17, _ => rfl
  | 18, _ => rfl
  | 19, _ => rfl
  | 20, _ => rfl
  | 21, _ => rfl
  | 22, _ => rfl
  | 23, _ => rfl
  | 24, _ => rfl
  | 25, _ => rfl
  | 26, _ => rfl
  | 27, _ => rfl
  | 28, _ => rfl
  | 29, _ => rfl
  | 30, _ => rfl
  | 31, _ => rfl
  | 32, _ => rfl
  | 33, _ => rfl
  | 34, _ => rfl
  | 35, _ => rfl
  | 36, _ => rfl
  | 37, _ => rfl
  | 38, _ => rfl
  | 39, _ => rfl
  | 40, _ => rfl
  | 41, _ => rfl
  | 42, _ => rfl
  | 43, _ => rfl
  | 44, _ => rfl
  | 45, _ => rfl
  | 46, _ => rfl
  | 47, _ => rfl
  | 48, _ => rfl
  | i + 49, hi => absurd hi (by omega)
theorem sr_93 (i : Nat) (hi : i < 25) : lp_sh[94 + 1 * i]? = some (.inr (3, [none, none, none, none])) := match i, hi with
  | 0, _ => rfl
  | 1, _ => rfl
  | 2, _ => rfl
  | 3, _ => rfl
  | 4, _ => rfl
  | 5, _ => rfl
  | 6, _ => rfl
  | 7, _ => rfl
  | 8, _ => rfl
  | 9, _ => rfl
  | 10, _ => rfl
  | 11, _ => rfl
  | 12, _ => rfl
  | 13, _ => rfl
  | 14, _ => rfl
  | 15, _ => rfl
  | 16, _ => rfl
  | 17, _ => rfl
  | 18, _ => rfl
  | 19, _ => rfl
  | 20, _ => rfl
  | 21, _ => rfl
  | 22, _ => rfl
  | 23, _ => rfl
  | 24, _ => rfl
  | i + 25, hi => absurd hi (by omega)
end

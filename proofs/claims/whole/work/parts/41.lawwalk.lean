set_option maxHeartbeats 4000000 in
set_option maxRecDepth 100000 in
theorem f_L_law_18 {g : lp_G} {b L : Nat} {xs : Nat → Int32} {S : SS} {x3 : Int32}
    (HF : ((nI L) - (nI 5) < x3 → True) ∧ (¬ (nI L) - (nI 5) < x3 → (vp_in x3 L) ∧ (((xs x3.toNatClampNeg) &&& (nI 15) = nI 0 → (vp_in (x3 + (1 : Int32)) L) ∧ ((vp_in (x3 + (nI 2)) L) ∧ ((vp_in (x3 + (nI 3)) L) ∧ ((vp_in (x3 + (nI 4)) L) ∧ (MtI g um_P_add 8 [.ref (g.2.1 + 0), .int (xs (x3 + (1 : Int32)).toNatClampNeg), .long ((((xs (x3 + (nI 2)).toNatClampNeg).toInt64) <<< ((nI 32).toInt64 &&& 63)) ||| (((xs (x3 + (nI 3)).toNatClampNeg).toInt64) &&& (4294967295 : Int64))), .int (xs (x3 + (nI 4)).toNatClampNeg)] S (fun r8 S7 => (vp_in (x3 + (1 : Int32)) L) ∧ ((vp_in (x3 + (nI 2)) L) ∧ ((vp_in (x3 + (nI 3)) L) ∧ ((vp_in (x3 + (nI 4)) L) ∧ (MtI g um_M_add 8 [.ref (g.2.1 + 151), .int (xs (x3 + (1 : Int32)).toNatClampNeg), .long ((((xs (x3 + (nI 2)).toNatClampNeg).toInt64) <<< ((nI 32).toInt64 &&& 63)) ||| (((xs (x3 + (nI 3)).toNatClampNeg).toInt64) &&& (4294967295 : Int64))), .int (xs (x3 + (nI 4)).toNatClampNeg)] S7 (fun r14 S13 => (r8 = r14 → Ab g uL (ML g b L xs) 178 5367 18 [(0, .ref b), (1, .ref (g.2.1 + 0)), (2, .ref (g.2.1 + 151)), (3, .int (x3 + 5))] [] (wc g S13)) ∧ (¬ r8 = r14 → False)))))))))))) ∧ ((xs x3.toNatClampNeg) &&& (nI 15) = nI 1 → (vp_in (x3 + (1 : Int32)) L) ∧ (MtI g um_P_clear 8 [.ref (g.2.1 + 0), .int (xs (x3 + (1 : Int32)).toNatClampNeg)] S (fun r18 S17 => (vp_in (x3 + (1 : Int32)) L) ∧ (MtI g um_M_clear 8 [.ref (g.2.1 + 151), .int (xs (x3 + (1 : Int32)).toNatClampNeg)] S17 (fun r21 S20 => (r18 = r21 → Ab g uL (ML g b L xs) 178 5367 18 [(0, .ref b), (1, .ref (g.2.1 + 0)), (2, .ref (g.2.1 + 151)), (3, .int (x3 + 5))] [] (wc g S20)) ∧ (¬ r18 = r21 → False)))))) ∧ ((xs x3.toNatClampNeg) &&& (nI 15) = nI 2 → (vp_in (x3 + (1 : Int32)) L) ∧ (MtI g um_P_size 8 [.ref (g.2.1 + 0), .int (xs (x3 + (1 : Int32)).toNatClampNeg)] S (fun r25 S24 => (vp_in (x3 + (1 : Int32)) L) ∧ (MtI g um_M_size 8 [.ref (g.2.1 + 151), .int (xs (x3 + (1 : Int32)).toNatClampNeg)] S24 (fun r28 S27 => (r25 = r28 → Ab g uL (ML g b L xs) 178 5367 18 [(0, .ref b), (1, .ref (g.2.1 + 0)), (2, .ref (g.2.1 + 151)), (3, .int (x3 + 5))] [] (wc g S27)) ∧ (¬ r25 = r28 → False)))))) ∧ ((xs x3.toNatClampNeg) &&& (nI 15) = nI 3 → (vp_in (x3 + (1 : Int32)) L) ∧ ((vp_in (x3 + (nI 2)) L) ∧ (MtI g um_P_line 8 [.ref (g.2.1 + 0), .int (xs (x3 + (1 : Int32)).toNatClampNeg), .int (xs (x3 + (nI 2)).toNatClampNeg)] S (fun r33 S32 => (vp_in (x3 + (1 : Int32)) L) ∧ ((vp_in (x3 + (nI 2)) L) ∧ (MtI g um_M_line 8 [.ref (g.2.1 + 151), .int (xs (x3 + (1 : Int32)).toNatClampNeg), .int (xs (x3 + (nI 2)).toNatClampNeg)] S32 (fun r37 S36 => (r33 = r37 → Ab g uL (ML g b L xs) 178 5367 18 [(0, .ref b), (1, .ref (g.2.1 + 0)), (2, .ref (g.2.1 + 151)), (3, .int (x3 + 5))] [] (wc g S36)) ∧ (¬ r33 = r37 → False)))))))) ∧ ((xs x3.toNatClampNeg) &&& (nI 15) = nI 4 → (vp_in (x3 + (1 : Int32)) L) ∧ ((vp_in (x3 + (nI 2)) L) ∧ ((vp_in (x3 + (nI 3)) L) ∧ (MtI g um_P_compare 8 [.ref (g.2.1 + 0), .int (xs (x3 + (1 : Int32)).toNatClampNeg), .int (xs (x3 + (nI 2)).toNatClampNeg), .int (xs (x3 + (nI 3)).toNatClampNeg)] S (fun r43 S42 => (vp_in (x3 + (1 : Int32)) L) ∧ ((vp_in (x3 + (nI 2)) L) ∧ ((vp_in (x3 + (nI 3)) L) ∧ (MtI g um_M_compare 8 [.ref (g.2.1 + 151), .int (xs (x3 + (1 : Int32)).toNatClampNeg), .int (xs (x3 + (nI 2)).toNatClampNeg), .int (xs (x3 + (nI 3)).toNatClampNeg)] S42 (fun r48 S47 => (r43 = r48 → Ab g uL (ML g b L xs) 178 5367 18 [(0, .ref b), (1, .ref (g.2.1 + 0)), (2, .ref (g.2.1 + 151)), (3, .int (x3 + 5))] [] (wc g S47)) ∧ (¬ r43 = r48 → False)))))))))) ∧ ((xs x3.toNatClampNeg) &&& (nI 15) = nI 5 → (vp_in (x3 + (1 : Int32)) L) ∧ (MtI g um_P_match 8 [.ref (g.2.1 + 0), .int (xs (x3 + (1 : Int32)).toNatClampNeg)] S (fun r52 S51 => (vp_in (x3 + (1 : Int32)) L) ∧ (MtI g um_M_match 8 [.ref (g.2.1 + 151), .int (xs (x3 + (1 : Int32)).toNatClampNeg)] S51 (fun r55 S54 => (r52 = r55 → Ab g uL (ML g b L xs) 178 5367 18 [(0, .ref b), (1, .ref (g.2.1 + 0)), (2, .ref (g.2.1 + 151)), (3, .int (x3 + 5))] [] (wc g S54)) ∧ (¬ r52 = r55 → False)))))) ∧ ((xs x3.toNatClampNeg) &&& (nI 15) = nI 6 → (vp_in (x3 + (1 : Int32)) L) ∧ (MtI g um_P_write 8 [.ref (g.2.1 + 0), .int (xs (x3 + (1 : Int32)).toNatClampNeg)] S (fun r59 S58 => (vp_in (x3 + (1 : Int32)) L) ∧ (MtI g um_M_write 8 [.ref (g.2.1 + 151), .int (xs (x3 + (1 : Int32)).toNatClampNeg)] S58 (fun r62 S61 => (r59 = r62 → Ab g uL (ML g b L xs) 178 5367 18 [(0, .ref b), (1, .ref (g.2.1 + 0)), (2, .ref (g.2.1 + 151)), (3, .int (x3 + 5))] [] (wc g S61)) ∧ (¬ r59 = r62 → False)))))) ∧ ((xs x3.toNatClampNeg) &&& (nI 15) = nI 7 → (vp_in (x3 + (1 : Int32)) L) ∧ ((vp_in (x3 + (nI 2)) L) ∧ ((vp_in (x3 + (nI 3)) L) ∧ (MtI g um_P_type 8 [.ref (g.2.1 + 0), .long ((((xs (x3 + (1 : Int32)).toNatClampNeg).toInt64) <<< ((nI 32).toInt64 &&& 63)) ||| (((xs (x3 + (nI 2)).toNatClampNeg).toInt64) &&& (4294967295 : Int64))), .int (xs (x3 + (nI 3)).toNatClampNeg)] S (fun r68 S67 => (vp_in (x3 + (1 : Int32)) L) ∧ ((vp_in (x3 + (nI 2)) L) ∧ ((vp_in (x3 + (nI 3)) L) ∧ (MtI g um_M_type 8 [.ref (g.2.1 + 151), .long ((((xs (x3 + (1 : Int32)).toNatClampNeg).toInt64) <<< ((nI 32).toInt64 &&& 63)) ||| (((xs (x3 + (nI 2)).toNatClampNeg).toInt64) &&& (4294967295 : Int64))), .int (xs (x3 + (nI 3)).toNatClampNeg)] S67 (fun r73 S72 => (r68 = r73 → Ab g uL (ML g b L xs) 178 5367 18 [(0, .ref b), (1, .ref (g.2.1 + 0)), (2, .ref (g.2.1 + 151)), (3, .int (x3 + 5))] [] (wc g S72)) ∧ (¬ r68 = r73 → False)))))))))) ∧ ((xs x3.toNatClampNeg) &&& (nI 15) = nI 8 → MtI g um_P_wipe 8 [.ref (g.2.1 + 0)] S (fun r76 S75 => MtI g um_M_wipe 8 [.ref (g.2.1 + 151)] S75 (fun r78 S77 => (r76 = r78 → Ab g uL (ML g b L xs) 178 5367 18 [(0, .ref b), (1, .ref (g.2.1 + 0)), (2, .ref (g.2.1 + 151)), (3, .int (x3 + 5))] [] (wc g S77)) ∧ (¬ r76 = r78 → False)))) ∧ ((xs x3.toNatClampNeg) &&& (nI 15) = nI 9 → (vp_in (x3 + (1 : Int32)) L) ∧ (MtI g um_P_character 8 [.ref (g.2.1 + 0), .int (xs (x3 + (1 : Int32)).toNatClampNeg)] S (fun r82 S81 => (vp_in (x3 + (1 : Int32)) L) ∧ (MtI g um_M_character 8 [.ref (g.2.1 + 151), .int (xs (x3 + (1 : Int32)).toNatClampNeg)] S81 (fun r85 S84 => (r82 = r85 → Ab g uL (ML g b L xs) 178 5367 18 [(0, .ref b), (1, .ref (g.2.1 + 0)), (2, .ref (g.2.1 + 151)), (3, .int (x3 + 5))] [] (wc g S84)) ∧ (¬ r82 = r85 → False)))))) ∧ ((xs x3.toNatClampNeg) &&& (nI 15) = nI 10 → MtI g um_P_read 8 [.ref (g.2.1 + 0)] S (fun r88 S87 => MtI g um_M_read 8 [.ref (g.2.1 + 151)] S87 (fun r90 S89 => (r88 = r90 → Ab g uL (ML g b L xs) 178 5367 18 [(0, .ref b), (1, .ref (g.2.1 + 0)), (2, .ref (g.2.1 + 151)), (3, .int (x3 + 5))] [] (wc g S89)) ∧ (¬ r88 = r90 → False)))) ∧ ((xs x3.toNatClampNeg) &&& (nI 15) = nI 11 → (vp_in (x3 + (1 : Int32)) L) ∧ (MtI g um_P_apply 8 [.ref (g.2.1 + 0), .int (xs (x3 + (1 : Int32)).toNatClampNeg)] S (fun r94 S93 => (vp_in (x3 + (1 : Int32)) L) ∧ (MtI g um_M_apply 8 [.ref (g.2.1 + 151), .int (xs (x3 + (1 : Int32)).toNatClampNeg)] S93 (fun r97 S96 => (r94 = r97 → Ab g uL (ML g b L xs) 178 5367 18 [(0, .ref b), (1, .ref (g.2.1 + 0)), (2, .ref (g.2.1 + 151)), (3, .int (x3 + 5))] [] (wc g S96)) ∧ (¬ r94 = r97 → False)))))) ∧ ((xs x3.toNatClampNeg) &&& (nI 15) = nI 12 → MtI g um_P_merge 8 [.ref (g.2.1 + 0)] S (fun r100 S99 => MtI g um_M_merge 8 [.ref (g.2.1 + 151)] S99 (fun r102 S101 => (r100 = r102 → Ab g uL (ML g b L xs) 178 5367 18 [(0, .ref b), (1, .ref (g.2.1 + 0)), (2, .ref (g.2.1 + 151)), (3, .int (x3 + 5))] [] (wc g S101)) ∧ (¬ r100 = r102 → False)))) ∧ ((((xs x3.toNatClampNeg) &&& (nI 15)).toInt < 0 ∨ 12 < ((xs x3.toNatClampNeg) &&& (nI 15)).toInt) → Ab g uL (ML g b L xs) 178 5367 18 [(0, .ref b), (1, .ref (g.2.1 + 0)), (2, .ref (g.2.1 + 151)), (3, .int (x3 + 5))] [] (wc g S))))) : Ab g uL (ML g b L xs) 178 5367 18 [(0, .ref b), (1, .ref (g.2.1 + 0)), (2, .ref (g.2.1 + 151)), (3, .int x3)] [] (wc g S) := by
  refine ab_iload_n 3 d_L_law_18 rfl rfl ?_
  refine ab_aload_n 0 d_L_law_19 rfl rfl ?_
  refine ab_slen d_L_law_20 ?_
  refine ab_iconst (v := nI 5) d_L_law_21 (by decide) ?_
  refine ab_isub d_L_law_22 ?_
  refine ab_icmp_gt (tgt := 495) d_L_law_23 (by decide) (fun b1 => ?_) (fun b1 => ?_)
  · replace HF := HF.1 b1
    refine ab_iconst (v := (1 : Int32)) d_L_law_495 (by decide) ?_
    exact law_ret (Nat.le_of_ble_eq_true rfl) (Nat.le_of_ble_eq_true rfl) d_L_law_496
  · replace HF := HF.2 b1
    refine ab_aload_n 0 d_L_law_26 rfl rfl ?_
    refine ab_iload_n 3 d_L_law_27 rfl rfl ?_
    obtain ⟨c2, HF⟩ := HF
    refine ab_sld d_L_law_28 c2 ?_
    refine ab_bipush (v := nI 15) d_L_law_29 (by decide) ?_
    refine ab_iand d_L_law_31 ?_
    refine tsw (x := (xs x3.toNatClampNeg) &&& (nI 15)) (fun e => ?_) (fun e => ?_) (fun e => ?_) (fun e => ?_) (fun e => ?_) (fun e => ?_) (fun e => ?_) (fun e => ?_) (fun e => ?_) (fun e => ?_) (fun e => ?_) (fun e => ?_) (fun e => ?_) (fun e => ?_)
    · replace HF := HF.1 e
      rw [e]
      refine ab_tableIn (off := 68) (tgt := 100) d_L_law_32 (by decide) (by decide) rfl (by decide) ?_
      refine ab_aload_n 1 d_L_law_100 rfl rfl ?_
      refine ab_aload_n 0 d_L_law_101 rfl rfl ?_
      refine ab_iload_n 3 d_L_law_102 rfl rfl ?_
      refine ab_iconst (v := (1 : Int32)) d_L_law_103 (by decide) ?_
      refine ab_iadd d_L_law_104 ?_
      obtain ⟨c3, HF⟩ := HF
      refine ab_sld d_L_law_105 c3 ?_
      refine ab_aload_n 0 d_L_law_106 rfl rfl ?_
      refine ab_iload_n 3 d_L_law_107 rfl rfl ?_
      refine ab_iconst (v := nI 2) d_L_law_108 (by decide) ?_
      refine ab_iadd d_L_law_109 ?_
      obtain ⟨c4, HF⟩ := HF
      refine ab_sld d_L_law_110 c4 ?_
      refine ab_i2l d_L_law_111 rfl ?_
      refine ab_bipush (v := nI 32) d_L_law_112 (by decide) ?_
      refine ab_lshl d_L_law_114 rfl ?_
      refine ab_aload_n 0 d_L_law_115 rfl rfl ?_
      refine ab_iload_n 3 d_L_law_116 rfl rfl ?_
      refine ab_iconst (v := nI 3) d_L_law_117 (by decide) ?_
      refine ab_iadd d_L_law_118 ?_
      obtain ⟨c5, HF⟩ := HF
      refine ab_sld d_L_law_119 c5 ?_
      refine ab_i2l d_L_law_120 rfl ?_
      refine ab_ldc2 d_L_law_121 kl_L_13 ?_
      refine ab_land d_L_law_124 ?_
      refine ab_lor d_L_law_125 ?_
      refine ab_aload_n 0 d_L_law_126 rfl rfl ?_
      refine ab_iload_n 3 d_L_law_127 rfl rfl ?_
      refine ab_iconst (v := nI 4) d_L_law_128 (by decide) ?_
      refine ab_iadd d_L_law_129 ?_
      obtain ⟨c6, HF⟩ := HF
      refine ab_sld d_L_law_130 c6 ?_
      refine sa_callVi (As := [.int (xs (x3 + (1 : Int32)).toNatClampNeg), .long ((((xs (x3 + (nI 2)).toNatClampNeg).toInt64) <<< ((nI 32).toInt64 &&& 63)) ||| (((xs (x3 + (nI 3)).toNatClampNeg).toInt64) &&& (4294967295 : Int64))), .int (xs (x3 + (nI 4)).toNatClampNeg)]) (rest := []) kc_L_15 d_L_law_131 sh_0 rfl rfl rfl (Nat.le_of_ble_eq_true rfl) enL (Nat.le_of_ble_eq_true rfl) ⟨Nat.le_of_ble_eq_true rfl, Nat.le_of_ble_eq_true rfl⟩ HF (fun r8 S7 HF => ?_)
      refine ab_aload_n 2 d_L_law_134 rfl rfl ?_
      refine ab_aload_n 0 d_L_law_135 rfl rfl ?_
      refine ab_iload_n 3 d_L_law_136 rfl rfl ?_
      refine ab_iconst (v := (1 : Int32)) d_L_law_137 (by decide) ?_
      refine ab_iadd d_L_law_138 ?_
      obtain ⟨c9, HF⟩ := HF
      refine ab_sld d_L_law_139 c9 ?_
      refine ab_aload_n 0 d_L_law_140 rfl rfl ?_
      refine ab_iload_n 3 d_L_law_141 rfl rfl ?_
      refine ab_iconst (v := nI 2) d_L_law_142 (by decide) ?_
      refine ab_iadd d_L_law_143 ?_
      obtain ⟨c10, HF⟩ := HF
      refine ab_sld d_L_law_144 c10 ?_
      refine ab_i2l d_L_law_145 rfl ?_
      refine ab_bipush (v := nI 32) d_L_law_146 (by decide) ?_
      refine ab_lshl d_L_law_148 rfl ?_
      refine ab_aload_n 0 d_L_law_149 rfl rfl ?_
      refine ab_iload_n 3 d_L_law_150 rfl rfl ?_
      refine ab_iconst (v := nI 3) d_L_law_151 (by decide) ?_
      refine ab_iadd d_L_law_152 ?_
      obtain ⟨c11, HF⟩ := HF
      refine ab_sld d_L_law_153 c11 ?_
      refine ab_i2l d_L_law_154 rfl ?_
      refine ab_ldc2 d_L_law_155 kl_L_13 ?_
      refine ab_land d_L_law_158 ?_
      refine ab_lor d_L_law_159 ?_
      refine ab_aload_n 0 d_L_law_160 rfl rfl ?_
      refine ab_iload_n 3 d_L_law_161 rfl rfl ?_
      refine ab_iconst (v := nI 4) d_L_law_162 (by decide) ?_
      refine ab_iadd d_L_law_163 ?_
      obtain ⟨c12, HF⟩ := HF
      refine ab_sld d_L_law_164 c12 ?_
      refine sa_callVi (As := [.int (xs (x3 + (1 : Int32)).toNatClampNeg), .long ((((xs (x3 + (nI 2)).toNatClampNeg).toInt64) <<< ((nI 32).toInt64 &&& 63)) ||| (((xs (x3 + (nI 3)).toNatClampNeg).toInt64) &&& (4294967295 : Int64))), .int (xs (x3 + (nI 4)).toNatClampNeg)]) (rest := [.int r8]) kc_L_19 d_L_law_165 sh_151 rfl rfl rfl (Nat.le_of_ble_eq_true rfl) enL (Nat.le_of_ble_eq_true rfl) ⟨Nat.le_of_ble_eq_true rfl, Nat.le_of_ble_eq_true rfl⟩ HF (fun r14 S13 HF => ?_)
      refine ab_icmp_eq (tgt := 489) d_L_law_168 (by decide) (fun b15 => ?_) (fun b15 => ?_)
      · replace HF := HF.1 b15
        refine ab_iinc (v := x3 + 5) (lv' := [(3, .int (x3 + 5)), (0, .ref b), (1, .ref (g.2.1 + 0)), (2, .ref (g.2.1 + 151))]) 3 d_L_law_489 rfl (congrArg (fun z => x3 + z) (show Int32.ofInt 5 = (5 : Int32) by decide)) (Nat.le_of_ble_eq_true rfl) rfl ?_
        refine ab_goto (tgt := 18) d_L_law_492 (by decide) ?_
        refine ab_sub (lv' := [(0, .ref b), (1, .ref (g.2.1 + 0)), (2, .ref (g.2.1 + 151)), (3, .int (x3 + 5))]) [1, 2, 3, 0] rfl ?_
        exact HF
      · replace HF := HF.2 b15
        refine ab_iconst (v := (0 : Int32)) d_L_law_171 (by decide) ?_
        exact HF.elim
    · replace HF := HF.2.1 e
      rw [e]
      refine ab_tableIn (off := 141) (tgt := 173) d_L_law_32 (by decide) (by decide) rfl (by decide) ?_
      refine ab_aload_n 1 d_L_law_173 rfl rfl ?_
      refine ab_aload_n 0 d_L_law_174 rfl rfl ?_
      refine ab_iload_n 3 d_L_law_175 rfl rfl ?_
      refine ab_iconst (v := (1 : Int32)) d_L_law_176 (by decide) ?_
      refine ab_iadd d_L_law_177 ?_
      obtain ⟨c16, HF⟩ := HF
      refine ab_sld d_L_law_178 c16 ?_
      refine sa_callVi (As := [.int (xs (x3 + (1 : Int32)).toNatClampNeg)]) (rest := []) kc_L_20 d_L_law_179 sh_0 rfl rfl rfl (Nat.le_of_ble_eq_true rfl) enL (Nat.le_of_ble_eq_true rfl) ⟨Nat.le_of_ble_eq_true rfl, Nat.le_of_ble_eq_true rfl⟩ HF (fun r18 S17 HF => ?_)
      refine ab_aload_n 2 d_L_law_182 rfl rfl ?_
      refine ab_aload_n 0 d_L_law_183 rfl rfl ?_
      refine ab_iload_n 3 d_L_law_184 rfl rfl ?_
      refine ab_iconst (v := (1 : Int32)) d_L_law_185 (by decide) ?_
      refine ab_iadd d_L_law_186 ?_
      obtain ⟨c19, HF⟩ := HF
      refine ab_sld d_L_law_187 c19 ?_
      refine sa_callVi (As := [.int (xs (x3 + (1 : Int32)).toNatClampNeg)]) (rest := [.int r18]) kc_L_24 d_L_law_188 sh_151 rfl rfl rfl (Nat.le_of_ble_eq_true rfl) enL (Nat.le_of_ble_eq_true rfl) ⟨Nat.le_of_ble_eq_true rfl, Nat.le_of_ble_eq_true rfl⟩ HF (fun r21 S20 HF => ?_)
      refine ab_icmp_eq (tgt := 489) d_L_law_191 (by decide) (fun b22 => ?_) (fun b22 => ?_)
      · replace HF := HF.1 b22
        refine ab_iinc (v := x3 + 5) (lv' := [(3, .int (x3 + 5)), (0, .ref b), (1, .ref (g.2.1 + 0)), (2, .ref (g.2.1 + 151))]) 3 d_L_law_489 rfl (congrArg (fun z => x3 + z) (show Int32.ofInt 5 = (5 : Int32) by decide)) (Nat.le_of_ble_eq_true rfl) rfl ?_
        refine ab_goto (tgt := 18) d_L_law_492 (by decide) ?_
        refine ab_sub (lv' := [(0, .ref b), (1, .ref (g.2.1 + 0)), (2, .ref (g.2.1 + 151)), (3, .int (x3 + 5))]) [1, 2, 3, 0] rfl ?_
        exact HF
      · replace HF := HF.2 b22
        refine ab_iconst (v := (0 : Int32)) d_L_law_194 (by decide) ?_
        exact HF.elim
    · replace HF := HF.2.2.1 e
      rw [e]
      refine ab_tableIn (off := 164) (tgt := 196) d_L_law_32 (by decide) (by decide) rfl (by decide) ?_
      refine ab_aload_n 1 d_L_law_196 rfl rfl ?_
      refine ab_aload_n 0 d_L_law_197 rfl rfl ?_
      refine ab_iload_n 3 d_L_law_198 rfl rfl ?_
      refine ab_iconst (v := (1 : Int32)) d_L_law_199 (by decide) ?_
      refine ab_iadd d_L_law_200 ?_
      obtain ⟨c23, HF⟩ := HF
      refine ab_sld d_L_law_201 c23 ?_
      refine sa_callVi (As := [.int (xs (x3 + (1 : Int32)).toNatClampNeg)]) (rest := []) kc_L_25 d_L_law_202 sh_0 rfl rfl rfl (Nat.le_of_ble_eq_true rfl) enL (Nat.le_of_ble_eq_true rfl) ⟨Nat.le_of_ble_eq_true rfl, Nat.le_of_ble_eq_true rfl⟩ HF (fun r25 S24 HF => ?_)
      refine ab_aload_n 2 d_L_law_205 rfl rfl ?_
      refine ab_aload_n 0 d_L_law_206 rfl rfl ?_
      refine ab_iload_n 3 d_L_law_207 rfl rfl ?_
      refine ab_iconst (v := (1 : Int32)) d_L_law_208 (by decide) ?_
      refine ab_iadd d_L_law_209 ?_
      obtain ⟨c26, HF⟩ := HF
      refine ab_sld d_L_law_210 c26 ?_
      refine sa_callVi (As := [.int (xs (x3 + (1 : Int32)).toNatClampNeg)]) (rest := [.int r25]) kc_L_28 d_L_law_211 sh_151 rfl rfl rfl (Nat.le_of_ble_eq_true rfl) enL (Nat.le_of_ble_eq_true rfl) ⟨Nat.le_of_ble_eq_true rfl, Nat.le_of_ble_eq_true rfl⟩ HF (fun r28 S27 HF => ?_)
      refine ab_icmp_eq (tgt := 489) d_L_law_214 (by decide) (fun b29 => ?_) (fun b29 => ?_)
      · replace HF := HF.1 b29
        refine ab_iinc (v := x3 + 5) (lv' := [(3, .int (x3 + 5)), (0, .ref b), (1, .ref (g.2.1 + 0)), (2, .ref (g.2.1 + 151))]) 3 d_L_law_489 rfl (congrArg (fun z => x3 + z) (show Int32.ofInt 5 = (5 : Int32) by decide)) (Nat.le_of_ble_eq_true rfl) rfl ?_
        refine ab_goto (tgt := 18) d_L_law_492 (by decide) ?_
        refine ab_sub (lv' := [(0, .ref b), (1, .ref (g.2.1 + 0)), (2, .ref (g.2.1 + 151)), (3, .int (x3 + 5))]) [1, 2, 3, 0] rfl ?_
        exact HF
      · replace HF := HF.2 b29
        refine ab_iconst (v := (0 : Int32)) d_L_law_217 (by decide) ?_
        exact HF.elim
    · replace HF := HF.2.2.2.1 e
      rw [e]
      refine ab_tableIn (off := 187) (tgt := 219) d_L_law_32 (by decide) (by decide) rfl (by decide) ?_
      refine ab_aload_n 1 d_L_law_219 rfl rfl ?_
      refine ab_aload_n 0 d_L_law_220 rfl rfl ?_
      refine ab_iload_n 3 d_L_law_221 rfl rfl ?_
      refine ab_iconst (v := (1 : Int32)) d_L_law_222 (by decide) ?_
      refine ab_iadd d_L_law_223 ?_
      obtain ⟨c30, HF⟩ := HF
      refine ab_sld d_L_law_224 c30 ?_
      refine ab_aload_n 0 d_L_law_225 rfl rfl ?_
      refine ab_iload_n 3 d_L_law_226 rfl rfl ?_
      refine ab_iconst (v := nI 2) d_L_law_227 (by decide) ?_
      refine ab_iadd d_L_law_228 ?_
      obtain ⟨c31, HF⟩ := HF
      refine ab_sld d_L_law_229 c31 ?_
      refine sa_callVi (As := [.int (xs (x3 + (1 : Int32)).toNatClampNeg), .int (xs (x3 + (nI 2)).toNatClampNeg)]) (rest := []) kc_L_29 d_L_law_230 sh_0 rfl rfl rfl (Nat.le_of_ble_eq_true rfl) enL (Nat.le_of_ble_eq_true rfl) ⟨Nat.le_of_ble_eq_true rfl, Nat.le_of_ble_eq_true rfl⟩ HF (fun r33 S32 HF => ?_)
      refine ab_aload_n 2 d_L_law_233 rfl rfl ?_
      refine ab_aload_n 0 d_L_law_234 rfl rfl ?_
      refine ab_iload_n 3 d_L_law_235 rfl rfl ?_
      refine ab_iconst (v := (1 : Int32)) d_L_law_236 (by decide) ?_
      refine ab_iadd d_L_law_237 ?_
      obtain ⟨c34, HF⟩ := HF
      refine ab_sld d_L_law_238 c34 ?_
      refine ab_aload_n 0 d_L_law_239 rfl rfl ?_
      refine ab_iload_n 3 d_L_law_240 rfl rfl ?_
      refine ab_iconst (v := nI 2) d_L_law_241 (by decide) ?_
      refine ab_iadd d_L_law_242 ?_
      obtain ⟨c35, HF⟩ := HF
      refine ab_sld d_L_law_243 c35 ?_
      refine sa_callVi (As := [.int (xs (x3 + (1 : Int32)).toNatClampNeg), .int (xs (x3 + (nI 2)).toNatClampNeg)]) (rest := [.int r33]) kc_L_33 d_L_law_244 sh_151 rfl rfl rfl (Nat.le_of_ble_eq_true rfl) enL (Nat.le_of_ble_eq_true rfl) ⟨Nat.le_of_ble_eq_true rfl, Nat.le_of_ble_eq_true rfl⟩ HF (fun r37 S36 HF => ?_)
      refine ab_icmp_eq (tgt := 489) d_L_law_247 (by decide) (fun b38 => ?_) (fun b38 => ?_)
      · replace HF := HF.1 b38
        refine ab_iinc (v := x3 + 5) (lv' := [(3, .int (x3 + 5)), (0, .ref b), (1, .ref (g.2.1 + 0)), (2, .ref (g.2.1 + 151))]) 3 d_L_law_489 rfl (congrArg (fun z => x3 + z) (show Int32.ofInt 5 = (5 : Int32) by decide)) (Nat.le_of_ble_eq_true rfl) rfl ?_
        refine ab_goto (tgt := 18) d_L_law_492 (by decide) ?_
        refine ab_sub (lv' := [(0, .ref b), (1, .ref (g.2.1 + 0)), (2, .ref (g.2.1 + 151)), (3, .int (x3 + 5))]) [1, 2, 3, 0] rfl ?_
        exact HF
      · replace HF := HF.2 b38
        refine ab_iconst (v := (0 : Int32)) d_L_law_250 (by decide) ?_
        exact HF.elim
    · replace HF := HF.2.2.2.2.1 e
      rw [e]
      refine ab_tableIn (off := 220) (tgt := 252) d_L_law_32 (by decide) (by decide) rfl (by decide) ?_
      refine ab_aload_n 1 d_L_law_252 rfl rfl ?_
      refine ab_aload_n 0 d_L_law_253 rfl rfl ?_
      refine ab_iload_n 3 d_L_law_254 rfl rfl ?_
      refine ab_iconst (v := (1 : Int32)) d_L_law_255 (by decide) ?_
      refine ab_iadd d_L_law_256 ?_
      obtain ⟨c39, HF⟩ := HF
      refine ab_sld d_L_law_257 c39 ?_
      refine ab_aload_n 0 d_L_law_258 rfl rfl ?_
      refine ab_iload_n 3 d_L_law_259 rfl rfl ?_
      refine ab_iconst (v := nI 2) d_L_law_260 (by decide) ?_
      refine ab_iadd d_L_law_261 ?_
      obtain ⟨c40, HF⟩ := HF
      refine ab_sld d_L_law_262 c40 ?_
      refine ab_aload_n 0 d_L_law_263 rfl rfl ?_
      refine ab_iload_n 3 d_L_law_264 rfl rfl ?_
      refine ab_iconst (v := nI 3) d_L_law_265 (by decide) ?_
      refine ab_iadd d_L_law_266 ?_
      obtain ⟨c41, HF⟩ := HF
      refine ab_sld d_L_law_267 c41 ?_
      refine sa_callVi (As := [.int (xs (x3 + (1 : Int32)).toNatClampNeg), .int (xs (x3 + (nI 2)).toNatClampNeg), .int (xs (x3 + (nI 3)).toNatClampNeg)]) (rest := []) kc_L_34 d_L_law_268 sh_0 rfl rfl rfl (Nat.le_of_ble_eq_true rfl) enL (Nat.le_of_ble_eq_true rfl) ⟨Nat.le_of_ble_eq_true rfl, Nat.le_of_ble_eq_true rfl⟩ HF (fun r43 S42 HF => ?_)
      refine ab_aload_n 2 d_L_law_271 rfl rfl ?_
      refine ab_aload_n 0 d_L_law_272 rfl rfl ?_
      refine ab_iload_n 3 d_L_law_273 rfl rfl ?_
      refine ab_iconst (v := (1 : Int32)) d_L_law_274 (by decide) ?_
      refine ab_iadd d_L_law_275 ?_
      obtain ⟨c44, HF⟩ := HF
      refine ab_sld d_L_law_276 c44 ?_
      refine ab_aload_n 0 d_L_law_277 rfl rfl ?_
      refine ab_iload_n 3 d_L_law_278 rfl rfl ?_
      refine ab_iconst (v := nI 2) d_L_law_279 (by decide) ?_
      refine ab_iadd d_L_law_280 ?_
      obtain ⟨c45, HF⟩ := HF
      refine ab_sld d_L_law_281 c45 ?_
      refine ab_aload_n 0 d_L_law_282 rfl rfl ?_
      refine ab_iload_n 3 d_L_law_283 rfl rfl ?_
      refine ab_iconst (v := nI 3) d_L_law_284 (by decide) ?_
      refine ab_iadd d_L_law_285 ?_
      obtain ⟨c46, HF⟩ := HF
      refine ab_sld d_L_law_286 c46 ?_
      refine sa_callVi (As := [.int (xs (x3 + (1 : Int32)).toNatClampNeg), .int (xs (x3 + (nI 2)).toNatClampNeg), .int (xs (x3 + (nI 3)).toNatClampNeg)]) (rest := [.int r43]) kc_L_38 d_L_law_287 sh_151 rfl rfl rfl (Nat.le_of_ble_eq_true rfl) enL (Nat.le_of_ble_eq_true rfl) ⟨Nat.le_of_ble_eq_true rfl, Nat.le_of_ble_eq_true rfl⟩ HF (fun r48 S47 HF => ?_)
      refine ab_icmp_eq (tgt := 489) d_L_law_290 (by decide) (fun b49 => ?_) (fun b49 => ?_)
      · replace HF := HF.1 b49
        refine ab_iinc (v := x3 + 5) (lv' := [(3, .int (x3 + 5)), (0, .ref b), (1, .ref (g.2.1 + 0)), (2, .ref (g.2.1 + 151))]) 3 d_L_law_489 rfl (congrArg (fun z => x3 + z) (show Int32.ofInt 5 = (5 : Int32) by decide)) (Nat.le_of_ble_eq_true rfl) rfl ?_
        refine ab_goto (tgt := 18) d_L_law_492 (by decide) ?_
        refine ab_sub (lv' := [(0, .ref b), (1, .ref (g.2.1 + 0)), (2, .ref (g.2.1 + 151)), (3, .int (x3 + 5))]) [1, 2, 3, 0] rfl ?_
        exact HF
      · replace HF := HF.2 b49
        refine ab_iconst (v := (0 : Int32)) d_L_law_293 (by decide) ?_
        exact HF.elim
    · replace HF := HF.2.2.2.2.2.1 e
      rw [e]
      refine ab_tableIn (off := 263) (tgt := 295) d_L_law_32 (by decide) (by decide) rfl (by decide) ?_
      refine ab_aload_n 1 d_L_law_295 rfl rfl ?_
      refine ab_aload_n 0 d_L_law_296 rfl rfl ?_
      refine ab_iload_n 3 d_L_law_297 rfl rfl ?_
      refine ab_iconst (v := (1 : Int32)) d_L_law_298 (by decide) ?_
      refine ab_iadd d_L_law_299 ?_
      obtain ⟨c50, HF⟩ := HF
      refine ab_sld d_L_law_300 c50 ?_
      refine sa_callVi (As := [.int (xs (x3 + (1 : Int32)).toNatClampNeg)]) (rest := []) kc_L_39 d_L_law_301 sh_0 rfl rfl rfl (Nat.le_of_ble_eq_true rfl) enL (Nat.le_of_ble_eq_true rfl) ⟨Nat.le_of_ble_eq_true rfl, Nat.le_of_ble_eq_true rfl⟩ HF (fun r52 S51 HF => ?_)
      refine ab_aload_n 2 d_L_law_304 rfl rfl ?_
      refine ab_aload_n 0 d_L_law_305 rfl rfl ?_
      refine ab_iload_n 3 d_L_law_306 rfl rfl ?_
      refine ab_iconst (v := (1 : Int32)) d_L_law_307 (by decide) ?_
      refine ab_iadd d_L_law_308 ?_
      obtain ⟨c53, HF⟩ := HF
      refine ab_sld d_L_law_309 c53 ?_
      refine sa_callVi (As := [.int (xs (x3 + (1 : Int32)).toNatClampNeg)]) (rest := [.int r52]) kc_L_42 d_L_law_310 sh_151 rfl rfl rfl (Nat.le_of_ble_eq_true rfl) enL (Nat.le_of_ble_eq_true rfl) ⟨Nat.le_of_ble_eq_true rfl, Nat.le_of_ble_eq_true rfl⟩ HF (fun r55 S54 HF => ?_)
      refine ab_icmp_eq (tgt := 489) d_L_law_313 (by decide) (fun b56 => ?_) (fun b56 => ?_)
      · replace HF := HF.1 b56
        refine ab_iinc (v := x3 + 5) (lv' := [(3, .int (x3 + 5)), (0, .ref b), (1, .ref (g.2.1 + 0)), (2, .ref (g.2.1 + 151))]) 3 d_L_law_489 rfl (congrArg (fun z => x3 + z) (show Int32.ofInt 5 = (5 : Int32) by decide)) (Nat.le_of_ble_eq_true rfl) rfl ?_
        refine ab_goto (tgt := 18) d_L_law_492 (by decide) ?_
        refine ab_sub (lv' := [(0, .ref b), (1, .ref (g.2.1 + 0)), (2, .ref (g.2.1 + 151)), (3, .int (x3 + 5))]) [1, 2, 3, 0] rfl ?_
        exact HF
      · replace HF := HF.2 b56
        refine ab_iconst (v := (0 : Int32)) d_L_law_316 (by decide) ?_
        exact HF.elim
    · replace HF := HF.2.2.2.2.2.2.1 e
      rw [e]
      refine ab_tableIn (off := 286) (tgt := 318) d_L_law_32 (by decide) (by decide) rfl (by decide) ?_
      refine ab_aload_n 1 d_L_law_318 rfl rfl ?_
      refine ab_aload_n 0 d_L_law_319 rfl rfl ?_
      refine ab_iload_n 3 d_L_law_320 rfl rfl ?_
      refine ab_iconst (v := (1 : Int32)) d_L_law_321 (by decide) ?_
      refine ab_iadd d_L_law_322 ?_
      obtain ⟨c57, HF⟩ := HF
      refine ab_sld d_L_law_323 c57 ?_
      refine sa_callVi (As := [.int (xs (x3 + (1 : Int32)).toNatClampNeg)]) (rest := []) kc_L_43 d_L_law_324 sh_0 rfl rfl rfl (Nat.le_of_ble_eq_true rfl) enL (Nat.le_of_ble_eq_true rfl) ⟨Nat.le_of_ble_eq_true rfl, Nat.le_of_ble_eq_true rfl⟩ HF (fun r59 S58 HF => ?_)
      refine ab_aload_n 2 d_L_law_327 rfl rfl ?_
      refine ab_aload_n 0 d_L_law_328 rfl rfl ?_
      refine ab_iload_n 3 d_L_law_329 rfl rfl ?_
      refine ab_iconst (v := (1 : Int32)) d_L_law_330 (by decide) ?_
      refine ab_iadd d_L_law_331 ?_
      obtain ⟨c60, HF⟩ := HF
      refine ab_sld d_L_law_332 c60 ?_
      refine sa_callVi (As := [.int (xs (x3 + (1 : Int32)).toNatClampNeg)]) (rest := [.int r59]) kc_L_46 d_L_law_333 sh_151 rfl rfl rfl (Nat.le_of_ble_eq_true rfl) enL (Nat.le_of_ble_eq_true rfl) ⟨Nat.le_of_ble_eq_true rfl, Nat.le_of_ble_eq_true rfl⟩ HF (fun r62 S61 HF => ?_)
      refine ab_icmp_eq (tgt := 489) d_L_law_336 (by decide) (fun b63 => ?_) (fun b63 => ?_)
      · replace HF := HF.1 b63
        refine ab_iinc (v := x3 + 5) (lv' := [(3, .int (x3 + 5)), (0, .ref b), (1, .ref (g.2.1 + 0)), (2, .ref (g.2.1 + 151))]) 3 d_L_law_489 rfl (congrArg (fun z => x3 + z) (show Int32.ofInt 5 = (5 : Int32) by decide)) (Nat.le_of_ble_eq_true rfl) rfl ?_
        refine ab_goto (tgt := 18) d_L_law_492 (by decide) ?_
        refine ab_sub (lv' := [(0, .ref b), (1, .ref (g.2.1 + 0)), (2, .ref (g.2.1 + 151)), (3, .int (x3 + 5))]) [1, 2, 3, 0] rfl ?_
        exact HF
      · replace HF := HF.2 b63
        refine ab_iconst (v := (0 : Int32)) d_L_law_339 (by decide) ?_
        exact HF.elim
    · replace HF := HF.2.2.2.2.2.2.2.1 e
      rw [e]
      refine ab_tableIn (off := 309) (tgt := 341) d_L_law_32 (by decide) (by decide) rfl (by decide) ?_
      refine ab_aload_n 1 d_L_law_341 rfl rfl ?_
      refine ab_aload_n 0 d_L_law_342 rfl rfl ?_
      refine ab_iload_n 3 d_L_law_343 rfl rfl ?_
      refine ab_iconst (v := (1 : Int32)) d_L_law_344 (by decide) ?_
      refine ab_iadd d_L_law_345 ?_
      obtain ⟨c64, HF⟩ := HF
      refine ab_sld d_L_law_346 c64 ?_
      refine ab_i2l d_L_law_347 rfl ?_
      refine ab_bipush (v := nI 32) d_L_law_348 (by decide) ?_
      refine ab_lshl d_L_law_350 rfl ?_
      refine ab_aload_n 0 d_L_law_351 rfl rfl ?_
      refine ab_iload_n 3 d_L_law_352 rfl rfl ?_
      refine ab_iconst (v := nI 2) d_L_law_353 (by decide) ?_
      refine ab_iadd d_L_law_354 ?_
      obtain ⟨c65, HF⟩ := HF
      refine ab_sld d_L_law_355 c65 ?_
      refine ab_i2l d_L_law_356 rfl ?_
      refine ab_ldc2 d_L_law_357 kl_L_13 ?_
      refine ab_land d_L_law_360 ?_
      refine ab_lor d_L_law_361 ?_
      refine ab_aload_n 0 d_L_law_362 rfl rfl ?_
      refine ab_iload_n 3 d_L_law_363 rfl rfl ?_
      refine ab_iconst (v := nI 3) d_L_law_364 (by decide) ?_
      refine ab_iadd d_L_law_365 ?_
      obtain ⟨c66, HF⟩ := HF
      refine ab_sld d_L_law_366 c66 ?_
      refine sa_callVi (As := [.long ((((xs (x3 + (1 : Int32)).toNatClampNeg).toInt64) <<< ((nI 32).toInt64 &&& 63)) ||| (((xs (x3 + (nI 2)).toNatClampNeg).toInt64) &&& (4294967295 : Int64))), .int (xs (x3 + (nI 3)).toNatClampNeg)]) (rest := []) kc_L_47 d_L_law_367 sh_0 rfl rfl rfl (Nat.le_of_ble_eq_true rfl) enL (Nat.le_of_ble_eq_true rfl) ⟨Nat.le_of_ble_eq_true rfl, Nat.le_of_ble_eq_true rfl⟩ HF (fun r68 S67 HF => ?_)
      refine ab_aload_n 2 d_L_law_370 rfl rfl ?_
      refine ab_aload_n 0 d_L_law_371 rfl rfl ?_
      refine ab_iload_n 3 d_L_law_372 rfl rfl ?_
      refine ab_iconst (v := (1 : Int32)) d_L_law_373 (by decide) ?_
      refine ab_iadd d_L_law_374 ?_
      obtain ⟨c69, HF⟩ := HF
      refine ab_sld d_L_law_375 c69 ?_
      refine ab_i2l d_L_law_376 rfl ?_
      refine ab_bipush (v := nI 32) d_L_law_377 (by decide) ?_
      refine ab_lshl d_L_law_379 rfl ?_
      refine ab_aload_n 0 d_L_law_380 rfl rfl ?_
      refine ab_iload_n 3 d_L_law_381 rfl rfl ?_
      refine ab_iconst (v := nI 2) d_L_law_382 (by decide) ?_
      refine ab_iadd d_L_law_383 ?_
      obtain ⟨c70, HF⟩ := HF
      refine ab_sld d_L_law_384 c70 ?_
      refine ab_i2l d_L_law_385 rfl ?_
      refine ab_ldc2 d_L_law_386 kl_L_13 ?_
      refine ab_land d_L_law_389 ?_
      refine ab_lor d_L_law_390 ?_
      refine ab_aload_n 0 d_L_law_391 rfl rfl ?_
      refine ab_iload_n 3 d_L_law_392 rfl rfl ?_
      refine ab_iconst (v := nI 3) d_L_law_393 (by decide) ?_
      refine ab_iadd d_L_law_394 ?_
      obtain ⟨c71, HF⟩ := HF
      refine ab_sld d_L_law_395 c71 ?_
      refine sa_callVi (As := [.long ((((xs (x3 + (1 : Int32)).toNatClampNeg).toInt64) <<< ((nI 32).toInt64 &&& 63)) ||| (((xs (x3 + (nI 2)).toNatClampNeg).toInt64) &&& (4294967295 : Int64))), .int (xs (x3 + (nI 3)).toNatClampNeg)]) (rest := [.int r68]) kc_L_51 d_L_law_396 sh_151 rfl rfl rfl (Nat.le_of_ble_eq_true rfl) enL (Nat.le_of_ble_eq_true rfl) ⟨Nat.le_of_ble_eq_true rfl, Nat.le_of_ble_eq_true rfl⟩ HF (fun r73 S72 HF => ?_)
      refine ab_icmp_eq (tgt := 489) d_L_law_399 (by decide) (fun b74 => ?_) (fun b74 => ?_)
      · replace HF := HF.1 b74
        refine ab_iinc (v := x3 + 5) (lv' := [(3, .int (x3 + 5)), (0, .ref b), (1, .ref (g.2.1 + 0)), (2, .ref (g.2.1 + 151))]) 3 d_L_law_489 rfl (congrArg (fun z => x3 + z) (show Int32.ofInt 5 = (5 : Int32) by decide)) (Nat.le_of_ble_eq_true rfl) rfl ?_
        refine ab_goto (tgt := 18) d_L_law_492 (by decide) ?_
        refine ab_sub (lv' := [(0, .ref b), (1, .ref (g.2.1 + 0)), (2, .ref (g.2.1 + 151)), (3, .int (x3 + 5))]) [1, 2, 3, 0] rfl ?_
        exact HF
      · replace HF := HF.2 b74
        refine ab_iconst (v := (0 : Int32)) d_L_law_402 (by decide) ?_
        exact HF.elim
    · replace HF := HF.2.2.2.2.2.2.2.2.1 e
      rw [e]
      refine ab_tableIn (off := 372) (tgt := 404) d_L_law_32 (by decide) (by decide) rfl (by decide) ?_
      refine ab_aload_n 1 d_L_law_404 rfl rfl ?_
      refine sa_callVi (As := []) (rest := []) kc_L_52 d_L_law_405 sh_0 rfl rfl rfl (Nat.le_of_ble_eq_true rfl) enL (Nat.le_of_ble_eq_true rfl) ⟨Nat.le_of_ble_eq_true rfl, Nat.le_of_ble_eq_true rfl⟩ HF (fun r76 S75 HF => ?_)
      refine ab_aload_n 2 d_L_law_408 rfl rfl ?_
      refine sa_callVi (As := []) (rest := [.int r76]) kc_L_56 d_L_law_409 sh_151 rfl rfl rfl (Nat.le_of_ble_eq_true rfl) enL (Nat.le_of_ble_eq_true rfl) ⟨Nat.le_of_ble_eq_true rfl, Nat.le_of_ble_eq_true rfl⟩ HF (fun r78 S77 HF => ?_)
      refine ab_icmp_eq (tgt := 489) d_L_law_412 (by decide) (fun b79 => ?_) (fun b79 => ?_)
      · replace HF := HF.1 b79
        refine ab_iinc (v := x3 + 5) (lv' := [(3, .int (x3 + 5)), (0, .ref b), (1, .ref (g.2.1 + 0)), (2, .ref (g.2.1 + 151))]) 3 d_L_law_489 rfl (congrArg (fun z => x3 + z) (show Int32.ofInt 5 = (5 : Int32) by decide)) (Nat.le_of_ble_eq_true rfl) rfl ?_
        refine ab_goto (tgt := 18) d_L_law_492 (by decide) ?_
        refine ab_sub (lv' := [(0, .ref b), (1, .ref (g.2.1 + 0)), (2, .ref (g.2.1 + 151)), (3, .int (x3 + 5))]) [1, 2, 3, 0] rfl ?_
        exact HF
      · replace HF := HF.2 b79
        refine ab_iconst (v := (0 : Int32)) d_L_law_415 (by decide) ?_
        exact HF.elim
    · replace HF := HF.2.2.2.2.2.2.2.2.2.1 e
      rw [e]
      refine ab_tableIn (off := 385) (tgt := 417) d_L_law_32 (by decide) (by decide) rfl (by decide) ?_
      refine ab_aload_n 1 d_L_law_417 rfl rfl ?_
      refine ab_aload_n 0 d_L_law_418 rfl rfl ?_
      refine ab_iload_n 3 d_L_law_419 rfl rfl ?_
      refine ab_iconst (v := (1 : Int32)) d_L_law_420 (by decide) ?_
      refine ab_iadd d_L_law_421 ?_
      obtain ⟨c80, HF⟩ := HF
      refine ab_sld d_L_law_422 c80 ?_
      refine sa_callVi (As := [.int (xs (x3 + (1 : Int32)).toNatClampNeg)]) (rest := []) kc_L_57 d_L_law_423 sh_0 rfl rfl rfl (Nat.le_of_ble_eq_true rfl) enL (Nat.le_of_ble_eq_true rfl) ⟨Nat.le_of_ble_eq_true rfl, Nat.le_of_ble_eq_true rfl⟩ HF (fun r82 S81 HF => ?_)
      refine ab_aload_n 2 d_L_law_426 rfl rfl ?_
      refine ab_aload_n 0 d_L_law_427 rfl rfl ?_
      refine ab_iload_n 3 d_L_law_428 rfl rfl ?_
      refine ab_iconst (v := (1 : Int32)) d_L_law_429 (by decide) ?_
      refine ab_iadd d_L_law_430 ?_
      obtain ⟨c83, HF⟩ := HF
      refine ab_sld d_L_law_431 c83 ?_
      refine sa_callVi (As := [.int (xs (x3 + (1 : Int32)).toNatClampNeg)]) (rest := [.int r82]) kc_L_60 d_L_law_432 sh_151 rfl rfl rfl (Nat.le_of_ble_eq_true rfl) enL (Nat.le_of_ble_eq_true rfl) ⟨Nat.le_of_ble_eq_true rfl, Nat.le_of_ble_eq_true rfl⟩ HF (fun r85 S84 HF => ?_)
      refine ab_icmp_eq (tgt := 489) d_L_law_435 (by decide) (fun b86 => ?_) (fun b86 => ?_)
      · replace HF := HF.1 b86
        refine ab_iinc (v := x3 + 5) (lv' := [(3, .int (x3 + 5)), (0, .ref b), (1, .ref (g.2.1 + 0)), (2, .ref (g.2.1 + 151))]) 3 d_L_law_489 rfl (congrArg (fun z => x3 + z) (show Int32.ofInt 5 = (5 : Int32) by decide)) (Nat.le_of_ble_eq_true rfl) rfl ?_
        refine ab_goto (tgt := 18) d_L_law_492 (by decide) ?_
        refine ab_sub (lv' := [(0, .ref b), (1, .ref (g.2.1 + 0)), (2, .ref (g.2.1 + 151)), (3, .int (x3 + 5))]) [1, 2, 3, 0] rfl ?_
        exact HF
      · replace HF := HF.2 b86
        refine ab_iconst (v := (0 : Int32)) d_L_law_438 (by decide) ?_
        exact HF.elim
    · replace HF := HF.2.2.2.2.2.2.2.2.2.2.1 e
      rw [e]
      refine ab_tableIn (off := 408) (tgt := 440) d_L_law_32 (by decide) (by decide) rfl (by decide) ?_
      refine ab_aload_n 1 d_L_law_440 rfl rfl ?_
      refine sa_callVi (As := []) (rest := []) kc_L_61 d_L_law_441 sh_0 rfl rfl rfl (Nat.le_of_ble_eq_true rfl) enL (Nat.le_of_ble_eq_true rfl) ⟨Nat.le_of_ble_eq_true rfl, Nat.le_of_ble_eq_true rfl⟩ HF (fun r88 S87 HF => ?_)
      refine ab_aload_n 2 d_L_law_444 rfl rfl ?_
      refine sa_callVi (As := []) (rest := [.int r88]) kc_L_64 d_L_law_445 sh_151 rfl rfl rfl (Nat.le_of_ble_eq_true rfl) enL (Nat.le_of_ble_eq_true rfl) ⟨Nat.le_of_ble_eq_true rfl, Nat.le_of_ble_eq_true rfl⟩ HF (fun r90 S89 HF => ?_)
      refine ab_icmp_eq (tgt := 489) d_L_law_448 (by decide) (fun b91 => ?_) (fun b91 => ?_)
      · replace HF := HF.1 b91
        refine ab_iinc (v := x3 + 5) (lv' := [(3, .int (x3 + 5)), (0, .ref b), (1, .ref (g.2.1 + 0)), (2, .ref (g.2.1 + 151))]) 3 d_L_law_489 rfl (congrArg (fun z => x3 + z) (show Int32.ofInt 5 = (5 : Int32) by decide)) (Nat.le_of_ble_eq_true rfl) rfl ?_
        refine ab_goto (tgt := 18) d_L_law_492 (by decide) ?_
        refine ab_sub (lv' := [(0, .ref b), (1, .ref (g.2.1 + 0)), (2, .ref (g.2.1 + 151)), (3, .int (x3 + 5))]) [1, 2, 3, 0] rfl ?_
        exact HF
      · replace HF := HF.2 b91
        refine ab_iconst (v := (0 : Int32)) d_L_law_451 (by decide) ?_
        exact HF.elim
    · replace HF := HF.2.2.2.2.2.2.2.2.2.2.2.1 e
      rw [e]
      refine ab_tableIn (off := 421) (tgt := 453) d_L_law_32 (by decide) (by decide) rfl (by decide) ?_
      refine ab_aload_n 1 d_L_law_453 rfl rfl ?_
      refine ab_aload_n 0 d_L_law_454 rfl rfl ?_
      refine ab_iload_n 3 d_L_law_455 rfl rfl ?_
      refine ab_iconst (v := (1 : Int32)) d_L_law_456 (by decide) ?_
      refine ab_iadd d_L_law_457 ?_
      obtain ⟨c92, HF⟩ := HF
      refine ab_sld d_L_law_458 c92 ?_
      refine sa_callVi (As := [.int (xs (x3 + (1 : Int32)).toNatClampNeg)]) (rest := []) kc_L_65 d_L_law_459 sh_0 rfl rfl rfl (Nat.le_of_ble_eq_true rfl) enL (Nat.le_of_ble_eq_true rfl) ⟨Nat.le_of_ble_eq_true rfl, Nat.le_of_ble_eq_true rfl⟩ HF (fun r94 S93 HF => ?_)
      refine ab_aload_n 2 d_L_law_462 rfl rfl ?_
      refine ab_aload_n 0 d_L_law_463 rfl rfl ?_
      refine ab_iload_n 3 d_L_law_464 rfl rfl ?_
      refine ab_iconst (v := (1 : Int32)) d_L_law_465 (by decide) ?_
      refine ab_iadd d_L_law_466 ?_
      obtain ⟨c95, HF⟩ := HF
      refine ab_sld d_L_law_467 c95 ?_
      refine sa_callVi (As := [.int (xs (x3 + (1 : Int32)).toNatClampNeg)]) (rest := [.int r94]) kc_L_68 d_L_law_468 sh_151 rfl rfl rfl (Nat.le_of_ble_eq_true rfl) enL (Nat.le_of_ble_eq_true rfl) ⟨Nat.le_of_ble_eq_true rfl, Nat.le_of_ble_eq_true rfl⟩ HF (fun r97 S96 HF => ?_)
      refine ab_icmp_eq (tgt := 489) d_L_law_471 (by decide) (fun b98 => ?_) (fun b98 => ?_)
      · replace HF := HF.1 b98
        refine ab_iinc (v := x3 + 5) (lv' := [(3, .int (x3 + 5)), (0, .ref b), (1, .ref (g.2.1 + 0)), (2, .ref (g.2.1 + 151))]) 3 d_L_law_489 rfl (congrArg (fun z => x3 + z) (show Int32.ofInt 5 = (5 : Int32) by decide)) (Nat.le_of_ble_eq_true rfl) rfl ?_
        refine ab_goto (tgt := 18) d_L_law_492 (by decide) ?_
        refine ab_sub (lv' := [(0, .ref b), (1, .ref (g.2.1 + 0)), (2, .ref (g.2.1 + 151)), (3, .int (x3 + 5))]) [1, 2, 3, 0] rfl ?_
        exact HF
      · replace HF := HF.2 b98
        refine ab_iconst (v := (0 : Int32)) d_L_law_474 (by decide) ?_
        exact HF.elim
    · replace HF := HF.2.2.2.2.2.2.2.2.2.2.2.2.1 e
      rw [e]
      refine ab_tableIn (off := 444) (tgt := 476) d_L_law_32 (by decide) (by decide) rfl (by decide) ?_
      refine ab_aload_n 1 d_L_law_476 rfl rfl ?_
      refine sa_callVi (As := []) (rest := []) kc_L_69 d_L_law_477 sh_0 rfl rfl rfl (Nat.le_of_ble_eq_true rfl) enL (Nat.le_of_ble_eq_true rfl) ⟨Nat.le_of_ble_eq_true rfl, Nat.le_of_ble_eq_true rfl⟩ HF (fun r100 S99 HF => ?_)
      refine ab_aload_n 2 d_L_law_480 rfl rfl ?_
      refine sa_callVi (As := []) (rest := [.int r100]) kc_L_72 d_L_law_481 sh_151 rfl rfl rfl (Nat.le_of_ble_eq_true rfl) enL (Nat.le_of_ble_eq_true rfl) ⟨Nat.le_of_ble_eq_true rfl, Nat.le_of_ble_eq_true rfl⟩ HF (fun r102 S101 HF => ?_)
      refine ab_icmp_eq (tgt := 489) d_L_law_484 (by decide) (fun b103 => ?_) (fun b103 => ?_)
      · replace HF := HF.1 b103
        refine ab_iinc (v := x3 + 5) (lv' := [(3, .int (x3 + 5)), (0, .ref b), (1, .ref (g.2.1 + 0)), (2, .ref (g.2.1 + 151))]) 3 d_L_law_489 rfl (congrArg (fun z => x3 + z) (show Int32.ofInt 5 = (5 : Int32) by decide)) (Nat.le_of_ble_eq_true rfl) rfl ?_
        refine ab_goto (tgt := 18) d_L_law_492 (by decide) ?_
        refine ab_sub (lv' := [(0, .ref b), (1, .ref (g.2.1 + 0)), (2, .ref (g.2.1 + 151)), (3, .int (x3 + 5))]) [1, 2, 3, 0] rfl ?_
        exact HF
      · replace HF := HF.2 b103
        refine ab_iconst (v := (0 : Int32)) d_L_law_487 (by decide) ?_
        exact HF.elim
    · replace HF := HF.2.2.2.2.2.2.2.2.2.2.2.2.2 e
      refine ab_tableOut (tgt := 489) d_L_law_32 e (by decide) ?_
      refine ab_iinc (v := x3 + 5) (lv' := [(3, .int (x3 + 5)), (0, .ref b), (1, .ref (g.2.1 + 0)), (2, .ref (g.2.1 + 151))]) 3 d_L_law_489 rfl (congrArg (fun z => x3 + z) (show Int32.ofInt 5 = (5 : Int32) by decide)) (Nat.le_of_ble_eq_true rfl) rfl ?_
      refine ab_goto (tgt := 18) d_L_law_492 (by decide) ?_
      refine ab_sub (lv' := [(0, .ref b), (1, .ref (g.2.1 + 0)), (2, .ref (g.2.1 + 151)), (3, .int (x3 + 5))]) [1, 2, 3, 0] rfl ?_
      exact HF

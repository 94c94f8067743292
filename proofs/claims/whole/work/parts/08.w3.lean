set_option maxRecDepth 100000 in
theorem f_M_within {g : lp_G} {d : Nat} {Q : Int32 → SS → Prop} {S : SS} {x0 : Int32} {x1 : Int32} {x2 : Int32}
    (HF : (x0 < x1 → Q (0 : Int32) S) ∧ (¬ x0 < x1 → (x2 < x0 → Q (0 : Int32) S) ∧ (¬ x2 < x0 → Q (1 : Int32) S))) : MtI g um_M_within d [.int x0, .int x1, .int x2] S Q := by
  refine sa_entryI (lv' := [(0, .int x0), (1, .int x1), (2, .int x2)]) (by decide +kernel) (Nat.le_of_ble_eq_true rfl) rfl ?_
  refine ab_iload_n 0 d_M_within_0 rfl rfl ?_
  refine ab_iload_n 1 d_M_within_1 rfl rfl ?_
  refine ab_icmp_lt (tgt := 14) d_M_within_2 (by decide) (fun b1 => ?_) (fun b1 => ?_)
  · replace HF := HF.1 b1
    refine ab_iconst (v := (0 : Int32)) d_M_within_14 (by decide) ?_
    exact sa_iretZ rfl isB_0.1 d_M_within_15 HF
  · replace HF := HF.2 b1
    refine ab_iload_n 0 d_M_within_5 rfl rfl ?_
    refine ab_iload_n 2 d_M_within_6 rfl rfl ?_
    refine ab_icmp_gt (tgt := 14) d_M_within_7 (by decide) (fun b2 => ?_) (fun b2 => ?_)
    · replace HF := HF.1 b2
      refine ab_iconst (v := (0 : Int32)) d_M_within_14 (by decide) ?_
      exact sa_iretZ rfl isB_0.1 d_M_within_15 HF
    · replace HF := HF.2 b2
      refine ab_iconst (v := (1 : Int32)) d_M_within_10 (by decide) ?_
      refine ab_goto (tgt := 15) d_M_within_11 (by decide) ?_
      exact sa_iretZ rfl isB_1.1 d_M_within_15 HF
set_option maxRecDepth 100000 in
theorem f_M_isLetter {g : lp_G} {d : Nat} {Q : Int32 → SS → Prop} {S : SS} {x0 : Int32}
    (HF : MtI g um_M_within d [.int x0, .int (nI 97), .int (nI 122)] S (fun r2 S1 => (isB r2) ∧ (Q r2 S1))) : MtI g um_M_isLetter (d + 1) [.int x0] S Q := by
  refine sa_entryI (lv' := [(0, .int x0)]) (by decide +kernel) (Nat.le_of_ble_eq_true rfl) rfl ?_
  refine ab_iload_n 0 d_M_isLetter_0 rfl rfl ?_
  refine ab_bipush (v := nI 97) d_M_isLetter_1 (by decide) ?_
  refine ab_bipush (v := nI 122) d_M_isLetter_3 (by decide) ?_
  refine sa_callSi (As := [.int x0, .int (nI 97), .int (nI 122)]) (rest := []) kc_M_88 d_M_isLetter_5 rfl (Nat.le_of_ble_eq_true rfl) enI (Nat.le_of_ble_eq_true rfl) ⟨Nat.zero_le _, Nat.zero_le _⟩ HF (fun r2 S1 HF => ?_)
  obtain ⟨c3, HF⟩ := HF
  exact sa_iretZ rfl c3.1 d_M_isLetter_8 HF
set_option maxRecDepth 100000 in
theorem f_M_add {g : lp_G} {d : Nat} {Q : Int32 → SS → Prop} {S : SS} {x1 : Int32} {w2 : Int64} {x4 : Int32}
    (HF : MtI g um_M_within d [.int x1, .int (0 : Int32), .int (nI 3)] S (fun r2 S1 => (r2 = 0 → AtI g um_M_add (d + 1) Q 30 [(0, .ref (g.2.1 + 151)), (1, .int x1), (2, .long w2), (4, .int x4), (5, .int (0 : Int32)), (6, .int (0 : Int32))] [] S1) ∧ (¬ r2 = 0 → MtI g um_M_within d [.int x4, .int (1 : Int32), .int (nI 8)] S1 (fun r5 S4 => (r5 = 0 → AtI g um_M_add (d + 1) Q 30 [(0, .ref (g.2.1 + 151)), (1, .int x1), (2, .long w2), (4, .int x4), (5, .int (0 : Int32)), (6, .int (0 : Int32))] [] S4) ∧ (¬ r5 = 0 → AtI g um_M_add (d + 1) Q 30 [(0, .ref (g.2.1 + 151)), (1, .int x1), (2, .long w2), (4, .int x4), (5, .int (1 : Int32)), (6, .int (0 : Int32))] [] S4))))) : MtI g um_M_add (d + 1) [.ref (g.2.1 + 151), .int x1, .long w2, .int x4] S Q := by
  refine sa_entryI (lv' := [(0, .ref (g.2.1 + 151)), (1, .int x1), (2, .long w2), (4, .int x4)]) (by decide +kernel) (Nat.le_of_ble_eq_true rfl) rfl ?_
  refine ab_iload_n 1 d_M_add_0 rfl rfl ?_
  refine ab_iconst (v := (0 : Int32)) d_M_add_1 (by decide) ?_
  refine ab_iconst (v := nI 3) d_M_add_2 (by decide) ?_
  refine sa_callSi (As := [.int x1, .int (0 : Int32), .int (nI 3)]) (rest := []) kc_M_88 d_M_add_3 rfl (Nat.le_of_ble_eq_true rfl) enI (Nat.le_of_ble_eq_true rfl) ⟨Nat.zero_le _, Nat.zero_le _⟩ HF (fun r2 S1 HF => ?_)
  refine ab_if_eq (tgt := 24) d_M_add_6 (by decide) (fun b3 => ?_) (fun b3 => ?_)
  · replace HF := HF.1 b3
    refine ab_iconst (v := (0 : Int32)) d_M_add_24 (by decide) ?_
    refine ab_istore (lv' := [(5, .int (0 : Int32)), (0, .ref (g.2.1 + 151)), (1, .int x1), (2, .long w2), (4, .int x4)]) d_M_add_25 (Nat.le_of_ble_eq_true rfl) rfl ?_
    refine ab_iconst (v := (0 : Int32)) d_M_add_27 (by decide) ?_
    refine ab_istore (lv' := [(6, .int (0 : Int32)), (5, .int (0 : Int32)), (0, .ref (g.2.1 + 151)), (1, .int x1), (2, .long w2), (4, .int x4)]) d_M_add_28 (Nat.le_of_ble_eq_true rfl) rfl ?_
    refine ab_sub (lv' := [(0, .ref (g.2.1 + 151)), (1, .int x1), (2, .long w2), (4, .int x4), (5, .int (0 : Int32)), (6, .int (0 : Int32))]) [2, 3, 4, 5, 1, 0] rfl ?_
    exact HF
  · replace HF := HF.2 b3
    refine ab_iload 3 d_M_add_9 rfl ?_
    refine ab_iconst (v := (1 : Int32)) d_M_add_11 (by decide) ?_
    refine ab_bipush (v := nI 8) d_M_add_12 (by decide) ?_
    refine sa_callSi (As := [.int x4, .int (1 : Int32), .int (nI 8)]) (rest := []) kc_M_88 d_M_add_14 rfl (Nat.le_of_ble_eq_true rfl) enI (Nat.le_of_ble_eq_true rfl) ⟨Nat.zero_le _, Nat.zero_le _⟩ HF (fun r5 S4 HF => ?_)
    refine ab_if_eq (tgt := 24) d_M_add_17 (by decide) (fun b6 => ?_) (fun b6 => ?_)
    · replace HF := HF.1 b6
      refine ab_iconst (v := (0 : Int32)) d_M_add_24 (by decide) ?_
      refine ab_istore (lv' := [(5, .int (0 : Int32)), (0, .ref (g.2.1 + 151)), (1, .int x1), (2, .long w2), (4, .int x4)]) d_M_add_25 (Nat.le_of_ble_eq_true rfl) rfl ?_
      refine ab_iconst (v := (0 : Int32)) d_M_add_27 (by decide) ?_
      refine ab_istore (lv' := [(6, .int (0 : Int32)), (5, .int (0 : Int32)), (0, .ref (g.2.1 + 151)), (1, .int x1), (2, .long w2), (4, .int x4)]) d_M_add_28 (Nat.le_of_ble_eq_true rfl) rfl ?_
      refine ab_sub (lv' := [(0, .ref (g.2.1 + 151)), (1, .int x1), (2, .long w2), (4, .int x4), (5, .int (0 : Int32)), (6, .int (0 : Int32))]) [2, 3, 4, 5, 1, 0] rfl ?_
      exact HF
    · replace HF := HF.2 b6
      refine ab_iconst (v := (1 : Int32)) d_M_add_20 (by decide) ?_
      refine ab_goto (tgt := 25) d_M_add_21 (by decide) ?_
      refine ab_istore (lv' := [(5, .int (1 : Int32)), (0, .ref (g.2.1 + 151)), (1, .int x1), (2, .long w2), (4, .int x4)]) d_M_add_25 (Nat.le_of_ble_eq_true rfl) rfl ?_
      refine ab_iconst (v := (0 : Int32)) d_M_add_27 (by decide) ?_
      refine ab_istore (lv' := [(6, .int (0 : Int32)), (5, .int (1 : Int32)), (0, .ref (g.2.1 + 151)), (1, .int x1), (2, .long w2), (4, .int x4)]) d_M_add_28 (Nat.le_of_ble_eq_true rfl) rfl ?_
      refine ab_sub (lv' := [(0, .ref (g.2.1 + 151)), (1, .int x1), (2, .long w2), (4, .int x4), (5, .int (1 : Int32)), (6, .int (0 : Int32))]) [2, 3, 4, 5, 1, 0] rfl ?_
      exact HF
set_option maxRecDepth 100000 in
theorem f_M_add_30 {g : lp_G} {d : Nat} {Q : Int32 → SS → Prop} {S : SS} {x1 : Int32} {w2 : Int64} {x4 : Int32} {x5 : Int32} {x6 : Int32}
    (HF : (x4 ≤ x6 → (¬ x5 = 0 → (vp_in x1 4) ∧ (((S.2 153 x1.toNatClampNeg) + x4 ≤ nI 24 → AtI g um_M_add (d + 1) Q 95 [(0, .ref (g.2.1 + 151)), (1, .int x1), (2, .long w2), (6, .int (x4 - (1 : Int32)))] [] S) ∧ (¬ (S.2 153 x1.toNatClampNeg) + x4 ≤ nI 24 → Q (-2 : Int32) S))) ∧ (x5 = 0 → Q (-1 : Int32) S)) ∧ (¬ x4 ≤ x6 → (x5 = 0 → Q (-1 : Int32) S) ∧ (¬ x5 = 0 → MtI g um_M_isLetter d [.int (((w2 >>> (((nI 8) * x6).toInt64 &&& 63)).toInt32) &&& (nI 255))] S (fun r13 S12 => AtI g um_M_add (d + 1) Q 30 [(0, .ref (g.2.1 + 151)), (1, .int x1), (2, .long w2), (4, .int x4), (5, .int r13), (6, .int (x6 + 1))] [] S12)))) : AtI g um_M_add (d + 1) Q 30 [(0, .ref (g.2.1 + 151)), (1, .int x1), (2, .long w2), (4, .int x4), (5, .int x5), (6, .int x6)] [] S := by
  refine ab_iload 5 d_M_add_30 rfl ?_
  refine ab_iload 3 d_M_add_32 rfl ?_
  refine ab_icmp_ge (tgt := 65) d_M_add_34 (by decide) (fun b7 => ?_) (fun b7 => ?_)
  · replace HF := HF.1 b7
    refine ab_iload 4 d_M_add_65 rfl ?_
    refine ab_if_ne (tgt := 72) d_M_add_67 (by decide) (fun b8 => ?_) (fun b8 => ?_)
    · replace HF := HF.1 b8
      refine ab_aload_n 0 d_M_add_72 rfl rfl ?_
      refine sa_getR (r := 153) kf_M_13 d_M_add_73 sh_151 rfl ?_
      refine ab_iload_n 1 d_M_add_76 rfl rfl ?_
      obtain ⟨c9, HF⟩ := HF
      refine sa_iald d_M_add_77 sh_153 c9 ?_
      refine ab_iload 3 d_M_add_78 rfl ?_
      refine ab_iadd d_M_add_80 ?_
      refine ab_bipush (v := nI 24) d_M_add_81 (by decide) ?_
      refine ab_icmp_le (tgt := 89) d_M_add_83 (by decide) (fun b10 => ?_) (fun b10 => ?_)
      · replace HF := HF.1 b10
        refine ab_iload 3 d_M_add_89 rfl ?_
        refine ab_iconst (v := (1 : Int32)) d_M_add_91 (by decide) ?_
        refine ab_isub d_M_add_92 ?_
        refine ab_istore (lv' := [(6, .int (x4 - (1 : Int32))), (0, .ref (g.2.1 + 151)), (1, .int x1), (2, .long w2), (4, .int x4), (5, .int x5)]) d_M_add_93 (Nat.le_of_ble_eq_true rfl) rfl ?_
        refine ab_sub (lv' := [(0, .ref (g.2.1 + 151)), (1, .int x1), (2, .long w2), (6, .int (x4 - (1 : Int32)))]) [1, 2, 3, 0] rfl ?_
        exact HF
      · replace HF := HF.2 b10
        refine ab_bipush (v := (-2 : Int32)) d_M_add_86 (by decide) ?_
        exact sa_iretI rfl d_M_add_88 HF
    · replace HF := HF.2 b8
      refine ab_iconst (v := (-1 : Int32)) d_M_add_70 (by decide) ?_
      exact sa_iretI rfl d_M_add_71 HF
  · replace HF := HF.2 b7
    refine ab_iload 4 d_M_add_37 rfl ?_
    refine ab_if_eq (tgt := 65) d_M_add_39 (by decide) (fun b11 => ?_) (fun b11 => ?_)
    · replace HF := HF.1 b11
      refine ab_iload 4 d_M_add_65 rfl ?_
      refine ab_if_ne (tgt := 72) d_M_add_67 (by decide) (fun h => absurd b11 h) (fun _ => ?_)
      refine ab_iconst (v := (-1 : Int32)) d_M_add_70 (by decide) ?_
      exact sa_iretI rfl d_M_add_71 HF
    · replace HF := HF.2 b11
      refine ab_lload_n 2 d_M_add_42 rfl rfl ?_
      refine ab_bipush (v := nI 8) d_M_add_43 (by decide) ?_
      refine ab_iload 5 d_M_add_45 rfl ?_
      refine ab_imul d_M_add_47 ?_
      refine ab_lshr d_M_add_48 rfl ?_
      refine ab_l2i d_M_add_49 rfl ?_
      refine ab_sipush (v := nI 255) d_M_add_50 (by decide) ?_
      refine ab_iand d_M_add_53 ?_
      refine sa_callSi (As := [.int (((w2 >>> (((nI 8) * x6).toInt64 &&& 63)).toInt32) &&& (nI 255))]) (rest := []) kc_M_92 d_M_add_54 rfl (Nat.le_of_ble_eq_true rfl) enI (Nat.le_of_ble_eq_true rfl) ⟨Nat.zero_le _, Nat.zero_le _⟩ HF (fun r13 S12 HF => ?_)
      refine ab_istore (lv' := [(5, .int r13), (0, .ref (g.2.1 + 151)), (1, .int x1), (2, .long w2), (4, .int x4), (6, .int x6)]) d_M_add_57 (Nat.le_of_ble_eq_true rfl) rfl ?_
      refine ab_iinc (v := x6 + 1) (lv' := [(6, .int (x6 + 1)), (5, .int r13), (0, .ref (g.2.1 + 151)), (1, .int x1), (2, .long w2), (4, .int x4)]) 5 d_M_add_59 rfl (congrArg (fun z => x6 + z) (show Int32.ofInt 1 = (1 : Int32) by decide)) (Nat.le_of_ble_eq_true rfl) rfl ?_
      refine ab_goto (tgt := 30) d_M_add_62 (by decide) ?_
      refine ab_sub (lv' := [(0, .ref (g.2.1 + 151)), (1, .int x1), (2, .long w2), (4, .int x4), (5, .int r13), (6, .int (x6 + 1))]) [2, 3, 4, 5, 1, 0] rfl ?_
      exact HF
set_option maxRecDepth 100000 in
theorem f_M_add_95 {g : lp_G} {d : Nat} {Q : Int32 → SS → Prop} {S : SS} {x1 : Int32} {w2 : Int64} {x6 : Int32}
    (HF : (x6 < 0 → (vp_in x1 4) ∧ (Q (S.2 153 x1.toNatClampNeg) S)) ∧ (¬ x6 < 0 → (vp_in x1 4) ∧ ((vp_in (((nI 24) * x1) + (S.2 153 x1.toNatClampNeg)) 96) ∧ (∀ S18 : SS, S18 = setA S 152 (((nI 24) * x1) + (S.2 153 x1.toNatClampNeg)).toNatClampNeg (((w2 >>> (((nI 8) * x6).toInt64 &&& 63)).toInt32) &&& (nI 255)) → (vp_in x1 4) ∧ ((vp_in x1 4) ∧ (∀ S21 : SS, S21 = setA S18 153 x1.toNatClampNeg ((S18.2 153 x1.toNatClampNeg) + (1 : Int32)) → AtI g um_M_add (d + 1) Q 95 [(0, .ref (g.2.1 + 151)), (1, .int x1), (2, .long w2), (6, .int (x6 + (-1)))] [] S21)))))) : AtI g um_M_add (d + 1) Q 95 [(0, .ref (g.2.1 + 151)), (1, .int x1), (2, .long w2), (6, .int x6)] [] S := by
  refine ab_iload 3 d_M_add_95 rfl ?_
  refine ab_if_lt (tgt := 148) d_M_add_97 (by decide) (fun b14 => ?_) (fun b14 => ?_)
  · replace HF := HF.1 b14
    refine ab_aload_n 0 d_M_add_148 rfl rfl ?_
    refine sa_getR (r := 153) kf_M_13 d_M_add_149 sh_151 rfl ?_
    refine ab_iload_n 1 d_M_add_152 rfl rfl ?_
    obtain ⟨c15, HF⟩ := HF
    refine sa_iald d_M_add_153 sh_153 c15 ?_
    exact sa_iretI rfl d_M_add_154 HF
  · replace HF := HF.2 b14
    refine ab_aload_n 0 d_M_add_100 rfl rfl ?_
    refine sa_getR (r := 152) kf_M_7 d_M_add_101 sh_151 rfl ?_
    refine ab_bipush (v := nI 24) d_M_add_104 (by decide) ?_
    refine ab_iload_n 1 d_M_add_106 rfl rfl ?_
    refine ab_imul d_M_add_107 ?_
    refine ab_aload_n 0 d_M_add_108 rfl rfl ?_
    refine sa_getR (r := 153) kf_M_13 d_M_add_109 sh_151 rfl ?_
    refine ab_iload_n 1 d_M_add_112 rfl rfl ?_
    obtain ⟨c16, HF⟩ := HF
    refine sa_iald d_M_add_113 sh_153 c16 ?_
    refine ab_iadd d_M_add_114 ?_
    refine ab_lload_n 2 d_M_add_115 rfl rfl ?_
    refine ab_bipush (v := nI 8) d_M_add_116 (by decide) ?_
    refine ab_iload 3 d_M_add_118 rfl ?_
    refine ab_imul d_M_add_120 ?_
    refine ab_lshr d_M_add_121 rfl ?_
    refine ab_l2i d_M_add_122 rfl ?_
    refine ab_sipush (v := nI 255) d_M_add_123 (by decide) ?_
    refine ab_iand d_M_add_126 ?_
    obtain ⟨c17, HF⟩ := HF
    refine sa_iastn d_M_add_127 sh_152 c17 (fun S18 hS18 => ?_)
    replace HF := HF S18 hS18
    refine ab_aload_n 0 d_M_add_128 rfl rfl ?_
    refine sa_getR (r := 153) kf_M_13 d_M_add_129 sh_151 rfl ?_
    refine ab_iload_n 1 d_M_add_132 rfl rfl ?_
    refine ab_aload_n 0 d_M_add_133 rfl rfl ?_
    refine sa_getR (r := 153) kf_M_13 d_M_add_134 sh_151 rfl ?_
    refine ab_iload_n 1 d_M_add_137 rfl rfl ?_
    obtain ⟨c19, HF⟩ := HF
    refine sa_iald d_M_add_138 sh_153 c19 ?_
    refine ab_iconst (v := (1 : Int32)) d_M_add_139 (by decide) ?_
    refine ab_iadd d_M_add_140 ?_
    obtain ⟨c20, HF⟩ := HF
    refine sa_iastn d_M_add_141 sh_153 c20 (fun S21 hS21 => ?_)
    replace HF := HF S21 hS21
    refine ab_iinc (v := x6 + (-1)) (lv' := [(6, .int (x6 + (-1))), (0, .ref (g.2.1 + 151)), (1, .int x1), (2, .long w2)]) 3 d_M_add_142 rfl (congrArg (fun z => x6 + z) (show Int32.ofInt (-1) = (-1 : Int32) by decide)) (Nat.le_of_ble_eq_true rfl) rfl ?_
    refine ab_goto (tgt := 95) d_M_add_145 (by decide) ?_
    refine ab_sub (lv' := [(0, .ref (g.2.1 + 151)), (1, .int x1), (2, .long w2), (6, .int (x6 + (-1)))]) [1, 2, 3, 0] rfl ?_
    exact HF
set_option maxRecDepth 100000 in
theorem f_M_clear {g : lp_G} {d : Nat} {Q : Int32 → SS → Prop} {S : SS} {x1 : Int32}
    (HF : MtI g um_M_within d [.int x1, .int (0 : Int32), .int (nI 3)] S (fun r2 S1 => (¬ r2 = 0 → (vp_in x1 4) ∧ ((vp_in x1 4) ∧ (∀ S6 : SS, S6 = setA S1 153 x1.toNatClampNeg (0 : Int32) → Q (S1.2 153 x1.toNatClampNeg) S6))) ∧ (r2 = 0 → Q (-1 : Int32) S1))) : MtI g um_M_clear (d + 1) [.ref (g.2.1 + 151), .int x1] S Q := by
  refine sa_entryI (lv' := [(0, .ref (g.2.1 + 151)), (1, .int x1)]) (by decide +kernel) (Nat.le_of_ble_eq_true rfl) rfl ?_
  refine ab_iload_n 1 d_M_clear_0 rfl rfl ?_
  refine ab_iconst (v := (0 : Int32)) d_M_clear_1 (by decide) ?_
  refine ab_iconst (v := nI 3) d_M_clear_2 (by decide) ?_
  refine sa_callSi (As := [.int x1, .int (0 : Int32), .int (nI 3)]) (rest := []) kc_M_88 d_M_clear_3 rfl (Nat.le_of_ble_eq_true rfl) enI (Nat.le_of_ble_eq_true rfl) ⟨Nat.zero_le _, Nat.zero_le _⟩ HF (fun r2 S1 HF => ?_)
  refine ab_if_ne (tgt := 11) d_M_clear_6 (by decide) (fun b3 => ?_) (fun b3 => ?_)
  · replace HF := HF.1 b3
    refine ab_aload_n 0 d_M_clear_11 rfl rfl ?_
    refine sa_getR (r := 153) kf_M_13 d_M_clear_12 sh_151 rfl ?_
    refine ab_iload_n 1 d_M_clear_15 rfl rfl ?_
    obtain ⟨c4, HF⟩ := HF
    refine sa_iald d_M_clear_16 sh_153 c4 ?_
    refine ab_istore_n (lv' := [(2, .int (S1.2 153 x1.toNatClampNeg)), (0, .ref (g.2.1 + 151)), (1, .int x1)]) d_M_clear_17 rfl (Nat.le_of_ble_eq_true rfl) rfl ?_
    refine ab_aload_n 1 d_M_clear_18 rfl rfl ?_
    refine sa_getR (r := 153) kf_M_13 d_M_clear_19 sh_151 rfl ?_
    refine ab_iload_n 2 d_M_clear_22 rfl rfl ?_
    refine ab_iconst (v := (0 : Int32)) d_M_clear_23 (by decide) ?_
    obtain ⟨c5, HF⟩ := HF
    refine sa_iastn d_M_clear_24 sh_153 c5 (fun S6 hS6 => ?_)
    replace HF := HF S6 hS6
    refine ab_iload_n 0 d_M_clear_25 rfl rfl ?_
    exact sa_iretI rfl d_M_clear_26 HF
  · replace HF := HF.2 b3
    refine ab_iconst (v := (-1 : Int32)) d_M_clear_9 (by decide) ?_
    exact sa_iretI rfl d_M_clear_10 HF
set_option maxRecDepth 100000 in
theorem f_M_size {g : lp_G} {d : Nat} {Q : Int32 → SS → Prop} {S : SS} {x1 : Int32}
    (HF : MtI g um_M_within d [.int x1, .int (0 : Int32), .int (nI 3)] S (fun r2 S1 => (r2 = 0 → Q (-1 : Int32) S1) ∧ (¬ r2 = 0 → (vp_in x1 4) ∧ (Q (S1.2 153 x1.toNatClampNeg) S1)))) : MtI g um_M_size (d + 1) [.ref (g.2.1 + 151), .int x1] S Q := by
  refine sa_entryI (lv' := [(0, .ref (g.2.1 + 151)), (1, .int x1)]) (by decide +kernel) (Nat.le_of_ble_eq_true rfl) rfl ?_
  refine ab_iload_n 1 d_M_size_0 rfl rfl ?_
  refine ab_iconst (v := (0 : Int32)) d_M_size_1 (by decide) ?_
  refine ab_iconst (v := nI 3) d_M_size_2 (by decide) ?_
  refine sa_callSi (As := [.int x1, .int (0 : Int32), .int (nI 3)]) (rest := []) kc_M_88 d_M_size_3 rfl (Nat.le_of_ble_eq_true rfl) enI (Nat.le_of_ble_eq_true rfl) ⟨Nat.zero_le _, Nat.zero_le _⟩ HF (fun r2 S1 HF => ?_)
  refine ab_if_eq (tgt := 18) d_M_size_6 (by decide) (fun b3 => ?_) (fun b3 => ?_)
  · replace HF := HF.1 b3
    refine ab_iconst (v := (-1 : Int32)) d_M_size_18 (by decide) ?_
    exact sa_iretI rfl d_M_size_19 HF
  · replace HF := HF.2 b3
    refine ab_aload_n 0 d_M_size_9 rfl rfl ?_
    refine sa_getR (r := 153) kf_M_13 d_M_size_10 sh_151 rfl ?_
    refine ab_iload_n 1 d_M_size_13 rfl rfl ?_
    obtain ⟨c4, HF⟩ := HF
    refine sa_iald d_M_size_14 sh_153 c4 ?_
    refine ab_goto (tgt := 19) d_M_size_15 (by decide) ?_
    exact sa_iretI rfl d_M_size_19 HF
set_option maxRecDepth 100000 in
theorem f_M_line {g : lp_G} {d : Nat} {Q : Int32 → SS → Prop} {S : SS} {x1 : Int32} {x2 : Int32}
    (HF : MtI g um_M_within d [.int x1, .int (0 : Int32), .int (nI 3)] S (fun r2 S1 => (¬ r2 = 0 → (vp_in x1 4) ∧ (MtI g um_M_within d [.int x2, .int (0 : Int32), .int ((S1.2 153 x1.toNatClampNeg) - (1 : Int32))] S1 (fun r6 S5 => (r6 = 0 → Q (-3 : Int32) S5) ∧ (¬ r6 = 0 → (vp_in (((nI 24) * x1) + x2) 96) ∧ (Q (S5.2 152 (((nI 24) * x1) + x2).toNatClampNeg) S5))))) ∧ (r2 = 0 → Q (-1 : Int32) S1))) : MtI g um_M_line (d + 1) [.ref (g.2.1 + 151), .int x1, .int x2] S Q := by
  refine sa_entryI (lv' := [(0, .ref (g.2.1 + 151)), (1, .int x1), (2, .int x2)]) (by decide +kernel) (Nat.le_of_ble_eq_true rfl) rfl ?_
  refine ab_iload_n 1 d_M_line_0 rfl rfl ?_
  refine ab_iconst (v := (0 : Int32)) d_M_line_1 (by decide) ?_
  refine ab_iconst (v := nI 3) d_M_line_2 (by decide) ?_
  refine sa_callSi (As := [.int x1, .int (0 : Int32), .int (nI 3)]) (rest := []) kc_M_88 d_M_line_3 rfl (Nat.le_of_ble_eq_true rfl) enI (Nat.le_of_ble_eq_true rfl) ⟨Nat.zero_le _, Nat.zero_le _⟩ HF (fun r2 S1 HF => ?_)
  refine ab_if_ne (tgt := 13) d_M_line_6 (by decide) (fun b3 => ?_) (fun b3 => ?_)
  · replace HF := HF.1 b3
    refine ab_iload_n 2 d_M_line_13 rfl rfl ?_
    refine ab_iconst (v := (0 : Int32)) d_M_line_14 (by decide) ?_
    refine ab_aload_n 0 d_M_line_15 rfl rfl ?_
    refine sa_getR (r := 153) kf_M_13 d_M_line_16 sh_151 rfl ?_
    refine ab_iload_n 1 d_M_line_19 rfl rfl ?_
    obtain ⟨c4, HF⟩ := HF
    refine sa_iald d_M_line_20 sh_153 c4 ?_
    refine ab_iconst (v := (1 : Int32)) d_M_line_21 (by decide) ?_
    refine ab_isub d_M_line_22 ?_
    refine sa_callSi (As := [.int x2, .int (0 : Int32), .int ((S1.2 153 x1.toNatClampNeg) - (1 : Int32))]) (rest := []) kc_M_88 d_M_line_23 rfl (Nat.le_of_ble_eq_true rfl) enI (Nat.le_of_ble_eq_true rfl) ⟨Nat.zero_le _, Nat.zero_le _⟩ HF (fun r6 S5 HF => ?_)
    refine ab_if_eq (tgt := 43) d_M_line_26 (by decide) (fun b7 => ?_) (fun b7 => ?_)
    · replace HF := HF.1 b7
      refine ab_bipush (v := (-3 : Int32)) d_M_line_43 (by decide) ?_
      exact sa_iretI rfl d_M_line_45 HF
    · replace HF := HF.2 b7
      refine ab_aload_n 0 d_M_line_29 rfl rfl ?_
      refine sa_getR (r := 152) kf_M_7 d_M_line_30 sh_151 rfl ?_
      refine ab_bipush (v := nI 24) d_M_line_33 (by decide) ?_
      refine ab_iload_n 1 d_M_line_35 rfl rfl ?_
      refine ab_imul d_M_line_36 ?_
      refine ab_iload_n 2 d_M_line_37 rfl rfl ?_
      refine ab_iadd d_M_line_38 ?_
      obtain ⟨c8, HF⟩ := HF
      refine sa_iald d_M_line_39 sh_152 c8 ?_
      refine ab_goto (tgt := 45) d_M_line_40 (by decide) ?_
      exact sa_iretI rfl d_M_line_45 HF
  · replace HF := HF.2 b3
    refine ab_iconst (v := (-1 : Int32)) d_M_line_9 (by decide) ?_
    refine ab_goto (tgt := 45) d_M_line_10 (by decide) ?_
    exact sa_iretI rfl d_M_line_45 HF
set_option maxRecDepth 100000 in
theorem f_M_allLetters {g : lp_G} {d : Nat} {Q : Int32 → SS → Prop} {S : SS} {x1 : Int32}
    (HF : AtI g um_M_allLetters (d + 1) Q 4 [(0, .ref (g.2.1 + 151)), (1, .int x1), (2, .int (1 : Int32)), (3, .int (0 : Int32))] [] S) : MtI g um_M_allLetters (d + 1) [.ref (g.2.1 + 151), .int x1] S Q := by
  refine sa_entryI (lv' := [(0, .ref (g.2.1 + 151)), (1, .int x1)]) (by decide +kernel) (Nat.le_of_ble_eq_true rfl) rfl ?_
  refine ab_iconst (v := (1 : Int32)) d_M_allLetters_0 (by decide) ?_
  refine ab_istore_n (lv' := [(2, .int (1 : Int32)), (0, .ref (g.2.1 + 151)), (1, .int x1)]) d_M_allLetters_1 rfl (Nat.le_of_ble_eq_true rfl) rfl ?_
  refine ab_iconst (v := (0 : Int32)) d_M_allLetters_2 (by decide) ?_
  refine ab_istore_n (lv' := [(3, .int (0 : Int32)), (2, .int (1 : Int32)), (0, .ref (g.2.1 + 151)), (1, .int x1)]) d_M_allLetters_3 rfl (Nat.le_of_ble_eq_true rfl) rfl ?_
  refine ab_sub (lv' := [(0, .ref (g.2.1 + 151)), (1, .int x1), (2, .int (1 : Int32)), (3, .int (0 : Int32))]) [2, 3, 1, 0] rfl ?_
  exact HF
set_option maxRecDepth 100000 in
theorem f_M_allLetters_4 {g : lp_G} {d : Nat} {Q : Int32 → SS → Prop} {S : SS} {x1 : Int32} {x2 : Int32} {x3 : Int32}
    (HF : (vp_in x1 4) ∧ ((S.2 153 x1.toNatClampNeg ≤ x3 → (isB x2) ∧ (Q x2 S)) ∧ (¬ S.2 153 x1.toNatClampNeg ≤ x3 → (x2 = 0 → AtI g um_M_allLetters (d + 1) Q 4 [(0, .ref (g.2.1 + 151)), (1, .int x1), (2, .int (0 : Int32)), (3, .int (x3 + 1))] [] S) ∧ (¬ x2 = 0 → (vp_in (((nI 24) * x1) + x3) 96) ∧ (MtI g um_M_isLetter d [.int (S.2 152 (((nI 24) * x1) + x3).toNatClampNeg)] S (fun r7 S6 => (r7 = 0 → AtI g um_M_allLetters (d + 1) Q 4 [(0, .ref (g.2.1 + 151)), (1, .int x1), (2, .int (0 : Int32)), (3, .int (x3 + 1))] [] S6) ∧ (¬ r7 = 0 → AtI g um_M_allLetters (d + 1) Q 4 [(0, .ref (g.2.1 + 151)), (1, .int x1), (2, .int (1 : Int32)), (3, .int (x3 + 1))] [] S6))))))) : AtI g um_M_allLetters (d + 1) Q 4 [(0, .ref (g.2.1 + 151)), (1, .int x1), (2, .int x2), (3, .int x3)] [] S := by
  refine ab_iload_n 3 d_M_allLetters_4 rfl rfl ?_
  refine ab_aload_n 0 d_M_allLetters_5 rfl rfl ?_
  refine sa_getR (r := 153) kf_M_13 d_M_allLetters_6 sh_151 rfl ?_
  refine ab_iload_n 1 d_M_allLetters_9 rfl rfl ?_
  obtain ⟨c1, HF⟩ := HF
  refine sa_iald d_M_allLetters_10 sh_153 c1 ?_
  refine ab_icmp_ge (tgt := 47) d_M_allLetters_11 (by decide) (fun b2 => ?_) (fun b2 => ?_)
  · replace HF := HF.1 b2
    refine ab_iload_n 2 d_M_allLetters_47 rfl rfl ?_
    obtain ⟨c3, HF⟩ := HF
    exact sa_iretZ rfl c3.1 d_M_allLetters_48 HF
  · replace HF := HF.2 b2
    refine ab_iload_n 2 d_M_allLetters_14 rfl rfl ?_
    refine ab_if_eq (tgt := 39) d_M_allLetters_15 (by decide) (fun b4 => ?_) (fun b4 => ?_)
    · replace HF := HF.1 b4
      refine ab_iconst (v := (0 : Int32)) d_M_allLetters_39 (by decide) ?_
      refine ab_istore_n (lv' := [(2, .int (0 : Int32)), (0, .ref (g.2.1 + 151)), (1, .int x1), (3, .int x3)]) d_M_allLetters_40 rfl (Nat.le_of_ble_eq_true rfl) rfl ?_
      refine ab_iinc (v := x3 + 1) (lv' := [(3, .int (x3 + 1)), (2, .int (0 : Int32)), (0, .ref (g.2.1 + 151)), (1, .int x1)]) 3 d_M_allLetters_41 rfl (congrArg (fun z => x3 + z) (show Int32.ofInt 1 = (1 : Int32) by decide)) (Nat.le_of_ble_eq_true rfl) rfl ?_
      refine ab_goto (tgt := 4) d_M_allLetters_44 (by decide) ?_
      refine ab_sub (lv' := [(0, .ref (g.2.1 + 151)), (1, .int x1), (2, .int (0 : Int32)), (3, .int (x3 + 1))]) [2, 3, 1, 0] rfl ?_
      exact HF
    · replace HF := HF.2 b4
      refine ab_aload_n 0 d_M_allLetters_18 rfl rfl ?_
      refine sa_getR (r := 152) kf_M_7 d_M_allLetters_19 sh_151 rfl ?_
      refine ab_bipush (v := nI 24) d_M_allLetters_22 (by decide) ?_
      refine ab_iload_n 1 d_M_allLetters_24 rfl rfl ?_
      refine ab_imul d_M_allLetters_25 ?_
      refine ab_iload_n 3 d_M_allLetters_26 rfl rfl ?_
      refine ab_iadd d_M_allLetters_27 ?_
      obtain ⟨c5, HF⟩ := HF
      refine sa_iald d_M_allLetters_28 sh_152 c5 ?_
      refine sa_callSi (As := [.int (S.2 152 (((nI 24) * x1) + x3).toNatClampNeg)]) (rest := []) kc_M_92 d_M_allLetters_29 rfl (Nat.le_of_ble_eq_true rfl) enI (Nat.le_of_ble_eq_true rfl) ⟨Nat.zero_le _, Nat.zero_le _⟩ HF (fun r7 S6 HF => ?_)
      refine ab_if_eq (tgt := 39) d_M_allLetters_32 (by decide) (fun b8 => ?_) (fun b8 => ?_)
      · replace HF := HF.1 b8
        refine ab_iconst (v := (0 : Int32)) d_M_allLetters_39 (by decide) ?_
        refine ab_istore_n (lv' := [(2, .int (0 : Int32)), (0, .ref (g.2.1 + 151)), (1, .int x1), (3, .int x3)]) d_M_allLetters_40 rfl (Nat.le_of_ble_eq_true rfl) rfl ?_
        refine ab_iinc (v := x3 + 1) (lv' := [(3, .int (x3 + 1)), (2, .int (0 : Int32)), (0, .ref (g.2.1 + 151)), (1, .int x1)]) 3 d_M_allLetters_41 rfl (congrArg (fun z => x3 + z) (show Int32.ofInt 1 = (1 : Int32) by decide)) (Nat.le_of_ble_eq_true rfl) rfl ?_
        refine ab_goto (tgt := 4) d_M_allLetters_44 (by decide) ?_
        refine ab_sub (lv' := [(0, .ref (g.2.1 + 151)), (1, .int x1), (2, .int (0 : Int32)), (3, .int (x3 + 1))]) [2, 3, 1, 0] rfl ?_
        exact HF
      · replace HF := HF.2 b8
        refine ab_iconst (v := (1 : Int32)) d_M_allLetters_35 (by decide) ?_
        refine ab_goto (tgt := 40) d_M_allLetters_36 (by decide) ?_
        refine ab_istore_n (lv' := [(2, .int (1 : Int32)), (0, .ref (g.2.1 + 151)), (1, .int x1), (3, .int x3)]) d_M_allLetters_40 rfl (Nat.le_of_ble_eq_true rfl) rfl ?_
        refine ab_iinc (v := x3 + 1) (lv' := [(3, .int (x3 + 1)), (2, .int (1 : Int32)), (0, .ref (g.2.1 + 151)), (1, .int x1)]) 3 d_M_allLetters_41 rfl (congrArg (fun z => x3 + z) (show Int32.ofInt 1 = (1 : Int32) by decide)) (Nat.le_of_ble_eq_true rfl) rfl ?_
        refine ab_goto (tgt := 4) d_M_allLetters_44 (by decide) ?_
        refine ab_sub (lv' := [(0, .ref (g.2.1 + 151)), (1, .int x1), (2, .int (1 : Int32)), (3, .int (x3 + 1))]) [2, 3, 1, 0] rfl ?_
        exact HF
set_option maxRecDepth 100000 in
theorem f_M_take {g : lp_G} {d : Nat} {Q : SS → Prop} {S : SS} {x1 : Int32} {x2 : Int32}
    (HF : (vp_in x1 4) ∧ (∀ S2 : SS, S2 = setI S 151 2 (S.2 153 x1.toNatClampNeg) → (vp_in x2 4) ∧ (∀ S4 : SS, S4 = setI S2 151 3 (S2.2 153 x2.toNatClampNeg) → AtV g um_M_take d Q 22 [(0, .ref (g.2.1 + 151)), (1, .int x1), (2, .int x2), (3, .int (0 : Int32))] [] S4))) : MtV g um_M_take d [.ref (g.2.1 + 151), .int x1, .int x2] S Q := by
  refine sa_entryV (lv' := [(0, .ref (g.2.1 + 151)), (1, .int x1), (2, .int x2)]) (by decide +kernel) (Nat.le_of_ble_eq_true rfl) rfl ?_
  refine ab_aload_n 0 d_M_take_0 rfl rfl ?_
  refine ab_aload_n 0 d_M_take_1 rfl rfl ?_
  refine sa_getR (r := 153) kf_M_13 d_M_take_2 sh_151 rfl ?_
  refine ab_iload_n 1 d_M_take_5 rfl rfl ?_
  obtain ⟨c1, HF⟩ := HF
  refine sa_iald d_M_take_6 sh_153 c1 ?_
  refine sa_putIn kp_M_96 d_M_take_7 sh_151 rfl (fun S2 hS2 => ?_)
  replace HF := HF S2 hS2
  refine ab_aload_n 0 d_M_take_10 rfl rfl ?_
  refine ab_aload_n 0 d_M_take_11 rfl rfl ?_
  refine sa_getR (r := 153) kf_M_13 d_M_take_12 sh_151 rfl ?_
  refine ab_iload_n 2 d_M_take_15 rfl rfl ?_
  obtain ⟨c3, HF⟩ := HF
  refine sa_iald d_M_take_16 sh_153 c3 ?_
  refine sa_putIn kp_M_100 d_M_take_17 sh_151 rfl (fun S4 hS4 => ?_)
  replace HF := HF S4 hS4
  refine ab_iconst (v := (0 : Int32)) d_M_take_20 (by decide) ?_
  refine ab_istore_n (lv' := [(3, .int (0 : Int32)), (0, .ref (g.2.1 + 151)), (1, .int x1), (2, .int x2)]) d_M_take_21 rfl (Nat.le_of_ble_eq_true rfl) rfl ?_
  refine ab_sub (lv' := [(0, .ref (g.2.1 + 151)), (1, .int x1), (2, .int x2), (3, .int (0 : Int32))]) [1, 2, 3, 0] rfl ?_
  exact HF
set_option maxRecDepth 100000 in
theorem f_M_take_22 {g : lp_G} {d : Nat} {Q : SS → Prop} {S : SS} {x1 : Int32} {x2 : Int32} {x3 : Int32}
    (HF : (S.1 151 2 ≤ x3 → AtV g um_M_take d Q 62 [(0, .ref (g.2.1 + 151)), (2, .int x2), (3, .int (0 : Int32))] [] S) ∧ (¬ S.1 151 2 ≤ x3 → (vp_in (((nI 24) * x1) + x3) 96) ∧ ((vp_in x3 24) ∧ (∀ S8 : SS, S8 = setA S 154 x3.toNatClampNeg (S.2 152 (((nI 24) * x1) + x3).toNatClampNeg) → (vp_in x3 24) ∧ (∀ S10 : SS, S10 = setA S8 156 x3.toNatClampNeg (-1 : Int32) → AtV g um_M_take d Q 22 [(0, .ref (g.2.1 + 151)), (1, .int x1), (2, .int x2), (3, .int (x3 + 1))] [] S10))))) : AtV g um_M_take d Q 22 [(0, .ref (g.2.1 + 151)), (1, .int x1), (2, .int x2), (3, .int x3)] [] S := by
  refine ab_iload_n 3 d_M_take_22 rfl rfl ?_
  refine ab_aload_n 0 d_M_take_23 rfl rfl ?_
  refine sa_getI kf_M_96 d_M_take_24 sh_151 rfl ?_
  refine ab_icmp_ge (tgt := 60) d_M_take_27 (by decide) (fun b5 => ?_) (fun b5 => ?_)
  · replace HF := HF.1 b5
    refine ab_iconst (v := (0 : Int32)) d_M_take_60 (by decide) ?_
    refine ab_istore_n (lv' := [(3, .int (0 : Int32)), (0, .ref (g.2.1 + 151)), (1, .int x1), (2, .int x2)]) d_M_take_61 rfl (Nat.le_of_ble_eq_true rfl) rfl ?_
    refine ab_sub (lv' := [(0, .ref (g.2.1 + 151)), (2, .int x2), (3, .int (0 : Int32))]) [1, 3, 0] rfl ?_
    exact HF
  · replace HF := HF.2 b5
    refine ab_aload_n 0 d_M_take_30 rfl rfl ?_
    refine sa_getR (r := 154) kf_M_16 d_M_take_31 sh_151 rfl ?_
    refine ab_iload_n 3 d_M_take_34 rfl rfl ?_
    refine ab_aload_n 0 d_M_take_35 rfl rfl ?_
    refine sa_getR (r := 152) kf_M_7 d_M_take_36 sh_151 rfl ?_
    refine ab_bipush (v := nI 24) d_M_take_39 (by decide) ?_
    refine ab_iload_n 1 d_M_take_41 rfl rfl ?_
    refine ab_imul d_M_take_42 ?_
    refine ab_iload_n 3 d_M_take_43 rfl rfl ?_
    refine ab_iadd d_M_take_44 ?_
    obtain ⟨c6, HF⟩ := HF
    refine sa_iald d_M_take_45 sh_152 c6 ?_
    obtain ⟨c7, HF⟩ := HF
    refine sa_iastn d_M_take_46 sh_154 c7 (fun S8 hS8 => ?_)
    replace HF := HF S8 hS8
    refine ab_aload_n 0 d_M_take_47 rfl rfl ?_
    refine sa_getR (r := 156) kf_M_22 d_M_take_48 sh_151 rfl ?_
    refine ab_iload_n 3 d_M_take_51 rfl rfl ?_
    refine ab_iconst (v := (-1 : Int32)) d_M_take_52 (by decide) ?_
    obtain ⟨c9, HF⟩ := HF
    refine sa_iastn d_M_take_53 sh_156 c9 (fun S10 hS10 => ?_)
    replace HF := HF S10 hS10
    refine ab_iinc (v := x3 + 1) (lv' := [(3, .int (x3 + 1)), (0, .ref (g.2.1 + 151)), (1, .int x1), (2, .int x2)]) 3 d_M_take_54 rfl (congrArg (fun z => x3 + z) (show Int32.ofInt 1 = (1 : Int32) by decide)) (Nat.le_of_ble_eq_true rfl) rfl ?_
    refine ab_goto (tgt := 22) d_M_take_57 (by decide) ?_
    refine ab_sub (lv' := [(0, .ref (g.2.1 + 151)), (1, .int x1), (2, .int x2), (3, .int (x3 + 1))]) [1, 2, 3, 0] rfl ?_
    exact HF
set_option maxRecDepth 100000 in
theorem f_M_take_62 {g : lp_G} {d : Nat} {Q : SS → Prop} {S : SS} {x2 : Int32} {x3 : Int32}
    (HF : (S.1 151 3 ≤ x3 → Q S) ∧ (¬ S.1 151 3 ≤ x3 → (vp_in (((nI 24) * x2) + x3) 96) ∧ ((vp_in x3 24) ∧ (∀ S14 : SS, S14 = setA S 155 x3.toNatClampNeg (S.2 152 (((nI 24) * x2) + x3).toNatClampNeg) → AtV g um_M_take d Q 62 [(0, .ref (g.2.1 + 151)), (2, .int x2), (3, .int (x3 + 1))] [] S14)))) : AtV g um_M_take d Q 62 [(0, .ref (g.2.1 + 151)), (2, .int x2), (3, .int x3)] [] S := by
  refine ab_iload_n 2 d_M_take_62 rfl rfl ?_
  refine ab_aload_n 0 d_M_take_63 rfl rfl ?_
  refine sa_getI kf_M_100 d_M_take_64 sh_151 rfl ?_
  refine ab_icmp_ge (tgt := 93) d_M_take_67 (by decide) (fun b11 => ?_) (fun b11 => ?_)
  · replace HF := HF.1 b11
    exact sa_ret rfl d_M_take_93 HF
  · replace HF := HF.2 b11
    refine ab_aload_n 0 d_M_take_70 rfl rfl ?_
    refine sa_getR (r := 155) kf_M_19 d_M_take_71 sh_151 rfl ?_
    refine ab_iload_n 2 d_M_take_74 rfl rfl ?_
    refine ab_aload_n 0 d_M_take_75 rfl rfl ?_
    refine sa_getR (r := 152) kf_M_7 d_M_take_76 sh_151 rfl ?_
    refine ab_bipush (v := nI 24) d_M_take_79 (by decide) ?_
    refine ab_iload_n 1 d_M_take_81 rfl rfl ?_
    refine ab_imul d_M_take_82 ?_
    refine ab_iload_n 2 d_M_take_83 rfl rfl ?_
    refine ab_iadd d_M_take_84 ?_
    obtain ⟨c12, HF⟩ := HF
    refine sa_iald d_M_take_85 sh_152 c12 ?_
    obtain ⟨c13, HF⟩ := HF
    refine sa_iastn d_M_take_86 sh_155 c13 (fun S14 hS14 => ?_)
    replace HF := HF S14 hS14
    refine ab_iinc (v := x3 + 1) (lv' := [(3, .int (x3 + 1)), (0, .ref (g.2.1 + 151)), (2, .int x2)]) 2 d_M_take_87 rfl (congrArg (fun z => x3 + z) (show Int32.ofInt 1 = (1 : Int32) by decide)) (Nat.le_of_ble_eq_true rfl) rfl ?_
    refine ab_goto (tgt := 62) d_M_take_90 (by decide) ?_
    refine ab_sub (lv' := [(0, .ref (g.2.1 + 151)), (2, .int x2), (3, .int (x3 + 1))]) [1, 2, 0] rfl ?_
    exact HF
set_option maxRecDepth 100000 in
theorem f_M_compareShort {g : lp_G} {d : Nat} {Q : SS → Prop} {S : SS} {x1 : Int32} {x2 : Int32} {x3 : Int32} {x4 : Int32}
    (HF : AtV g um_M_compareShort d Q 3 [(0, .ref (g.2.1 + 151)), (1, .int x1), (2, .int x2), (3, .int x3), (4, .int x4), (5, .int x2)] [] S) : MtV g um_M_compareShort d [.ref (g.2.1 + 151), .int x1, .int x2, .int x3, .int x4] S Q := by
  refine sa_entryV (lv' := [(0, .ref (g.2.1 + 151)), (1, .int x1), (2, .int x2), (3, .int x3), (4, .int x4)]) (by decide +kernel) (Nat.le_of_ble_eq_true rfl) rfl ?_
  refine ab_iload_n 2 d_M_compareShort_0 rfl rfl ?_
  refine ab_istore (lv' := [(5, .int x2), (0, .ref (g.2.1 + 151)), (1, .int x1), (2, .int x2), (3, .int x3), (4, .int x4)]) d_M_compareShort_1 (Nat.le_of_ble_eq_true rfl) rfl ?_
  refine ab_sub (lv' := [(0, .ref (g.2.1 + 151)), (1, .int x1), (2, .int x2), (3, .int x3), (4, .int x4), (5, .int x2)]) [1, 2, 3, 4, 5, 0] rfl ?_
  exact HF
set_option maxRecDepth 100000 in
theorem f_M_compareShort_3 {g : lp_G} {d : Nat} {Q : SS → Prop} {S : SS} {x1 : Int32} {x2 : Int32} {x3 : Int32} {x4 : Int32} {x5 : Int32}
    (HF : (x5 < x1 → AtV g um_M_compareShort d Q 176 [(0, .ref (g.2.1 + 151)), (2, .int x2), (4, .int x4), (5, .int x1), (6, .int x3)] [] S) ∧ (¬ x5 < x1 → AtV g um_M_compareShort d Q 13 [(0, .ref (g.2.1 + 151)), (1, .int x1), (2, .int x2), (3, .int x3), (4, .int x4), (5, .int x5), (6, .int x4)] [] S)) : AtV g um_M_compareShort d Q 3 [(0, .ref (g.2.1 + 151)), (1, .int x1), (2, .int x2), (3, .int x3), (4, .int x4), (5, .int x5)] [] S := by
  refine ab_iload 5 d_M_compareShort_3 rfl ?_
  refine ab_iload_n 1 d_M_compareShort_5 rfl rfl ?_
  refine ab_icmp_lt (tgt := 170) d_M_compareShort_6 (by decide) (fun b1 => ?_) (fun b1 => ?_)
  · replace HF := HF.1 b1
    refine ab_iload_n 1 d_M_compareShort_170 rfl rfl ?_
    refine ab_istore (lv' := [(5, .int x1), (0, .ref (g.2.1 + 151)), (1, .int x1), (2, .int x2), (3, .int x3), (4, .int x4)]) d_M_compareShort_171 (Nat.le_of_ble_eq_true rfl) rfl ?_
    refine ab_iload_n 4 d_M_compareShort_173 rfl rfl ?_
    refine ab_istore (lv' := [(6, .int x3), (5, .int x1), (0, .ref (g.2.1 + 151)), (1, .int x1), (2, .int x2), (3, .int x3), (4, .int x4)]) d_M_compareShort_174 (Nat.le_of_ble_eq_true rfl) rfl ?_
    refine ab_sub (lv' := [(0, .ref (g.2.1 + 151)), (2, .int x2), (4, .int x4), (5, .int x1), (6, .int x3)]) [2, 4, 6, 1, 0] rfl ?_
    exact HF
  · replace HF := HF.2 b1
    refine ab_iload 4 d_M_compareShort_9 rfl ?_
    refine ab_istore (lv' := [(6, .int x4), (0, .ref (g.2.1 + 151)), (1, .int x1), (2, .int x2), (3, .int x3), (4, .int x4), (5, .int x5)]) d_M_compareShort_11 (Nat.le_of_ble_eq_true rfl) rfl ?_
    refine ab_sub (lv' := [(0, .ref (g.2.1 + 151)), (1, .int x1), (2, .int x2), (3, .int x3), (4, .int x4), (5, .int x5), (6, .int x4)]) [1, 2, 3, 4, 5, 6, 0] rfl ?_
    exact HF
set_option maxRecDepth 100000 in
theorem f_M_compareShort_176 {g : lp_G} {d : Nat} {Q : SS → Prop} {S : SS} {x2 : Int32} {x4 : Int32} {x5 : Int32} {x6 : Int32}
    (HF : (x2 ≤ x5 → Q S) ∧ (¬ x2 ≤ x5 → (x4 ≤ x6 → Q S) ∧ (¬ x4 ≤ x6 → (vp_in x5 24) ∧ ((vp_in x6 24) ∧ ((¬ S.2 154 x5.toNatClampNeg = S.2 155 x6.toNatClampNeg → (vp_in ((((nI 25) * x5) + (nI 25)) + x6) 625) ∧ ((vp_in ((((nI 25) * x5) + x6) + (1 : Int32)) 625) ∧ ((S.2 157 ((((nI 25) * x5) + (nI 25)) + x6).toNatClampNeg < S.2 157 ((((nI 25) * x5) + x6) + (1 : Int32)).toNatClampNeg → AtV g um_M_compareShort d Q 176 [(0, .ref (g.2.1 + 151)), (2, .int x2), (4, .int x4), (5, .int x5), (6, .int (x6 + 1))] [] S) ∧ (¬ S.2 157 ((((nI 25) * x5) + (nI 25)) + x6).toNatClampNeg < S.2 157 ((((nI 25) * x5) + x6) + (1 : Int32)).toNatClampNeg → AtV g um_M_compareShort d Q 176 [(0, .ref (g.2.1 + 151)), (2, .int x2), (4, .int x4), (5, .int (x5 + 1)), (6, .int x6)] [] S)))) ∧ (S.2 154 x5.toNatClampNeg = S.2 155 x6.toNatClampNeg → (vp_in x5 24) ∧ (∀ S11 : SS, S11 = setA S 156 x5.toNatClampNeg x6 → AtV g um_M_compareShort d Q 176 [(0, .ref (g.2.1 + 151)), (2, .int x2), (4, .int x4), (5, .int (x5 + 1)), (6, .int (x6 + 1))] [] S11))))))) : AtV g um_M_compareShort d Q 176 [(0, .ref (g.2.1 + 151)), (2, .int x2), (4, .int x4), (5, .int x5), (6, .int x6)] [] S := by
  refine ab_iload 3 d_M_compareShort_176 rfl ?_
  refine ab_iload_n 1 d_M_compareShort_178 rfl rfl ?_
  refine ab_icmp_ge (tgt := 270) d_M_compareShort_179 (by decide) (fun b2 => ?_) (fun b2 => ?_)
  · replace HF := HF.1 b2
    exact sa_ret rfl d_M_compareShort_270 HF
  · replace HF := HF.2 b2
    refine ab_iload 4 d_M_compareShort_182 rfl ?_
    refine ab_iload 2 d_M_compareShort_184 rfl ?_
    refine ab_icmp_ge (tgt := 270) d_M_compareShort_186 (by decide) (fun b3 => ?_) (fun b3 => ?_)
    · replace HF := HF.1 b3
      exact sa_ret rfl d_M_compareShort_270 HF
    · replace HF := HF.2 b3
      refine ab_aload_n 0 d_M_compareShort_189 rfl rfl ?_
      refine sa_getR (r := 154) kf_M_16 d_M_compareShort_190 sh_151 rfl ?_
      refine ab_iload 3 d_M_compareShort_193 rfl ?_
      obtain ⟨c4, HF⟩ := HF
      refine sa_iald d_M_compareShort_195 sh_154 c4 ?_
      refine ab_aload_n 0 d_M_compareShort_196 rfl rfl ?_
      refine sa_getR (r := 155) kf_M_19 d_M_compareShort_197 sh_151 rfl ?_
      refine ab_iload 4 d_M_compareShort_200 rfl ?_
      obtain ⟨c5, HF⟩ := HF
      refine sa_iald d_M_compareShort_202 sh_155 c5 ?_
      refine ab_icmp_ne (tgt := 224) d_M_compareShort_203 (by decide) (fun b6 => ?_) (fun b6 => ?_)
      · replace HF := HF.1 b6
        refine ab_aload_n 0 d_M_compareShort_224 rfl rfl ?_
        refine sa_getR (r := 157) kf_M_25 d_M_compareShort_225 sh_151 rfl ?_
        refine ab_bipush (v := nI 25) d_M_compareShort_228 (by decide) ?_
        refine ab_iload 3 d_M_compareShort_230 rfl ?_
        refine ab_imul d_M_compareShort_232 ?_
        refine ab_bipush (v := nI 25) d_M_compareShort_233 (by decide) ?_
        refine ab_iadd d_M_compareShort_235 ?_
        refine ab_iload 4 d_M_compareShort_236 rfl ?_
        refine ab_iadd d_M_compareShort_238 ?_
        obtain ⟨c7, HF⟩ := HF
        refine sa_iald d_M_compareShort_239 sh_157 c7 ?_
        refine ab_aload_n 0 d_M_compareShort_240 rfl rfl ?_
        refine sa_getR (r := 157) kf_M_25 d_M_compareShort_241 sh_151 rfl ?_
        refine ab_bipush (v := nI 25) d_M_compareShort_244 (by decide) ?_
        refine ab_iload 3 d_M_compareShort_246 rfl ?_
        refine ab_imul d_M_compareShort_248 ?_
        refine ab_iload 4 d_M_compareShort_249 rfl ?_
        refine ab_iadd d_M_compareShort_251 ?_
        refine ab_iconst (v := (1 : Int32)) d_M_compareShort_252 (by decide) ?_
        refine ab_iadd d_M_compareShort_253 ?_
        obtain ⟨c8, HF⟩ := HF
        refine sa_iald d_M_compareShort_254 sh_157 c8 ?_
        refine ab_icmp_lt (tgt := 264) d_M_compareShort_255 (by decide) (fun b9 => ?_) (fun b9 => ?_)
        · replace HF := HF.1 b9
          refine ab_iinc (v := x6 + 1) (lv' := [(6, .int (x6 + 1)), (0, .ref (g.2.1 + 151)), (2, .int x2), (4, .int x4), (5, .int x5)]) 4 d_M_compareShort_264 rfl (congrArg (fun z => x6 + z) (show Int32.ofInt 1 = (1 : Int32) by decide)) (Nat.le_of_ble_eq_true rfl) rfl ?_
          refine ab_goto (tgt := 176) d_M_compareShort_267 (by decide) ?_
          refine ab_sub (lv' := [(0, .ref (g.2.1 + 151)), (2, .int x2), (4, .int x4), (5, .int x5), (6, .int (x6 + 1))]) [1, 2, 3, 4, 0] rfl ?_
          exact HF
        · replace HF := HF.2 b9
          refine ab_iinc (v := x5 + 1) (lv' := [(5, .int (x5 + 1)), (0, .ref (g.2.1 + 151)), (2, .int x2), (4, .int x4), (6, .int x6)]) 3 d_M_compareShort_258 rfl (congrArg (fun z => x5 + z) (show Int32.ofInt 1 = (1 : Int32) by decide)) (Nat.le_of_ble_eq_true rfl) rfl ?_
          refine ab_goto (tgt := 176) d_M_compareShort_261 (by decide) ?_
          refine ab_sub (lv' := [(0, .ref (g.2.1 + 151)), (2, .int x2), (4, .int x4), (5, .int (x5 + 1)), (6, .int x6)]) [1, 2, 3, 0, 4] rfl ?_
          exact HF
      · replace HF := HF.2 b6
        refine ab_aload_n 0 d_M_compareShort_206 rfl rfl ?_
        refine sa_getR (r := 156) kf_M_22 d_M_compareShort_207 sh_151 rfl ?_
        refine ab_iload 3 d_M_compareShort_210 rfl ?_
        refine ab_iload 4 d_M_compareShort_212 rfl ?_
        obtain ⟨c10, HF⟩ := HF
        refine sa_iastn d_M_compareShort_214 sh_156 c10 (fun S11 hS11 => ?_)
        replace HF := HF S11 hS11
        refine ab_iinc (v := x5 + 1) (lv' := [(5, .int (x5 + 1)), (0, .ref (g.2.1 + 151)), (2, .int x2), (4, .int x4), (6, .int x6)]) 3 d_M_compareShort_215 rfl (congrArg (fun z => x5 + z) (show Int32.ofInt 1 = (1 : Int32) by decide)) (Nat.le_of_ble_eq_true rfl) rfl ?_
        refine ab_iinc (v := x6 + 1) (lv' := [(6, .int (x6 + 1)), (5, .int (x5 + 1)), (0, .ref (g.2.1 + 151)), (2, .int x2), (4, .int x4)]) 4 d_M_compareShort_218 rfl (congrArg (fun z => x6 + z) (show Int32.ofInt 1 = (1 : Int32) by decide)) (Nat.le_of_ble_eq_true rfl) rfl ?_
        refine ab_goto (tgt := 176) d_M_compareShort_221 (by decide) ?_
        refine ab_sub (lv' := [(0, .ref (g.2.1 + 151)), (2, .int x2), (4, .int x4), (5, .int (x5 + 1)), (6, .int (x6 + 1))]) [2, 3, 4, 1, 0] rfl ?_
        exact HF
set_option maxRecDepth 100000 in
theorem f_M_compareShort_13 {g : lp_G} {d : Nat} {Q : SS → Prop} {S : SS} {x1 : Int32} {x2 : Int32} {x3 : Int32} {x4 : Int32} {x5 : Int32} {x6 : Int32}
    (HF : (x6 < x3 → AtV g um_M_compareShort d Q 3 [(0, .ref (g.2.1 + 151)), (1, .int x1), (2, .int x2), (3, .int x3), (4, .int x4), (5, .int (x5 + (-1)))] [] S) ∧ (¬ x6 < x3 → (x2 ≤ x5 → (vp_in (((nI 25) * x5) + x6) 625) ∧ (∀ S15 : SS, S15 = setA S 157 (((nI 25) * x5) + x6).toNatClampNeg (0 : Int32) → AtV g um_M_compareShort d Q 13 [(0, .ref (g.2.1 + 151)), (1, .int x1), (2, .int x2), (3, .int x3), (4, .int x4), (5, .int x5), (6, .int (x6 + (-1)))] [] S15)) ∧ (¬ x2 ≤ x5 → (x4 ≤ x6 → (vp_in (((nI 25) * x5) + x6) 625) ∧ (∀ S18 : SS, S18 = setA S 157 (((nI 25) * x5) + x6).toNatClampNeg (0 : Int32) → AtV g um_M_compareShort d Q 13 [(0, .ref (g.2.1 + 151)), (1, .int x1), (2, .int x2), (3, .int x3), (4, .int x4), (5, .int x5), (6, .int (x6 + (-1)))] [] S18)) ∧ (¬ x4 ≤ x6 → (vp_in ((((nI 25) * x5) + (nI 25)) + x6) 625) ∧ ((vp_in ((((nI 25) * x5) + x6) + (1 : Int32)) 625) ∧ ((vp_in x5 24) ∧ ((vp_in x6 24) ∧ ((¬ S.2 154 x5.toNatClampNeg = S.2 155 x6.toNatClampNeg → (S.2 157 ((((nI 25) * x5) + (nI 25)) + x6).toNatClampNeg ≤ S.2 157 ((((nI 25) * x5) + x6) + (1 : Int32)).toNatClampNeg → ((0 : Int32) ≤ S.2 157 ((((nI 25) * x5) + x6) + (1 : Int32)).toNatClampNeg → (vp_in (((nI 25) * x5) + x6) 625) ∧ (∀ S27 : SS, S27 = setA S 157 (((nI 25) * x5) + x6).toNatClampNeg (S.2 157 ((((nI 25) * x5) + x6) + (1 : Int32)).toNatClampNeg) → AtV g um_M_compareShort d Q 13 [(0, .ref (g.2.1 + 151)), (1, .int x1), (2, .int x2), (3, .int x3), (4, .int x4), (5, .int x5), (6, .int (x6 + (-1)))] [] S27)) ∧ (¬ (0 : Int32) ≤ S.2 157 ((((nI 25) * x5) + x6) + (1 : Int32)).toNatClampNeg → (vp_in (((nI 25) * x5) + x6) 625) ∧ (∀ S29 : SS, S29 = setA S 157 (((nI 25) * x5) + x6).toNatClampNeg (0 : Int32) → AtV g um_M_compareShort d Q 13 [(0, .ref (g.2.1 + 151)), (1, .int x1), (2, .int x2), (3, .int x3), (4, .int x4), (5, .int x5), (6, .int (x6 + (-1)))] [] S29))) ∧ (¬ S.2 157 ((((nI 25) * x5) + (nI 25)) + x6).toNatClampNeg ≤ S.2 157 ((((nI 25) * x5) + x6) + (1 : Int32)).toNatClampNeg → ((0 : Int32) ≤ S.2 157 ((((nI 25) * x5) + (nI 25)) + x6).toNatClampNeg → (vp_in (((nI 25) * x5) + x6) 625) ∧ (∀ S32 : SS, S32 = setA S 157 (((nI 25) * x5) + x6).toNatClampNeg (S.2 157 ((((nI 25) * x5) + (nI 25)) + x6).toNatClampNeg) → AtV g um_M_compareShort d Q 13 [(0, .ref (g.2.1 + 151)), (1, .int x1), (2, .int x2), (3, .int x3), (4, .int x4), (5, .int x5), (6, .int (x6 + (-1)))] [] S32)) ∧ (¬ (0 : Int32) ≤ S.2 157 ((((nI 25) * x5) + (nI 25)) + x6).toNatClampNeg → (vp_in (((nI 25) * x5) + x6) 625) ∧ (∀ S34 : SS, S34 = setA S 157 (((nI 25) * x5) + x6).toNatClampNeg (0 : Int32) → AtV g um_M_compareShort d Q 13 [(0, .ref (g.2.1 + 151)), (1, .int x1), (2, .int x2), (3, .int x3), (4, .int x4), (5, .int x5), (6, .int (x6 + (-1)))] [] S34)))) ∧ (S.2 154 x5.toNatClampNeg = S.2 155 x6.toNatClampNeg → (vp_in ((((nI 25) * x5) + (nI 26)) + x6) 625) ∧ ((S.2 157 ((((nI 25) * x5) + (nI 25)) + x6).toNatClampNeg ≤ S.2 157 ((((nI 25) * x5) + x6) + (1 : Int32)).toNatClampNeg → ((S.2 157 ((((nI 25) * x5) + (nI 26)) + x6).toNatClampNeg) + (1 : Int32) ≤ S.2 157 ((((nI 25) * x5) + x6) + (1 : Int32)).toNatClampNeg → (vp_in (((nI 25) * x5) + x6) 625) ∧ (∀ S39 : SS, S39 = setA S 157 (((nI 25) * x5) + x6).toNatClampNeg (S.2 157 ((((nI 25) * x5) + x6) + (1 : Int32)).toNatClampNeg) → AtV g um_M_compareShort d Q 13 [(0, .ref (g.2.1 + 151)), (1, .int x1), (2, .int x2), (3, .int x3), (4, .int x4), (5, .int x5), (6, .int (x6 + (-1)))] [] S39)) ∧ (¬ (S.2 157 ((((nI 25) * x5) + (nI 26)) + x6).toNatClampNeg) + (1 : Int32) ≤ S.2 157 ((((nI 25) * x5) + x6) + (1 : Int32)).toNatClampNeg → (vp_in (((nI 25) * x5) + x6) 625) ∧ (∀ S41 : SS, S41 = setA S 157 (((nI 25) * x5) + x6).toNatClampNeg ((S.2 157 ((((nI 25) * x5) + (nI 26)) + x6).toNatClampNeg) + (1 : Int32)) → AtV g um_M_compareShort d Q 13 [(0, .ref (g.2.1 + 151)), (1, .int x1), (2, .int x2), (3, .int x3), (4, .int x4), (5, .int x5), (6, .int (x6 + (-1)))] [] S41))) ∧ (¬ S.2 157 ((((nI 25) * x5) + (nI 25)) + x6).toNatClampNeg ≤ S.2 157 ((((nI 25) * x5) + x6) + (1 : Int32)).toNatClampNeg → ((S.2 157 ((((nI 25) * x5) + (nI 26)) + x6).toNatClampNeg) + (1 : Int32) ≤ S.2 157 ((((nI 25) * x5) + (nI 25)) + x6).toNatClampNeg → (vp_in (((nI 25) * x5) + x6) 625) ∧ (∀ S44 : SS, S44 = setA S 157 (((nI 25) * x5) + x6).toNatClampNeg (S.2 157 ((((nI 25) * x5) + (nI 25)) + x6).toNatClampNeg) → AtV g um_M_compareShort d Q 13 [(0, .ref (g.2.1 + 151)), (1, .int x1), (2, .int x2), (3, .int x3), (4, .int x4), (5, .int x5), (6, .int (x6 + (-1)))] [] S44)) ∧ (¬ (S.2 157 ((((nI 25) * x5) + (nI 26)) + x6).toNatClampNeg) + (1 : Int32) ≤ S.2 157 ((((nI 25) * x5) + (nI 25)) + x6).toNatClampNeg → (vp_in (((nI 25) * x5) + x6) 625) ∧ (∀ S46 : SS, S46 = setA S 157 (((nI 25) * x5) + x6).toNatClampNeg ((S.2 157 ((((nI 25) * x5) + (nI 26)) + x6).toNatClampNeg) + (1 : Int32)) → AtV g um_M_compareShort d Q 13 [(0, .ref (g.2.1 + 151)), (1, .int x1), (2, .int x2), (3, .int x3), (4, .int x4), (5, .int x5), (6, .int (x6 + (-1)))] [] S46))))))))))))) : AtV g um_M_compareShort d Q 13 [(0, .ref (g.2.1 + 151)), (1, .int x1), (2, .int x2), (3, .int x3), (4, .int x4), (5, .int x5), (6, .int x6)] [] S := by
  refine ab_iload 6 d_M_compareShort_13 rfl ?_
  refine ab_iload_n 3 d_M_compareShort_15 rfl rfl ?_
  refine ab_icmp_lt (tgt := 164) d_M_compareShort_16 (by decide) (fun b12 => ?_) (fun b12 => ?_)
  · replace HF := HF.1 b12
    refine ab_iinc (v := x5 + (-1)) (lv' := [(5, .int (x5 + (-1))), (0, .ref (g.2.1 + 151)), (1, .int x1), (2, .int x2), (3, .int x3), (4, .int x4), (6, .int x6)]) 5 d_M_compareShort_164 rfl (congrArg (fun z => x5 + z) (show Int32.ofInt (-1) = (-1 : Int32) by decide)) (Nat.le_of_ble_eq_true rfl) rfl ?_
    refine ab_goto (tgt := 3) d_M_compareShort_167 (by decide) ?_
    refine ab_sub (lv' := [(0, .ref (g.2.1 + 151)), (1, .int x1), (2, .int x2), (3, .int x3), (4, .int x4), (5, .int (x5 + (-1)))]) [1, 2, 3, 4, 5, 0] rfl ?_
    exact HF
  · replace HF := HF.2 b12
    refine ab_iconst (v := (0 : Int32)) d_M_compareShort_19 (by decide) ?_
    refine ab_istore (lv' := [(7, .int (0 : Int32)), (0, .ref (g.2.1 + 151)), (1, .int x1), (2, .int x2), (3, .int x3), (4, .int x4), (5, .int x5), (6, .int x6)]) d_M_compareShort_20 (Nat.le_of_ble_eq_true rfl) rfl ?_
    refine ab_iload 6 d_M_compareShort_22 rfl ?_
    refine ab_iload_n 3 d_M_compareShort_24 rfl rfl ?_
    refine ab_icmp_ge (tgt := 143) d_M_compareShort_25 (by decide) (fun b13 => ?_) (fun b13 => ?_)
    · replace HF := HF.1 b13
      refine ab_aload_n 1 d_M_compareShort_143 rfl rfl ?_
      refine sa_getR (r := 157) kf_M_25 d_M_compareShort_144 sh_151 rfl ?_
      refine ab_bipush (v := nI 25) d_M_compareShort_147 (by decide) ?_
      refine ab_iload 6 d_M_compareShort_149 rfl ?_
      refine ab_imul d_M_compareShort_151 ?_
      refine ab_iload 7 d_M_compareShort_152 rfl ?_
      refine ab_iadd d_M_compareShort_154 ?_
      refine ab_iload 0 d_M_compareShort_155 rfl ?_
      obtain ⟨c14, HF⟩ := HF
      refine sa_iastn d_M_compareShort_157 sh_157 c14 (fun S15 hS15 => ?_)
      replace HF := HF S15 hS15
      refine ab_iinc (v := x6 + (-1)) (lv' := [(6, .int (x6 + (-1))), (7, .int (0 : Int32)), (0, .ref (g.2.1 + 151)), (1, .int x1), (2, .int x2), (3, .int x3), (4, .int x4), (5, .int x5)]) 7 d_M_compareShort_158 rfl (congrArg (fun z => x6 + z) (show Int32.ofInt (-1) = (-1 : Int32) by decide)) (Nat.le_of_ble_eq_true rfl) rfl ?_
      refine ab_goto (tgt := 13) d_M_compareShort_161 (by decide) ?_
      refine ab_sub (lv' := [(0, .ref (g.2.1 + 151)), (1, .int x1), (2, .int x2), (3, .int x3), (4, .int x4), (5, .int x5), (6, .int (x6 + (-1)))]) [2, 3, 4, 5, 6, 7, 0] rfl ?_
      exact HF
    · replace HF := HF.2 b13
      refine ab_iload 7 d_M_compareShort_28 rfl ?_
      refine ab_iload 5 d_M_compareShort_30 rfl ?_
      refine ab_icmp_ge (tgt := 143) d_M_compareShort_32 (by decide) (fun b16 => ?_) (fun b16 => ?_)
      · replace HF := HF.1 b16
        refine ab_aload_n 1 d_M_compareShort_143 rfl rfl ?_
        refine sa_getR (r := 157) kf_M_25 d_M_compareShort_144 sh_151 rfl ?_
        refine ab_bipush (v := nI 25) d_M_compareShort_147 (by decide) ?_
        refine ab_iload 6 d_M_compareShort_149 rfl ?_
        refine ab_imul d_M_compareShort_151 ?_
        refine ab_iload 7 d_M_compareShort_152 rfl ?_
        refine ab_iadd d_M_compareShort_154 ?_
        refine ab_iload 0 d_M_compareShort_155 rfl ?_
        obtain ⟨c17, HF⟩ := HF
        refine sa_iastn d_M_compareShort_157 sh_157 c17 (fun S18 hS18 => ?_)
        replace HF := HF S18 hS18
        refine ab_iinc (v := x6 + (-1)) (lv' := [(6, .int (x6 + (-1))), (7, .int (0 : Int32)), (0, .ref (g.2.1 + 151)), (1, .int x1), (2, .int x2), (3, .int x3), (4, .int x4), (5, .int x5)]) 7 d_M_compareShort_158 rfl (congrArg (fun z => x6 + z) (show Int32.ofInt (-1) = (-1 : Int32) by decide)) (Nat.le_of_ble_eq_true rfl) rfl ?_
        refine ab_goto (tgt := 13) d_M_compareShort_161 (by decide) ?_
        refine ab_sub (lv' := [(0, .ref (g.2.1 + 151)), (1, .int x1), (2, .int x2), (3, .int x3), (4, .int x4), (5, .int x5), (6, .int (x6 + (-1)))]) [2, 3, 4, 5, 6, 7, 0] rfl ?_
        exact HF
      · replace HF := HF.2 b16
        refine ab_aload_n 1 d_M_compareShort_35 rfl rfl ?_
        refine sa_getR (r := 157) kf_M_25 d_M_compareShort_36 sh_151 rfl ?_
        refine ab_bipush (v := nI 25) d_M_compareShort_39 (by decide) ?_
        refine ab_iload 6 d_M_compareShort_41 rfl ?_
        refine ab_imul d_M_compareShort_43 ?_
        refine ab_bipush (v := nI 25) d_M_compareShort_44 (by decide) ?_
        refine ab_iadd d_M_compareShort_46 ?_
        refine ab_iload 7 d_M_compareShort_47 rfl ?_
        refine ab_iadd d_M_compareShort_49 ?_
        obtain ⟨c19, HF⟩ := HF
        refine sa_iald d_M_compareShort_50 sh_157 c19 ?_
        refine ab_istore (lv' := [(8, .int (S.2 157 ((((nI 25) * x5) + (nI 25)) + x6).toNatClampNeg)), (7, .int (0 : Int32)), (0, .ref (g.2.1 + 151)), (1, .int x1), (2, .int x2), (3, .int x3), (4, .int x4), (5, .int x5), (6, .int x6)]) d_M_compareShort_51 (Nat.le_of_ble_eq_true rfl) rfl ?_
        refine ab_aload_n 2 d_M_compareShort_53 rfl rfl ?_
        refine sa_getR (r := 157) kf_M_25 d_M_compareShort_54 sh_151 rfl ?_
        refine ab_bipush (v := nI 25) d_M_compareShort_57 (by decide) ?_
        refine ab_iload 7 d_M_compareShort_59 rfl ?_
        refine ab_imul d_M_compareShort_61 ?_
        refine ab_iload 8 d_M_compareShort_62 rfl ?_
        refine ab_iadd d_M_compareShort_64 ?_
        refine ab_iconst (v := (1 : Int32)) d_M_compareShort_65 (by decide) ?_
        refine ab_iadd d_M_compareShort_66 ?_
        obtain ⟨c20, HF⟩ := HF
        refine sa_iald d_M_compareShort_67 sh_157 c20 ?_
        refine ab_istore (lv' := [(9, .int (S.2 157 ((((nI 25) * x5) + x6) + (1 : Int32)).toNatClampNeg)), (8, .int (S.2 157 ((((nI 25) * x5) + (nI 25)) + x6).toNatClampNeg)), (7, .int (0 : Int32)), (0, .ref (g.2.1 + 151)), (1, .int x1), (2, .int x2), (3, .int x3), (4, .int x4), (5, .int x5), (6, .int x6)]) d_M_compareShort_68 (Nat.le_of_ble_eq_true rfl) rfl ?_
        refine ab_aload_n 3 d_M_compareShort_70 rfl rfl ?_
        refine sa_getR (r := 154) kf_M_16 d_M_compareShort_71 sh_151 rfl ?_
        refine ab_iload 8 d_M_compareShort_74 rfl ?_
        obtain ⟨c21, HF⟩ := HF
        refine sa_iald d_M_compareShort_76 sh_154 c21 ?_
        refine ab_aload_n 3 d_M_compareShort_77 rfl rfl ?_
        refine sa_getR (r := 155) kf_M_19 d_M_compareShort_78 sh_151 rfl ?_
        refine ab_iload 9 d_M_compareShort_81 rfl ?_
        obtain ⟨c22, HF⟩ := HF
        refine sa_iald d_M_compareShort_83 sh_155 c22 ?_
        refine ab_icmp_ne (tgt := 108) d_M_compareShort_84 (by decide) (fun b23 => ?_) (fun b23 => ?_)
        · replace HF := HF.1 b23
          refine ab_iconst (v := (0 : Int32)) d_M_compareShort_108 (by decide) ?_
          refine ab_istore (lv' := [(10, .int (0 : Int32)), (9, .int (S.2 157 ((((nI 25) * x5) + x6) + (1 : Int32)).toNatClampNeg)), (8, .int (S.2 157 ((((nI 25) * x5) + (nI 25)) + x6).toNatClampNeg)), (7, .int (0 : Int32)), (0, .ref (g.2.1 + 151)), (1, .int x1), (2, .int x2), (3, .int x3), (4, .int x4), (5, .int x5), (6, .int x6)]) d_M_compareShort_109 (Nat.le_of_ble_eq_true rfl) rfl ?_
          refine ab_iload 2 d_M_compareShort_111 rfl ?_
          refine ab_iload 1 d_M_compareShort_113 rfl ?_
          refine ab_icmp_le (tgt := 123) d_M_compareShort_115 (by decide) (fun b24 => ?_) (fun b24 => ?_)
          · replace HF := HF.1 b24
            refine ab_iload 1 d_M_compareShort_123 rfl ?_
            refine ab_istore (lv' := [(7, .int (S.2 157 ((((nI 25) * x5) + x6) + (1 : Int32)).toNatClampNeg)), (10, .int (0 : Int32)), (9, .int (S.2 157 ((((nI 25) * x5) + x6) + (1 : Int32)).toNatClampNeg)), (8, .int (S.2 157 ((((nI 25) * x5) + (nI 25)) + x6).toNatClampNeg)), (0, .ref (g.2.1 + 151)), (1, .int x1), (2, .int x2), (3, .int x3), (4, .int x4), (5, .int x5), (6, .int x6)]) d_M_compareShort_125 (Nat.le_of_ble_eq_true rfl) rfl ?_
            refine ab_iload 1 d_M_compareShort_127 rfl ?_
            refine ab_iload 0 d_M_compareShort_129 rfl ?_
            refine ab_icmp_le (tgt := 139) d_M_compareShort_131 (by decide) (fun b25 => ?_) (fun b25 => ?_)
            · replace HF := HF.1 b25
              refine ab_iload 0 d_M_compareShort_139 rfl ?_
              refine ab_istore (lv' := [(7, .int (S.2 157 ((((nI 25) * x5) + x6) + (1 : Int32)).toNatClampNeg)), (10, .int (0 : Int32)), (9, .int (S.2 157 ((((nI 25) * x5) + x6) + (1 : Int32)).toNatClampNeg)), (8, .int (S.2 157 ((((nI 25) * x5) + (nI 25)) + x6).toNatClampNeg)), (0, .ref (g.2.1 + 151)), (1, .int x1), (2, .int x2), (3, .int x3), (4, .int x4), (5, .int x5), (6, .int x6)]) d_M_compareShort_141 (Nat.le_of_ble_eq_true rfl) rfl ?_
              refine ab_aload_n 4 d_M_compareShort_143 rfl rfl ?_
              refine sa_getR (r := 157) kf_M_25 d_M_compareShort_144 sh_151 rfl ?_
              refine ab_bipush (v := nI 25) d_M_compareShort_147 (by decide) ?_
              refine ab_iload 9 d_M_compareShort_149 rfl ?_
              refine ab_imul d_M_compareShort_151 ?_
              refine ab_iload 10 d_M_compareShort_152 rfl ?_
              refine ab_iadd d_M_compareShort_154 ?_
              refine ab_iload 0 d_M_compareShort_155 rfl ?_
              obtain ⟨c26, HF⟩ := HF
              refine sa_iastn d_M_compareShort_157 sh_157 c26 (fun S27 hS27 => ?_)
              replace HF := HF S27 hS27
              refine ab_iinc (v := x6 + (-1)) (lv' := [(6, .int (x6 + (-1))), (7, .int (S.2 157 ((((nI 25) * x5) + x6) + (1 : Int32)).toNatClampNeg)), (10, .int (0 : Int32)), (9, .int (S.2 157 ((((nI 25) * x5) + x6) + (1 : Int32)).toNatClampNeg)), (8, .int (S.2 157 ((((nI 25) * x5) + (nI 25)) + x6).toNatClampNeg)), (0, .ref (g.2.1 + 151)), (1, .int x1), (2, .int x2), (3, .int x3), (4, .int x4), (5, .int x5)]) 10 d_M_compareShort_158 rfl (congrArg (fun z => x6 + z) (show Int32.ofInt (-1) = (-1 : Int32) by decide)) (Nat.le_of_ble_eq_true rfl) rfl ?_
              refine ab_goto (tgt := 13) d_M_compareShort_161 (by decide) ?_
              refine ab_sub (lv' := [(0, .ref (g.2.1 + 151)), (1, .int x1), (2, .int x2), (3, .int x3), (4, .int x4), (5, .int x5), (6, .int (x6 + (-1)))]) [5, 6, 7, 8, 9, 10, 0] rfl ?_
              exact HF
            · replace HF := HF.2 b25
              refine ab_iload 1 d_M_compareShort_134 rfl ?_
              refine ab_goto (tgt := 141) d_M_compareShort_136 (by decide) ?_
              refine ab_istore (lv' := [(7, .int (0 : Int32)), (10, .int (0 : Int32)), (9, .int (S.2 157 ((((nI 25) * x5) + x6) + (1 : Int32)).toNatClampNeg)), (8, .int (S.2 157 ((((nI 25) * x5) + (nI 25)) + x6).toNatClampNeg)), (0, .ref (g.2.1 + 151)), (1, .int x1), (2, .int x2), (3, .int x3), (4, .int x4), (5, .int x5), (6, .int x6)]) d_M_compareShort_141 (Nat.le_of_ble_eq_true rfl) rfl ?_
              refine ab_aload_n 4 d_M_compareShort_143 rfl rfl ?_
              refine sa_getR (r := 157) kf_M_25 d_M_compareShort_144 sh_151 rfl ?_
              refine ab_bipush (v := nI 25) d_M_compareShort_147 (by decide) ?_
              refine ab_iload 9 d_M_compareShort_149 rfl ?_
              refine ab_imul d_M_compareShort_151 ?_
              refine ab_iload 10 d_M_compareShort_152 rfl ?_
              refine ab_iadd d_M_compareShort_154 ?_
              refine ab_iload 0 d_M_compareShort_155 rfl ?_
              obtain ⟨c28, HF⟩ := HF
              refine sa_iastn d_M_compareShort_157 sh_157 c28 (fun S29 hS29 => ?_)
              replace HF := HF S29 hS29
              refine ab_iinc (v := x6 + (-1)) (lv' := [(6, .int (x6 + (-1))), (7, .int (0 : Int32)), (10, .int (0 : Int32)), (9, .int (S.2 157 ((((nI 25) * x5) + x6) + (1 : Int32)).toNatClampNeg)), (8, .int (S.2 157 ((((nI 25) * x5) + (nI 25)) + x6).toNatClampNeg)), (0, .ref (g.2.1 + 151)), (1, .int x1), (2, .int x2), (3, .int x3), (4, .int x4), (5, .int x5)]) 10 d_M_compareShort_158 rfl (congrArg (fun z => x6 + z) (show Int32.ofInt (-1) = (-1 : Int32) by decide)) (Nat.le_of_ble_eq_true rfl) rfl ?_
              refine ab_goto (tgt := 13) d_M_compareShort_161 (by decide) ?_
              refine ab_sub (lv' := [(0, .ref (g.2.1 + 151)), (1, .int x1), (2, .int x2), (3, .int x3), (4, .int x4), (5, .int x5), (6, .int (x6 + (-1)))]) [5, 6, 7, 8, 9, 10, 0] rfl ?_
              exact HF
          · replace HF := HF.2 b24
            refine ab_iload 2 d_M_compareShort_118 rfl ?_
            refine ab_goto (tgt := 125) d_M_compareShort_120 (by decide) ?_
            refine ab_istore (lv' := [(7, .int (S.2 157 ((((nI 25) * x5) + (nI 25)) + x6).toNatClampNeg)), (10, .int (0 : Int32)), (9, .int (S.2 157 ((((nI 25) * x5) + x6) + (1 : Int32)).toNatClampNeg)), (8, .int (S.2 157 ((((nI 25) * x5) + (nI 25)) + x6).toNatClampNeg)), (0, .ref (g.2.1 + 151)), (1, .int x1), (2, .int x2), (3, .int x3), (4, .int x4), (5, .int x5), (6, .int x6)]) d_M_compareShort_125 (Nat.le_of_ble_eq_true rfl) rfl ?_
            refine ab_iload 1 d_M_compareShort_127 rfl ?_
            refine ab_iload 0 d_M_compareShort_129 rfl ?_
            refine ab_icmp_le (tgt := 139) d_M_compareShort_131 (by decide) (fun b30 => ?_) (fun b30 => ?_)
            · replace HF := HF.1 b30
              refine ab_iload 0 d_M_compareShort_139 rfl ?_
              refine ab_istore (lv' := [(7, .int (S.2 157 ((((nI 25) * x5) + (nI 25)) + x6).toNatClampNeg)), (10, .int (0 : Int32)), (9, .int (S.2 157 ((((nI 25) * x5) + x6) + (1 : Int32)).toNatClampNeg)), (8, .int (S.2 157 ((((nI 25) * x5) + (nI 25)) + x6).toNatClampNeg)), (0, .ref (g.2.1 + 151)), (1, .int x1), (2, .int x2), (3, .int x3), (4, .int x4), (5, .int x5), (6, .int x6)]) d_M_compareShort_141 (Nat.le_of_ble_eq_true rfl) rfl ?_
              refine ab_aload_n 4 d_M_compareShort_143 rfl rfl ?_
              refine sa_getR (r := 157) kf_M_25 d_M_compareShort_144 sh_151 rfl ?_
              refine ab_bipush (v := nI 25) d_M_compareShort_147 (by decide) ?_
              refine ab_iload 9 d_M_compareShort_149 rfl ?_
              refine ab_imul d_M_compareShort_151 ?_
              refine ab_iload 10 d_M_compareShort_152 rfl ?_
              refine ab_iadd d_M_compareShort_154 ?_
              refine ab_iload 0 d_M_compareShort_155 rfl ?_
              obtain ⟨c31, HF⟩ := HF
              refine sa_iastn d_M_compareShort_157 sh_157 c31 (fun S32 hS32 => ?_)
              replace HF := HF S32 hS32
              refine ab_iinc (v := x6 + (-1)) (lv' := [(6, .int (x6 + (-1))), (7, .int (S.2 157 ((((nI 25) * x5) + (nI 25)) + x6).toNatClampNeg)), (10, .int (0 : Int32)), (9, .int (S.2 157 ((((nI 25) * x5) + x6) + (1 : Int32)).toNatClampNeg)), (8, .int (S.2 157 ((((nI 25) * x5) + (nI 25)) + x6).toNatClampNeg)), (0, .ref (g.2.1 + 151)), (1, .int x1), (2, .int x2), (3, .int x3), (4, .int x4), (5, .int x5)]) 10 d_M_compareShort_158 rfl (congrArg (fun z => x6 + z) (show Int32.ofInt (-1) = (-1 : Int32) by decide)) (Nat.le_of_ble_eq_true rfl) rfl ?_
              refine ab_goto (tgt := 13) d_M_compareShort_161 (by decide) ?_
              refine ab_sub (lv' := [(0, .ref (g.2.1 + 151)), (1, .int x1), (2, .int x2), (3, .int x3), (4, .int x4), (5, .int x5), (6, .int (x6 + (-1)))]) [5, 6, 7, 8, 9, 10, 0] rfl ?_
              exact HF
            · replace HF := HF.2 b30
              refine ab_iload 1 d_M_compareShort_134 rfl ?_
              refine ab_goto (tgt := 141) d_M_compareShort_136 (by decide) ?_
              refine ab_istore (lv' := [(7, .int (0 : Int32)), (10, .int (0 : Int32)), (9, .int (S.2 157 ((((nI 25) * x5) + x6) + (1 : Int32)).toNatClampNeg)), (8, .int (S.2 157 ((((nI 25) * x5) + (nI 25)) + x6).toNatClampNeg)), (0, .ref (g.2.1 + 151)), (1, .int x1), (2, .int x2), (3, .int x3), (4, .int x4), (5, .int x5), (6, .int x6)]) d_M_compareShort_141 (Nat.le_of_ble_eq_true rfl) rfl ?_
              refine ab_aload_n 4 d_M_compareShort_143 rfl rfl ?_
              refine sa_getR (r := 157) kf_M_25 d_M_compareShort_144 sh_151 rfl ?_
              refine ab_bipush (v := nI 25) d_M_compareShort_147 (by decide) ?_
              refine ab_iload 9 d_M_compareShort_149 rfl ?_
              refine ab_imul d_M_compareShort_151 ?_
              refine ab_iload 10 d_M_compareShort_152 rfl ?_
              refine ab_iadd d_M_compareShort_154 ?_
              refine ab_iload 0 d_M_compareShort_155 rfl ?_
              obtain ⟨c33, HF⟩ := HF
              refine sa_iastn d_M_compareShort_157 sh_157 c33 (fun S34 hS34 => ?_)
              replace HF := HF S34 hS34
              refine ab_iinc (v := x6 + (-1)) (lv' := [(6, .int (x6 + (-1))), (7, .int (0 : Int32)), (10, .int (0 : Int32)), (9, .int (S.2 157 ((((nI 25) * x5) + x6) + (1 : Int32)).toNatClampNeg)), (8, .int (S.2 157 ((((nI 25) * x5) + (nI 25)) + x6).toNatClampNeg)), (0, .ref (g.2.1 + 151)), (1, .int x1), (2, .int x2), (3, .int x3), (4, .int x4), (5, .int x5)]) 10 d_M_compareShort_158 rfl (congrArg (fun z => x6 + z) (show Int32.ofInt (-1) = (-1 : Int32) by decide)) (Nat.le_of_ble_eq_true rfl) rfl ?_
              refine ab_goto (tgt := 13) d_M_compareShort_161 (by decide) ?_
              refine ab_sub (lv' := [(0, .ref (g.2.1 + 151)), (1, .int x1), (2, .int x2), (3, .int x3), (4, .int x4), (5, .int x5), (6, .int (x6 + (-1)))]) [5, 6, 7, 8, 9, 10, 0] rfl ?_
              exact HF
        · replace HF := HF.2 b23
          refine ab_aload_n 3 d_M_compareShort_87 rfl rfl ?_
          refine sa_getR (r := 157) kf_M_25 d_M_compareShort_88 sh_151 rfl ?_
          refine ab_bipush (v := nI 25) d_M_compareShort_91 (by decide) ?_
          refine ab_iload 8 d_M_compareShort_93 rfl ?_
          refine ab_imul d_M_compareShort_95 ?_
          refine ab_bipush (v := nI 26) d_M_compareShort_96 (by decide) ?_
          refine ab_iadd d_M_compareShort_98 ?_
          refine ab_iload 9 d_M_compareShort_99 rfl ?_
          refine ab_iadd d_M_compareShort_101 ?_
          obtain ⟨c35, HF⟩ := HF
          refine sa_iald d_M_compareShort_102 sh_157 c35 ?_
          refine ab_iconst (v := (1 : Int32)) d_M_compareShort_103 (by decide) ?_
          refine ab_iadd d_M_compareShort_104 ?_
          refine ab_goto (tgt := 109) d_M_compareShort_105 (by decide) ?_
          refine ab_istore (lv' := [(10, .int ((S.2 157 ((((nI 25) * x5) + (nI 26)) + x6).toNatClampNeg) + (1 : Int32))), (9, .int (S.2 157 ((((nI 25) * x5) + x6) + (1 : Int32)).toNatClampNeg)), (8, .int (S.2 157 ((((nI 25) * x5) + (nI 25)) + x6).toNatClampNeg)), (7, .int (0 : Int32)), (0, .ref (g.2.1 + 151)), (1, .int x1), (2, .int x2), (3, .int x3), (4, .int x4), (5, .int x5), (6, .int x6)]) d_M_compareShort_109 (Nat.le_of_ble_eq_true rfl) rfl ?_
          refine ab_iload 2 d_M_compareShort_111 rfl ?_
          refine ab_iload 1 d_M_compareShort_113 rfl ?_
          refine ab_icmp_le (tgt := 123) d_M_compareShort_115 (by decide) (fun b36 => ?_) (fun b36 => ?_)
          · replace HF := HF.1 b36
            refine ab_iload 1 d_M_compareShort_123 rfl ?_
            refine ab_istore (lv' := [(7, .int (S.2 157 ((((nI 25) * x5) + x6) + (1 : Int32)).toNatClampNeg)), (10, .int ((S.2 157 ((((nI 25) * x5) + (nI 26)) + x6).toNatClampNeg) + (1 : Int32))), (9, .int (S.2 157 ((((nI 25) * x5) + x6) + (1 : Int32)).toNatClampNeg)), (8, .int (S.2 157 ((((nI 25) * x5) + (nI 25)) + x6).toNatClampNeg)), (0, .ref (g.2.1 + 151)), (1, .int x1), (2, .int x2), (3, .int x3), (4, .int x4), (5, .int x5), (6, .int x6)]) d_M_compareShort_125 (Nat.le_of_ble_eq_true rfl) rfl ?_
            refine ab_iload 1 d_M_compareShort_127 rfl ?_
            refine ab_iload 0 d_M_compareShort_129 rfl ?_
            refine ab_icmp_le (tgt := 139) d_M_compareShort_131 (by decide) (fun b37 => ?_) (fun b37 => ?_)
            · replace HF := HF.1 b37
              refine ab_iload 0 d_M_compareShort_139 rfl ?_
              refine ab_istore (lv' := [(7, .int (S.2 157 ((((nI 25) * x5) + x6) + (1 : Int32)).toNatClampNeg)), (10, .int ((S.2 157 ((((nI 25) * x5) + (nI 26)) + x6).toNatClampNeg) + (1 : Int32))), (9, .int (S.2 157 ((((nI 25) * x5) + x6) + (1 : Int32)).toNatClampNeg)), (8, .int (S.2 157 ((((nI 25) * x5) + (nI 25)) + x6).toNatClampNeg)), (0, .ref (g.2.1 + 151)), (1, .int x1), (2, .int x2), (3, .int x3), (4, .int x4), (5, .int x5), (6, .int x6)]) d_M_compareShort_141 (Nat.le_of_ble_eq_true rfl) rfl ?_
              refine ab_aload_n 4 d_M_compareShort_143 rfl rfl ?_
              refine sa_getR (r := 157) kf_M_25 d_M_compareShort_144 sh_151 rfl ?_
              refine ab_bipush (v := nI 25) d_M_compareShort_147 (by decide) ?_
              refine ab_iload 9 d_M_compareShort_149 rfl ?_
              refine ab_imul d_M_compareShort_151 ?_
              refine ab_iload 10 d_M_compareShort_152 rfl ?_
              refine ab_iadd d_M_compareShort_154 ?_
              refine ab_iload 0 d_M_compareShort_155 rfl ?_
              obtain ⟨c38, HF⟩ := HF
              refine sa_iastn d_M_compareShort_157 sh_157 c38 (fun S39 hS39 => ?_)
              replace HF := HF S39 hS39
              refine ab_iinc (v := x6 + (-1)) (lv' := [(6, .int (x6 + (-1))), (7, .int (S.2 157 ((((nI 25) * x5) + x6) + (1 : Int32)).toNatClampNeg)), (10, .int ((S.2 157 ((((nI 25) * x5) + (nI 26)) + x6).toNatClampNeg) + (1 : Int32))), (9, .int (S.2 157 ((((nI 25) * x5) + x6) + (1 : Int32)).toNatClampNeg)), (8, .int (S.2 157 ((((nI 25) * x5) + (nI 25)) + x6).toNatClampNeg)), (0, .ref (g.2.1 + 151)), (1, .int x1), (2, .int x2), (3, .int x3), (4, .int x4), (5, .int x5)]) 10 d_M_compareShort_158 rfl (congrArg (fun z => x6 + z) (show Int32.ofInt (-1) = (-1 : Int32) by decide)) (Nat.le_of_ble_eq_true rfl) rfl ?_
              refine ab_goto (tgt := 13) d_M_compareShort_161 (by decide) ?_
              refine ab_sub (lv' := [(0, .ref (g.2.1 + 151)), (1, .int x1), (2, .int x2), (3, .int x3), (4, .int x4), (5, .int x5), (6, .int (x6 + (-1)))]) [5, 6, 7, 8, 9, 10, 0] rfl ?_
              exact HF
            · replace HF := HF.2 b37
              refine ab_iload 1 d_M_compareShort_134 rfl ?_
              refine ab_goto (tgt := 141) d_M_compareShort_136 (by decide) ?_
              refine ab_istore (lv' := [(7, .int ((S.2 157 ((((nI 25) * x5) + (nI 26)) + x6).toNatClampNeg) + (1 : Int32))), (10, .int ((S.2 157 ((((nI 25) * x5) + (nI 26)) + x6).toNatClampNeg) + (1 : Int32))), (9, .int (S.2 157 ((((nI 25) * x5) + x6) + (1 : Int32)).toNatClampNeg)), (8, .int (S.2 157 ((((nI 25) * x5) + (nI 25)) + x6).toNatClampNeg)), (0, .ref (g.2.1 + 151)), (1, .int x1), (2, .int x2), (3, .int x3), (4, .int x4), (5, .int x5), (6, .int x6)]) d_M_compareShort_141 (Nat.le_of_ble_eq_true rfl) rfl ?_
              refine ab_aload_n 4 d_M_compareShort_143 rfl rfl ?_
              refine sa_getR (r := 157) kf_M_25 d_M_compareShort_144 sh_151 rfl ?_
              refine ab_bipush (v := nI 25) d_M_compareShort_147 (by decide) ?_
              refine ab_iload 9 d_M_compareShort_149 rfl ?_
              refine ab_imul d_M_compareShort_151 ?_
              refine ab_iload 10 d_M_compareShort_152 rfl ?_
              refine ab_iadd d_M_compareShort_154 ?_
              refine ab_iload 0 d_M_compareShort_155 rfl ?_
              obtain ⟨c40, HF⟩ := HF
              refine sa_iastn d_M_compareShort_157 sh_157 c40 (fun S41 hS41 => ?_)
              replace HF := HF S41 hS41
              refine ab_iinc (v := x6 + (-1)) (lv' := [(6, .int (x6 + (-1))), (7, .int ((S.2 157 ((((nI 25) * x5) + (nI 26)) + x6).toNatClampNeg) + (1 : Int32))), (10, .int ((S.2 157 ((((nI 25) * x5) + (nI 26)) + x6).toNatClampNeg) + (1 : Int32))), (9, .int (S.2 157 ((((nI 25) * x5) + x6) + (1 : Int32)).toNatClampNeg)), (8, .int (S.2 157 ((((nI 25) * x5) + (nI 25)) + x6).toNatClampNeg)), (0, .ref (g.2.1 + 151)), (1, .int x1), (2, .int x2), (3, .int x3), (4, .int x4), (5, .int x5)]) 10 d_M_compareShort_158 rfl (congrArg (fun z => x6 + z) (show Int32.ofInt (-1) = (-1 : Int32) by decide)) (Nat.le_of_ble_eq_true rfl) rfl ?_
              refine ab_goto (tgt := 13) d_M_compareShort_161 (by decide) ?_
              refine ab_sub (lv' := [(0, .ref (g.2.1 + 151)), (1, .int x1), (2, .int x2), (3, .int x3), (4, .int x4), (5, .int x5), (6, .int (x6 + (-1)))]) [5, 6, 7, 8, 9, 10, 0] rfl ?_
              exact HF
          · replace HF := HF.2 b36
            refine ab_iload 2 d_M_compareShort_118 rfl ?_
            refine ab_goto (tgt := 125) d_M_compareShort_120 (by decide) ?_
            refine ab_istore (lv' := [(7, .int (S.2 157 ((((nI 25) * x5) + (nI 25)) + x6).toNatClampNeg)), (10, .int ((S.2 157 ((((nI 25) * x5) + (nI 26)) + x6).toNatClampNeg) + (1 : Int32))), (9, .int (S.2 157 ((((nI 25) * x5) + x6) + (1 : Int32)).toNatClampNeg)), (8, .int (S.2 157 ((((nI 25) * x5) + (nI 25)) + x6).toNatClampNeg)), (0, .ref (g.2.1 + 151)), (1, .int x1), (2, .int x2), (3, .int x3), (4, .int x4), (5, .int x5), (6, .int x6)]) d_M_compareShort_125 (Nat.le_of_ble_eq_true rfl) rfl ?_
            refine ab_iload 1 d_M_compareShort_127 rfl ?_
            refine ab_iload 0 d_M_compareShort_129 rfl ?_
            refine ab_icmp_le (tgt := 139) d_M_compareShort_131 (by decide) (fun b42 => ?_) (fun b42 => ?_)
            · replace HF := HF.1 b42
              refine ab_iload 0 d_M_compareShort_139 rfl ?_
              refine ab_istore (lv' := [(7, .int (S.2 157 ((((nI 25) * x5) + (nI 25)) + x6).toNatClampNeg)), (10, .int ((S.2 157 ((((nI 25) * x5) + (nI 26)) + x6).toNatClampNeg) + (1 : Int32))), (9, .int (S.2 157 ((((nI 25) * x5) + x6) + (1 : Int32)).toNatClampNeg)), (8, .int (S.2 157 ((((nI 25) * x5) + (nI 25)) + x6).toNatClampNeg)), (0, .ref (g.2.1 + 151)), (1, .int x1), (2, .int x2), (3, .int x3), (4, .int x4), (5, .int x5), (6, .int x6)]) d_M_compareShort_141 (Nat.le_of_ble_eq_true rfl) rfl ?_
              refine ab_aload_n 4 d_M_compareShort_143 rfl rfl ?_
              refine sa_getR (r := 157) kf_M_25 d_M_compareShort_144 sh_151 rfl ?_
              refine ab_bipush (v := nI 25) d_M_compareShort_147 (by decide) ?_
              refine ab_iload 9 d_M_compareShort_149 rfl ?_
              refine ab_imul d_M_compareShort_151 ?_
              refine ab_iload 10 d_M_compareShort_152 rfl ?_
              refine ab_iadd d_M_compareShort_154 ?_
              refine ab_iload 0 d_M_compareShort_155 rfl ?_
              obtain ⟨c43, HF⟩ := HF
              refine sa_iastn d_M_compareShort_157 sh_157 c43 (fun S44 hS44 => ?_)
              replace HF := HF S44 hS44
              refine ab_iinc (v := x6 + (-1)) (lv' := [(6, .int (x6 + (-1))), (7, .int (S.2 157 ((((nI 25) * x5) + (nI 25)) + x6).toNatClampNeg)), (10, .int ((S.2 157 ((((nI 25) * x5) + (nI 26)) + x6).toNatClampNeg) + (1 : Int32))), (9, .int (S.2 157 ((((nI 25) * x5) + x6) + (1 : Int32)).toNatClampNeg)), (8, .int (S.2 157 ((((nI 25) * x5) + (nI 25)) + x6).toNatClampNeg)), (0, .ref (g.2.1 + 151)), (1, .int x1), (2, .int x2), (3, .int x3), (4, .int x4), (5, .int x5)]) 10 d_M_compareShort_158 rfl (congrArg (fun z => x6 + z) (show Int32.ofInt (-1) = (-1 : Int32) by decide)) (Nat.le_of_ble_eq_true rfl) rfl ?_
              refine ab_goto (tgt := 13) d_M_compareShort_161 (by decide) ?_
              refine ab_sub (lv' := [(0, .ref (g.2.1 + 151)), (1, .int x1), (2, .int x2), (3, .int x3), (4, .int x4), (5, .int x5), (6, .int (x6 + (-1)))]) [5, 6, 7, 8, 9, 10, 0] rfl ?_
              exact HF
            · replace HF := HF.2 b42
              refine ab_iload 1 d_M_compareShort_134 rfl ?_
              refine ab_goto (tgt := 141) d_M_compareShort_136 (by decide) ?_
              refine ab_istore (lv' := [(7, .int ((S.2 157 ((((nI 25) * x5) + (nI 26)) + x6).toNatClampNeg) + (1 : Int32))), (10, .int ((S.2 157 ((((nI 25) * x5) + (nI 26)) + x6).toNatClampNeg) + (1 : Int32))), (9, .int (S.2 157 ((((nI 25) * x5) + x6) + (1 : Int32)).toNatClampNeg)), (8, .int (S.2 157 ((((nI 25) * x5) + (nI 25)) + x6).toNatClampNeg)), (0, .ref (g.2.1 + 151)), (1, .int x1), (2, .int x2), (3, .int x3), (4, .int x4), (5, .int x5), (6, .int x6)]) d_M_compareShort_141 (Nat.le_of_ble_eq_true rfl) rfl ?_
              refine ab_aload_n 4 d_M_compareShort_143 rfl rfl ?_
              refine sa_getR (r := 157) kf_M_25 d_M_compareShort_144 sh_151 rfl ?_
              refine ab_bipush (v := nI 25) d_M_compareShort_147 (by decide) ?_
              refine ab_iload 9 d_M_compareShort_149 rfl ?_
              refine ab_imul d_M_compareShort_151 ?_
              refine ab_iload 10 d_M_compareShort_152 rfl ?_
              refine ab_iadd d_M_compareShort_154 ?_
              refine ab_iload 0 d_M_compareShort_155 rfl ?_
              obtain ⟨c45, HF⟩ := HF
              refine sa_iastn d_M_compareShort_157 sh_157 c45 (fun S46 hS46 => ?_)
              replace HF := HF S46 hS46
              refine ab_iinc (v := x6 + (-1)) (lv' := [(6, .int (x6 + (-1))), (7, .int ((S.2 157 ((((nI 25) * x5) + (nI 26)) + x6).toNatClampNeg) + (1 : Int32))), (10, .int ((S.2 157 ((((nI 25) * x5) + (nI 26)) + x6).toNatClampNeg) + (1 : Int32))), (9, .int (S.2 157 ((((nI 25) * x5) + x6) + (1 : Int32)).toNatClampNeg)), (8, .int (S.2 157 ((((nI 25) * x5) + (nI 25)) + x6).toNatClampNeg)), (0, .ref (g.2.1 + 151)), (1, .int x1), (2, .int x2), (3, .int x3), (4, .int x4), (5, .int x5)]) 10 d_M_compareShort_158 rfl (congrArg (fun z => x6 + z) (show Int32.ofInt (-1) = (-1 : Int32) by decide)) (Nat.le_of_ble_eq_true rfl) rfl ?_
              refine ab_goto (tgt := 13) d_M_compareShort_161 (by decide) ?_
              refine ab_sub (lv' := [(0, .ref (g.2.1 + 151)), (1, .int x1), (2, .int x2), (3, .int x3), (4, .int x4), (5, .int x5), (6, .int (x6 + (-1)))]) [5, 6, 7, 8, 9, 10, 0] rfl ?_
              exact HF
set_option maxRecDepth 100000 in
theorem f_M_await {g : lp_G} {d : Nat} {Q : SS → Prop} {S : SS} {x1 : Int32} {x2 : Int32} {x3 : Int32} {x4 : Int32}
    (HF : (vp_in (S.1 151 8) 60) ∧ (∀ S2 : SS, S2 = setA S 158 (S.1 151 8).toNatClampNeg x1 → (vp_in (S2.1 151 8) 60) ∧ (∀ S4 : SS, S4 = setA S2 159 (S2.1 151 8).toNatClampNeg x2 → (vp_in (S4.1 151 8) 60) ∧ (∀ S6 : SS, S6 = setA S4 160 (S4.1 151 8).toNatClampNeg x3 → (vp_in (S6.1 151 8) 60) ∧ (∀ S8 : SS, S8 = setA S6 161 (S6.1 151 8).toNatClampNeg x4 → ∀ S9 : SS, S9 = setI S8 151 8 ((S8.1 151 8) + (1 : Int32)) → Q S9))))) : MtV g um_M_await d [.ref (g.2.1 + 151), .int x1, .int x2, .int x3, .int x4] S Q := by
  refine sa_entryV (lv' := [(0, .ref (g.2.1 + 151)), (1, .int x1), (2, .int x2), (3, .int x3), (4, .int x4)]) (by decide +kernel) (Nat.le_of_ble_eq_true rfl) rfl ?_
  refine ab_aload_n 0 d_M_await_0 rfl rfl ?_
  refine sa_getR (r := 158) kf_M_28 d_M_await_1 sh_151 rfl ?_
  refine ab_aload_n 0 d_M_await_4 rfl rfl ?_
  refine sa_getI kf_M_103 d_M_await_5 sh_151 rfl ?_
  refine ab_iload_n 1 d_M_await_8 rfl rfl ?_
  obtain ⟨c1, HF⟩ := HF
  refine sa_iastn d_M_await_9 sh_158 c1 (fun S2 hS2 => ?_)
  replace HF := HF S2 hS2
  refine ab_aload_n 0 d_M_await_10 rfl rfl ?_
  refine sa_getR (r := 159) kf_M_31 d_M_await_11 sh_151 rfl ?_
  refine ab_aload_n 0 d_M_await_14 rfl rfl ?_
  refine sa_getI kf_M_103 d_M_await_15 sh_151 rfl ?_
  refine ab_iload_n 2 d_M_await_18 rfl rfl ?_
  obtain ⟨c3, HF⟩ := HF
  refine sa_iastn d_M_await_19 sh_159 c3 (fun S4 hS4 => ?_)
  replace HF := HF S4 hS4
  refine ab_aload_n 0 d_M_await_20 rfl rfl ?_
  refine sa_getR (r := 160) kf_M_34 d_M_await_21 sh_151 rfl ?_
  refine ab_aload_n 0 d_M_await_24 rfl rfl ?_
  refine sa_getI kf_M_103 d_M_await_25 sh_151 rfl ?_
  refine ab_iload_n 3 d_M_await_28 rfl rfl ?_
  obtain ⟨c5, HF⟩ := HF
  refine sa_iastn d_M_await_29 sh_160 c5 (fun S6 hS6 => ?_)
  replace HF := HF S6 hS6
  refine ab_aload_n 0 d_M_await_30 rfl rfl ?_
  refine sa_getR (r := 161) kf_M_37 d_M_await_31 sh_151 rfl ?_
  refine ab_aload_n 0 d_M_await_34 rfl rfl ?_
  refine sa_getI kf_M_103 d_M_await_35 sh_151 rfl ?_
  refine ab_iload 4 d_M_await_38 rfl ?_
  obtain ⟨c7, HF⟩ := HF
  refine sa_iastn d_M_await_40 sh_161 c7 (fun S8 hS8 => ?_)
  replace HF := HF S8 hS8
  refine ab_aload_n 0 d_M_await_41 rfl rfl ?_
  refine ab_dup d_M_await_42 rfl ?_
  refine sa_getI kf_M_103 d_M_await_43 sh_151 rfl ?_
  refine ab_iconst (v := (1 : Int32)) d_M_await_46 (by decide) ?_
  refine ab_iadd d_M_await_47 ?_
  refine sa_putIn kp_M_103 d_M_await_48 sh_151 rfl (fun S9 hS9 => ?_)
  replace HF := HF S9 hS9
  exact sa_ret rfl d_M_await_51 HF
set_option maxRecDepth 100000 in
theorem f_M_partner {g : lp_G} {d : Nat} {Q : Int32 → SS → Prop} {S : SS} {x1 : Int32} {x2 : Int32} {x3 : Int32} {x4 : Int32} {x5 : Int32}
    (HF : AtI g um_M_partner d Q 6 [(0, .ref (g.2.1 + 151)), (1, .int x1), (3, .int x3), (4, .int x4), (5, .int x5), (6, .int (0 : Int32)), (7, .int x2)] [] S) : MtI g um_M_partner d [.ref (g.2.1 + 151), .int x1, .int x2, .int x3, .int x4, .int x5] S Q := by
  refine sa_entryI (lv' := [(0, .ref (g.2.1 + 151)), (1, .int x1), (2, .int x2), (3, .int x3), (4, .int x4), (5, .int x5)]) (by decide +kernel) (Nat.le_of_ble_eq_true rfl) rfl ?_
  refine ab_iconst (v := (0 : Int32)) d_M_partner_0 (by decide) ?_
  refine ab_istore (lv' := [(6, .int (0 : Int32)), (0, .ref (g.2.1 + 151)), (1, .int x1), (2, .int x2), (3, .int x3), (4, .int x4), (5, .int x5)]) d_M_partner_1 (Nat.le_of_ble_eq_true rfl) rfl ?_
  refine ab_iload_n 3 d_M_partner_3 rfl rfl ?_
  refine ab_istore (lv' := [(7, .int x2), (6, .int (0 : Int32)), (0, .ref (g.2.1 + 151)), (1, .int x1), (2, .int x2), (3, .int x3), (4, .int x4), (5, .int x5)]) d_M_partner_4 (Nat.le_of_ble_eq_true rfl) rfl ?_
  refine ab_sub (lv' := [(0, .ref (g.2.1 + 151)), (1, .int x1), (3, .int x3), (4, .int x4), (5, .int x5), (6, .int (0 : Int32)), (7, .int x2)]) [2, 3, 5, 6, 7, 1, 0] rfl ?_
  exact HF
set_option maxRecDepth 100000 in
theorem f_M_partner_6 {g : lp_G} {d : Nat} {Q : Int32 → SS → Prop} {S : SS} {x1 : Int32} {x3 : Int32} {x4 : Int32} {x5 : Int32} {x6 : Int32} {x7 : Int32}
    (HF : (x3 ≤ x7 → AtI g um_M_partner d Q 55 [(0, .ref (g.2.1 + 151)), (1, .int x1), (5, .int x5), (6, .int x6), (7, .int (0 : Int32)), (8, .int (-1 : Int32)), (9, .int x4)] [] S) ∧ (¬ x3 ≤ x7 → (vp_in x7 24) ∧ ((vp_in x1 24) ∧ ((¬ S.2 154 x7.toNatClampNeg = S.2 154 x1.toNatClampNeg → AtI g um_M_partner d Q 6 [(0, .ref (g.2.1 + 151)), (1, .int x1), (3, .int x3), (4, .int x4), (5, .int x5), (6, .int x6), (7, .int (x7 + 1))] [] S) ∧ (S.2 154 x7.toNatClampNeg = S.2 154 x1.toNatClampNeg → AtI g um_M_partner d Q 6 [(0, .ref (g.2.1 + 151)), (1, .int x1), (3, .int x3), (4, .int x4), (5, .int x5), (6, .int (x6 + (1 : Int32))), (7, .int (x7 + 1))] [] S))))) : AtI g um_M_partner d Q 6 [(0, .ref (g.2.1 + 151)), (1, .int x1), (3, .int x3), (4, .int x4), (5, .int x5), (6, .int x6), (7, .int x7)] [] S := by
  refine ab_iload 6 d_M_partner_6 rfl ?_
  refine ab_iload_n 2 d_M_partner_8 rfl rfl ?_
  refine ab_icmp_ge (tgt := 45) d_M_partner_9 (by decide) (fun b1 => ?_) (fun b1 => ?_)
  · replace HF := HF.1 b1
    refine ab_iconst (v := (0 : Int32)) d_M_partner_45 (by decide) ?_
    refine ab_istore (lv' := [(7, .int (0 : Int32)), (0, .ref (g.2.1 + 151)), (1, .int x1), (3, .int x3), (4, .int x4), (5, .int x5), (6, .int x6)]) d_M_partner_46 (Nat.le_of_ble_eq_true rfl) rfl ?_
    refine ab_iconst (v := (-1 : Int32)) d_M_partner_48 (by decide) ?_
    refine ab_istore (lv' := [(8, .int (-1 : Int32)), (7, .int (0 : Int32)), (0, .ref (g.2.1 + 151)), (1, .int x1), (3, .int x3), (4, .int x4), (5, .int x5), (6, .int x6)]) d_M_partner_49 (Nat.le_of_ble_eq_true rfl) rfl ?_
    refine ab_iload 5 d_M_partner_51 rfl ?_
    refine ab_istore (lv' := [(9, .int x4), (8, .int (-1 : Int32)), (7, .int (0 : Int32)), (0, .ref (g.2.1 + 151)), (1, .int x1), (3, .int x3), (4, .int x4), (5, .int x5), (6, .int x6)]) d_M_partner_53 (Nat.le_of_ble_eq_true rfl) rfl ?_
    refine ab_sub (lv' := [(0, .ref (g.2.1 + 151)), (1, .int x1), (5, .int x5), (6, .int x6), (7, .int (0 : Int32)), (8, .int (-1 : Int32)), (9, .int x4)]) [3, 4, 7, 8, 2, 1, 0] rfl ?_
    exact HF
  · replace HF := HF.2 b1
    refine ab_aload_n 0 d_M_partner_12 rfl rfl ?_
    refine sa_getR (r := 154) kf_M_16 d_M_partner_13 sh_151 rfl ?_
    refine ab_iload 6 d_M_partner_16 rfl ?_
    obtain ⟨c2, HF⟩ := HF
    refine sa_iald d_M_partner_18 sh_154 c2 ?_
    refine ab_aload_n 0 d_M_partner_19 rfl rfl ?_
    refine sa_getR (r := 154) kf_M_16 d_M_partner_20 sh_151 rfl ?_
    refine ab_iload_n 1 d_M_partner_23 rfl rfl ?_
    obtain ⟨c3, HF⟩ := HF
    refine sa_iald d_M_partner_24 sh_154 c3 ?_
    refine ab_icmp_ne (tgt := 35) d_M_partner_25 (by decide) (fun b4 => ?_) (fun b4 => ?_)
    · replace HF := HF.1 b4
      refine ab_iload 5 d_M_partner_35 rfl ?_
      refine ab_istore (lv' := [(6, .int x6), (0, .ref (g.2.1 + 151)), (1, .int x1), (3, .int x3), (4, .int x4), (5, .int x5), (7, .int x7)]) d_M_partner_37 (Nat.le_of_ble_eq_true rfl) rfl ?_
      refine ab_iinc (v := x7 + 1) (lv' := [(7, .int (x7 + 1)), (6, .int x6), (0, .ref (g.2.1 + 151)), (1, .int x1), (3, .int x3), (4, .int x4), (5, .int x5)]) 6 d_M_partner_39 rfl (congrArg (fun z => x7 + z) (show Int32.ofInt 1 = (1 : Int32) by decide)) (Nat.le_of_ble_eq_true rfl) rfl ?_
      refine ab_goto (tgt := 6) d_M_partner_42 (by decide) ?_
      refine ab_sub (lv' := [(0, .ref (g.2.1 + 151)), (1, .int x1), (3, .int x3), (4, .int x4), (5, .int x5), (6, .int x6), (7, .int (x7 + 1))]) [2, 3, 4, 5, 6, 1, 0] rfl ?_
      exact HF
    · replace HF := HF.2 b4
      refine ab_iload 5 d_M_partner_28 rfl ?_
      refine ab_iconst (v := (1 : Int32)) d_M_partner_30 (by decide) ?_
      refine ab_iadd d_M_partner_31 ?_
      refine ab_goto (tgt := 37) d_M_partner_32 (by decide) ?_
      refine ab_istore (lv' := [(6, .int (x6 + (1 : Int32))), (0, .ref (g.2.1 + 151)), (1, .int x1), (3, .int x3), (4, .int x4), (5, .int x5), (7, .int x7)]) d_M_partner_37 (Nat.le_of_ble_eq_true rfl) rfl ?_
      refine ab_iinc (v := x7 + 1) (lv' := [(7, .int (x7 + 1)), (6, .int (x6 + (1 : Int32))), (0, .ref (g.2.1 + 151)), (1, .int x1), (3, .int x3), (4, .int x4), (5, .int x5)]) 6 d_M_partner_39 rfl (congrArg (fun z => x7 + z) (show Int32.ofInt 1 = (1 : Int32) by decide)) (Nat.le_of_ble_eq_true rfl) rfl ?_
      refine ab_goto (tgt := 6) d_M_partner_42 (by decide) ?_
      refine ab_sub (lv' := [(0, .ref (g.2.1 + 151)), (1, .int x1), (3, .int x3), (4, .int x4), (5, .int x5), (6, .int (x6 + (1 : Int32))), (7, .int (x7 + 1))]) [2, 3, 4, 5, 6, 1, 0] rfl ?_
      exact HF
set_option maxRecDepth 100000 in
theorem f_M_partner_55 {g : lp_G} {d : Nat} {Q : Int32 → SS → Prop} {S : SS} {x1 : Int32} {x5 : Int32} {x6 : Int32} {x7 : Int32} {x8 : Int32} {x9 : Int32}
    (HF : (x5 ≤ x9 → (¬ x6 = (1 : Int32) → Q (-1 : Int32) S) ∧ (x6 = (1 : Int32) → (¬ x7 = (1 : Int32) → Q (-1 : Int32) S) ∧ (x7 = (1 : Int32) → Q x8 S))) ∧ (¬ x5 ≤ x9 → (vp_in x9 24) ∧ ((vp_in x1 24) ∧ ((¬ S.2 155 x9.toNatClampNeg = S.2 154 x1.toNatClampNeg → (vp_in x9 24) ∧ ((vp_in x1 24) ∧ (AtI g um_M_partner d Q 55 [(0, .ref (g.2.1 + 151)), (1, .int x1), (5, .int x5), (6, .int x6), (7, .int x7), (8, .int x8), (9, .int (x9 + 1))] [] S))) ∧ (S.2 155 x9.toNatClampNeg = S.2 154 x1.toNatClampNeg → (vp_in x9 24) ∧ ((vp_in x1 24) ∧ (AtI g um_M_partner d Q 55 [(0, .ref (g.2.1 + 151)), (1, .int x1), (5, .int x5), (6, .int x6), (7, .int (x7 + (1 : Int32))), (8, .int x9), (9, .int (x9 + 1))] [] S))))))) : AtI g um_M_partner d Q 55 [(0, .ref (g.2.1 + 151)), (1, .int x1), (5, .int x5), (6, .int x6), (7, .int x7), (8, .int x8), (9, .int x9)] [] S := by
  refine ab_iload 6 d_M_partner_55 rfl ?_
  refine ab_iload 2 d_M_partner_57 rfl ?_
  refine ab_icmp_ge (tgt := 120) d_M_partner_59 (by decide) (fun b5 => ?_) (fun b5 => ?_)
  · replace HF := HF.1 b5
    refine ab_iload 3 d_M_partner_120 rfl ?_
    refine ab_iconst (v := (1 : Int32)) d_M_partner_122 (by decide) ?_
    refine ab_icmp_ne (tgt := 137) d_M_partner_123 (by decide) (fun b6 => ?_) (fun b6 => ?_)
    · replace HF := HF.1 b6
      refine ab_iconst (v := (-1 : Int32)) d_M_partner_137 (by decide) ?_
      exact sa_iretI rfl d_M_partner_138 HF
    · replace HF := HF.2 b6
      refine ab_iload 4 d_M_partner_126 rfl ?_
      refine ab_iconst (v := (1 : Int32)) d_M_partner_128 (by decide) ?_
      refine ab_icmp_ne (tgt := 137) d_M_partner_129 (by decide) (fun b7 => ?_) (fun b7 => ?_)
      · replace HF := HF.1 b7
        refine ab_iconst (v := (-1 : Int32)) d_M_partner_137 (by decide) ?_
        exact sa_iretI rfl d_M_partner_138 HF
      · replace HF := HF.2 b7
        refine ab_iload 5 d_M_partner_132 rfl ?_
        refine ab_goto (tgt := 138) d_M_partner_134 (by decide) ?_
        exact sa_iretI rfl d_M_partner_138 HF
  · replace HF := HF.2 b5
    refine ab_aload_n 0 d_M_partner_62 rfl rfl ?_
    refine sa_getR (r := 155) kf_M_19 d_M_partner_63 sh_151 rfl ?_
    refine ab_iload 6 d_M_partner_66 rfl ?_
    obtain ⟨c8, HF⟩ := HF
    refine sa_iald d_M_partner_68 sh_155 c8 ?_
    refine ab_aload_n 0 d_M_partner_69 rfl rfl ?_
    refine sa_getR (r := 154) kf_M_16 d_M_partner_70 sh_151 rfl ?_
    refine ab_iload_n 1 d_M_partner_73 rfl rfl ?_
    obtain ⟨c9, HF⟩ := HF
    refine sa_iald d_M_partner_74 sh_154 c9 ?_
    refine ab_icmp_ne (tgt := 85) d_M_partner_75 (by decide) (fun b10 => ?_) (fun b10 => ?_)
    · replace HF := HF.1 b10
      refine ab_iload 4 d_M_partner_85 rfl ?_
      refine ab_istore (lv' := [(7, .int x7), (0, .ref (g.2.1 + 151)), (1, .int x1), (5, .int x5), (6, .int x6), (8, .int x8), (9, .int x9)]) d_M_partner_87 (Nat.le_of_ble_eq_true rfl) rfl ?_
      refine ab_aload_n 1 d_M_partner_89 rfl rfl ?_
      refine sa_getR (r := 155) kf_M_19 d_M_partner_90 sh_151 rfl ?_
      refine ab_iload 6 d_M_partner_93 rfl ?_
      obtain ⟨c11, HF⟩ := HF
      refine sa_iald d_M_partner_95 sh_155 c11 ?_
      refine ab_aload_n 1 d_M_partner_96 rfl rfl ?_
      refine sa_getR (r := 154) kf_M_16 d_M_partner_97 sh_151 rfl ?_
      refine ab_iload_n 2 d_M_partner_100 rfl rfl ?_
      obtain ⟨c12, HF⟩ := HF
      refine sa_iald d_M_partner_101 sh_154 c12 ?_
      refine ab_icmp_ne (tgt := 110) d_M_partner_102 (by decide) (fun _ => ?_) (fun h => absurd h b10)
      refine ab_iload 5 d_M_partner_110 rfl ?_
      refine ab_istore (lv' := [(8, .int x8), (7, .int x7), (0, .ref (g.2.1 + 151)), (1, .int x1), (5, .int x5), (6, .int x6), (9, .int x9)]) d_M_partner_112 (Nat.le_of_ble_eq_true rfl) rfl ?_
      refine ab_iinc (v := x9 + 1) (lv' := [(9, .int (x9 + 1)), (8, .int x8), (7, .int x7), (0, .ref (g.2.1 + 151)), (1, .int x1), (5, .int x5), (6, .int x6)]) 6 d_M_partner_114 rfl (congrArg (fun z => x9 + z) (show Int32.ofInt 1 = (1 : Int32) by decide)) (Nat.le_of_ble_eq_true rfl) rfl ?_
      refine ab_goto (tgt := 55) d_M_partner_117 (by decide) ?_
      refine ab_sub (lv' := [(0, .ref (g.2.1 + 151)), (1, .int x1), (5, .int x5), (6, .int x6), (7, .int x7), (8, .int x8), (9, .int (x9 + 1))]) [3, 4, 5, 6, 2, 1, 0] rfl ?_
      exact HF
    · replace HF := HF.2 b10
      refine ab_iload 4 d_M_partner_78 rfl ?_
      refine ab_iconst (v := (1 : Int32)) d_M_partner_80 (by decide) ?_
      refine ab_iadd d_M_partner_81 ?_
      refine ab_goto (tgt := 87) d_M_partner_82 (by decide) ?_
      refine ab_istore (lv' := [(7, .int (x7 + (1 : Int32))), (0, .ref (g.2.1 + 151)), (1, .int x1), (5, .int x5), (6, .int x6), (8, .int x8), (9, .int x9)]) d_M_partner_87 (Nat.le_of_ble_eq_true rfl) rfl ?_
      refine ab_aload_n 1 d_M_partner_89 rfl rfl ?_
      refine sa_getR (r := 155) kf_M_19 d_M_partner_90 sh_151 rfl ?_
      refine ab_iload 6 d_M_partner_93 rfl ?_
      obtain ⟨c13, HF⟩ := HF
      refine sa_iald d_M_partner_95 sh_155 c13 ?_
      refine ab_aload_n 1 d_M_partner_96 rfl rfl ?_
      refine sa_getR (r := 154) kf_M_16 d_M_partner_97 sh_151 rfl ?_
      refine ab_iload_n 2 d_M_partner_100 rfl rfl ?_
      obtain ⟨c14, HF⟩ := HF
      refine sa_iald d_M_partner_101 sh_154 c14 ?_
      refine ab_icmp_ne (tgt := 110) d_M_partner_102 (by decide) (fun h => absurd b10 h) (fun _ => ?_)
      refine ab_iload 6 d_M_partner_105 rfl ?_
      refine ab_goto (tgt := 112) d_M_partner_107 (by decide) ?_
      refine ab_istore (lv' := [(8, .int x9), (7, .int (x7 + (1 : Int32))), (0, .ref (g.2.1 + 151)), (1, .int x1), (5, .int x5), (6, .int x6), (9, .int x9)]) d_M_partner_112 (Nat.le_of_ble_eq_true rfl) rfl ?_
      refine ab_iinc (v := x9 + 1) (lv' := [(9, .int (x9 + 1)), (8, .int x9), (7, .int (x7 + (1 : Int32))), (0, .ref (g.2.1 + 151)), (1, .int x1), (5, .int x5), (6, .int x6)]) 6 d_M_partner_114 rfl (congrArg (fun z => x9 + z) (show Int32.ofInt 1 = (1 : Int32) by decide)) (Nat.le_of_ble_eq_true rfl) rfl ?_
      refine ab_goto (tgt := 55) d_M_partner_117 (by decide) ?_
      refine ab_sub (lv' := [(0, .ref (g.2.1 + 151)), (1, .int x1), (5, .int x5), (6, .int x6), (7, .int (x7 + (1 : Int32))), (8, .int x9), (9, .int (x9 + 1))]) [3, 4, 5, 6, 2, 1, 0] rfl ?_
      exact HF
set_option maxRecDepth 100000 in
theorem f_M_findRanks {g : lp_G} {d : Nat} {Q : Int32 → SS → Prop} {S : SS} {x1 : Int32} {x2 : Int32} {x3 : Int32} {x4 : Int32}
    (HF : AtI g um_M_findRanks (d + 1) Q 6 [(0, .ref (g.2.1 + 151)), (1, .int x1), (2, .int x2), (3, .int x3), (4, .int x4), (5, .int (0 : Int32)), (6, .int x1)] [] S) : MtI g um_M_findRanks (d + 1) [.ref (g.2.1 + 151), .int x1, .int x2, .int x3, .int x4] S Q := by
  refine sa_entryI (lv' := [(0, .ref (g.2.1 + 151)), (1, .int x1), (2, .int x2), (3, .int x3), (4, .int x4)]) (by decide +kernel) (Nat.le_of_ble_eq_true rfl) rfl ?_
  refine ab_iconst (v := (0 : Int32)) d_M_findRanks_0 (by decide) ?_
  refine ab_istore (lv' := [(5, .int (0 : Int32)), (0, .ref (g.2.1 + 151)), (1, .int x1), (2, .int x2), (3, .int x3), (4, .int x4)]) d_M_findRanks_1 (Nat.le_of_ble_eq_true rfl) rfl ?_
  refine ab_iload_n 2 d_M_findRanks_3 rfl rfl ?_
  refine ab_istore (lv' := [(6, .int x1), (5, .int (0 : Int32)), (0, .ref (g.2.1 + 151)), (1, .int x1), (2, .int x2), (3, .int x3), (4, .int x4)]) d_M_findRanks_4 (Nat.le_of_ble_eq_true rfl) rfl ?_
  refine ab_sub (lv' := [(0, .ref (g.2.1 + 151)), (1, .int x1), (2, .int x2), (3, .int x3), (4, .int x4), (5, .int (0 : Int32)), (6, .int x1)]) [2, 3, 4, 5, 6, 1, 0] rfl ?_
  exact HF
set_option maxRecDepth 100000 in
theorem f_M_findRanks_6 {g : lp_G} {d : Nat} {Q : Int32 → SS → Prop} {S : SS} {x1 : Int32} {x2 : Int32} {x3 : Int32} {x4 : Int32} {x5 : Int32} {x6 : Int32}
    (HF : (x2 ≤ x6 → Q x5 S) ∧ (¬ x2 ≤ x6 → MtI g um_M_partner d [.ref (g.2.1 + 151), .int x6, .int x1, .int x2, .int x3, .int x4] S (fun r3 S2 => (vp_in x6 24) ∧ (∀ S5 : SS, S5 = setA S2 162 x6.toNatClampNeg r3 → (vp_in x6 24) ∧ (∀ S7 : SS, S7 = setA S5 163 x6.toNatClampNeg (0 : Int32) → (vp_in x6 24) ∧ ((S7.2 162 x6.toNatClampNeg < 0 → AtI g um_M_findRanks (d + 1) Q 6 [(0, .ref (g.2.1 + 151)), (1, .int x1), (2, .int x2), (3, .int x3), (4, .int x4), (5, .int x5), (6, .int (x6 + 1))] [] S7) ∧ (¬ S7.2 162 x6.toNatClampNeg < 0 → AtI g um_M_findRanks (d + 1) Q 54 [(0, .ref (g.2.1 + 151)), (1, .int x1), (2, .int x2), (3, .int x3), (4, .int x4), (5, .int x5), (6, .int x6), (7, .int (0 : Int32)), (8, .int x1)] [] S7))))))) : AtI g um_M_findRanks (d + 1) Q 6 [(0, .ref (g.2.1 + 151)), (1, .int x1), (2, .int x2), (3, .int x3), (4, .int x4), (5, .int x5), (6, .int x6)] [] S := by
  refine ab_iload 6 d_M_findRanks_6 rfl ?_
  refine ab_iload_n 2 d_M_findRanks_8 rfl rfl ?_
  refine ab_icmp_ge (tgt := 157) d_M_findRanks_9 (by decide) (fun b1 => ?_) (fun b1 => ?_)
  · replace HF := HF.1 b1
    refine ab_iload 5 d_M_findRanks_157 rfl ?_
    exact sa_iretI rfl d_M_findRanks_159 HF
  · replace HF := HF.2 b1
    refine ab_aload_n 0 d_M_findRanks_12 rfl rfl ?_
    refine sa_getR (r := 162) kf_M_40 d_M_findRanks_13 sh_151 rfl ?_
    refine ab_iload 6 d_M_findRanks_16 rfl ?_
    refine ab_aload_n 0 d_M_findRanks_18 rfl rfl ?_
    refine ab_iload 6 d_M_findRanks_19 rfl ?_
    refine ab_iload_n 1 d_M_findRanks_21 rfl rfl ?_
    refine ab_iload_n 2 d_M_findRanks_22 rfl rfl ?_
    refine ab_iload_n 3 d_M_findRanks_23 rfl rfl ?_
    refine ab_iload 4 d_M_findRanks_24 rfl ?_
    refine sa_callVi (As := [.int x6, .int x1, .int x2, .int x3, .int x4]) (rest := [.int x6, .ref (g.2.1 + 162)]) kc_M_106 d_M_findRanks_26 sh_151 rfl rfl rfl (Nat.le_of_ble_eq_true rfl) enI (Nat.le_of_ble_eq_true rfl) ⟨Nat.zero_le _, Nat.zero_le _⟩ HF (fun r3 S2 HF => ?_)
    obtain ⟨c4, HF⟩ := HF
    refine sa_iastn d_M_findRanks_29 sh_162 c4 (fun S5 hS5 => ?_)
    replace HF := HF S5 hS5
    refine ab_aload_n 0 d_M_findRanks_30 rfl rfl ?_
    refine sa_getR (r := 163) kf_M_43 d_M_findRanks_31 sh_151 rfl ?_
    refine ab_iload 6 d_M_findRanks_34 rfl ?_
    refine ab_iconst (v := (0 : Int32)) d_M_findRanks_36 (by decide) ?_
    obtain ⟨c6, HF⟩ := HF
    refine sa_iastn d_M_findRanks_37 sh_163 c6 (fun S7 hS7 => ?_)
    replace HF := HF S7 hS7
    refine ab_aload_n 0 d_M_findRanks_38 rfl rfl ?_
    refine sa_getR (r := 162) kf_M_40 d_M_findRanks_39 sh_151 rfl ?_
    refine ab_iload 6 d_M_findRanks_42 rfl ?_
    obtain ⟨c8, HF⟩ := HF
    refine sa_iald d_M_findRanks_44 sh_162 c8 ?_
    refine ab_if_lt (tgt := 151) d_M_findRanks_45 (by decide) (fun b9 => ?_) (fun b9 => ?_)
    · replace HF := HF.1 b9
      refine ab_iinc (v := x6 + 1) (lv' := [(6, .int (x6 + 1)), (0, .ref (g.2.1 + 151)), (1, .int x1), (2, .int x2), (3, .int x3), (4, .int x4), (5, .int x5)]) 6 d_M_findRanks_151 rfl (congrArg (fun z => x6 + z) (show Int32.ofInt 1 = (1 : Int32) by decide)) (Nat.le_of_ble_eq_true rfl) rfl ?_
      refine ab_goto (tgt := 6) d_M_findRanks_154 (by decide) ?_
      refine ab_sub (lv' := [(0, .ref (g.2.1 + 151)), (1, .int x1), (2, .int x2), (3, .int x3), (4, .int x4), (5, .int x5), (6, .int (x6 + 1))]) [1, 2, 3, 4, 5, 6, 0] rfl ?_
      exact HF
    · replace HF := HF.2 b9
      refine ab_iconst (v := (0 : Int32)) d_M_findRanks_48 (by decide) ?_
      refine ab_istore (lv' := [(7, .int (0 : Int32)), (0, .ref (g.2.1 + 151)), (1, .int x1), (2, .int x2), (3, .int x3), (4, .int x4), (5, .int x5), (6, .int x6)]) d_M_findRanks_49 (Nat.le_of_ble_eq_true rfl) rfl ?_
      refine ab_iload_n 2 d_M_findRanks_51 rfl rfl ?_
      refine ab_istore (lv' := [(8, .int x1), (7, .int (0 : Int32)), (0, .ref (g.2.1 + 151)), (1, .int x1), (2, .int x2), (3, .int x3), (4, .int x4), (5, .int x5), (6, .int x6)]) d_M_findRanks_52 (Nat.le_of_ble_eq_true rfl) rfl ?_
      refine ab_sub (lv' := [(0, .ref (g.2.1 + 151)), (1, .int x1), (2, .int x2), (3, .int x3), (4, .int x4), (5, .int x5), (6, .int x6), (7, .int (0 : Int32)), (8, .int x1)]) [2, 3, 4, 5, 6, 7, 8, 1, 0] rfl ?_
      exact HF
set_option maxRecDepth 100000 in
theorem f_M_findRanks_54 {g : lp_G} {d : Nat} {Q : Int32 → SS → Prop} {S : SS} {x1 : Int32} {x2 : Int32} {x3 : Int32} {x4 : Int32} {x5 : Int32} {x6 : Int32} {x7 : Int32} {x8 : Int32}
    (HF : (x6 ≤ x8 → (vp_in x6 24) ∧ (∀ S12 : SS, S12 = setA S 163 x6.toNatClampNeg (x7 + (1 : Int32)) → (x7 + (1 : Int32) ≤ x5 → AtI g um_M_findRanks (d + 1) Q 6 [(0, .ref (g.2.1 + 151)), (1, .int x1), (2, .int x2), (3, .int x3), (4, .int x4), (5, .int x5), (6, .int (x6 + 1))] [] S12) ∧ (¬ x7 + (1 : Int32) ≤ x5 → AtI g um_M_findRanks (d + 1) Q 6 [(0, .ref (g.2.1 + 151)), (1, .int x1), (2, .int x2), (3, .int x3), (4, .int x4), (5, .int (x7 + (1 : Int32))), (6, .int (x6 + 1))] [] S12))) ∧ (¬ x6 ≤ x8 → (vp_in x8 24) ∧ ((S.2 162 x8.toNatClampNeg < 0 → AtI g um_M_findRanks (d + 1) Q 54 [(0, .ref (g.2.1 + 151)), (1, .int x1), (2, .int x2), (3, .int x3), (4, .int x4), (5, .int x5), (6, .int x6), (7, .int x7), (8, .int (x8 + 1))] [] S) ∧ (¬ S.2 162 x8.toNatClampNeg < 0 → (vp_in x8 24) ∧ ((vp_in x6 24) ∧ ((S.2 162 x6.toNatClampNeg ≤ S.2 162 x8.toNatClampNeg → AtI g um_M_findRanks (d + 1) Q 54 [(0, .ref (g.2.1 + 151)), (1, .int x1), (2, .int x2), (3, .int x3), (4, .int x4), (5, .int x5), (6, .int x6), (7, .int x7), (8, .int (x8 + 1))] [] S) ∧ (¬ S.2 162 x6.toNatClampNeg ≤ S.2 162 x8.toNatClampNeg → (vp_in x8 24) ∧ ((S.2 163 x8.toNatClampNeg ≤ x7 → AtI g um_M_findRanks (d + 1) Q 54 [(0, .ref (g.2.1 + 151)), (1, .int x1), (2, .int x2), (3, .int x3), (4, .int x4), (5, .int x5), (6, .int x6), (7, .int x7), (8, .int (x8 + 1))] [] S) ∧ (¬ S.2 163 x8.toNatClampNeg ≤ x7 → (vp_in x8 24) ∧ (AtI g um_M_findRanks (d + 1) Q 54 [(0, .ref (g.2.1 + 151)), (1, .int x1), (2, .int x2), (3, .int x3), (4, .int x4), (5, .int x5), (6, .int x6), (7, .int (S.2 163 x8.toNatClampNeg)), (8, .int (x8 + 1))] [] S)))))))))) : AtI g um_M_findRanks (d + 1) Q 54 [(0, .ref (g.2.1 + 151)), (1, .int x1), (2, .int x2), (3, .int x3), (4, .int x4), (5, .int x5), (6, .int x6), (7, .int x7), (8, .int x8)] [] S := by
  refine ab_iload 8 d_M_findRanks_54 rfl ?_
  refine ab_iload 6 d_M_findRanks_56 rfl ?_
  refine ab_icmp_ge (tgt := 120) d_M_findRanks_58 (by decide) (fun b10 => ?_) (fun b10 => ?_)
  · replace HF := HF.1 b10
    refine ab_aload_n 0 d_M_findRanks_120 rfl rfl ?_
    refine sa_getR (r := 163) kf_M_43 d_M_findRanks_121 sh_151 rfl ?_
    refine ab_iload 6 d_M_findRanks_124 rfl ?_
    refine ab_iload 7 d_M_findRanks_126 rfl ?_
    refine ab_iconst (v := (1 : Int32)) d_M_findRanks_128 (by decide) ?_
    refine ab_iadd d_M_findRanks_129 ?_
    obtain ⟨c11, HF⟩ := HF
    refine sa_iastn d_M_findRanks_130 sh_163 c11 (fun S12 hS12 => ?_)
    replace HF := HF S12 hS12
    refine ab_iload 7 d_M_findRanks_131 rfl ?_
    refine ab_iconst (v := (1 : Int32)) d_M_findRanks_133 (by decide) ?_
    refine ab_iadd d_M_findRanks_134 ?_
    refine ab_iload 5 d_M_findRanks_135 rfl ?_
    refine ab_icmp_le (tgt := 147) d_M_findRanks_137 (by decide) (fun b13 => ?_) (fun b13 => ?_)
    · replace HF := HF.1 b13
      refine ab_iload 5 d_M_findRanks_147 rfl ?_
      refine ab_istore (lv' := [(5, .int x5), (0, .ref (g.2.1 + 151)), (1, .int x1), (2, .int x2), (3, .int x3), (4, .int x4), (6, .int x6), (7, .int x7), (8, .int x8)]) d_M_findRanks_149 (Nat.le_of_ble_eq_true rfl) rfl ?_
      refine ab_iinc (v := x6 + 1) (lv' := [(6, .int (x6 + 1)), (5, .int x5), (0, .ref (g.2.1 + 151)), (1, .int x1), (2, .int x2), (3, .int x3), (4, .int x4), (7, .int x7), (8, .int x8)]) 6 d_M_findRanks_151 rfl (congrArg (fun z => x6 + z) (show Int32.ofInt 1 = (1 : Int32) by decide)) (Nat.le_of_ble_eq_true rfl) rfl ?_
      refine ab_goto (tgt := 6) d_M_findRanks_154 (by decide) ?_
      refine ab_sub (lv' := [(0, .ref (g.2.1 + 151)), (1, .int x1), (2, .int x2), (3, .int x3), (4, .int x4), (5, .int x5), (6, .int (x6 + 1))]) [2, 3, 4, 5, 6, 1, 0] rfl ?_
      exact HF
    · replace HF := HF.2 b13
      refine ab_iload 7 d_M_findRanks_140 rfl ?_
      refine ab_iconst (v := (1 : Int32)) d_M_findRanks_142 (by decide) ?_
      refine ab_iadd d_M_findRanks_143 ?_
      refine ab_goto (tgt := 149) d_M_findRanks_144 (by decide) ?_
      refine ab_istore (lv' := [(5, .int (x7 + (1 : Int32))), (0, .ref (g.2.1 + 151)), (1, .int x1), (2, .int x2), (3, .int x3), (4, .int x4), (6, .int x6), (7, .int x7), (8, .int x8)]) d_M_findRanks_149 (Nat.le_of_ble_eq_true rfl) rfl ?_
      refine ab_iinc (v := x6 + 1) (lv' := [(6, .int (x6 + 1)), (5, .int (x7 + (1 : Int32))), (0, .ref (g.2.1 + 151)), (1, .int x1), (2, .int x2), (3, .int x3), (4, .int x4), (7, .int x7), (8, .int x8)]) 6 d_M_findRanks_151 rfl (congrArg (fun z => x6 + z) (show Int32.ofInt 1 = (1 : Int32) by decide)) (Nat.le_of_ble_eq_true rfl) rfl ?_
      refine ab_goto (tgt := 6) d_M_findRanks_154 (by decide) ?_
      refine ab_sub (lv' := [(0, .ref (g.2.1 + 151)), (1, .int x1), (2, .int x2), (3, .int x3), (4, .int x4), (5, .int (x7 + (1 : Int32))), (6, .int (x6 + 1))]) [2, 3, 4, 5, 6, 1, 0] rfl ?_
      exact HF
  · replace HF := HF.2 b10
    refine ab_aload_n 0 d_M_findRanks_61 rfl rfl ?_
    refine sa_getR (r := 162) kf_M_40 d_M_findRanks_62 sh_151 rfl ?_
    refine ab_iload 8 d_M_findRanks_65 rfl ?_
    obtain ⟨c14, HF⟩ := HF
    refine sa_iald d_M_findRanks_67 sh_162 c14 ?_
    refine ab_if_lt (tgt := 110) d_M_findRanks_68 (by decide) (fun b15 => ?_) (fun b15 => ?_)
    · replace HF := HF.1 b15
      refine ab_iload 7 d_M_findRanks_110 rfl ?_
      refine ab_istore (lv' := [(7, .int x7), (0, .ref (g.2.1 + 151)), (1, .int x1), (2, .int x2), (3, .int x3), (4, .int x4), (5, .int x5), (6, .int x6), (8, .int x8)]) d_M_findRanks_112 (Nat.le_of_ble_eq_true rfl) rfl ?_
      refine ab_iinc (v := x8 + 1) (lv' := [(8, .int (x8 + 1)), (7, .int x7), (0, .ref (g.2.1 + 151)), (1, .int x1), (2, .int x2), (3, .int x3), (4, .int x4), (5, .int x5), (6, .int x6)]) 8 d_M_findRanks_114 rfl (congrArg (fun z => x8 + z) (show Int32.ofInt 1 = (1 : Int32) by decide)) (Nat.le_of_ble_eq_true rfl) rfl ?_
      refine ab_goto (tgt := 54) d_M_findRanks_117 (by decide) ?_
      refine ab_sub (lv' := [(0, .ref (g.2.1 + 151)), (1, .int x1), (2, .int x2), (3, .int x3), (4, .int x4), (5, .int x5), (6, .int x6), (7, .int x7), (8, .int (x8 + 1))]) [2, 3, 4, 5, 6, 7, 8, 1, 0] rfl ?_
      exact HF
    · replace HF := HF.2 b15
      refine ab_aload_n 0 d_M_findRanks_71 rfl rfl ?_
      refine sa_getR (r := 162) kf_M_40 d_M_findRanks_72 sh_151 rfl ?_
      refine ab_iload 8 d_M_findRanks_75 rfl ?_
      obtain ⟨c16, HF⟩ := HF
      refine sa_iald d_M_findRanks_77 sh_162 c16 ?_
      refine ab_aload_n 0 d_M_findRanks_78 rfl rfl ?_
      refine sa_getR (r := 162) kf_M_40 d_M_findRanks_79 sh_151 rfl ?_
      refine ab_iload 6 d_M_findRanks_82 rfl ?_
      obtain ⟨c17, HF⟩ := HF
      refine sa_iald d_M_findRanks_84 sh_162 c17 ?_
      refine ab_icmp_ge (tgt := 110) d_M_findRanks_85 (by decide) (fun b18 => ?_) (fun b18 => ?_)
      · replace HF := HF.1 b18
        refine ab_iload 7 d_M_findRanks_110 rfl ?_
        refine ab_istore (lv' := [(7, .int x7), (0, .ref (g.2.1 + 151)), (1, .int x1), (2, .int x2), (3, .int x3), (4, .int x4), (5, .int x5), (6, .int x6), (8, .int x8)]) d_M_findRanks_112 (Nat.le_of_ble_eq_true rfl) rfl ?_
        refine ab_iinc (v := x8 + 1) (lv' := [(8, .int (x8 + 1)), (7, .int x7), (0, .ref (g.2.1 + 151)), (1, .int x1), (2, .int x2), (3, .int x3), (4, .int x4), (5, .int x5), (6, .int x6)]) 8 d_M_findRanks_114 rfl (congrArg (fun z => x8 + z) (show Int32.ofInt 1 = (1 : Int32) by decide)) (Nat.le_of_ble_eq_true rfl) rfl ?_
        refine ab_goto (tgt := 54) d_M_findRanks_117 (by decide) ?_
        refine ab_sub (lv' := [(0, .ref (g.2.1 + 151)), (1, .int x1), (2, .int x2), (3, .int x3), (4, .int x4), (5, .int x5), (6, .int x6), (7, .int x7), (8, .int (x8 + 1))]) [2, 3, 4, 5, 6, 7, 8, 1, 0] rfl ?_
        exact HF
      · replace HF := HF.2 b18
        refine ab_aload_n 0 d_M_findRanks_88 rfl rfl ?_
        refine sa_getR (r := 163) kf_M_43 d_M_findRanks_89 sh_151 rfl ?_
        refine ab_iload 8 d_M_findRanks_92 rfl ?_
        obtain ⟨c19, HF⟩ := HF
        refine sa_iald d_M_findRanks_94 sh_163 c19 ?_
        refine ab_iload 7 d_M_findRanks_95 rfl ?_
        refine ab_icmp_le (tgt := 110) d_M_findRanks_97 (by decide) (fun b20 => ?_) (fun b20 => ?_)
        · replace HF := HF.1 b20
          refine ab_iload 7 d_M_findRanks_110 rfl ?_
          refine ab_istore (lv' := [(7, .int x7), (0, .ref (g.2.1 + 151)), (1, .int x1), (2, .int x2), (3, .int x3), (4, .int x4), (5, .int x5), (6, .int x6), (8, .int x8)]) d_M_findRanks_112 (Nat.le_of_ble_eq_true rfl) rfl ?_
          refine ab_iinc (v := x8 + 1) (lv' := [(8, .int (x8 + 1)), (7, .int x7), (0, .ref (g.2.1 + 151)), (1, .int x1), (2, .int x2), (3, .int x3), (4, .int x4), (5, .int x5), (6, .int x6)]) 8 d_M_findRanks_114 rfl (congrArg (fun z => x8 + z) (show Int32.ofInt 1 = (1 : Int32) by decide)) (Nat.le_of_ble_eq_true rfl) rfl ?_
          refine ab_goto (tgt := 54) d_M_findRanks_117 (by decide) ?_
          refine ab_sub (lv' := [(0, .ref (g.2.1 + 151)), (1, .int x1), (2, .int x2), (3, .int x3), (4, .int x4), (5, .int x5), (6, .int x6), (7, .int x7), (8, .int (x8 + 1))]) [2, 3, 4, 5, 6, 7, 8, 1, 0] rfl ?_
          exact HF
        · replace HF := HF.2 b20
          refine ab_aload_n 0 d_M_findRanks_100 rfl rfl ?_
          refine sa_getR (r := 163) kf_M_43 d_M_findRanks_101 sh_151 rfl ?_
          refine ab_iload 8 d_M_findRanks_104 rfl ?_
          obtain ⟨c21, HF⟩ := HF
          refine sa_iald d_M_findRanks_106 sh_163 c21 ?_
          refine ab_goto (tgt := 112) d_M_findRanks_107 (by decide) ?_
          refine ab_istore (lv' := [(7, .int (S.2 163 x8.toNatClampNeg)), (0, .ref (g.2.1 + 151)), (1, .int x1), (2, .int x2), (3, .int x3), (4, .int x4), (5, .int x5), (6, .int x6), (8, .int x8)]) d_M_findRanks_112 (Nat.le_of_ble_eq_true rfl) rfl ?_
          refine ab_iinc (v := x8 + 1) (lv' := [(8, .int (x8 + 1)), (7, .int (S.2 163 x8.toNatClampNeg)), (0, .ref (g.2.1 + 151)), (1, .int x1), (2, .int x2), (3, .int x3), (4, .int x4), (5, .int x5), (6, .int x6)]) 8 d_M_findRanks_114 rfl (congrArg (fun z => x8 + z) (show Int32.ofInt 1 = (1 : Int32) by decide)) (Nat.le_of_ble_eq_true rfl) rfl ?_
          refine ab_goto (tgt := 54) d_M_findRanks_117 (by decide) ?_
          refine ab_sub (lv' := [(0, .ref (g.2.1 + 151)), (1, .int x1), (2, .int x2), (3, .int x3), (4, .int x4), (5, .int x5), (6, .int x6), (7, .int (S.2 163 x8.toNatClampNeg)), (8, .int (x8 + 1))]) [2, 3, 4, 5, 6, 7, 8, 1, 0] rfl ?_
          exact HF
set_option maxRecDepth 100000 in
theorem f_M_standOut {g : lp_G} {d : Nat} {Q : SS → Prop} {S : SS} {x1 : Int32} {x2 : Int32} {x3 : Int32} {x4 : Int32}
    (HF : AtV g um_M_standOut (d + 1) Q 6 [(0, .ref (g.2.1 + 151)), (2, .int x2), (4, .int x4), (5, .int x1), (6, .int x3)] [] S) : MtV g um_M_standOut (d + 1) [.ref (g.2.1 + 151), .int x1, .int x2, .int x3, .int x4] S Q := by
  refine sa_entryV (lv' := [(0, .ref (g.2.1 + 151)), (1, .int x1), (2, .int x2), (3, .int x3), (4, .int x4)]) (by decide +kernel) (Nat.le_of_ble_eq_true rfl) rfl ?_
  refine ab_iload_n 1 d_M_standOut_0 rfl rfl ?_
  refine ab_istore (lv' := [(5, .int x1), (0, .ref (g.2.1 + 151)), (1, .int x1), (2, .int x2), (3, .int x3), (4, .int x4)]) d_M_standOut_1 (Nat.le_of_ble_eq_true rfl) rfl ?_
  refine ab_iload_n 4 d_M_standOut_3 rfl rfl ?_
  refine ab_istore (lv' := [(6, .int x3), (5, .int x1), (0, .ref (g.2.1 + 151)), (1, .int x1), (2, .int x2), (3, .int x3), (4, .int x4)]) d_M_standOut_4 (Nat.le_of_ble_eq_true rfl) rfl ?_
  refine ab_sub (lv' := [(0, .ref (g.2.1 + 151)), (2, .int x2), (4, .int x4), (5, .int x1), (6, .int x3)]) [2, 4, 6, 1, 0] rfl ?_
  exact HF
set_option maxRecDepth 100000 in
theorem f_M_standOut_6 {g : lp_G} {d : Nat} {Q : SS → Prop} {S : SS} {x2 : Int32} {x4 : Int32} {x5 : Int32} {x6 : Int32}
    (HF : (x2 ≤ x5 → AtV g um_M_standOut (d + 1) Q 61 [(0, .ref (g.2.1 + 151)), (5, .int x5), (6, .int x6), (7, .int x2), (8, .int x4)] [] S) ∧ (¬ x2 ≤ x5 → (x4 ≤ x6 → AtV g um_M_standOut (d + 1) Q 61 [(0, .ref (g.2.1 + 151)), (5, .int x5), (6, .int x6), (7, .int x2), (8, .int x4)] [] S) ∧ (¬ x4 ≤ x6 → (vp_in x5 24) ∧ ((vp_in x6 24) ∧ ((¬ S.2 154 x5.toNatClampNeg = S.2 155 x6.toNatClampNeg → AtV g um_M_standOut (d + 1) Q 61 [(0, .ref (g.2.1 + 151)), (5, .int x5), (6, .int x6), (7, .int x2), (8, .int x4)] [] S) ∧ (S.2 154 x5.toNatClampNeg = S.2 155 x6.toNatClampNeg → (vp_in x5 24) ∧ (∀ S7 : SS, S7 = setA S 156 x5.toNatClampNeg x6 → AtV g um_M_standOut (d + 1) Q 6 [(0, .ref (g.2.1 + 151)), (2, .int x2), (4, .int x4), (5, .int (x5 + 1)), (6, .int (x6 + 1))] [] S7))))))) : AtV g um_M_standOut (d + 1) Q 6 [(0, .ref (g.2.1 + 151)), (2, .int x2), (4, .int x4), (5, .int x5), (6, .int x6)] [] S := by
  refine ab_iload 3 d_M_standOut_6 rfl ?_
  refine ab_iload_n 1 d_M_standOut_8 rfl rfl ?_
  refine ab_icmp_ge (tgt := 54) d_M_standOut_9 (by decide) (fun b1 => ?_) (fun b1 => ?_)
  · replace HF := HF.1 b1
    refine ab_iload_n 1 d_M_standOut_54 rfl rfl ?_
    refine ab_istore (lv' := [(7, .int x2), (0, .ref (g.2.1 + 151)), (2, .int x2), (4, .int x4), (5, .int x5), (6, .int x6)]) d_M_standOut_55 (Nat.le_of_ble_eq_true rfl) rfl ?_
    refine ab_iload 3 d_M_standOut_57 rfl ?_
    refine ab_istore (lv' := [(8, .int x4), (7, .int x2), (0, .ref (g.2.1 + 151)), (2, .int x2), (4, .int x4), (5, .int x5), (6, .int x6)]) d_M_standOut_59 (Nat.le_of_ble_eq_true rfl) rfl ?_
    refine ab_sub (lv' := [(0, .ref (g.2.1 + 151)), (5, .int x5), (6, .int x6), (7, .int x2), (8, .int x4)]) [2, 5, 6, 1, 0] rfl ?_
    exact HF
  · replace HF := HF.2 b1
    refine ab_iload 4 d_M_standOut_12 rfl ?_
    refine ab_iload 2 d_M_standOut_14 rfl ?_
    refine ab_icmp_ge (tgt := 54) d_M_standOut_16 (by decide) (fun b2 => ?_) (fun b2 => ?_)
    · replace HF := HF.1 b2
      refine ab_iload_n 1 d_M_standOut_54 rfl rfl ?_
      refine ab_istore (lv' := [(7, .int x2), (0, .ref (g.2.1 + 151)), (2, .int x2), (4, .int x4), (5, .int x5), (6, .int x6)]) d_M_standOut_55 (Nat.le_of_ble_eq_true rfl) rfl ?_
      refine ab_iload 3 d_M_standOut_57 rfl ?_
      refine ab_istore (lv' := [(8, .int x4), (7, .int x2), (0, .ref (g.2.1 + 151)), (2, .int x2), (4, .int x4), (5, .int x5), (6, .int x6)]) d_M_standOut_59 (Nat.le_of_ble_eq_true rfl) rfl ?_
      refine ab_sub (lv' := [(0, .ref (g.2.1 + 151)), (5, .int x5), (6, .int x6), (7, .int x2), (8, .int x4)]) [2, 5, 6, 1, 0] rfl ?_
      exact HF
    · replace HF := HF.2 b2
      refine ab_aload_n 0 d_M_standOut_19 rfl rfl ?_
      refine sa_getR (r := 154) kf_M_16 d_M_standOut_20 sh_151 rfl ?_
      refine ab_iload 3 d_M_standOut_23 rfl ?_
      obtain ⟨c3, HF⟩ := HF
      refine sa_iald d_M_standOut_25 sh_154 c3 ?_
      refine ab_aload_n 0 d_M_standOut_26 rfl rfl ?_
      refine sa_getR (r := 155) kf_M_19 d_M_standOut_27 sh_151 rfl ?_
      refine ab_iload 4 d_M_standOut_30 rfl ?_
      obtain ⟨c4, HF⟩ := HF
      refine sa_iald d_M_standOut_32 sh_155 c4 ?_
      refine ab_icmp_ne (tgt := 54) d_M_standOut_33 (by decide) (fun b5 => ?_) (fun b5 => ?_)
      · replace HF := HF.1 b5
        refine ab_iload_n 1 d_M_standOut_54 rfl rfl ?_
        refine ab_istore (lv' := [(7, .int x2), (0, .ref (g.2.1 + 151)), (2, .int x2), (4, .int x4), (5, .int x5), (6, .int x6)]) d_M_standOut_55 (Nat.le_of_ble_eq_true rfl) rfl ?_
        refine ab_iload 3 d_M_standOut_57 rfl ?_
        refine ab_istore (lv' := [(8, .int x4), (7, .int x2), (0, .ref (g.2.1 + 151)), (2, .int x2), (4, .int x4), (5, .int x5), (6, .int x6)]) d_M_standOut_59 (Nat.le_of_ble_eq_true rfl) rfl ?_
        refine ab_sub (lv' := [(0, .ref (g.2.1 + 151)), (5, .int x5), (6, .int x6), (7, .int x2), (8, .int x4)]) [2, 5, 6, 1, 0] rfl ?_
        exact HF
      · replace HF := HF.2 b5
        refine ab_aload_n 0 d_M_standOut_36 rfl rfl ?_
        refine sa_getR (r := 156) kf_M_22 d_M_standOut_37 sh_151 rfl ?_
        refine ab_iload 3 d_M_standOut_40 rfl ?_
        refine ab_iload 4 d_M_standOut_42 rfl ?_
        obtain ⟨c6, HF⟩ := HF
        refine sa_iastn d_M_standOut_44 sh_156 c6 (fun S7 hS7 => ?_)
        replace HF := HF S7 hS7
        refine ab_iinc (v := x5 + 1) (lv' := [(5, .int (x5 + 1)), (0, .ref (g.2.1 + 151)), (2, .int x2), (4, .int x4), (6, .int x6)]) 3 d_M_standOut_45 rfl (congrArg (fun z => x5 + z) (show Int32.ofInt 1 = (1 : Int32) by decide)) (Nat.le_of_ble_eq_true rfl) rfl ?_
        refine ab_iinc (v := x6 + 1) (lv' := [(6, .int (x6 + 1)), (5, .int (x5 + 1)), (0, .ref (g.2.1 + 151)), (2, .int x2), (4, .int x4)]) 4 d_M_standOut_48 rfl (congrArg (fun z => x6 + z) (show Int32.ofInt 1 = (1 : Int32) by decide)) (Nat.le_of_ble_eq_true rfl) rfl ?_
        refine ab_goto (tgt := 6) d_M_standOut_51 (by decide) ?_
        refine ab_sub (lv' := [(0, .ref (g.2.1 + 151)), (2, .int x2), (4, .int x4), (5, .int (x5 + 1)), (6, .int (x6 + 1))]) [2, 3, 4, 1, 0] rfl ?_
        exact HF
set_option maxRecDepth 100000 in
theorem f_M_standOut_61 {g : lp_G} {d : Nat} {Q : SS → Prop} {S : SS} {x5 : Int32} {x6 : Int32} {x7 : Int32} {x8 : Int32}
    (HF : (x7 ≤ x5 → MtI g um_M_findRanks d [.ref (g.2.1 + 151), .int x5, .int x7, .int x6, .int x8] S (fun r10 S9 => (¬ r10 = 0 → AtV g um_M_standOut (d + 1) Q 160 [(0, .ref (g.2.1 + 151)), (5, .int x5), (6, .int x6), (9, .int r10), (10, .int x7), (11, .int x8), (12, .int (x7 - (1 : Int32)))] [] S9) ∧ (r10 = 0 → MtV g um_M_compareShort d [.ref (g.2.1 + 151), .int x5, .int x7, .int x6, .int x8] S9 (fun S12 => Q S12)))) ∧ (¬ x7 ≤ x5 → (x8 ≤ x6 → MtI g um_M_findRanks d [.ref (g.2.1 + 151), .int x5, .int x7, .int x6, .int x8] S (fun r16 S15 => (¬ r16 = 0 → AtV g um_M_standOut (d + 1) Q 160 [(0, .ref (g.2.1 + 151)), (5, .int x5), (6, .int x6), (9, .int r16), (10, .int x7), (11, .int x8), (12, .int (x7 - (1 : Int32)))] [] S15) ∧ (r16 = 0 → MtV g um_M_compareShort d [.ref (g.2.1 + 151), .int x5, .int x7, .int x6, .int x8] S15 (fun S18 => Q S18)))) ∧ (¬ x8 ≤ x6 → (vp_in (x7 - (1 : Int32)) 24) ∧ ((vp_in (x8 - (1 : Int32)) 24) ∧ ((¬ S.2 154 (x7 - (1 : Int32)).toNatClampNeg = S.2 155 (x8 - (1 : Int32)).toNatClampNeg → MtI g um_M_findRanks d [.ref (g.2.1 + 151), .int x5, .int x7, .int x6, .int x8] S (fun r24 S23 => (¬ r24 = 0 → AtV g um_M_standOut (d + 1) Q 160 [(0, .ref (g.2.1 + 151)), (5, .int x5), (6, .int x6), (9, .int r24), (10, .int x7), (11, .int x8), (12, .int (x7 - (1 : Int32)))] [] S23) ∧ (r24 = 0 → MtV g um_M_compareShort d [.ref (g.2.1 + 151), .int x5, .int x7, .int x6, .int x8] S23 (fun S26 => Q S26)))) ∧ (S.2 154 (x7 - (1 : Int32)).toNatClampNeg = S.2 155 (x8 - (1 : Int32)).toNatClampNeg → (vp_in (x7 + (-1)) 24) ∧ (∀ S29 : SS, S29 = setA S 156 (x7 + (-1)).toNatClampNeg (x8 + (-1)) → AtV g um_M_standOut (d + 1) Q 61 [(0, .ref (g.2.1 + 151)), (5, .int x5), (6, .int x6), (7, .int (x7 + (-1))), (8, .int (x8 + (-1)))] [] S29))))))) : AtV g um_M_standOut (d + 1) Q 61 [(0, .ref (g.2.1 + 151)), (5, .int x5), (6, .int x6), (7, .int x7), (8, .int x8)] [] S := by
  refine ab_iload 3 d_M_standOut_61 rfl ?_
  refine ab_iload 1 d_M_standOut_63 rfl ?_
  refine ab_icmp_le (tgt := 114) d_M_standOut_65 (by decide) (fun b8 => ?_) (fun b8 => ?_)
  · replace HF := HF.1 b8
    refine ab_aload_n 0 d_M_standOut_114 rfl rfl ?_
    refine ab_iload 1 d_M_standOut_115 rfl ?_
    refine ab_iload 3 d_M_standOut_117 rfl ?_
    refine ab_iload 2 d_M_standOut_119 rfl ?_
    refine ab_iload 4 d_M_standOut_121 rfl ?_
    refine sa_callVi (As := [.int x5, .int x7, .int x6, .int x8]) (rest := []) kc_M_110 d_M_standOut_123 sh_151 rfl rfl rfl (Nat.le_of_ble_eq_true rfl) enV (Nat.le_of_ble_eq_true rfl) ⟨Nat.zero_le _, Nat.zero_le _⟩ HF (fun r10 S9 HF => ?_)
    refine ab_istore (lv' := [(9, .int r10), (0, .ref (g.2.1 + 151)), (5, .int x5), (6, .int x6), (7, .int x7), (8, .int x8)]) d_M_standOut_126 (Nat.le_of_ble_eq_true rfl) rfl ?_
    refine ab_iload 0 d_M_standOut_128 rfl ?_
    refine ab_if_ne (tgt := 146) d_M_standOut_130 (by decide) (fun b11 => ?_) (fun b11 => ?_)
    · replace HF := HF.1 b11
      refine ab_iload 4 d_M_standOut_146 rfl ?_
      refine ab_istore (lv' := [(10, .int x7), (9, .int r10), (0, .ref (g.2.1 + 151)), (5, .int x5), (6, .int x6), (7, .int x7), (8, .int x8)]) d_M_standOut_148 (Nat.le_of_ble_eq_true rfl) rfl ?_
      refine ab_iload 6 d_M_standOut_150 rfl ?_
      refine ab_istore (lv' := [(11, .int x8), (10, .int x7), (9, .int r10), (0, .ref (g.2.1 + 151)), (5, .int x5), (6, .int x6), (7, .int x7), (8, .int x8)]) d_M_standOut_152 (Nat.le_of_ble_eq_true rfl) rfl ?_
      refine ab_iload 6 d_M_standOut_154 rfl ?_
      refine ab_iconst (v := (1 : Int32)) d_M_standOut_156 (by decide) ?_
      refine ab_isub d_M_standOut_157 ?_
      refine ab_istore (lv' := [(12, .int (x7 - (1 : Int32))), (11, .int x8), (10, .int x7), (9, .int r10), (0, .ref (g.2.1 + 151)), (5, .int x5), (6, .int x6), (7, .int x7), (8, .int x8)]) d_M_standOut_158 (Nat.le_of_ble_eq_true rfl) rfl ?_
      refine ab_sub (lv' := [(0, .ref (g.2.1 + 151)), (5, .int x5), (6, .int x6), (9, .int r10), (10, .int x7), (11, .int x8), (12, .int (x7 - (1 : Int32)))]) [4, 5, 6, 3, 2, 1, 0] rfl ?_
      exact HF
    · replace HF := HF.2 b11
      refine ab_aload_n 1 d_M_standOut_133 rfl rfl ?_
      refine ab_iload 2 d_M_standOut_134 rfl ?_
      refine ab_iload 4 d_M_standOut_136 rfl ?_
      refine ab_iload 3 d_M_standOut_138 rfl ?_
      refine ab_iload 5 d_M_standOut_140 rfl ?_
      refine sa_callVv (As := [.int x5, .int x7, .int x6, .int x8]) (rest := []) kc_M_114 d_M_standOut_142 sh_151 rfl rfl rfl (Nat.le_of_ble_eq_true rfl) enV (Nat.le_of_ble_eq_true rfl) ⟨Nat.zero_le _, Nat.zero_le _⟩ HF (fun S12 HF => ?_)
      exact sa_ret rfl d_M_standOut_145 HF
  · replace HF := HF.2 b8
    refine ab_iload 4 d_M_standOut_68 rfl ?_
    refine ab_iload 2 d_M_standOut_70 rfl ?_
    refine ab_icmp_le (tgt := 114) d_M_standOut_72 (by decide) (fun b14 => ?_) (fun b14 => ?_)
    · replace HF := HF.1 b14
      refine ab_aload_n 0 d_M_standOut_114 rfl rfl ?_
      refine ab_iload 1 d_M_standOut_115 rfl ?_
      refine ab_iload 3 d_M_standOut_117 rfl ?_
      refine ab_iload 2 d_M_standOut_119 rfl ?_
      refine ab_iload 4 d_M_standOut_121 rfl ?_
      refine sa_callVi (As := [.int x5, .int x7, .int x6, .int x8]) (rest := []) kc_M_110 d_M_standOut_123 sh_151 rfl rfl rfl (Nat.le_of_ble_eq_true rfl) enV (Nat.le_of_ble_eq_true rfl) ⟨Nat.zero_le _, Nat.zero_le _⟩ HF (fun r16 S15 HF => ?_)
      refine ab_istore (lv' := [(9, .int r16), (0, .ref (g.2.1 + 151)), (5, .int x5), (6, .int x6), (7, .int x7), (8, .int x8)]) d_M_standOut_126 (Nat.le_of_ble_eq_true rfl) rfl ?_
      refine ab_iload 0 d_M_standOut_128 rfl ?_
      refine ab_if_ne (tgt := 146) d_M_standOut_130 (by decide) (fun b17 => ?_) (fun b17 => ?_)
      · replace HF := HF.1 b17
        refine ab_iload 4 d_M_standOut_146 rfl ?_
        refine ab_istore (lv' := [(10, .int x7), (9, .int r16), (0, .ref (g.2.1 + 151)), (5, .int x5), (6, .int x6), (7, .int x7), (8, .int x8)]) d_M_standOut_148 (Nat.le_of_ble_eq_true rfl) rfl ?_
        refine ab_iload 6 d_M_standOut_150 rfl ?_
        refine ab_istore (lv' := [(11, .int x8), (10, .int x7), (9, .int r16), (0, .ref (g.2.1 + 151)), (5, .int x5), (6, .int x6), (7, .int x7), (8, .int x8)]) d_M_standOut_152 (Nat.le_of_ble_eq_true rfl) rfl ?_
        refine ab_iload 6 d_M_standOut_154 rfl ?_
        refine ab_iconst (v := (1 : Int32)) d_M_standOut_156 (by decide) ?_
        refine ab_isub d_M_standOut_157 ?_
        refine ab_istore (lv' := [(12, .int (x7 - (1 : Int32))), (11, .int x8), (10, .int x7), (9, .int r16), (0, .ref (g.2.1 + 151)), (5, .int x5), (6, .int x6), (7, .int x7), (8, .int x8)]) d_M_standOut_158 (Nat.le_of_ble_eq_true rfl) rfl ?_
        refine ab_sub (lv' := [(0, .ref (g.2.1 + 151)), (5, .int x5), (6, .int x6), (9, .int r16), (10, .int x7), (11, .int x8), (12, .int (x7 - (1 : Int32)))]) [4, 5, 6, 3, 2, 1, 0] rfl ?_
        exact HF
      · replace HF := HF.2 b17
        refine ab_aload_n 1 d_M_standOut_133 rfl rfl ?_
        refine ab_iload 2 d_M_standOut_134 rfl ?_
        refine ab_iload 4 d_M_standOut_136 rfl ?_
        refine ab_iload 3 d_M_standOut_138 rfl ?_
        refine ab_iload 5 d_M_standOut_140 rfl ?_
        refine sa_callVv (As := [.int x5, .int x7, .int x6, .int x8]) (rest := []) kc_M_114 d_M_standOut_142 sh_151 rfl rfl rfl (Nat.le_of_ble_eq_true rfl) enV (Nat.le_of_ble_eq_true rfl) ⟨Nat.zero_le _, Nat.zero_le _⟩ HF (fun S18 HF => ?_)
        exact sa_ret rfl d_M_standOut_145 HF
    · replace HF := HF.2 b14
      refine ab_aload_n 0 d_M_standOut_75 rfl rfl ?_
      refine sa_getR (r := 154) kf_M_16 d_M_standOut_76 sh_151 rfl ?_
      refine ab_iload 3 d_M_standOut_79 rfl ?_
      refine ab_iconst (v := (1 : Int32)) d_M_standOut_81 (by decide) ?_
      refine ab_isub d_M_standOut_82 ?_
      obtain ⟨c20, HF⟩ := HF
      refine sa_iald d_M_standOut_83 sh_154 c20 ?_
      refine ab_aload_n 0 d_M_standOut_84 rfl rfl ?_
      refine sa_getR (r := 155) kf_M_19 d_M_standOut_85 sh_151 rfl ?_
      refine ab_iload 4 d_M_standOut_88 rfl ?_
      refine ab_iconst (v := (1 : Int32)) d_M_standOut_90 (by decide) ?_
      refine ab_isub d_M_standOut_91 ?_
      obtain ⟨c21, HF⟩ := HF
      refine sa_iald d_M_standOut_92 sh_155 c21 ?_
      refine ab_icmp_ne (tgt := 114) d_M_standOut_93 (by decide) (fun b22 => ?_) (fun b22 => ?_)
      · replace HF := HF.1 b22
        refine ab_aload_n 0 d_M_standOut_114 rfl rfl ?_
        refine ab_iload 1 d_M_standOut_115 rfl ?_
        refine ab_iload 3 d_M_standOut_117 rfl ?_
        refine ab_iload 2 d_M_standOut_119 rfl ?_
        refine ab_iload 4 d_M_standOut_121 rfl ?_
        refine sa_callVi (As := [.int x5, .int x7, .int x6, .int x8]) (rest := []) kc_M_110 d_M_standOut_123 sh_151 rfl rfl rfl (Nat.le_of_ble_eq_true rfl) enV (Nat.le_of_ble_eq_true rfl) ⟨Nat.zero_le _, Nat.zero_le _⟩ HF (fun r24 S23 HF => ?_)
        refine ab_istore (lv' := [(9, .int r24), (0, .ref (g.2.1 + 151)), (5, .int x5), (6, .int x6), (7, .int x7), (8, .int x8)]) d_M_standOut_126 (Nat.le_of_ble_eq_true rfl) rfl ?_
        refine ab_iload 0 d_M_standOut_128 rfl ?_
        refine ab_if_ne (tgt := 146) d_M_standOut_130 (by decide) (fun b25 => ?_) (fun b25 => ?_)
        · replace HF := HF.1 b25
          refine ab_iload 4 d_M_standOut_146 rfl ?_
          refine ab_istore (lv' := [(10, .int x7), (9, .int r24), (0, .ref (g.2.1 + 151)), (5, .int x5), (6, .int x6), (7, .int x7), (8, .int x8)]) d_M_standOut_148 (Nat.le_of_ble_eq_true rfl) rfl ?_
          refine ab_iload 6 d_M_standOut_150 rfl ?_
          refine ab_istore (lv' := [(11, .int x8), (10, .int x7), (9, .int r24), (0, .ref (g.2.1 + 151)), (5, .int x5), (6, .int x6), (7, .int x7), (8, .int x8)]) d_M_standOut_152 (Nat.le_of_ble_eq_true rfl) rfl ?_
          refine ab_iload 6 d_M_standOut_154 rfl ?_
          refine ab_iconst (v := (1 : Int32)) d_M_standOut_156 (by decide) ?_
          refine ab_isub d_M_standOut_157 ?_
          refine ab_istore (lv' := [(12, .int (x7 - (1 : Int32))), (11, .int x8), (10, .int x7), (9, .int r24), (0, .ref (g.2.1 + 151)), (5, .int x5), (6, .int x6), (7, .int x7), (8, .int x8)]) d_M_standOut_158 (Nat.le_of_ble_eq_true rfl) rfl ?_
          refine ab_sub (lv' := [(0, .ref (g.2.1 + 151)), (5, .int x5), (6, .int x6), (9, .int r24), (10, .int x7), (11, .int x8), (12, .int (x7 - (1 : Int32)))]) [4, 5, 6, 3, 2, 1, 0] rfl ?_
          exact HF
        · replace HF := HF.2 b25
          refine ab_aload_n 1 d_M_standOut_133 rfl rfl ?_
          refine ab_iload 2 d_M_standOut_134 rfl ?_
          refine ab_iload 4 d_M_standOut_136 rfl ?_
          refine ab_iload 3 d_M_standOut_138 rfl ?_
          refine ab_iload 5 d_M_standOut_140 rfl ?_
          refine sa_callVv (As := [.int x5, .int x7, .int x6, .int x8]) (rest := []) kc_M_114 d_M_standOut_142 sh_151 rfl rfl rfl (Nat.le_of_ble_eq_true rfl) enV (Nat.le_of_ble_eq_true rfl) ⟨Nat.zero_le _, Nat.zero_le _⟩ HF (fun S26 HF => ?_)
          exact sa_ret rfl d_M_standOut_145 HF
      · replace HF := HF.2 b22
        refine ab_iinc (v := x7 + (-1)) (lv' := [(7, .int (x7 + (-1))), (0, .ref (g.2.1 + 151)), (5, .int x5), (6, .int x6), (8, .int x8)]) 3 d_M_standOut_96 rfl (congrArg (fun z => x7 + z) (show Int32.ofInt (-1) = (-1 : Int32) by decide)) (Nat.le_of_ble_eq_true rfl) rfl ?_
        refine ab_iinc (v := x8 + (-1)) (lv' := [(8, .int (x8 + (-1))), (7, .int (x7 + (-1))), (0, .ref (g.2.1 + 151)), (5, .int x5), (6, .int x6)]) 4 d_M_standOut_99 rfl (congrArg (fun z => x8 + z) (show Int32.ofInt (-1) = (-1 : Int32) by decide)) (Nat.le_of_ble_eq_true rfl) rfl ?_
        refine ab_aload_n 2 d_M_standOut_102 rfl rfl ?_
        refine sa_getR (r := 156) kf_M_22 d_M_standOut_103 sh_151 rfl ?_
        refine ab_iload 1 d_M_standOut_106 rfl ?_
        refine ab_iload 0 d_M_standOut_108 rfl ?_
        obtain ⟨c28, HF⟩ := HF
        refine sa_iastn d_M_standOut_110 sh_156 c28 (fun S29 hS29 => ?_)
        replace HF := HF S29 hS29
        refine ab_goto (tgt := 61) d_M_standOut_111 (by decide) ?_
        refine ab_sub (lv' := [(0, .ref (g.2.1 + 151)), (5, .int x5), (6, .int x6), (7, .int (x7 + (-1))), (8, .int (x8 + (-1)))]) [2, 3, 4, 1, 0] rfl ?_
        exact HF
set_option maxRecDepth 100000 in
theorem f_M_standOut_160 {g : lp_G} {d : Nat} {Q : SS → Prop} {S : SS} {x5 : Int32} {x6 : Int32} {x9 : Int32} {x10 : Int32} {x11 : Int32} {x12 : Int32}
    (HF : (x12 < x5 → MtV g um_M_await d [.ref (g.2.1 + 151), .int x5, .int x10, .int x6, .int x11] S (fun S31 => Q S31)) ∧ (¬ x12 < x5 → (vp_in x12 24) ∧ ((¬ S.2 163 x12.toNatClampNeg = x9 → AtV g um_M_standOut (d + 1) Q 160 [(0, .ref (g.2.1 + 151)), (5, .int x5), (6, .int x6), (9, .int x9), (10, .int x10), (11, .int x11), (12, .int (x12 + (-1)))] [] S) ∧ (S.2 163 x12.toNatClampNeg = x9 → (x9 ≤ 0 → AtV g um_M_standOut (d + 1) Q 160 [(0, .ref (g.2.1 + 151)), (5, .int x5), (6, .int x6), (9, .int x9), (10, .int x10), (11, .int x11), (12, .int (x12 + (-1)))] [] S) ∧ (¬ x9 ≤ 0 → (vp_in x12 24) ∧ ((vp_in x12 24) ∧ (∀ S38 : SS, S38 = setA S 156 x12.toNatClampNeg (S.2 162 x12.toNatClampNeg) → (vp_in x12 24) ∧ (MtV g um_M_await d [.ref (g.2.1 + 151), .int (x12 + (1 : Int32)), .int x10, .int ((S38.2 162 x12.toNatClampNeg) + (1 : Int32)), .int x11] S38 (fun S40 => (vp_in x12 24) ∧ (AtV g um_M_standOut (d + 1) Q 160 [(0, .ref (g.2.1 + 151)), (5, .int x5), (6, .int x6), (9, .int (x9 + (-1))), (10, .int x12), (11, .int (S40.2 162 x12.toNatClampNeg)), (12, .int (x12 + (-1)))] [] S40)))))))))) : AtV g um_M_standOut (d + 1) Q 160 [(0, .ref (g.2.1 + 151)), (5, .int x5), (6, .int x6), (9, .int x9), (10, .int x10), (11, .int x11), (12, .int x12)] [] S := by
  refine ab_iload 6 d_M_standOut_160 rfl ?_
  refine ab_iload 1 d_M_standOut_162 rfl ?_
  refine ab_icmp_lt (tgt := 241) d_M_standOut_164 (by decide) (fun b30 => ?_) (fun b30 => ?_)
  · replace HF := HF.1 b30
    refine ab_aload_n 0 d_M_standOut_241 rfl rfl ?_
    refine ab_iload 1 d_M_standOut_242 rfl ?_
    refine ab_iload 4 d_M_standOut_244 rfl ?_
    refine ab_iload 2 d_M_standOut_246 rfl ?_
    refine ab_iload 5 d_M_standOut_248 rfl ?_
    refine sa_callVv (As := [.int x5, .int x10, .int x6, .int x11]) (rest := []) kc_M_118 d_M_standOut_250 sh_151 rfl rfl rfl (Nat.le_of_ble_eq_true rfl) enV (Nat.le_of_ble_eq_true rfl) ⟨Nat.zero_le _, Nat.zero_le _⟩ HF (fun S31 HF => ?_)
    exact sa_ret rfl d_M_standOut_253 HF
  · replace HF := HF.2 b30
    refine ab_aload_n 0 d_M_standOut_167 rfl rfl ?_
    refine sa_getR (r := 163) kf_M_43 d_M_standOut_168 sh_151 rfl ?_
    refine ab_iload 6 d_M_standOut_171 rfl ?_
    obtain ⟨c33, HF⟩ := HF
    refine sa_iald d_M_standOut_173 sh_163 c33 ?_
    refine ab_iload 3 d_M_standOut_174 rfl ?_
    refine ab_icmp_ne (tgt := 235) d_M_standOut_176 (by decide) (fun b34 => ?_) (fun b34 => ?_)
    · replace HF := HF.1 b34
      refine ab_iinc (v := x12 + (-1)) (lv' := [(12, .int (x12 + (-1))), (0, .ref (g.2.1 + 151)), (5, .int x5), (6, .int x6), (9, .int x9), (10, .int x10), (11, .int x11)]) 6 d_M_standOut_235 rfl (congrArg (fun z => x12 + z) (show Int32.ofInt (-1) = (-1 : Int32) by decide)) (Nat.le_of_ble_eq_true rfl) rfl ?_
      refine ab_goto (tgt := 160) d_M_standOut_238 (by decide) ?_
      refine ab_sub (lv' := [(0, .ref (g.2.1 + 151)), (5, .int x5), (6, .int x6), (9, .int x9), (10, .int x10), (11, .int x11), (12, .int (x12 + (-1)))]) [1, 2, 3, 4, 5, 6, 0] rfl ?_
      exact HF
    · replace HF := HF.2 b34
      refine ab_iload 3 d_M_standOut_179 rfl ?_
      refine ab_if_le (tgt := 235) d_M_standOut_181 (by decide) (fun b35 => ?_) (fun b35 => ?_)
      · replace HF := HF.1 b35
        refine ab_iinc (v := x12 + (-1)) (lv' := [(12, .int (x12 + (-1))), (0, .ref (g.2.1 + 151)), (5, .int x5), (6, .int x6), (9, .int x9), (10, .int x10), (11, .int x11)]) 6 d_M_standOut_235 rfl (congrArg (fun z => x12 + z) (show Int32.ofInt (-1) = (-1 : Int32) by decide)) (Nat.le_of_ble_eq_true rfl) rfl ?_
        refine ab_goto (tgt := 160) d_M_standOut_238 (by decide) ?_
        refine ab_sub (lv' := [(0, .ref (g.2.1 + 151)), (5, .int x5), (6, .int x6), (9, .int x9), (10, .int x10), (11, .int x11), (12, .int (x12 + (-1)))]) [1, 2, 3, 4, 5, 6, 0] rfl ?_
        exact HF
      · replace HF := HF.2 b35
        refine ab_aload_n 0 d_M_standOut_184 rfl rfl ?_
        refine sa_getR (r := 156) kf_M_22 d_M_standOut_185 sh_151 rfl ?_
        refine ab_iload 6 d_M_standOut_188 rfl ?_
        refine ab_aload_n 0 d_M_standOut_190 rfl rfl ?_
        refine sa_getR (r := 162) kf_M_40 d_M_standOut_191 sh_151 rfl ?_
        refine ab_iload 6 d_M_standOut_194 rfl ?_
        obtain ⟨c36, HF⟩ := HF
        refine sa_iald d_M_standOut_196 sh_162 c36 ?_
        obtain ⟨c37, HF⟩ := HF
        refine sa_iastn d_M_standOut_197 sh_156 c37 (fun S38 hS38 => ?_)
        replace HF := HF S38 hS38
        refine ab_aload_n 0 d_M_standOut_198 rfl rfl ?_
        refine ab_iload 6 d_M_standOut_199 rfl ?_
        refine ab_iconst (v := (1 : Int32)) d_M_standOut_201 (by decide) ?_
        refine ab_iadd d_M_standOut_202 ?_
        refine ab_iload 4 d_M_standOut_203 rfl ?_
        refine ab_aload_n 0 d_M_standOut_205 rfl rfl ?_
        refine sa_getR (r := 162) kf_M_40 d_M_standOut_206 sh_151 rfl ?_
        refine ab_iload 6 d_M_standOut_209 rfl ?_
        obtain ⟨c39, HF⟩ := HF
        refine sa_iald d_M_standOut_211 sh_162 c39 ?_
        refine ab_iconst (v := (1 : Int32)) d_M_standOut_212 (by decide) ?_
        refine ab_iadd d_M_standOut_213 ?_
        refine ab_iload 5 d_M_standOut_214 rfl ?_
        refine sa_callVv (As := [.int (x12 + (1 : Int32)), .int x10, .int ((S38.2 162 x12.toNatClampNeg) + (1 : Int32)), .int x11]) (rest := []) kc_M_118 d_M_standOut_216 sh_151 rfl rfl rfl (Nat.le_of_ble_eq_true rfl) enV (Nat.le_of_ble_eq_true rfl) ⟨Nat.zero_le _, Nat.zero_le _⟩ HF (fun S40 HF => ?_)
        refine ab_iload 6 d_M_standOut_219 rfl ?_
        refine ab_istore (lv' := [(10, .int x12), (0, .ref (g.2.1 + 151)), (5, .int x5), (6, .int x6), (9, .int x9), (11, .int x11), (12, .int x12)]) d_M_standOut_221 (Nat.le_of_ble_eq_true rfl) rfl ?_
        refine ab_aload_n 1 d_M_standOut_223 rfl rfl ?_
        refine sa_getR (r := 162) kf_M_40 d_M_standOut_224 sh_151 rfl ?_
        refine ab_iload 6 d_M_standOut_227 rfl ?_
        obtain ⟨c42, HF⟩ := HF
        refine sa_iald d_M_standOut_229 sh_162 c42 ?_
        refine ab_istore (lv' := [(11, .int (S40.2 162 x12.toNatClampNeg)), (10, .int x12), (0, .ref (g.2.1 + 151)), (5, .int x5), (6, .int x6), (9, .int x9), (12, .int x12)]) d_M_standOut_230 (Nat.le_of_ble_eq_true rfl) rfl ?_
        refine ab_iinc (v := x9 + (-1)) (lv' := [(9, .int (x9 + (-1))), (11, .int (S40.2 162 x12.toNatClampNeg)), (10, .int x12), (0, .ref (g.2.1 + 151)), (5, .int x5), (6, .int x6), (12, .int x12)]) 5 d_M_standOut_232 rfl (congrArg (fun z => x9 + z) (show Int32.ofInt (-1) = (-1 : Int32) by decide)) (Nat.le_of_ble_eq_true rfl) rfl ?_
        refine ab_iinc (v := x12 + (-1)) (lv' := [(12, .int (x12 + (-1))), (9, .int (x9 + (-1))), (11, .int (S40.2 162 x12.toNatClampNeg)), (10, .int x12), (0, .ref (g.2.1 + 151)), (5, .int x5), (6, .int x6)]) 6 d_M_standOut_235 rfl (congrArg (fun z => x12 + z) (show Int32.ofInt (-1) = (-1 : Int32) by decide)) (Nat.le_of_ble_eq_true rfl) rfl ?_
        refine ab_goto (tgt := 160) d_M_standOut_238 (by decide) ?_
        refine ab_sub (lv' := [(0, .ref (g.2.1 + 151)), (5, .int x5), (6, .int x6), (9, .int (x9 + (-1))), (10, .int x12), (11, .int (S40.2 162 x12.toNatClampNeg)), (12, .int (x12 + (-1)))]) [4, 5, 6, 1, 3, 2, 0] rfl ?_
        exact HF
set_option maxRecDepth 100000 in
theorem f_M_compareAll {g : lp_G} {d : Nat} {Q : SS → Prop} {S : SS} {x1 : Int32}
    (HF : (¬ x1 = 0 → ∀ S2 : SS, S2 = setI S 151 8 (0 : Int32) → MtV g um_M_await d [.ref (g.2.1 + 151), .int (0 : Int32), .int (S2.1 151 2), .int (0 : Int32), .int (S2.1 151 3)] S2 (fun S3 => AtV g um_M_compareAll (d + 1) Q 38 [(0, .ref (g.2.1 + 151))] [] S3)) ∧ (x1 = 0 → MtV g um_M_compareShort d [.ref (g.2.1 + 151), .int (0 : Int32), .int (S.1 151 2), .int (0 : Int32), .int (S.1 151 3)] S (fun S5 => Q S5))) : MtV g um_M_compareAll (d + 1) [.ref (g.2.1 + 151), .int x1] S Q := by
  refine sa_entryV (lv' := [(0, .ref (g.2.1 + 151)), (1, .int x1)]) (by decide +kernel) (Nat.le_of_ble_eq_true rfl) rfl ?_
  refine ab_iload_n 1 d_M_compareAll_0 rfl rfl ?_
  refine ab_if_ne (tgt := 19) d_M_compareAll_1 (by decide) (fun b1 => ?_) (fun b1 => ?_)
  · replace HF := HF.1 b1
    refine ab_aload_n 0 d_M_compareAll_19 rfl rfl ?_
    refine ab_iconst (v := (0 : Int32)) d_M_compareAll_20 (by decide) ?_
    refine sa_putIn kp_M_103 d_M_compareAll_21 sh_151 rfl (fun S2 hS2 => ?_)
    replace HF := HF S2 hS2
    refine ab_aload_n 0 d_M_compareAll_24 rfl rfl ?_
    refine ab_iconst (v := (0 : Int32)) d_M_compareAll_25 (by decide) ?_
    refine ab_aload_n 0 d_M_compareAll_26 rfl rfl ?_
    refine sa_getI kf_M_96 d_M_compareAll_27 sh_151 rfl ?_
    refine ab_iconst (v := (0 : Int32)) d_M_compareAll_30 (by decide) ?_
    refine ab_aload_n 0 d_M_compareAll_31 rfl rfl ?_
    refine sa_getI kf_M_100 d_M_compareAll_32 sh_151 rfl ?_
    refine sa_callVv (As := [.int (0 : Int32), .int (S2.1 151 2), .int (0 : Int32), .int (S2.1 151 3)]) (rest := []) kc_M_118 d_M_compareAll_35 sh_151 rfl rfl rfl (Nat.le_of_ble_eq_true rfl) enV (Nat.le_of_ble_eq_true rfl) ⟨Nat.zero_le _, Nat.zero_le _⟩ HF (fun S3 HF => ?_)
    refine ab_sub (lv' := [(0, .ref (g.2.1 + 151))]) [0] rfl ?_
    exact HF
  · replace HF := HF.2 b1
    refine ab_aload_n 0 d_M_compareAll_4 rfl rfl ?_
    refine ab_iconst (v := (0 : Int32)) d_M_compareAll_5 (by decide) ?_
    refine ab_aload_n 0 d_M_compareAll_6 rfl rfl ?_
    refine sa_getI kf_M_96 d_M_compareAll_7 sh_151 rfl ?_
    refine ab_iconst (v := (0 : Int32)) d_M_compareAll_10 (by decide) ?_
    refine ab_aload_n 0 d_M_compareAll_11 rfl rfl ?_
    refine sa_getI kf_M_100 d_M_compareAll_12 sh_151 rfl ?_
    refine sa_callVv (As := [.int (0 : Int32), .int (S.1 151 2), .int (0 : Int32), .int (S.1 151 3)]) (rest := []) kc_M_114 d_M_compareAll_15 sh_151 rfl rfl rfl (Nat.le_of_ble_eq_true rfl) enV (Nat.le_of_ble_eq_true rfl) ⟨Nat.zero_le _, Nat.zero_le _⟩ HF (fun S5 HF => ?_)
    exact sa_ret rfl d_M_compareAll_18 HF
set_option maxRecDepth 100000 in
theorem f_M_compareAll_38 {g : lp_G} {d : Nat} {Q : SS → Prop} {S : SS} 
    (HF : (S.1 151 8 ≤ 0 → Q S) ∧ (¬ S.1 151 8 ≤ 0 → ∀ S8 : SS, S8 = setI S 151 8 ((S.1 151 8) - (1 : Int32)) → (vp_in (S8.1 151 8) 60) ∧ ((vp_in (S8.1 151 8) 60) ∧ ((vp_in (S8.1 151 8) 60) ∧ ((vp_in (S8.1 151 8) 60) ∧ (MtV g um_M_standOut d [.ref (g.2.1 + 151), .int (S8.2 158 (S8.1 151 8).toNatClampNeg), .int (S8.2 159 (S8.1 151 8).toNatClampNeg), .int (S8.2 160 (S8.1 151 8).toNatClampNeg), .int (S8.2 161 (S8.1 151 8).toNatClampNeg)] S8 (fun S13 => AtV g um_M_compareAll (d + 1) Q 38 [(0, .ref (g.2.1 + 151))] [] S13))))))) : AtV g um_M_compareAll (d + 1) Q 38 [(0, .ref (g.2.1 + 151))] [] S := by
  refine ab_aload_n 0 d_M_compareAll_38 rfl rfl ?_
  refine sa_getI kf_M_103 d_M_compareAll_39 sh_151 rfl ?_
  refine ab_if_le (tgt := 98) d_M_compareAll_42 (by decide) (fun b7 => ?_) (fun b7 => ?_)
  · replace HF := HF.1 b7
    exact sa_ret rfl d_M_compareAll_98 HF
  · replace HF := HF.2 b7
    refine ab_aload_n 0 d_M_compareAll_45 rfl rfl ?_
    refine ab_dup d_M_compareAll_46 rfl ?_
    refine sa_getI kf_M_103 d_M_compareAll_47 sh_151 rfl ?_
    refine ab_iconst (v := (1 : Int32)) d_M_compareAll_50 (by decide) ?_
    refine ab_isub d_M_compareAll_51 ?_
    refine sa_putIn kp_M_103 d_M_compareAll_52 sh_151 rfl (fun S8 hS8 => ?_)
    replace HF := HF S8 hS8
    refine ab_aload_n 0 d_M_compareAll_55 rfl rfl ?_
    refine ab_aload_n 0 d_M_compareAll_56 rfl rfl ?_
    refine sa_getR (r := 158) kf_M_28 d_M_compareAll_57 sh_151 rfl ?_
    refine ab_aload_n 0 d_M_compareAll_60 rfl rfl ?_
    refine sa_getI kf_M_103 d_M_compareAll_61 sh_151 rfl ?_
    obtain ⟨c9, HF⟩ := HF
    refine sa_iald d_M_compareAll_64 sh_158 c9 ?_
    refine ab_aload_n 0 d_M_compareAll_65 rfl rfl ?_
    refine sa_getR (r := 159) kf_M_31 d_M_compareAll_66 sh_151 rfl ?_
    refine ab_aload_n 0 d_M_compareAll_69 rfl rfl ?_
    refine sa_getI kf_M_103 d_M_compareAll_70 sh_151 rfl ?_
    obtain ⟨c10, HF⟩ := HF
    refine sa_iald d_M_compareAll_73 sh_159 c10 ?_
    refine ab_aload_n 0 d_M_compareAll_74 rfl rfl ?_
    refine sa_getR (r := 160) kf_M_34 d_M_compareAll_75 sh_151 rfl ?_
    refine ab_aload_n 0 d_M_compareAll_78 rfl rfl ?_
    refine sa_getI kf_M_103 d_M_compareAll_79 sh_151 rfl ?_
    obtain ⟨c11, HF⟩ := HF
    refine sa_iald d_M_compareAll_82 sh_160 c11 ?_
    refine ab_aload_n 0 d_M_compareAll_83 rfl rfl ?_
    refine sa_getR (r := 161) kf_M_37 d_M_compareAll_84 sh_151 rfl ?_
    refine ab_aload_n 0 d_M_compareAll_87 rfl rfl ?_
    refine sa_getI kf_M_103 d_M_compareAll_88 sh_151 rfl ?_
    obtain ⟨c12, HF⟩ := HF
    refine sa_iald d_M_compareAll_91 sh_161 c12 ?_
    refine sa_callVv (As := [.int (S8.2 158 (S8.1 151 8).toNatClampNeg), .int (S8.2 159 (S8.1 151 8).toNatClampNeg), .int (S8.2 160 (S8.1 151 8).toNatClampNeg), .int (S8.2 161 (S8.1 151 8).toNatClampNeg)]) (rest := []) kc_M_121 d_M_compareAll_92 sh_151 rfl rfl rfl (Nat.le_of_ble_eq_true rfl) enV (Nat.le_of_ble_eq_true rfl) ⟨Nat.zero_le _, Nat.zero_le _⟩ HF (fun S13 HF => ?_)
    refine ab_goto (tgt := 38) d_M_compareAll_95 (by decide) ?_
    exact HF
set_option maxRecDepth 100000 in
theorem f_M_compare {g : lp_G} {d : Nat} {Q : Int32 → SS → Prop} {S : SS} {x1 : Int32} {x2 : Int32} {x3 : Int32}
    (HF : MtI g um_M_within d [.int x1, .int (0 : Int32), .int (nI 3)] S (fun r2 S1 => (r2 = 0 → Q (-1 : Int32) S1) ∧ (¬ r2 = 0 → MtI g um_M_within d [.int x2, .int (0 : Int32), .int (nI 3)] S1 (fun r5 S4 => (r5 = 0 → Q (-1 : Int32) S4) ∧ (¬ r5 = 0 → MtI g um_M_within d [.int x3, .int (0 : Int32), .int (1 : Int32)] S4 (fun r8 S7 => (¬ r8 = 0 → MtI g um_M_allLetters d [.ref (g.2.1 + 151), .int x1] S7 (fun r11 S10 => (r11 = 0 → Q (-3 : Int32) S10) ∧ (¬ r11 = 0 → MtI g um_M_allLetters d [.ref (g.2.1 + 151), .int x2] S10 (fun r14 S13 => (¬ r14 = 0 → MtV g um_M_take d [.ref (g.2.1 + 151), .int x1, .int x2] S13 (fun S16 => MtV g um_M_compareAll d [.ref (g.2.1 + 151), .int x3] S16 (fun S18 => ∀ S20 : SS, S20 = setI S18 151 15 (1 : Int32) → ∀ S21 : SS, S21 = setI S20 151 16 (S20.1 151 2) → ∀ S22 : SS, S22 = setI S21 151 17 (S21.1 151 3) → AtI g um_M_compare (d + 1) Q 86 [(0, .ref (g.2.1 + 151)), (4, .int (0 : Int32)), (5, .int (0 : Int32))] [] S22))) ∧ (r14 = 0 → Q (-3 : Int32) S13))))) ∧ (r8 = 0 → Q (-1 : Int32) S7))))))) : MtI g um_M_compare (d + 1) [.ref (g.2.1 + 151), .int x1, .int x2, .int x3] S Q := by
  refine sa_entryI (lv' := [(0, .ref (g.2.1 + 151)), (1, .int x1), (2, .int x2), (3, .int x3)]) (by decide +kernel) (Nat.le_of_ble_eq_true rfl) rfl ?_
  refine ab_iload_n 1 d_M_compare_0 rfl rfl ?_
  refine ab_iconst (v := (0 : Int32)) d_M_compare_1 (by decide) ?_
  refine ab_iconst (v := nI 3) d_M_compare_2 (by decide) ?_
  refine sa_callSi (As := [.int x1, .int (0 : Int32), .int (nI 3)]) (rest := []) kc_M_88 d_M_compare_3 rfl (Nat.le_of_ble_eq_true rfl) enI (Nat.le_of_ble_eq_true rfl) ⟨Nat.zero_le _, Nat.zero_le _⟩ HF (fun r2 S1 HF => ?_)
  refine ab_if_eq (tgt := 27) d_M_compare_6 (by decide) (fun b3 => ?_) (fun b3 => ?_)
  · replace HF := HF.1 b3
    refine ab_iconst (v := (-1 : Int32)) d_M_compare_27 (by decide) ?_
    exact sa_iretI rfl d_M_compare_28 HF
  · replace HF := HF.2 b3
    refine ab_iload_n 2 d_M_compare_9 rfl rfl ?_
    refine ab_iconst (v := (0 : Int32)) d_M_compare_10 (by decide) ?_
    refine ab_iconst (v := nI 3) d_M_compare_11 (by decide) ?_
    refine sa_callSi (As := [.int x2, .int (0 : Int32), .int (nI 3)]) (rest := []) kc_M_88 d_M_compare_12 rfl (Nat.le_of_ble_eq_true rfl) enI (Nat.le_of_ble_eq_true rfl) ⟨Nat.zero_le _, Nat.zero_le _⟩ HF (fun r5 S4 HF => ?_)
    refine ab_if_eq (tgt := 27) d_M_compare_15 (by decide) (fun b6 => ?_) (fun b6 => ?_)
    · replace HF := HF.1 b6
      refine ab_iconst (v := (-1 : Int32)) d_M_compare_27 (by decide) ?_
      exact sa_iretI rfl d_M_compare_28 HF
    · replace HF := HF.2 b6
      refine ab_iload_n 3 d_M_compare_18 rfl rfl ?_
      refine ab_iconst (v := (0 : Int32)) d_M_compare_19 (by decide) ?_
      refine ab_iconst (v := (1 : Int32)) d_M_compare_20 (by decide) ?_
      refine sa_callSi (As := [.int x3, .int (0 : Int32), .int (1 : Int32)]) (rest := []) kc_M_88 d_M_compare_21 rfl (Nat.le_of_ble_eq_true rfl) enI (Nat.le_of_ble_eq_true rfl) ⟨Nat.zero_le _, Nat.zero_le _⟩ HF (fun r8 S7 HF => ?_)
      refine ab_if_ne (tgt := 29) d_M_compare_24 (by decide) (fun b9 => ?_) (fun b9 => ?_)
      · replace HF := HF.1 b9
        refine ab_aload_n 0 d_M_compare_29 rfl rfl ?_
        refine ab_iload_n 1 d_M_compare_30 rfl rfl ?_
        refine sa_callVi (As := [.int x1]) (rest := []) kc_M_124 d_M_compare_31 sh_151 rfl rfl rfl (Nat.le_of_ble_eq_true rfl) enI (Nat.le_of_ble_eq_true rfl) ⟨Nat.zero_le _, Nat.zero_le _⟩ HF (fun r11 S10 HF => ?_)
        refine ab_if_eq (tgt := 45) d_M_compare_34 (by decide) (fun b12 => ?_) (fun b12 => ?_)
        · replace HF := HF.1 b12
          refine ab_bipush (v := (-3 : Int32)) d_M_compare_45 (by decide) ?_
          exact sa_iretI rfl d_M_compare_47 HF
        · replace HF := HF.2 b12
          refine ab_aload_n 0 d_M_compare_37 rfl rfl ?_
          refine ab_iload_n 2 d_M_compare_38 rfl rfl ?_
          refine sa_callVi (As := [.int x2]) (rest := []) kc_M_124 d_M_compare_39 sh_151 rfl rfl rfl (Nat.le_of_ble_eq_true rfl) enI (Nat.le_of_ble_eq_true rfl) ⟨Nat.zero_le _, Nat.zero_le _⟩ HF (fun r14 S13 HF => ?_)
          refine ab_if_ne (tgt := 48) d_M_compare_42 (by decide) (fun b15 => ?_) (fun b15 => ?_)
          · replace HF := HF.1 b15
            refine ab_aload_n 0 d_M_compare_48 rfl rfl ?_
            refine ab_iload_n 1 d_M_compare_49 rfl rfl ?_
            refine ab_iload_n 2 d_M_compare_50 rfl rfl ?_
            refine sa_callVv (As := [.int x1, .int x2]) (rest := []) kc_M_127 d_M_compare_51 sh_151 rfl rfl rfl (Nat.le_of_ble_eq_true rfl) enI (Nat.le_of_ble_eq_true rfl) ⟨Nat.zero_le _, Nat.zero_le _⟩ HF (fun S16 HF => ?_)
            refine ab_aload_n 0 d_M_compare_54 rfl rfl ?_
            refine ab_iload_n 3 d_M_compare_55 rfl rfl ?_
            refine sa_callVv (As := [.int x3]) (rest := []) kc_M_131 d_M_compare_56 sh_151 rfl rfl rfl (Nat.le_of_ble_eq_true rfl) enI (Nat.le_of_ble_eq_true rfl) ⟨Nat.zero_le _, Nat.zero_le _⟩ HF (fun S18 HF => ?_)
            refine ab_aload_n 0 d_M_compare_59 rfl rfl ?_
            refine ab_iconst (v := (1 : Int32)) d_M_compare_60 (by decide) ?_
            refine sa_putZn kp_M_135 d_M_compare_61 sh_151 rfl isB_1 (fun S20 hS20 => ?_)
            replace HF := HF S20 hS20
            refine ab_aload_n 0 d_M_compare_64 rfl rfl ?_
            refine ab_aload_n 0 d_M_compare_65 rfl rfl ?_
            refine sa_getI kf_M_96 d_M_compare_66 sh_151 rfl ?_
            refine sa_putIn kp_M_139 d_M_compare_69 sh_151 rfl (fun S21 hS21 => ?_)
            replace HF := HF S21 hS21
            refine ab_aload_n 0 d_M_compare_72 rfl rfl ?_
            refine ab_aload_n 0 d_M_compare_73 rfl rfl ?_
            refine sa_getI kf_M_100 d_M_compare_74 sh_151 rfl ?_
            refine sa_putIn kp_M_142 d_M_compare_77 sh_151 rfl (fun S22 hS22 => ?_)
            replace HF := HF S22 hS22
            refine ab_iconst (v := (0 : Int32)) d_M_compare_80 (by decide) ?_
            refine ab_istore (lv' := [(4, .int (0 : Int32)), (0, .ref (g.2.1 + 151)), (1, .int x1), (2, .int x2), (3, .int x3)]) d_M_compare_81 (Nat.le_of_ble_eq_true rfl) rfl ?_
            refine ab_iconst (v := (0 : Int32)) d_M_compare_83 (by decide) ?_
            refine ab_istore (lv' := [(5, .int (0 : Int32)), (4, .int (0 : Int32)), (0, .ref (g.2.1 + 151)), (1, .int x1), (2, .int x2), (3, .int x3)]) d_M_compare_84 (Nat.le_of_ble_eq_true rfl) rfl ?_
            refine ab_sub (lv' := [(0, .ref (g.2.1 + 151)), (4, .int (0 : Int32)), (5, .int (0 : Int32))]) [2, 1, 0] rfl ?_
            exact HF
          · replace HF := HF.2 b15
            refine ab_bipush (v := (-3 : Int32)) d_M_compare_45 (by decide) ?_
            exact sa_iretI rfl d_M_compare_47 HF
      · replace HF := HF.2 b9
        refine ab_iconst (v := (-1 : Int32)) d_M_compare_27 (by decide) ?_
        exact sa_iretI rfl d_M_compare_28 HF
set_option maxRecDepth 100000 in
theorem f_M_compare_86 {g : lp_G} {d : Nat} {Q : Int32 → SS → Prop} {S : SS} {x4 : Int32} {x5 : Int32}
    (HF : (S.1 151 2 ≤ x5 → AtI g um_M_compare (d + 1) Q 153 [(0, .ref (g.2.1 + 151)), (4, .int x4), (5, .int (0 : Int32))] [] S) ∧ (¬ S.1 151 2 ≤ x5 → (vp_in x5 24) ∧ ((vp_in x5 24) ∧ (∀ S26 : SS, S26 = setA S 164 x5.toNatClampNeg (S.2 154 x5.toNatClampNeg) → (vp_in x5 24) ∧ ((vp_in x5 24) ∧ (∀ S29 : SS, S29 = setA S26 166 x5.toNatClampNeg (S26.2 156 x5.toNatClampNeg) → (vp_in x5 24) ∧ ((S29.2 156 x5.toNatClampNeg < 0 → AtI g um_M_compare (d + 1) Q 86 [(0, .ref (g.2.1 + 151)), (4, .int x4), (5, .int (x5 + 1))] [] S29) ∧ (¬ S29.2 156 x5.toNatClampNeg < 0 → AtI g um_M_compare (d + 1) Q 86 [(0, .ref (g.2.1 + 151)), (4, .int (x4 + (1 : Int32))), (5, .int (x5 + 1))] [] S29)))))))) : AtI g um_M_compare (d + 1) Q 86 [(0, .ref (g.2.1 + 151)), (4, .int x4), (5, .int x5)] [] S := by
  refine ab_iload 2 d_M_compare_86 rfl ?_
  refine ab_aload_n 0 d_M_compare_88 rfl rfl ?_
  refine sa_getI kf_M_96 d_M_compare_89 sh_151 rfl ?_
  refine ab_icmp_ge (tgt := 150) d_M_compare_92 (by decide) (fun b23 => ?_) (fun b23 => ?_)
  · replace HF := HF.1 b23
    refine ab_iconst (v := (0 : Int32)) d_M_compare_150 (by decide) ?_
    refine ab_istore (lv' := [(5, .int (0 : Int32)), (0, .ref (g.2.1 + 151)), (4, .int x4)]) d_M_compare_151 (Nat.le_of_ble_eq_true rfl) rfl ?_
    refine ab_sub (lv' := [(0, .ref (g.2.1 + 151)), (4, .int x4), (5, .int (0 : Int32))]) [1, 2, 0] rfl ?_
    exact HF
  · replace HF := HF.2 b23
    refine ab_aload_n 0 d_M_compare_95 rfl rfl ?_
    refine sa_getR (r := 164) kf_M_46 d_M_compare_96 sh_151 rfl ?_
    refine ab_iload 2 d_M_compare_99 rfl ?_
    refine ab_aload_n 0 d_M_compare_101 rfl rfl ?_
    refine sa_getR (r := 154) kf_M_16 d_M_compare_102 sh_151 rfl ?_
    refine ab_iload 2 d_M_compare_105 rfl ?_
    obtain ⟨c24, HF⟩ := HF
    refine sa_iald d_M_compare_107 sh_154 c24 ?_
    obtain ⟨c25, HF⟩ := HF
    refine sa_iastn d_M_compare_108 sh_164 c25 (fun S26 hS26 => ?_)
    replace HF := HF S26 hS26
    refine ab_aload_n 0 d_M_compare_109 rfl rfl ?_
    refine sa_getR (r := 166) kf_M_52 d_M_compare_110 sh_151 rfl ?_
    refine ab_iload 2 d_M_compare_113 rfl ?_
    refine ab_aload_n 0 d_M_compare_115 rfl rfl ?_
    refine sa_getR (r := 156) kf_M_22 d_M_compare_116 sh_151 rfl ?_
    refine ab_iload 2 d_M_compare_119 rfl ?_
    obtain ⟨c27, HF⟩ := HF
    refine sa_iald d_M_compare_121 sh_156 c27 ?_
    obtain ⟨c28, HF⟩ := HF
    refine sa_iastn d_M_compare_122 sh_166 c28 (fun S29 hS29 => ?_)
    replace HF := HF S29 hS29
    refine ab_aload_n 0 d_M_compare_123 rfl rfl ?_
    refine sa_getR (r := 156) kf_M_22 d_M_compare_124 sh_151 rfl ?_
    refine ab_iload 2 d_M_compare_127 rfl ?_
    obtain ⟨c30, HF⟩ := HF
    refine sa_iald d_M_compare_129 sh_156 c30 ?_
    refine ab_if_lt (tgt := 140) d_M_compare_130 (by decide) (fun b31 => ?_) (fun b31 => ?_)
    · replace HF := HF.1 b31
      refine ab_iload 1 d_M_compare_140 rfl ?_
      refine ab_istore (lv' := [(4, .int x4), (0, .ref (g.2.1 + 151)), (5, .int x5)]) d_M_compare_142 (Nat.le_of_ble_eq_true rfl) rfl ?_
      refine ab_iinc (v := x5 + 1) (lv' := [(5, .int (x5 + 1)), (4, .int x4), (0, .ref (g.2.1 + 151))]) 2 d_M_compare_144 rfl (congrArg (fun z => x5 + z) (show Int32.ofInt 1 = (1 : Int32) by decide)) (Nat.le_of_ble_eq_true rfl) rfl ?_
      refine ab_goto (tgt := 86) d_M_compare_147 (by decide) ?_
      refine ab_sub (lv' := [(0, .ref (g.2.1 + 151)), (4, .int x4), (5, .int (x5 + 1))]) [2, 1, 0] rfl ?_
      exact HF
    · replace HF := HF.2 b31
      refine ab_iload 1 d_M_compare_133 rfl ?_
      refine ab_iconst (v := (1 : Int32)) d_M_compare_135 (by decide) ?_
      refine ab_iadd d_M_compare_136 ?_
      refine ab_goto (tgt := 142) d_M_compare_137 (by decide) ?_
      refine ab_istore (lv' := [(4, .int (x4 + (1 : Int32))), (0, .ref (g.2.1 + 151)), (5, .int x5)]) d_M_compare_142 (Nat.le_of_ble_eq_true rfl) rfl ?_
      refine ab_iinc (v := x5 + 1) (lv' := [(5, .int (x5 + 1)), (4, .int (x4 + (1 : Int32))), (0, .ref (g.2.1 + 151))]) 2 d_M_compare_144 rfl (congrArg (fun z => x5 + z) (show Int32.ofInt 1 = (1 : Int32) by decide)) (Nat.le_of_ble_eq_true rfl) rfl ?_
      refine ab_goto (tgt := 86) d_M_compare_147 (by decide) ?_
      refine ab_sub (lv' := [(0, .ref (g.2.1 + 151)), (4, .int (x4 + (1 : Int32))), (5, .int (x5 + 1))]) [2, 1, 0] rfl ?_
      exact HF
set_option maxRecDepth 100000 in
theorem f_M_compare_153 {g : lp_G} {d : Nat} {Q : Int32 → SS → Prop} {S : SS} {x4 : Int32} {x5 : Int32}
    (HF : (S.1 151 3 ≤ x5 → Q (((S.1 151 2) + (S.1 151 3)) - ((nI 2) * x4)) S) ∧ (¬ S.1 151 3 ≤ x5 → (vp_in x5 24) ∧ ((vp_in x5 24) ∧ (∀ S35 : SS, S35 = setA S 165 x5.toNatClampNeg (S.2 155 x5.toNatClampNeg) → AtI g um_M_compare (d + 1) Q 153 [(0, .ref (g.2.1 + 151)), (4, .int x4), (5, .int (x5 + 1))] [] S35)))) : AtI g um_M_compare (d + 1) Q 153 [(0, .ref (g.2.1 + 151)), (4, .int x4), (5, .int x5)] [] S := by
  refine ab_iload 2 d_M_compare_153 rfl ?_
  refine ab_aload_n 0 d_M_compare_155 rfl rfl ?_
  refine sa_getI kf_M_100 d_M_compare_156 sh_151 rfl ?_
  refine ab_icmp_ge (tgt := 182) d_M_compare_159 (by decide) (fun b32 => ?_) (fun b32 => ?_)
  · replace HF := HF.1 b32
    refine ab_aload_n 0 d_M_compare_182 rfl rfl ?_
    refine sa_getI kf_M_96 d_M_compare_183 sh_151 rfl ?_
    refine ab_aload_n 0 d_M_compare_186 rfl rfl ?_
    refine sa_getI kf_M_100 d_M_compare_187 sh_151 rfl ?_
    refine ab_iadd d_M_compare_190 ?_
    refine ab_iconst (v := nI 2) d_M_compare_191 (by decide) ?_
    refine ab_iload 1 d_M_compare_192 rfl ?_
    refine ab_imul d_M_compare_194 ?_
    refine ab_isub d_M_compare_195 ?_
    exact sa_iretI rfl d_M_compare_196 HF
  · replace HF := HF.2 b32
    refine ab_aload_n 0 d_M_compare_162 rfl rfl ?_
    refine sa_getR (r := 165) kf_M_49 d_M_compare_163 sh_151 rfl ?_
    refine ab_iload 2 d_M_compare_166 rfl ?_
    refine ab_aload_n 0 d_M_compare_168 rfl rfl ?_
    refine sa_getR (r := 155) kf_M_19 d_M_compare_169 sh_151 rfl ?_
    refine ab_iload 2 d_M_compare_172 rfl ?_
    obtain ⟨c33, HF⟩ := HF
    refine sa_iald d_M_compare_174 sh_155 c33 ?_
    obtain ⟨c34, HF⟩ := HF
    refine sa_iastn d_M_compare_175 sh_165 c34 (fun S35 hS35 => ?_)
    replace HF := HF S35 hS35
    refine ab_iinc (v := x5 + 1) (lv' := [(5, .int (x5 + 1)), (0, .ref (g.2.1 + 151)), (4, .int x4)]) 2 d_M_compare_176 rfl (congrArg (fun z => x5 + z) (show Int32.ofInt 1 = (1 : Int32) by decide)) (Nat.le_of_ble_eq_true rfl) rfl ?_
    refine ab_goto (tgt := 153) d_M_compare_179 (by decide) ?_
    refine ab_sub (lv' := [(0, .ref (g.2.1 + 151)), (4, .int x4), (5, .int (x5 + 1))]) [1, 2, 0] rfl ?_
    exact HF
set_option maxRecDepth 100000 in
theorem f_M_match {g : lp_G} {d : Nat} {Q : Int32 → SS → Prop} {S : SS} {x1 : Int32}
    (HF : (S.1 151 15 = 0 → Q (-3 : Int32) S) ∧ (¬ S.1 151 15 = 0 → MtI g um_M_within d [.int x1, .int (0 : Int32), .int ((S.1 151 16) - (1 : Int32))] S (fun r3 S2 => (r3 = 0 → Q (-3 : Int32) S2) ∧ (¬ r3 = 0 → (vp_in x1 24) ∧ ((S2.2 166 x1.toNatClampNeg < 0 → Q (-3 : Int32) S2) ∧ (¬ S2.2 166 x1.toNatClampNeg < 0 → (vp_in x1 24) ∧ (Q (S2.2 166 x1.toNatClampNeg) S2))))))) : MtI g um_M_match (d + 1) [.ref (g.2.1 + 151), .int x1] S Q := by
  refine sa_entryI (lv' := [(0, .ref (g.2.1 + 151)), (1, .int x1)]) (by decide +kernel) (Nat.le_of_ble_eq_true rfl) rfl ?_
  refine ab_aload_n 0 d_M_match_0 rfl rfl ?_
  refine sa_getI kf_M_135 d_M_match_1 sh_151 rfl ?_
  refine ab_if_eq (tgt := 39) d_M_match_4 (by decide) (fun b1 => ?_) (fun b1 => ?_)
  · replace HF := HF.1 b1
    refine ab_bipush (v := (-3 : Int32)) d_M_match_39 (by decide) ?_
    exact sa_iretI rfl d_M_match_41 HF
  · replace HF := HF.2 b1
    refine ab_iload_n 1 d_M_match_7 rfl rfl ?_
    refine ab_iconst (v := (0 : Int32)) d_M_match_8 (by decide) ?_
    refine ab_aload_n 0 d_M_match_9 rfl rfl ?_
    refine sa_getI kf_M_139 d_M_match_10 sh_151 rfl ?_
    refine ab_iconst (v := (1 : Int32)) d_M_match_13 (by decide) ?_
    refine ab_isub d_M_match_14 ?_
    refine sa_callSi (As := [.int x1, .int (0 : Int32), .int ((S.1 151 16) - (1 : Int32))]) (rest := []) kc_M_88 d_M_match_15 rfl (Nat.le_of_ble_eq_true rfl) enI (Nat.le_of_ble_eq_true rfl) ⟨Nat.zero_le _, Nat.zero_le _⟩ HF (fun r3 S2 HF => ?_)
    refine ab_if_eq (tgt := 39) d_M_match_18 (by decide) (fun b4 => ?_) (fun b4 => ?_)
    · replace HF := HF.1 b4
      refine ab_bipush (v := (-3 : Int32)) d_M_match_39 (by decide) ?_
      exact sa_iretI rfl d_M_match_41 HF
    · replace HF := HF.2 b4
      refine ab_aload_n 0 d_M_match_21 rfl rfl ?_
      refine sa_getR (r := 166) kf_M_52 d_M_match_22 sh_151 rfl ?_
      refine ab_iload_n 1 d_M_match_25 rfl rfl ?_
      obtain ⟨c5, HF⟩ := HF
      refine sa_iald d_M_match_26 sh_166 c5 ?_
      refine ab_if_lt (tgt := 39) d_M_match_27 (by decide) (fun b6 => ?_) (fun b6 => ?_)
      · replace HF := HF.1 b6
        refine ab_bipush (v := (-3 : Int32)) d_M_match_39 (by decide) ?_
        exact sa_iretI rfl d_M_match_41 HF
      · replace HF := HF.2 b6
        refine ab_aload_n 0 d_M_match_30 rfl rfl ?_
        refine sa_getR (r := 166) kf_M_52 d_M_match_31 sh_151 rfl ?_
        refine ab_iload_n 1 d_M_match_34 rfl rfl ?_
        obtain ⟨c7, HF⟩ := HF
        refine sa_iald d_M_match_35 sh_166 c7 ?_
        refine ab_goto (tgt := 41) d_M_match_36 (by decide) ?_
        exact sa_iretI rfl d_M_match_41 HF
set_option maxRecDepth 100000 in
theorem f_M_op {g : lp_G} {d : Nat} {Q : SS → Prop} {S : SS} {x1 : Int32} {x2 : Int32}
    (HF : (vp_in (S.1 151 21) 48) ∧ (∀ S2 : SS, S2 = setA S 167 (S.1 151 21).toNatClampNeg x1 → (vp_in (S2.1 151 21) 48) ∧ (∀ S4 : SS, S4 = setA S2 168 (S2.1 151 21).toNatClampNeg x2 → ∀ S5 : SS, S5 = setI S4 151 21 ((S4.1 151 21) + (1 : Int32)) → Q S5))) : MtV g um_M_op d [.ref (g.2.1 + 151), .int x1, .int x2] S Q := by
  refine sa_entryV (lv' := [(0, .ref (g.2.1 + 151)), (1, .int x1), (2, .int x2)]) (by decide +kernel) (Nat.le_of_ble_eq_true rfl) rfl ?_
  refine ab_aload_n 0 d_M_op_0 rfl rfl ?_
  refine sa_getR (r := 167) kf_M_55 d_M_op_1 sh_151 rfl ?_
  refine ab_aload_n 0 d_M_op_4 rfl rfl ?_
  refine sa_getI kf_M_145 d_M_op_5 sh_151 rfl ?_
  refine ab_iload_n 1 d_M_op_8 rfl rfl ?_
  obtain ⟨c1, HF⟩ := HF
  refine sa_iastn d_M_op_9 sh_167 c1 (fun S2 hS2 => ?_)
  replace HF := HF S2 hS2
  refine ab_aload_n 0 d_M_op_10 rfl rfl ?_
  refine sa_getR (r := 168) kf_M_58 d_M_op_11 sh_151 rfl ?_
  refine ab_aload_n 0 d_M_op_14 rfl rfl ?_
  refine sa_getI kf_M_145 d_M_op_15 sh_151 rfl ?_
  refine ab_iload_n 2 d_M_op_18 rfl rfl ?_
  obtain ⟨c3, HF⟩ := HF
  refine sa_iastn d_M_op_19 sh_168 c3 (fun S4 hS4 => ?_)
  replace HF := HF S4 hS4
  refine ab_aload_n 0 d_M_op_20 rfl rfl ?_
  refine ab_dup d_M_op_21 rfl ?_
  refine sa_getI kf_M_145 d_M_op_22 sh_151 rfl ?_
  refine ab_iconst (v := (1 : Int32)) d_M_op_25 (by decide) ?_
  refine ab_iadd d_M_op_26 ?_
  refine sa_putIn kp_M_145 d_M_op_27 sh_151 rfl (fun S5 hS5 => ?_)
  replace HF := HF S5 hS5
  exact sa_ret rfl d_M_op_30 HF
set_option maxRecDepth 100000 in
theorem f_M_row {g : lp_G} {d : Nat} {Q : SS → Prop} {S : SS} 
    (HF : ∀ S1 : SS, S1 = setI S 151 21 (0 : Int32) → AtV g um_M_row (d + 1) Q 9 [(0, .ref (g.2.1 + 151)), (1, .int (0 : Int32)), (2, .int (0 : Int32))] [] S1) : MtV g um_M_row (d + 1) [.ref (g.2.1 + 151)] S Q := by
  refine sa_entryV (lv' := [(0, .ref (g.2.1 + 151))]) (by decide +kernel) (Nat.le_of_ble_eq_true rfl) rfl ?_
  refine ab_aload_n 0 d_M_row_0 rfl rfl ?_
  refine ab_iconst (v := (0 : Int32)) d_M_row_1 (by decide) ?_
  refine sa_putIn kp_M_145 d_M_row_2 sh_151 rfl (fun S1 hS1 => ?_)
  replace HF := HF S1 hS1
  refine ab_iconst (v := (0 : Int32)) d_M_row_5 (by decide) ?_
  refine ab_istore_n (lv' := [(1, .int (0 : Int32)), (0, .ref (g.2.1 + 151))]) d_M_row_6 rfl (Nat.le_of_ble_eq_true rfl) rfl ?_
  refine ab_iconst (v := (0 : Int32)) d_M_row_7 (by decide) ?_
  refine ab_istore_n (lv' := [(2, .int (0 : Int32)), (1, .int (0 : Int32)), (0, .ref (g.2.1 + 151))]) d_M_row_8 rfl (Nat.le_of_ble_eq_true rfl) rfl ?_
  refine ab_sub (lv' := [(0, .ref (g.2.1 + 151)), (1, .int (0 : Int32)), (2, .int (0 : Int32))]) [2, 1, 0] rfl ?_
  exact HF
set_option maxRecDepth 100000 in
theorem f_M_row_9 {g : lp_G} {d : Nat} {Q : SS → Prop} {S : SS} {x1 : Int32} {x2 : Int32}
    (HF : (x1 < S.1 151 16 → AtV g um_M_row (d + 1) Q 25 [(0, .ref (g.2.1 + 151)), (1, .int x1), (2, .int x2)] [] S) ∧ (¬ x1 < S.1 151 16 → (S.1 151 17 ≤ x2 → Q S) ∧ (¬ S.1 151 17 ≤ x2 → AtV g um_M_row (d + 1) Q 25 [(0, .ref (g.2.1 + 151)), (1, .int x1), (2, .int x2)] [] S))) : AtV g um_M_row (d + 1) Q 9 [(0, .ref (g.2.1 + 151)), (1, .int x1), (2, .int x2)] [] S := by
  refine ab_iload_n 1 d_M_row_9 rfl rfl ?_
  refine ab_aload_n 0 d_M_row_10 rfl rfl ?_
  refine sa_getI kf_M_139 d_M_row_11 sh_151 rfl ?_
  refine ab_icmp_lt (tgt := 25) d_M_row_14 (by decide) (fun b2 => ?_) (fun b2 => ?_)
  · replace HF := HF.1 b2
    exact HF
  · replace HF := HF.2 b2
    refine ab_iload_n 2 d_M_row_17 rfl rfl ?_
    refine ab_aload_n 0 d_M_row_18 rfl rfl ?_
    refine sa_getI kf_M_142 d_M_row_19 sh_151 rfl ?_
    refine ab_icmp_ge (tgt := 134) d_M_row_22 (by decide) (fun b3 => ?_) (fun b3 => ?_)
    · replace HF := HF.1 b3
      exact sa_ret rfl d_M_row_134 HF
    · replace HF := HF.2 b3
      exact HF
set_option maxRecDepth 100000 in
theorem f_M_row_25 {g : lp_G} {d : Nat} {Q : SS → Prop} {S : SS} {x1 : Int32} {x2 : Int32}
    (HF : (S.1 151 16 ≤ x1 → AtV g um_M_row (d + 1) Q 82 [(0, .ref (g.2.1 + 151)), (1, .int x1), (2, .int x2), (3, .int (S.1 151 17))] [] S) ∧ (¬ S.1 151 16 ≤ x1 → (vp_in x1 24) ∧ ((0 ≤ S.2 166 x1.toNatClampNeg → (vp_in x1 24) ∧ (AtV g um_M_row (d + 1) Q 82 [(0, .ref (g.2.1 + 151)), (1, .int x1), (2, .int x2), (3, .int (S.2 166 x1.toNatClampNeg))] [] S)) ∧ (¬ 0 ≤ S.2 166 x1.toNatClampNeg → (vp_in x1 24) ∧ (MtV g um_M_op d [.ref (g.2.1 + 151), .int (nI 45), .int (S.2 164 x1.toNatClampNeg)] S (fun S9 => AtV g um_M_row (d + 1) Q 25 [(0, .ref (g.2.1 + 151)), (1, .int (x1 + 1)), (2, .int x2)] [] S9)))))) : AtV g um_M_row (d + 1) Q 25 [(0, .ref (g.2.1 + 151)), (1, .int x1), (2, .int x2)] [] S := by
  refine ab_iload_n 1 d_M_row_25 rfl rfl ?_
  refine ab_aload_n 0 d_M_row_26 rfl rfl ?_
  refine sa_getI kf_M_139 d_M_row_27 sh_151 rfl ?_
  refine ab_icmp_ge (tgt := 60) d_M_row_30 (by decide) (fun b4 => ?_) (fun b4 => ?_)
  · replace HF := HF.1 b4
    refine ab_iload_n 1 d_M_row_60 rfl rfl ?_
    refine ab_aload_n 0 d_M_row_61 rfl rfl ?_
    refine sa_getI kf_M_139 d_M_row_62 sh_151 rfl ?_
    refine ab_icmp_ge (tgt := 77) d_M_row_65 (by decide) (fun _ => ?_) (fun h => absurd b4 h)
    refine ab_aload_n 0 d_M_row_77 rfl rfl ?_
    refine sa_getI kf_M_142 d_M_row_78 sh_151 rfl ?_
    refine ab_istore_n (lv' := [(3, .int (S.1 151 17)), (0, .ref (g.2.1 + 151)), (1, .int x1), (2, .int x2)]) d_M_row_81 rfl (Nat.le_of_ble_eq_true rfl) rfl ?_
    refine ab_sub (lv' := [(0, .ref (g.2.1 + 151)), (1, .int x1), (2, .int x2), (3, .int (S.1 151 17))]) [1, 2, 3, 0] rfl ?_
    exact HF
  · replace HF := HF.2 b4
    refine ab_aload_n 0 d_M_row_33 rfl rfl ?_
    refine sa_getR (r := 166) kf_M_52 d_M_row_34 sh_151 rfl ?_
    refine ab_iload_n 1 d_M_row_37 rfl rfl ?_
    obtain ⟨c5, HF⟩ := HF
    refine sa_iald d_M_row_38 sh_166 c5 ?_
    refine ab_if_ge (tgt := 60) d_M_row_39 (by decide) (fun b6 => ?_) (fun b6 => ?_)
    · replace HF := HF.1 b6
      refine ab_iload_n 1 d_M_row_60 rfl rfl ?_
      refine ab_aload_n 0 d_M_row_61 rfl rfl ?_
      refine sa_getI kf_M_139 d_M_row_62 sh_151 rfl ?_
      refine ab_icmp_ge (tgt := 77) d_M_row_65 (by decide) (fun h => absurd h b4) (fun _ => ?_)
      refine ab_aload_n 0 d_M_row_68 rfl rfl ?_
      refine sa_getR (r := 166) kf_M_52 d_M_row_69 sh_151 rfl ?_
      refine ab_iload_n 1 d_M_row_72 rfl rfl ?_
      obtain ⟨c7, HF⟩ := HF
      refine sa_iald d_M_row_73 sh_166 c7 ?_
      refine ab_goto (tgt := 81) d_M_row_74 (by decide) ?_
      refine ab_istore_n (lv' := [(3, .int (S.2 166 x1.toNatClampNeg)), (0, .ref (g.2.1 + 151)), (1, .int x1), (2, .int x2)]) d_M_row_81 rfl (Nat.le_of_ble_eq_true rfl) rfl ?_
      refine ab_sub (lv' := [(0, .ref (g.2.1 + 151)), (1, .int x1), (2, .int x2), (3, .int (S.2 166 x1.toNatClampNeg))]) [1, 2, 3, 0] rfl ?_
      exact HF
    · replace HF := HF.2 b6
      refine ab_aload_n 0 d_M_row_42 rfl rfl ?_
      refine ab_bipush (v := nI 45) d_M_row_43 (by decide) ?_
      refine ab_aload_n 0 d_M_row_45 rfl rfl ?_
      refine sa_getR (r := 164) kf_M_46 d_M_row_46 sh_151 rfl ?_
      refine ab_iload_n 1 d_M_row_49 rfl rfl ?_
      obtain ⟨c8, HF⟩ := HF
      refine sa_iald d_M_row_50 sh_164 c8 ?_
      refine sa_callVv (As := [.int (nI 45), .int (S.2 164 x1.toNatClampNeg)]) (rest := []) kc_M_148 d_M_row_51 sh_151 rfl rfl rfl (Nat.le_of_ble_eq_true rfl) enV (Nat.le_of_ble_eq_true rfl) ⟨Nat.zero_le _, Nat.zero_le _⟩ HF (fun S9 HF => ?_)
      refine ab_iinc (v := x1 + 1) (lv' := [(1, .int (x1 + 1)), (0, .ref (g.2.1 + 151)), (2, .int x2)]) 1 d_M_row_54 rfl (congrArg (fun z => x1 + z) (show Int32.ofInt 1 = (1 : Int32) by decide)) (Nat.le_of_ble_eq_true rfl) rfl ?_
      refine ab_goto (tgt := 25) d_M_row_57 (by decide) ?_
      refine ab_sub (lv' := [(0, .ref (g.2.1 + 151)), (1, .int (x1 + 1)), (2, .int x2)]) [1, 0, 2] rfl ?_
      exact HF
set_option maxRecDepth 100000 in
theorem f_M_row_82 {g : lp_G} {d : Nat} {Q : SS → Prop} {S : SS} {x1 : Int32} {x2 : Int32} {x3 : Int32}
    (HF : (x3 ≤ x2 → (S.1 151 16 ≤ x1 → AtV g um_M_row (d + 1) Q 9 [(0, .ref (g.2.1 + 151)), (1, .int x1), (2, .int x2)] [] S) ∧ (¬ S.1 151 16 ≤ x1 → (vp_in x1 24) ∧ (MtV g um_M_op d [.ref (g.2.1 + 151), .int (nI 32), .int (S.2 164 x1.toNatClampNeg)] S (fun S14 => AtV g um_M_row (d + 1) Q 9 [(0, .ref (g.2.1 + 151)), (1, .int (x1 + 1)), (2, .int (x2 + 1))] [] S14)))) ∧ (¬ x3 ≤ x2 → (vp_in x2 24) ∧ (MtV g um_M_op d [.ref (g.2.1 + 151), .int (nI 43), .int (S.2 165 x2.toNatClampNeg)] S (fun S17 => AtV g um_M_row (d + 1) Q 82 [(0, .ref (g.2.1 + 151)), (1, .int x1), (2, .int (x2 + 1)), (3, .int x3)] [] S17)))) : AtV g um_M_row (d + 1) Q 82 [(0, .ref (g.2.1 + 151)), (1, .int x1), (2, .int x2), (3, .int x3)] [] S := by
  refine ab_iload_n 2 d_M_row_82 rfl rfl ?_
  refine ab_iload_n 3 d_M_row_83 rfl rfl ?_
  refine ab_icmp_ge (tgt := 105) d_M_row_84 (by decide) (fun b11 => ?_) (fun b11 => ?_)
  · replace HF := HF.1 b11
    refine ab_iload_n 1 d_M_row_105 rfl rfl ?_
    refine ab_aload_n 0 d_M_row_106 rfl rfl ?_
    refine sa_getI kf_M_139 d_M_row_107 sh_151 rfl ?_
    refine ab_icmp_ge (tgt := 131) d_M_row_110 (by decide) (fun b12 => ?_) (fun b12 => ?_)
    · replace HF := HF.1 b12
      refine ab_goto (tgt := 9) d_M_row_131 (by decide) ?_
      refine ab_sub (lv' := [(0, .ref (g.2.1 + 151)), (1, .int x1), (2, .int x2)]) [0, 1, 2] rfl ?_
      exact HF
    · replace HF := HF.2 b12
      refine ab_aload_n 0 d_M_row_113 rfl rfl ?_
      refine ab_bipush (v := nI 32) d_M_row_114 (by decide) ?_
      refine ab_aload_n 0 d_M_row_116 rfl rfl ?_
      refine sa_getR (r := 164) kf_M_46 d_M_row_117 sh_151 rfl ?_
      refine ab_iload_n 1 d_M_row_120 rfl rfl ?_
      obtain ⟨c13, HF⟩ := HF
      refine sa_iald d_M_row_121 sh_164 c13 ?_
      refine sa_callVv (As := [.int (nI 32), .int (S.2 164 x1.toNatClampNeg)]) (rest := []) kc_M_148 d_M_row_122 sh_151 rfl rfl rfl (Nat.le_of_ble_eq_true rfl) enV (Nat.le_of_ble_eq_true rfl) ⟨Nat.zero_le _, Nat.zero_le _⟩ HF (fun S14 HF => ?_)
      refine ab_iinc (v := x1 + 1) (lv' := [(1, .int (x1 + 1)), (0, .ref (g.2.1 + 151)), (2, .int x2), (3, .int x3)]) 1 d_M_row_125 rfl (congrArg (fun z => x1 + z) (show Int32.ofInt 1 = (1 : Int32) by decide)) (Nat.le_of_ble_eq_true rfl) rfl ?_
      refine ab_iinc (v := x2 + 1) (lv' := [(2, .int (x2 + 1)), (1, .int (x1 + 1)), (0, .ref (g.2.1 + 151)), (3, .int x3)]) 2 d_M_row_128 rfl (congrArg (fun z => x2 + z) (show Int32.ofInt 1 = (1 : Int32) by decide)) (Nat.le_of_ble_eq_true rfl) rfl ?_
      refine ab_goto (tgt := 9) d_M_row_131 (by decide) ?_
      refine ab_sub (lv' := [(0, .ref (g.2.1 + 151)), (1, .int (x1 + 1)), (2, .int (x2 + 1))]) [2, 1, 0] rfl ?_
      exact HF
  · replace HF := HF.2 b11
    refine ab_aload_n 0 d_M_row_87 rfl rfl ?_
    refine ab_bipush (v := nI 43) d_M_row_88 (by decide) ?_
    refine ab_aload_n 0 d_M_row_90 rfl rfl ?_
    refine sa_getR (r := 165) kf_M_49 d_M_row_91 sh_151 rfl ?_
    refine ab_iload_n 2 d_M_row_94 rfl rfl ?_
    obtain ⟨c16, HF⟩ := HF
    refine sa_iald d_M_row_95 sh_165 c16 ?_
    refine sa_callVv (As := [.int (nI 43), .int (S.2 165 x2.toNatClampNeg)]) (rest := []) kc_M_148 d_M_row_96 sh_151 rfl rfl rfl (Nat.le_of_ble_eq_true rfl) enV (Nat.le_of_ble_eq_true rfl) ⟨Nat.zero_le _, Nat.zero_le _⟩ HF (fun S17 HF => ?_)
    refine ab_iinc (v := x2 + 1) (lv' := [(2, .int (x2 + 1)), (0, .ref (g.2.1 + 151)), (1, .int x1), (3, .int x3)]) 2 d_M_row_99 rfl (congrArg (fun z => x2 + z) (show Int32.ofInt 1 = (1 : Int32) by decide)) (Nat.le_of_ble_eq_true rfl) rfl ?_
    refine ab_goto (tgt := 82) d_M_row_102 (by decide) ?_
    refine ab_sub (lv' := [(0, .ref (g.2.1 + 151)), (1, .int x1), (2, .int (x2 + 1)), (3, .int x3)]) [1, 2, 0, 3] rfl ?_
    exact HF
set_option maxRecDepth 100000 in
theorem f_M_put {g : lp_G} {d : Nat} {Q : SS → Prop} {S : SS} {x1 : Int32}
    (HF : (vp_in (S.1 151 24) 900) ∧ (∀ S2 : SS, S2 = setA S 169 (S.1 151 24).toNatClampNeg x1 → ∀ S3 : SS, S3 = setI S2 151 24 ((S2.1 151 24) + (1 : Int32)) → Q S3)) : MtV g um_M_put d [.ref (g.2.1 + 151), .int x1] S Q := by
  refine sa_entryV (lv' := [(0, .ref (g.2.1 + 151)), (1, .int x1)]) (by decide +kernel) (Nat.le_of_ble_eq_true rfl) rfl ?_
  refine ab_aload_n 0 d_M_put_0 rfl rfl ?_
  refine sa_getR (r := 169) kf_M_61 d_M_put_1 sh_151 rfl ?_
  refine ab_aload_n 0 d_M_put_4 rfl rfl ?_
  refine sa_getI kf_M_151 d_M_put_5 sh_151 rfl ?_
  refine ab_iload_n 1 d_M_put_8 rfl rfl ?_
  obtain ⟨c1, HF⟩ := HF
  refine sa_iastn d_M_put_9 sh_169 c1 (fun S2 hS2 => ?_)
  replace HF := HF S2 hS2
  refine ab_aload_n 0 d_M_put_10 rfl rfl ?_
  refine ab_dup d_M_put_11 rfl ?_
  refine sa_getI kf_M_151 d_M_put_12 sh_151 rfl ?_
  refine ab_iconst (v := (1 : Int32)) d_M_put_15 (by decide) ?_
  refine ab_iadd d_M_put_16 ?_
  refine sa_putIn kp_M_151 d_M_put_17 sh_151 rfl (fun S3 hS3 => ?_)
  replace HF := HF S3 hS3
  exact sa_ret rfl d_M_put_20 HF
set_option maxRecDepth 100000 in
theorem f_M_putNumber {g : lp_G} {d : Nat} {Q : SS → Prop} {S : SS} {x1 : Int32}
    (HF : (x1 ≤ nI 9 → MtV g um_M_put d [.ref (g.2.1 + 151), .int ((nI 48) + (x1 - x1 / (nI 10) * (nI 10)))] S (fun S2 => Q S2)) ∧ (¬ x1 ≤ nI 9 → MtV g um_M_put d [.ref (g.2.1 + 151), .int ((nI 48) + (x1 / (nI 10)))] S (fun S4 => MtV g um_M_put d [.ref (g.2.1 + 151), .int ((nI 48) + (x1 - x1 / (nI 10) * (nI 10)))] S4 (fun S6 => Q S6)))) : MtV g um_M_putNumber (d + 1) [.ref (g.2.1 + 151), .int x1] S Q := by
  refine sa_entryV (lv' := [(0, .ref (g.2.1 + 151)), (1, .int x1)]) (by decide +kernel) (Nat.le_of_ble_eq_true rfl) rfl ?_
  refine ab_iload_n 1 d_M_putNumber_0 rfl rfl ?_
  refine ab_bipush (v := nI 9) d_M_putNumber_1 (by decide) ?_
  refine ab_icmp_le (tgt := 17) d_M_putNumber_3 (by decide) (fun b1 => ?_) (fun b1 => ?_)
  · replace HF := HF.1 b1
    refine ab_aload_n 0 d_M_putNumber_17 rfl rfl ?_
    refine ab_bipush (v := nI 48) d_M_putNumber_18 (by decide) ?_
    refine ab_iload_n 1 d_M_putNumber_20 rfl rfl ?_
    refine ab_bipush (v := nI 10) d_M_putNumber_21 (by decide) ?_
    refine ab_irem d_M_putNumber_23 (by decide) ?_
    refine ab_iadd d_M_putNumber_24 ?_
    refine sa_callVv (As := [.int ((nI 48) + (x1 - x1 / (nI 10) * (nI 10)))]) (rest := []) kc_M_154 d_M_putNumber_25 sh_151 rfl rfl rfl (Nat.le_of_ble_eq_true rfl) enV (Nat.le_of_ble_eq_true rfl) ⟨Nat.zero_le _, Nat.zero_le _⟩ HF (fun S2 HF => ?_)
    exact sa_ret rfl d_M_putNumber_28 HF
  · replace HF := HF.2 b1
    refine ab_aload_n 0 d_M_putNumber_6 rfl rfl ?_
    refine ab_bipush (v := nI 48) d_M_putNumber_7 (by decide) ?_
    refine ab_iload_n 1 d_M_putNumber_9 rfl rfl ?_
    refine ab_bipush (v := nI 10) d_M_putNumber_10 (by decide) ?_
    refine ab_idiv d_M_putNumber_12 (by decide) ?_
    refine ab_iadd d_M_putNumber_13 ?_
    refine sa_callVv (As := [.int ((nI 48) + (x1 / (nI 10)))]) (rest := []) kc_M_154 d_M_putNumber_14 sh_151 rfl rfl rfl (Nat.le_of_ble_eq_true rfl) enV (Nat.le_of_ble_eq_true rfl) ⟨Nat.zero_le _, Nat.zero_le _⟩ HF (fun S4 HF => ?_)
    refine ab_aload_n 0 d_M_putNumber_17 rfl rfl ?_
    refine ab_bipush (v := nI 48) d_M_putNumber_18 (by decide) ?_
    refine ab_iload_n 1 d_M_putNumber_20 rfl rfl ?_
    refine ab_bipush (v := nI 10) d_M_putNumber_21 (by decide) ?_
    refine ab_irem d_M_putNumber_23 (by decide) ?_
    refine ab_iadd d_M_putNumber_24 ?_
    refine sa_callVv (As := [.int ((nI 48) + (x1 - x1 / (nI 10) * (nI 10)))]) (rest := []) kc_M_154 d_M_putNumber_25 sh_151 rfl rfl rfl (Nat.le_of_ble_eq_true rfl) enV (Nat.le_of_ble_eq_true rfl) ⟨Nat.zero_le _, Nat.zero_le _⟩ HF (fun S6 HF => ?_)
    exact sa_ret rfl d_M_putNumber_28 HF

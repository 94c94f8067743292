set_option maxRecDepth 100000 in
theorem f_M_others {g : lp_G} {d : Nat} {Q : Int32 → SS → Prop} {S : SS} {x1 : Int32} {x2 : Int32} {x3 : Int32}
    (HF : AtI g um_M_others d Q 6 [(0, .ref (g.2.1 + 151)), (2, .int x2), (3, .int x3), (4, .int (0 : Int32)), (5, .int x1)] [] S) : MtI g um_M_others d [.ref (g.2.1 + 151), .int x1, .int x2, .int x3] S Q := by
  refine sa_entryI (lv' := [(0, .ref (g.2.1 + 151)), (1, .int x1), (2, .int x2), (3, .int x3)]) (by decide +kernel) (Nat.le_of_ble_eq_true rfl) rfl ?_
  refine ab_iconst (v := (0 : Int32)) d_M_others_0 (by decide) ?_
  refine ab_istore (lv' := [(4, .int (0 : Int32)), (0, .ref (g.2.1 + 151)), (1, .int x1), (2, .int x2), (3, .int x3)]) d_M_others_1 (Nat.le_of_ble_eq_true rfl) rfl ?_
  refine ab_iload_n 2 d_M_others_3 rfl rfl ?_
  refine ab_istore (lv' := [(5, .int x1), (4, .int (0 : Int32)), (0, .ref (g.2.1 + 151)), (1, .int x1), (2, .int x2), (3, .int x3)]) d_M_others_4 (Nat.le_of_ble_eq_true rfl) rfl ?_
  refine ab_sub (lv' := [(0, .ref (g.2.1 + 151)), (2, .int x2), (3, .int x3), (4, .int (0 : Int32)), (5, .int x1)]) [2, 4, 5, 1, 0] rfl ?_
  exact HF
set_option maxRecDepth 100000 in
theorem f_M_others_6 {g : lp_G} {d : Nat} {Q : Int32 → SS → Prop} {S : SS} {x2 : Int32} {x3 : Int32} {x4 : Int32} {x5 : Int32}
    (HF : (x2 ≤ x5 → Q x4 S) ∧ (¬ x2 ≤ x5 → (vp_in x5 48) ∧ ((S.2 167 x5.toNatClampNeg = x3 → AtI g um_M_others d Q 6 [(0, .ref (g.2.1 + 151)), (2, .int x2), (3, .int x3), (4, .int x4), (5, .int (x5 + 1))] [] S) ∧ (¬ S.2 167 x5.toNatClampNeg = x3 → AtI g um_M_others d Q 6 [(0, .ref (g.2.1 + 151)), (2, .int x2), (3, .int x3), (4, .int (x4 + (1 : Int32))), (5, .int (x5 + 1))] [] S)))) : AtI g um_M_others d Q 6 [(0, .ref (g.2.1 + 151)), (2, .int x2), (3, .int x3), (4, .int x4), (5, .int x5)] [] S := by
  refine ab_iload 4 d_M_others_6 rfl ?_
  refine ab_iload_n 1 d_M_others_8 rfl rfl ?_
  refine ab_icmp_ge (tgt := 40) d_M_others_9 (by decide) (fun b1 => ?_) (fun b1 => ?_)
  · replace HF := HF.1 b1
    refine ab_iload 3 d_M_others_40 rfl ?_
    exact sa_iretI rfl d_M_others_42 HF
  · replace HF := HF.2 b1
    refine ab_aload_n 0 d_M_others_12 rfl rfl ?_
    refine sa_getR (r := 167) kf_M_55 d_M_others_13 sh_151 rfl ?_
    refine ab_iload 4 d_M_others_16 rfl ?_
    obtain ⟨c2, HF⟩ := HF
    refine sa_iald d_M_others_18 sh_167 c2 ?_
    refine ab_iload_n 2 d_M_others_19 rfl rfl ?_
    refine ab_icmp_eq (tgt := 30) d_M_others_20 (by decide) (fun b3 => ?_) (fun b3 => ?_)
    · replace HF := HF.1 b3
      refine ab_iload 3 d_M_others_30 rfl ?_
      refine ab_istore (lv' := [(4, .int x4), (0, .ref (g.2.1 + 151)), (2, .int x2), (3, .int x3), (5, .int x5)]) d_M_others_32 (Nat.le_of_ble_eq_true rfl) rfl ?_
      refine ab_iinc (v := x5 + 1) (lv' := [(5, .int (x5 + 1)), (4, .int x4), (0, .ref (g.2.1 + 151)), (2, .int x2), (3, .int x3)]) 4 d_M_others_34 rfl (congrArg (fun z => x5 + z) (show Int32.ofInt 1 = (1 : Int32) by decide)) (Nat.le_of_ble_eq_true rfl) rfl ?_
      refine ab_goto (tgt := 6) d_M_others_37 (by decide) ?_
      refine ab_sub (lv' := [(0, .ref (g.2.1 + 151)), (2, .int x2), (3, .int x3), (4, .int x4), (5, .int (x5 + 1))]) [2, 3, 4, 1, 0] rfl ?_
      exact HF
    · replace HF := HF.2 b3
      refine ab_iload 3 d_M_others_23 rfl ?_
      refine ab_iconst (v := (1 : Int32)) d_M_others_25 (by decide) ?_
      refine ab_iadd d_M_others_26 ?_
      refine ab_goto (tgt := 32) d_M_others_27 (by decide) ?_
      refine ab_istore (lv' := [(4, .int (x4 + (1 : Int32))), (0, .ref (g.2.1 + 151)), (2, .int x2), (3, .int x3), (5, .int x5)]) d_M_others_32 (Nat.le_of_ble_eq_true rfl) rfl ?_
      refine ab_iinc (v := x5 + 1) (lv' := [(5, .int (x5 + 1)), (4, .int (x4 + (1 : Int32))), (0, .ref (g.2.1 + 151)), (2, .int x2), (3, .int x3)]) 4 d_M_others_34 rfl (congrArg (fun z => x5 + z) (show Int32.ofInt 1 = (1 : Int32) by decide)) (Nat.le_of_ble_eq_true rfl) rfl ?_
      refine ab_goto (tgt := 6) d_M_others_37 (by decide) ?_
      refine ab_sub (lv' := [(0, .ref (g.2.1 + 151)), (2, .int x2), (3, .int x3), (4, .int (x4 + (1 : Int32))), (5, .int (x5 + 1))]) [2, 3, 4, 1, 0] rfl ?_
      exact HF
set_option maxRecDepth 100000 in
theorem f_M_putHunk {g : lp_G} {d : Nat} {Q : SS → Prop} {S : SS} {x1 : Int32} {x2 : Int32}
    (HF : MtV g um_M_put d [.ref (g.2.1 + 151), .int (nI 64)] S (fun S1 => MtI g um_M_others d [.ref (g.2.1 + 151), .int (0 : Int32), .int x1, .int (nI 43)] S1 (fun r4 S3 => MtV g um_M_putNumber d [.ref (g.2.1 + 151), .int r4] S3 (fun S5 => MtV g um_M_put d [.ref (g.2.1 + 151), .int (nI 44)] S5 (fun S7 => MtI g um_M_others d [.ref (g.2.1 + 151), .int x1, .int x2, .int (nI 43)] S7 (fun r10 S9 => MtV g um_M_putNumber d [.ref (g.2.1 + 151), .int r10] S9 (fun S11 => MtV g um_M_put d [.ref (g.2.1 + 151), .int (nI 32)] S11 (fun S13 => MtI g um_M_others d [.ref (g.2.1 + 151), .int (0 : Int32), .int x1, .int (nI 45)] S13 (fun r16 S15 => MtV g um_M_putNumber d [.ref (g.2.1 + 151), .int r16] S15 (fun S17 => MtV g um_M_put d [.ref (g.2.1 + 151), .int (nI 44)] S17 (fun S19 => MtI g um_M_others d [.ref (g.2.1 + 151), .int x1, .int x2, .int (nI 45)] S19 (fun r22 S21 => MtV g um_M_putNumber d [.ref (g.2.1 + 151), .int r22] S21 (fun S23 => MtV g um_M_put d [.ref (g.2.1 + 151), .int (nI 10)] S23 (fun S25 => AtV g um_M_putHunk (d + 1) Q 80 [(0, .ref (g.2.1 + 151)), (2, .int x2), (3, .int x1)] [] S25)))))))))))))) : MtV g um_M_putHunk (d + 1) [.ref (g.2.1 + 151), .int x1, .int x2] S Q := by
  refine sa_entryV (lv' := [(0, .ref (g.2.1 + 151)), (1, .int x1), (2, .int x2)]) (by decide +kernel) (Nat.le_of_ble_eq_true rfl) rfl ?_
  refine ab_aload_n 0 d_M_putHunk_0 rfl rfl ?_
  refine ab_bipush (v := nI 64) d_M_putHunk_1 (by decide) ?_
  refine sa_callVv (As := [.int (nI 64)]) (rest := []) kc_M_154 d_M_putHunk_3 sh_151 rfl rfl rfl (Nat.le_of_ble_eq_true rfl) enV (Nat.le_of_ble_eq_true rfl) ⟨Nat.zero_le _, Nat.zero_le _⟩ HF (fun S1 HF => ?_)
  refine ab_aload_n 0 d_M_putHunk_6 rfl rfl ?_
  refine ab_aload_n 0 d_M_putHunk_7 rfl rfl ?_
  refine ab_iconst (v := (0 : Int32)) d_M_putHunk_8 (by decide) ?_
  refine ab_iload_n 1 d_M_putHunk_9 rfl rfl ?_
  refine ab_bipush (v := nI 43) d_M_putHunk_10 (by decide) ?_
  refine sa_callVi (As := [.int (0 : Int32), .int x1, .int (nI 43)]) (rest := [.ref (g.2.1 + 151)]) kc_M_157 d_M_putHunk_12 sh_151 rfl rfl rfl (Nat.le_of_ble_eq_true rfl) enV (Nat.le_of_ble_eq_true rfl) ⟨Nat.zero_le _, Nat.zero_le _⟩ HF (fun r4 S3 HF => ?_)
  refine sa_callVv (As := [.int r4]) (rest := []) kc_M_161 d_M_putHunk_15 sh_151 rfl rfl rfl (Nat.le_of_ble_eq_true rfl) enV (Nat.le_of_ble_eq_true rfl) ⟨Nat.zero_le _, Nat.zero_le _⟩ HF (fun S5 HF => ?_)
  refine ab_aload_n 0 d_M_putHunk_18 rfl rfl ?_
  refine ab_bipush (v := nI 44) d_M_putHunk_19 (by decide) ?_
  refine sa_callVv (As := [.int (nI 44)]) (rest := []) kc_M_154 d_M_putHunk_21 sh_151 rfl rfl rfl (Nat.le_of_ble_eq_true rfl) enV (Nat.le_of_ble_eq_true rfl) ⟨Nat.zero_le _, Nat.zero_le _⟩ HF (fun S7 HF => ?_)
  refine ab_aload_n 0 d_M_putHunk_24 rfl rfl ?_
  refine ab_aload_n 0 d_M_putHunk_25 rfl rfl ?_
  refine ab_iload_n 1 d_M_putHunk_26 rfl rfl ?_
  refine ab_iload_n 2 d_M_putHunk_27 rfl rfl ?_
  refine ab_bipush (v := nI 43) d_M_putHunk_28 (by decide) ?_
  refine sa_callVi (As := [.int x1, .int x2, .int (nI 43)]) (rest := [.ref (g.2.1 + 151)]) kc_M_157 d_M_putHunk_30 sh_151 rfl rfl rfl (Nat.le_of_ble_eq_true rfl) enV (Nat.le_of_ble_eq_true rfl) ⟨Nat.zero_le _, Nat.zero_le _⟩ HF (fun r10 S9 HF => ?_)
  refine sa_callVv (As := [.int r10]) (rest := []) kc_M_161 d_M_putHunk_33 sh_151 rfl rfl rfl (Nat.le_of_ble_eq_true rfl) enV (Nat.le_of_ble_eq_true rfl) ⟨Nat.zero_le _, Nat.zero_le _⟩ HF (fun S11 HF => ?_)
  refine ab_aload_n 0 d_M_putHunk_36 rfl rfl ?_
  refine ab_bipush (v := nI 32) d_M_putHunk_37 (by decide) ?_
  refine sa_callVv (As := [.int (nI 32)]) (rest := []) kc_M_154 d_M_putHunk_39 sh_151 rfl rfl rfl (Nat.le_of_ble_eq_true rfl) enV (Nat.le_of_ble_eq_true rfl) ⟨Nat.zero_le _, Nat.zero_le _⟩ HF (fun S13 HF => ?_)
  refine ab_aload_n 0 d_M_putHunk_42 rfl rfl ?_
  refine ab_aload_n 0 d_M_putHunk_43 rfl rfl ?_
  refine ab_iconst (v := (0 : Int32)) d_M_putHunk_44 (by decide) ?_
  refine ab_iload_n 1 d_M_putHunk_45 rfl rfl ?_
  refine ab_bipush (v := nI 45) d_M_putHunk_46 (by decide) ?_
  refine sa_callVi (As := [.int (0 : Int32), .int x1, .int (nI 45)]) (rest := [.ref (g.2.1 + 151)]) kc_M_157 d_M_putHunk_48 sh_151 rfl rfl rfl (Nat.le_of_ble_eq_true rfl) enV (Nat.le_of_ble_eq_true rfl) ⟨Nat.zero_le _, Nat.zero_le _⟩ HF (fun r16 S15 HF => ?_)
  refine sa_callVv (As := [.int r16]) (rest := []) kc_M_161 d_M_putHunk_51 sh_151 rfl rfl rfl (Nat.le_of_ble_eq_true rfl) enV (Nat.le_of_ble_eq_true rfl) ⟨Nat.zero_le _, Nat.zero_le _⟩ HF (fun S17 HF => ?_)
  refine ab_aload_n 0 d_M_putHunk_54 rfl rfl ?_
  refine ab_bipush (v := nI 44) d_M_putHunk_55 (by decide) ?_
  refine sa_callVv (As := [.int (nI 44)]) (rest := []) kc_M_154 d_M_putHunk_57 sh_151 rfl rfl rfl (Nat.le_of_ble_eq_true rfl) enV (Nat.le_of_ble_eq_true rfl) ⟨Nat.zero_le _, Nat.zero_le _⟩ HF (fun S19 HF => ?_)
  refine ab_aload_n 0 d_M_putHunk_60 rfl rfl ?_
  refine ab_aload_n 0 d_M_putHunk_61 rfl rfl ?_
  refine ab_iload_n 1 d_M_putHunk_62 rfl rfl ?_
  refine ab_iload_n 2 d_M_putHunk_63 rfl rfl ?_
  refine ab_bipush (v := nI 45) d_M_putHunk_64 (by decide) ?_
  refine sa_callVi (As := [.int x1, .int x2, .int (nI 45)]) (rest := [.ref (g.2.1 + 151)]) kc_M_157 d_M_putHunk_66 sh_151 rfl rfl rfl (Nat.le_of_ble_eq_true rfl) enV (Nat.le_of_ble_eq_true rfl) ⟨Nat.zero_le _, Nat.zero_le _⟩ HF (fun r22 S21 HF => ?_)
  refine sa_callVv (As := [.int r22]) (rest := []) kc_M_161 d_M_putHunk_69 sh_151 rfl rfl rfl (Nat.le_of_ble_eq_true rfl) enV (Nat.le_of_ble_eq_true rfl) ⟨Nat.zero_le _, Nat.zero_le _⟩ HF (fun S23 HF => ?_)
  refine ab_aload_n 0 d_M_putHunk_72 rfl rfl ?_
  refine ab_bipush (v := nI 10) d_M_putHunk_73 (by decide) ?_
  refine sa_callVv (As := [.int (nI 10)]) (rest := []) kc_M_154 d_M_putHunk_75 sh_151 rfl rfl rfl (Nat.le_of_ble_eq_true rfl) enV (Nat.le_of_ble_eq_true rfl) ⟨Nat.zero_le _, Nat.zero_le _⟩ HF (fun S25 HF => ?_)
  refine ab_iload_n 1 d_M_putHunk_78 rfl rfl ?_
  refine ab_istore_n (lv' := [(3, .int x1), (0, .ref (g.2.1 + 151)), (1, .int x1), (2, .int x2)]) d_M_putHunk_79 rfl (Nat.le_of_ble_eq_true rfl) rfl ?_
  refine ab_sub (lv' := [(0, .ref (g.2.1 + 151)), (2, .int x2), (3, .int x1)]) [1, 3, 0] rfl ?_
  exact HF
set_option maxRecDepth 100000 in
theorem f_M_putHunk_80 {g : lp_G} {d : Nat} {Q : SS → Prop} {S : SS} {x2 : Int32} {x3 : Int32}
    (HF : (x2 ≤ x3 → Q S) ∧ (¬ x2 ≤ x3 → (vp_in x3 48) ∧ (MtV g um_M_put d [.ref (g.2.1 + 151), .int (S.2 167 x3.toNatClampNeg)] S (fun S29 => (vp_in x3 48) ∧ (MtV g um_M_put d [.ref (g.2.1 + 151), .int (S29.2 168 x3.toNatClampNeg)] S29 (fun S32 => MtV g um_M_put d [.ref (g.2.1 + 151), .int (nI 10)] S32 (fun S34 => AtV g um_M_putHunk (d + 1) Q 80 [(0, .ref (g.2.1 + 151)), (2, .int x2), (3, .int (x3 + 1))] [] S34))))))) : AtV g um_M_putHunk (d + 1) Q 80 [(0, .ref (g.2.1 + 151)), (2, .int x2), (3, .int x3)] [] S := by
  refine ab_iload_n 2 d_M_putHunk_80 rfl rfl ?_
  refine ab_iload_n 1 d_M_putHunk_81 rfl rfl ?_
  refine ab_icmp_ge (tgt := 117) d_M_putHunk_82 (by decide) (fun b27 => ?_) (fun b27 => ?_)
  · replace HF := HF.1 b27
    exact sa_ret rfl d_M_putHunk_117 HF
  · replace HF := HF.2 b27
    refine ab_aload_n 0 d_M_putHunk_85 rfl rfl ?_
    refine ab_aload_n 0 d_M_putHunk_86 rfl rfl ?_
    refine sa_getR (r := 167) kf_M_55 d_M_putHunk_87 sh_151 rfl ?_
    refine ab_iload_n 2 d_M_putHunk_90 rfl rfl ?_
    obtain ⟨c28, HF⟩ := HF
    refine sa_iald d_M_putHunk_91 sh_167 c28 ?_
    refine sa_callVv (As := [.int (S.2 167 x3.toNatClampNeg)]) (rest := []) kc_M_154 d_M_putHunk_92 sh_151 rfl rfl rfl (Nat.le_of_ble_eq_true rfl) enV (Nat.le_of_ble_eq_true rfl) ⟨Nat.zero_le _, Nat.zero_le _⟩ HF (fun S29 HF => ?_)
    refine ab_aload_n 0 d_M_putHunk_95 rfl rfl ?_
    refine ab_aload_n 0 d_M_putHunk_96 rfl rfl ?_
    refine sa_getR (r := 168) kf_M_58 d_M_putHunk_97 sh_151 rfl ?_
    refine ab_iload_n 2 d_M_putHunk_100 rfl rfl ?_
    obtain ⟨c31, HF⟩ := HF
    refine sa_iald d_M_putHunk_101 sh_168 c31 ?_
    refine sa_callVv (As := [.int (S29.2 168 x3.toNatClampNeg)]) (rest := []) kc_M_154 d_M_putHunk_102 sh_151 rfl rfl rfl (Nat.le_of_ble_eq_true rfl) enV (Nat.le_of_ble_eq_true rfl) ⟨Nat.zero_le _, Nat.zero_le _⟩ HF (fun S32 HF => ?_)
    refine ab_aload_n 0 d_M_putHunk_105 rfl rfl ?_
    refine ab_bipush (v := nI 10) d_M_putHunk_106 (by decide) ?_
    refine sa_callVv (As := [.int (nI 10)]) (rest := []) kc_M_154 d_M_putHunk_108 sh_151 rfl rfl rfl (Nat.le_of_ble_eq_true rfl) enV (Nat.le_of_ble_eq_true rfl) ⟨Nat.zero_le _, Nat.zero_le _⟩ HF (fun S34 HF => ?_)
    refine ab_iinc (v := x3 + 1) (lv' := [(3, .int (x3 + 1)), (0, .ref (g.2.1 + 151)), (2, .int x2)]) 2 d_M_putHunk_111 rfl (congrArg (fun z => x3 + z) (show Int32.ofInt 1 = (1 : Int32) by decide)) (Nat.le_of_ble_eq_true rfl) rfl ?_
    refine ab_goto (tgt := 80) d_M_putHunk_114 (by decide) ?_
    refine ab_sub (lv' := [(0, .ref (g.2.1 + 151)), (2, .int x2), (3, .int (x3 + 1))]) [1, 2, 0] rfl ?_
    exact HF
set_option maxRecDepth 100000 in
theorem f_M_lastOf {g : lp_G} {d : Nat} {Q : Int32 → SS → Prop} {S : SS} {x1 : Int32} {x2 : Int32}
    (HF : AtI g um_M_lastOf d Q 5 [(0, .ref (g.2.1 + 151)), (2, .int x2), (3, .int x1), (4, .int x1)] [] S) : MtI g um_M_lastOf d [.ref (g.2.1 + 151), .int x1, .int x2] S Q := by
  refine sa_entryI (lv' := [(0, .ref (g.2.1 + 151)), (1, .int x1), (2, .int x2)]) (by decide +kernel) (Nat.le_of_ble_eq_true rfl) rfl ?_
  refine ab_iload_n 1 d_M_lastOf_0 rfl rfl ?_
  refine ab_istore_n (lv' := [(3, .int x1), (0, .ref (g.2.1 + 151)), (1, .int x1), (2, .int x2)]) d_M_lastOf_1 rfl (Nat.le_of_ble_eq_true rfl) rfl ?_
  refine ab_iload_n 2 d_M_lastOf_2 rfl rfl ?_
  refine ab_istore (lv' := [(4, .int x1), (3, .int x1), (0, .ref (g.2.1 + 151)), (1, .int x1), (2, .int x2)]) d_M_lastOf_3 (Nat.le_of_ble_eq_true rfl) rfl ?_
  refine ab_sub (lv' := [(0, .ref (g.2.1 + 151)), (2, .int x2), (3, .int x1), (4, .int x1)]) [2, 4, 1, 0] rfl ?_
  exact HF
set_option maxRecDepth 100000 in
theorem f_M_lastOf_5 {g : lp_G} {d : Nat} {Q : Int32 → SS → Prop} {S : SS} {x2 : Int32} {x3 : Int32} {x4 : Int32}
    (HF : (S.1 151 21 ≤ x4 → Q x3 S) ∧ (¬ S.1 151 21 ≤ x4 → ((nI 2) * x2 < x4 - x3 → Q x3 S) ∧ (¬ (nI 2) * x2 < x4 - x3 → (vp_in x4 48) ∧ ((S.2 167 x4.toNatClampNeg = nI 32 → AtI g um_M_lastOf d Q 5 [(0, .ref (g.2.1 + 151)), (2, .int x2), (3, .int x3), (4, .int (x4 + 1))] [] S) ∧ (¬ S.2 167 x4.toNatClampNeg = nI 32 → AtI g um_M_lastOf d Q 5 [(0, .ref (g.2.1 + 151)), (2, .int x2), (3, .int (x4 + (1 : Int32))), (4, .int (x4 + 1))] [] S))))) : AtI g um_M_lastOf d Q 5 [(0, .ref (g.2.1 + 151)), (2, .int x2), (3, .int x3), (4, .int x4)] [] S := by
  refine ab_iload 3 d_M_lastOf_5 rfl ?_
  refine ab_aload_n 0 d_M_lastOf_7 rfl rfl ?_
  refine sa_getI kf_M_145 d_M_lastOf_8 sh_151 rfl ?_
  refine ab_icmp_ge (tgt := 51) d_M_lastOf_11 (by decide) (fun b1 => ?_) (fun b1 => ?_)
  · replace HF := HF.1 b1
    refine ab_iload_n 2 d_M_lastOf_51 rfl rfl ?_
    exact sa_iretI rfl d_M_lastOf_52 HF
  · replace HF := HF.2 b1
    refine ab_iload 3 d_M_lastOf_14 rfl ?_
    refine ab_iload_n 2 d_M_lastOf_16 rfl rfl ?_
    refine ab_isub d_M_lastOf_17 ?_
    refine ab_iconst (v := nI 2) d_M_lastOf_18 (by decide) ?_
    refine ab_iload_n 1 d_M_lastOf_19 rfl rfl ?_
    refine ab_imul d_M_lastOf_20 ?_
    refine ab_icmp_gt (tgt := 51) d_M_lastOf_21 (by decide) (fun b2 => ?_) (fun b2 => ?_)
    · replace HF := HF.1 b2
      refine ab_iload_n 2 d_M_lastOf_51 rfl rfl ?_
      exact sa_iretI rfl d_M_lastOf_52 HF
    · replace HF := HF.2 b2
      refine ab_aload_n 0 d_M_lastOf_24 rfl rfl ?_
      refine sa_getR (r := 167) kf_M_55 d_M_lastOf_25 sh_151 rfl ?_
      refine ab_iload 3 d_M_lastOf_28 rfl ?_
      obtain ⟨c3, HF⟩ := HF
      refine sa_iald d_M_lastOf_30 sh_167 c3 ?_
      refine ab_bipush (v := nI 32) d_M_lastOf_31 (by decide) ?_
      refine ab_icmp_eq (tgt := 43) d_M_lastOf_33 (by decide) (fun b4 => ?_) (fun b4 => ?_)
      · replace HF := HF.1 b4
        refine ab_iload_n 2 d_M_lastOf_43 rfl rfl ?_
        refine ab_istore_n (lv' := [(3, .int x3), (0, .ref (g.2.1 + 151)), (2, .int x2), (4, .int x4)]) d_M_lastOf_44 rfl (Nat.le_of_ble_eq_true rfl) rfl ?_
        refine ab_iinc (v := x4 + 1) (lv' := [(4, .int (x4 + 1)), (3, .int x3), (0, .ref (g.2.1 + 151)), (2, .int x2)]) 3 d_M_lastOf_45 rfl (congrArg (fun z => x4 + z) (show Int32.ofInt 1 = (1 : Int32) by decide)) (Nat.le_of_ble_eq_true rfl) rfl ?_
        refine ab_goto (tgt := 5) d_M_lastOf_48 (by decide) ?_
        refine ab_sub (lv' := [(0, .ref (g.2.1 + 151)), (2, .int x2), (3, .int x3), (4, .int (x4 + 1))]) [2, 3, 1, 0] rfl ?_
        exact HF
      · replace HF := HF.2 b4
        refine ab_iload 3 d_M_lastOf_36 rfl ?_
        refine ab_iconst (v := (1 : Int32)) d_M_lastOf_38 (by decide) ?_
        refine ab_iadd d_M_lastOf_39 ?_
        refine ab_goto (tgt := 44) d_M_lastOf_40 (by decide) ?_
        refine ab_istore_n (lv' := [(3, .int (x4 + (1 : Int32))), (0, .ref (g.2.1 + 151)), (2, .int x2), (4, .int x4)]) d_M_lastOf_44 rfl (Nat.le_of_ble_eq_true rfl) rfl ?_
        refine ab_iinc (v := x4 + 1) (lv' := [(4, .int (x4 + 1)), (3, .int (x4 + (1 : Int32))), (0, .ref (g.2.1 + 151)), (2, .int x2)]) 3 d_M_lastOf_45 rfl (congrArg (fun z => x4 + z) (show Int32.ofInt 1 = (1 : Int32) by decide)) (Nat.le_of_ble_eq_true rfl) rfl ?_
        refine ab_goto (tgt := 5) d_M_lastOf_48 (by decide) ?_
        refine ab_sub (lv' := [(0, .ref (g.2.1 + 151)), (2, .int x2), (3, .int (x4 + (1 : Int32))), (4, .int (x4 + 1))]) [2, 3, 1, 0] rfl ?_
        exact HF
set_option maxRecDepth 100000 in
theorem f_M_write {g : lp_G} {d : Nat} {Q : Int32 → SS → Prop} {S : SS} {x1 : Int32}
    (HF : MtI g um_M_within d [.int x1, .int (0 : Int32), .int (nI 3)] S (fun r2 S1 => (¬ r2 = 0 → (¬ S1.1 151 15 = 0 → MtV g um_M_row d [.ref (g.2.1 + 151)] S1 (fun S5 => ∀ S7 : SS, S7 = setI S5 151 24 (0 : Int32) → AtI g um_M_write (d + 1) Q 34 [(0, .ref (g.2.1 + 151)), (1, .int x1), (2, .int (0 : Int32)), (3, .int (0 : Int32))] [] S7)) ∧ (S1.1 151 15 = 0 → Q (-3 : Int32) S1)) ∧ (r2 = 0 → Q (-1 : Int32) S1))) : MtI g um_M_write (d + 1) [.ref (g.2.1 + 151), .int x1] S Q := by
  refine sa_entryI (lv' := [(0, .ref (g.2.1 + 151)), (1, .int x1)]) (by decide +kernel) (Nat.le_of_ble_eq_true rfl) rfl ?_
  refine ab_iload_n 1 d_M_write_0 rfl rfl ?_
  refine ab_iconst (v := (0 : Int32)) d_M_write_1 (by decide) ?_
  refine ab_iconst (v := nI 3) d_M_write_2 (by decide) ?_
  refine sa_callSi (As := [.int x1, .int (0 : Int32), .int (nI 3)]) (rest := []) kc_M_88 d_M_write_3 rfl (Nat.le_of_ble_eq_true rfl) enI (Nat.le_of_ble_eq_true rfl) ⟨Nat.zero_le _, Nat.zero_le _⟩ HF (fun r2 S1 HF => ?_)
  refine ab_if_ne (tgt := 11) d_M_write_6 (by decide) (fun b3 => ?_) (fun b3 => ?_)
  · replace HF := HF.1 b3
    refine ab_aload_n 0 d_M_write_11 rfl rfl ?_
    refine sa_getI kf_M_135 d_M_write_12 sh_151 rfl ?_
    refine ab_if_ne (tgt := 21) d_M_write_15 (by decide) (fun b4 => ?_) (fun b4 => ?_)
    · replace HF := HF.1 b4
      refine ab_aload_n 0 d_M_write_21 rfl rfl ?_
      refine sa_callVv (As := []) (rest := []) kc_M_164 d_M_write_22 sh_151 rfl rfl rfl (Nat.le_of_ble_eq_true rfl) enI (Nat.le_of_ble_eq_true rfl) ⟨Nat.zero_le _, Nat.zero_le _⟩ HF (fun S5 HF => ?_)
      refine ab_aload_n 0 d_M_write_25 rfl rfl ?_
      refine ab_iconst (v := (0 : Int32)) d_M_write_26 (by decide) ?_
      refine sa_putIn kp_M_151 d_M_write_27 sh_151 rfl (fun S7 hS7 => ?_)
      replace HF := HF S7 hS7
      refine ab_iconst (v := (0 : Int32)) d_M_write_30 (by decide) ?_
      refine ab_istore_n (lv' := [(2, .int (0 : Int32)), (0, .ref (g.2.1 + 151)), (1, .int x1)]) d_M_write_31 rfl (Nat.le_of_ble_eq_true rfl) rfl ?_
      refine ab_iconst (v := (0 : Int32)) d_M_write_32 (by decide) ?_
      refine ab_istore_n (lv' := [(3, .int (0 : Int32)), (2, .int (0 : Int32)), (0, .ref (g.2.1 + 151)), (1, .int x1)]) d_M_write_33 rfl (Nat.le_of_ble_eq_true rfl) rfl ?_
      refine ab_sub (lv' := [(0, .ref (g.2.1 + 151)), (1, .int x1), (2, .int (0 : Int32)), (3, .int (0 : Int32))]) [2, 3, 1, 0] rfl ?_
      exact HF
    · replace HF := HF.2 b4
      refine ab_bipush (v := (-3 : Int32)) d_M_write_18 (by decide) ?_
      exact sa_iretI rfl d_M_write_20 HF
  · replace HF := HF.2 b3
    refine ab_iconst (v := (-1 : Int32)) d_M_write_9 (by decide) ?_
    exact sa_iretI rfl d_M_write_10 HF
set_option maxRecDepth 100000 in
theorem f_M_write_34 {g : lp_G} {d : Nat} {Q : Int32 → SS → Prop} {S : SS} {x1 : Int32} {x2 : Int32} {x3 : Int32}
    (HF : (S.1 151 21 ≤ x3 → Q x2 S) ∧ (¬ S.1 151 21 ≤ x3 → (vp_in x3 48) ∧ ((¬ S.2 167 x3.toNatClampNeg = nI 32 → MtI g um_M_lastOf d [.ref (g.2.1 + 151), .int x3, .int x1] S (fun r12 S11 => (x1 ≤ x3 → (r12 + x1 ≤ S11.1 151 21 → MtV g um_M_putHunk d [.ref (g.2.1 + 151), .int (x3 - x1), .int (r12 + x1)] S11 (fun S15 => AtI g um_M_write (d + 1) Q 34 [(0, .ref (g.2.1 + 151)), (1, .int x1), (2, .int (x2 + 1)), (3, .int r12)] [] S15)) ∧ (¬ r12 + x1 ≤ S11.1 151 21 → MtV g um_M_putHunk d [.ref (g.2.1 + 151), .int (x3 - x1), .int (S11.1 151 21)] S11 (fun S17 => AtI g um_M_write (d + 1) Q 34 [(0, .ref (g.2.1 + 151)), (1, .int x1), (2, .int (x2 + 1)), (3, .int r12)] [] S17))) ∧ (¬ x1 ≤ x3 → (r12 + x1 ≤ S11.1 151 21 → MtV g um_M_putHunk d [.ref (g.2.1 + 151), .int (0 : Int32), .int (r12 + x1)] S11 (fun S20 => AtI g um_M_write (d + 1) Q 34 [(0, .ref (g.2.1 + 151)), (1, .int x1), (2, .int (x2 + 1)), (3, .int r12)] [] S20)) ∧ (¬ r12 + x1 ≤ S11.1 151 21 → MtV g um_M_putHunk d [.ref (g.2.1 + 151), .int (0 : Int32), .int (S11.1 151 21)] S11 (fun S22 => AtI g um_M_write (d + 1) Q 34 [(0, .ref (g.2.1 + 151)), (1, .int x1), (2, .int (x2 + 1)), (3, .int r12)] [] S22))))) ∧ (S.2 167 x3.toNatClampNeg = nI 32 → AtI g um_M_write (d + 1) Q 34 [(0, .ref (g.2.1 + 151)), (1, .int x1), (2, .int x2), (3, .int (x3 + 1))] [] S)))) : AtI g um_M_write (d + 1) Q 34 [(0, .ref (g.2.1 + 151)), (1, .int x1), (2, .int x2), (3, .int x3)] [] S := by
  refine ab_iload_n 3 d_M_write_34 rfl rfl ?_
  refine ab_aload_n 0 d_M_write_35 rfl rfl ?_
  refine sa_getI kf_M_145 d_M_write_36 sh_151 rfl ?_
  refine ab_icmp_ge (tgt := 122) d_M_write_39 (by decide) (fun b8 => ?_) (fun b8 => ?_)
  · replace HF := HF.1 b8
    refine ab_iload_n 2 d_M_write_122 rfl rfl ?_
    exact sa_iretI rfl d_M_write_123 HF
  · replace HF := HF.2 b8
    refine ab_aload_n 0 d_M_write_42 rfl rfl ?_
    refine sa_getR (r := 167) kf_M_55 d_M_write_43 sh_151 rfl ?_
    refine ab_iload_n 3 d_M_write_46 rfl rfl ?_
    obtain ⟨c9, HF⟩ := HF
    refine sa_iald d_M_write_47 sh_167 c9 ?_
    refine ab_bipush (v := nI 32) d_M_write_48 (by decide) ?_
    refine ab_icmp_ne (tgt := 59) d_M_write_50 (by decide) (fun b10 => ?_) (fun b10 => ?_)
    · replace HF := HF.1 b10
      refine ab_aload_n 0 d_M_write_59 rfl rfl ?_
      refine ab_iload_n 3 d_M_write_60 rfl rfl ?_
      refine ab_iload_n 1 d_M_write_61 rfl rfl ?_
      refine sa_callVi (As := [.int x3, .int x1]) (rest := []) kc_M_167 d_M_write_62 sh_151 rfl rfl rfl (Nat.le_of_ble_eq_true rfl) enI (Nat.le_of_ble_eq_true rfl) ⟨Nat.zero_le _, Nat.zero_le _⟩ HF (fun r12 S11 HF => ?_)
      refine ab_istore (lv' := [(4, .int r12), (0, .ref (g.2.1 + 151)), (1, .int x1), (2, .int x2), (3, .int x3)]) d_M_write_65 (Nat.le_of_ble_eq_true rfl) rfl ?_
      refine ab_iload_n 4 d_M_write_67 rfl rfl ?_
      refine ab_iload_n 2 d_M_write_68 rfl rfl ?_
      refine ab_icmp_ge (tgt := 76) d_M_write_69 (by decide) (fun b13 => ?_) (fun b13 => ?_)
      · replace HF := HF.1 b13
        refine ab_iload_n 4 d_M_write_76 rfl rfl ?_
        refine ab_iload_n 2 d_M_write_77 rfl rfl ?_
        refine ab_isub d_M_write_78 ?_
        refine ab_istore (lv' := [(5, .int (x3 - x1)), (4, .int r12), (0, .ref (g.2.1 + 151)), (1, .int x1), (2, .int x2), (3, .int x3)]) d_M_write_79 (Nat.le_of_ble_eq_true rfl) rfl ?_
        refine ab_iload 1 d_M_write_81 rfl ?_
        refine ab_iload_n 3 d_M_write_83 rfl rfl ?_
        refine ab_iadd d_M_write_84 ?_
        refine ab_aload_n 2 d_M_write_85 rfl rfl ?_
        refine sa_getI kf_M_145 d_M_write_86 sh_151 rfl ?_
        refine ab_icmp_le (tgt := 99) d_M_write_89 (by decide) (fun b14 => ?_) (fun b14 => ?_)
        · replace HF := HF.1 b14
          refine ab_iload 1 d_M_write_99 rfl ?_
          refine ab_iload_n 3 d_M_write_101 rfl rfl ?_
          refine ab_iadd d_M_write_102 ?_
          refine ab_istore (lv' := [(6, .int (r12 + x1)), (5, .int (x3 - x1)), (4, .int r12), (0, .ref (g.2.1 + 151)), (1, .int x1), (2, .int x2), (3, .int x3)]) d_M_write_103 (Nat.le_of_ble_eq_true rfl) rfl ?_
          refine ab_aload_n 3 d_M_write_105 rfl rfl ?_
          refine ab_iload 1 d_M_write_106 rfl ?_
          refine ab_iload 0 d_M_write_108 rfl ?_
          refine sa_callVv (As := [.int (x3 - x1), .int (r12 + x1)]) (rest := []) kc_M_171 d_M_write_110 sh_151 rfl rfl rfl (Nat.le_of_ble_eq_true rfl) enI (Nat.le_of_ble_eq_true rfl) ⟨Nat.zero_le _, Nat.zero_le _⟩ HF (fun S15 HF => ?_)
          refine ab_iinc (v := x2 + 1) (lv' := [(2, .int (x2 + 1)), (6, .int (r12 + x1)), (5, .int (x3 - x1)), (4, .int r12), (0, .ref (g.2.1 + 151)), (1, .int x1), (3, .int x3)]) 5 d_M_write_113 rfl (congrArg (fun z => x2 + z) (show Int32.ofInt 1 = (1 : Int32) by decide)) (Nat.le_of_ble_eq_true rfl) rfl ?_
          refine ab_iload 3 d_M_write_116 rfl ?_
          refine ab_istore_n (lv' := [(3, .int r12), (2, .int (x2 + 1)), (6, .int (r12 + x1)), (5, .int (x3 - x1)), (4, .int r12), (0, .ref (g.2.1 + 151)), (1, .int x1)]) d_M_write_118 rfl (Nat.le_of_ble_eq_true rfl) rfl ?_
          refine ab_goto (tgt := 34) d_M_write_119 (by decide) ?_
          refine ab_sub (lv' := [(0, .ref (g.2.1 + 151)), (1, .int x1), (2, .int (x2 + 1)), (3, .int r12)]) [5, 6, 1, 0] rfl ?_
          exact HF
        · replace HF := HF.2 b14
          refine ab_aload_n 2 d_M_write_92 rfl rfl ?_
          refine sa_getI kf_M_145 d_M_write_93 sh_151 rfl ?_
          refine ab_goto (tgt := 103) d_M_write_96 (by decide) ?_
          refine ab_istore (lv' := [(6, .int (S11.1 151 21)), (5, .int (x3 - x1)), (4, .int r12), (0, .ref (g.2.1 + 151)), (1, .int x1), (2, .int x2), (3, .int x3)]) d_M_write_103 (Nat.le_of_ble_eq_true rfl) rfl ?_
          refine ab_aload_n 3 d_M_write_105 rfl rfl ?_
          refine ab_iload 1 d_M_write_106 rfl ?_
          refine ab_iload 0 d_M_write_108 rfl ?_
          refine sa_callVv (As := [.int (x3 - x1), .int (S11.1 151 21)]) (rest := []) kc_M_171 d_M_write_110 sh_151 rfl rfl rfl (Nat.le_of_ble_eq_true rfl) enI (Nat.le_of_ble_eq_true rfl) ⟨Nat.zero_le _, Nat.zero_le _⟩ HF (fun S17 HF => ?_)
          refine ab_iinc (v := x2 + 1) (lv' := [(2, .int (x2 + 1)), (6, .int (S11.1 151 21)), (5, .int (x3 - x1)), (4, .int r12), (0, .ref (g.2.1 + 151)), (1, .int x1), (3, .int x3)]) 5 d_M_write_113 rfl (congrArg (fun z => x2 + z) (show Int32.ofInt 1 = (1 : Int32) by decide)) (Nat.le_of_ble_eq_true rfl) rfl ?_
          refine ab_iload 3 d_M_write_116 rfl ?_
          refine ab_istore_n (lv' := [(3, .int r12), (2, .int (x2 + 1)), (6, .int (S11.1 151 21)), (5, .int (x3 - x1)), (4, .int r12), (0, .ref (g.2.1 + 151)), (1, .int x1)]) d_M_write_118 rfl (Nat.le_of_ble_eq_true rfl) rfl ?_
          refine ab_goto (tgt := 34) d_M_write_119 (by decide) ?_
          refine ab_sub (lv' := [(0, .ref (g.2.1 + 151)), (1, .int x1), (2, .int (x2 + 1)), (3, .int r12)]) [5, 6, 1, 0] rfl ?_
          exact HF
      · replace HF := HF.2 b13
        refine ab_iconst (v := (0 : Int32)) d_M_write_72 (by decide) ?_
        refine ab_goto (tgt := 79) d_M_write_73 (by decide) ?_
        refine ab_istore (lv' := [(5, .int (0 : Int32)), (4, .int r12), (0, .ref (g.2.1 + 151)), (1, .int x1), (2, .int x2), (3, .int x3)]) d_M_write_79 (Nat.le_of_ble_eq_true rfl) rfl ?_
        refine ab_iload 1 d_M_write_81 rfl ?_
        refine ab_iload_n 3 d_M_write_83 rfl rfl ?_
        refine ab_iadd d_M_write_84 ?_
        refine ab_aload_n 2 d_M_write_85 rfl rfl ?_
        refine sa_getI kf_M_145 d_M_write_86 sh_151 rfl ?_
        refine ab_icmp_le (tgt := 99) d_M_write_89 (by decide) (fun b19 => ?_) (fun b19 => ?_)
        · replace HF := HF.1 b19
          refine ab_iload 1 d_M_write_99 rfl ?_
          refine ab_iload_n 3 d_M_write_101 rfl rfl ?_
          refine ab_iadd d_M_write_102 ?_
          refine ab_istore (lv' := [(6, .int (r12 + x1)), (5, .int (0 : Int32)), (4, .int r12), (0, .ref (g.2.1 + 151)), (1, .int x1), (2, .int x2), (3, .int x3)]) d_M_write_103 (Nat.le_of_ble_eq_true rfl) rfl ?_
          refine ab_aload_n 3 d_M_write_105 rfl rfl ?_
          refine ab_iload 1 d_M_write_106 rfl ?_
          refine ab_iload 0 d_M_write_108 rfl ?_
          refine sa_callVv (As := [.int (0 : Int32), .int (r12 + x1)]) (rest := []) kc_M_171 d_M_write_110 sh_151 rfl rfl rfl (Nat.le_of_ble_eq_true rfl) enI (Nat.le_of_ble_eq_true rfl) ⟨Nat.zero_le _, Nat.zero_le _⟩ HF (fun S20 HF => ?_)
          refine ab_iinc (v := x2 + 1) (lv' := [(2, .int (x2 + 1)), (6, .int (r12 + x1)), (5, .int (0 : Int32)), (4, .int r12), (0, .ref (g.2.1 + 151)), (1, .int x1), (3, .int x3)]) 5 d_M_write_113 rfl (congrArg (fun z => x2 + z) (show Int32.ofInt 1 = (1 : Int32) by decide)) (Nat.le_of_ble_eq_true rfl) rfl ?_
          refine ab_iload 3 d_M_write_116 rfl ?_
          refine ab_istore_n (lv' := [(3, .int r12), (2, .int (x2 + 1)), (6, .int (r12 + x1)), (5, .int (0 : Int32)), (4, .int r12), (0, .ref (g.2.1 + 151)), (1, .int x1)]) d_M_write_118 rfl (Nat.le_of_ble_eq_true rfl) rfl ?_
          refine ab_goto (tgt := 34) d_M_write_119 (by decide) ?_
          refine ab_sub (lv' := [(0, .ref (g.2.1 + 151)), (1, .int x1), (2, .int (x2 + 1)), (3, .int r12)]) [5, 6, 1, 0] rfl ?_
          exact HF
        · replace HF := HF.2 b19
          refine ab_aload_n 2 d_M_write_92 rfl rfl ?_
          refine sa_getI kf_M_145 d_M_write_93 sh_151 rfl ?_
          refine ab_goto (tgt := 103) d_M_write_96 (by decide) ?_
          refine ab_istore (lv' := [(6, .int (S11.1 151 21)), (5, .int (0 : Int32)), (4, .int r12), (0, .ref (g.2.1 + 151)), (1, .int x1), (2, .int x2), (3, .int x3)]) d_M_write_103 (Nat.le_of_ble_eq_true rfl) rfl ?_
          refine ab_aload_n 3 d_M_write_105 rfl rfl ?_
          refine ab_iload 1 d_M_write_106 rfl ?_
          refine ab_iload 0 d_M_write_108 rfl ?_
          refine sa_callVv (As := [.int (0 : Int32), .int (S11.1 151 21)]) (rest := []) kc_M_171 d_M_write_110 sh_151 rfl rfl rfl (Nat.le_of_ble_eq_true rfl) enI (Nat.le_of_ble_eq_true rfl) ⟨Nat.zero_le _, Nat.zero_le _⟩ HF (fun S22 HF => ?_)
          refine ab_iinc (v := x2 + 1) (lv' := [(2, .int (x2 + 1)), (6, .int (S11.1 151 21)), (5, .int (0 : Int32)), (4, .int r12), (0, .ref (g.2.1 + 151)), (1, .int x1), (3, .int x3)]) 5 d_M_write_113 rfl (congrArg (fun z => x2 + z) (show Int32.ofInt 1 = (1 : Int32) by decide)) (Nat.le_of_ble_eq_true rfl) rfl ?_
          refine ab_iload 3 d_M_write_116 rfl ?_
          refine ab_istore_n (lv' := [(3, .int r12), (2, .int (x2 + 1)), (6, .int (S11.1 151 21)), (5, .int (0 : Int32)), (4, .int r12), (0, .ref (g.2.1 + 151)), (1, .int x1)]) d_M_write_118 rfl (Nat.le_of_ble_eq_true rfl) rfl ?_
          refine ab_goto (tgt := 34) d_M_write_119 (by decide) ?_
          refine ab_sub (lv' := [(0, .ref (g.2.1 + 151)), (1, .int x1), (2, .int (x2 + 1)), (3, .int r12)]) [5, 6, 1, 0] rfl ?_
          exact HF
    · replace HF := HF.2 b10
      refine ab_iinc (v := x3 + 1) (lv' := [(3, .int (x3 + 1)), (0, .ref (g.2.1 + 151)), (1, .int x1), (2, .int x2)]) 3 d_M_write_53 rfl (congrArg (fun z => x3 + z) (show Int32.ofInt 1 = (1 : Int32) by decide)) (Nat.le_of_ble_eq_true rfl) rfl ?_
      refine ab_goto (tgt := 34) d_M_write_56 (by decide) ?_
      refine ab_sub (lv' := [(0, .ref (g.2.1 + 151)), (1, .int x1), (2, .int x2), (3, .int (x3 + 1))]) [1, 2, 3, 0] rfl ?_
      exact HF
set_option maxRecDepth 100000 in
theorem f_M_type {g : lp_G} {d : Nat} {Q : Int32 → SS → Prop} {S : SS} {w1 : Int64} {x3 : Int32}
    (HF : MtI g um_M_within d [.int x3, .int (1 : Int32), .int (nI 8)] S (fun r2 S1 => (¬ r2 = 0 → ((S1.1 151 24) + x3 ≤ nI 900 → AtI g um_M_type (d + 1) Q 32 [(0, .ref (g.2.1 + 151)), (1, .long w1), (4, .int (x3 - (1 : Int32)))] [] S1) ∧ (¬ (S1.1 151 24) + x3 ≤ nI 900 → Q (-2 : Int32) S1)) ∧ (r2 = 0 → Q (-1 : Int32) S1))) : MtI g um_M_type (d + 1) [.ref (g.2.1 + 151), .long w1, .int x3] S Q := by
  refine sa_entryI (lv' := [(0, .ref (g.2.1 + 151)), (1, .long w1), (3, .int x3)]) (by decide +kernel) (Nat.le_of_ble_eq_true rfl) rfl ?_
  refine ab_iload_n 2 d_M_type_0 rfl rfl ?_
  refine ab_iconst (v := (1 : Int32)) d_M_type_1 (by decide) ?_
  refine ab_bipush (v := nI 8) d_M_type_2 (by decide) ?_
  refine sa_callSi (As := [.int x3, .int (1 : Int32), .int (nI 8)]) (rest := []) kc_M_88 d_M_type_4 rfl (Nat.le_of_ble_eq_true rfl) enI (Nat.le_of_ble_eq_true rfl) ⟨Nat.zero_le _, Nat.zero_le _⟩ HF (fun r2 S1 HF => ?_)
  refine ab_if_ne (tgt := 12) d_M_type_7 (by decide) (fun b3 => ?_) (fun b3 => ?_)
  · replace HF := HF.1 b3
    refine ab_aload_n 0 d_M_type_12 rfl rfl ?_
    refine sa_getI kf_M_151 d_M_type_13 sh_151 rfl ?_
    refine ab_iload_n 2 d_M_type_16 rfl rfl ?_
    refine ab_iadd d_M_type_17 ?_
    refine ab_sipush (v := nI 900) d_M_type_18 (by decide) ?_
    refine ab_icmp_le (tgt := 27) d_M_type_21 (by decide) (fun b4 => ?_) (fun b4 => ?_)
    · replace HF := HF.1 b4
      refine ab_iload_n 2 d_M_type_27 rfl rfl ?_
      refine ab_iconst (v := (1 : Int32)) d_M_type_28 (by decide) ?_
      refine ab_isub d_M_type_29 ?_
      refine ab_istore (lv' := [(4, .int (x3 - (1 : Int32))), (0, .ref (g.2.1 + 151)), (1, .long w1), (3, .int x3)]) d_M_type_30 (Nat.le_of_ble_eq_true rfl) rfl ?_
      refine ab_sub (lv' := [(0, .ref (g.2.1 + 151)), (1, .long w1), (4, .int (x3 - (1 : Int32)))]) [1, 2, 0] rfl ?_
      exact HF
    · replace HF := HF.2 b4
      refine ab_bipush (v := (-2 : Int32)) d_M_type_24 (by decide) ?_
      exact sa_iretI rfl d_M_type_26 HF
  · replace HF := HF.2 b3
    refine ab_iconst (v := (-1 : Int32)) d_M_type_10 (by decide) ?_
    exact sa_iretI rfl d_M_type_11 HF
set_option maxRecDepth 100000 in
theorem f_M_type_32 {g : lp_G} {d : Nat} {Q : Int32 → SS → Prop} {S : SS} {w1 : Int64} {x4 : Int32}
    (HF : (x4 < 0 → Q (S.1 151 24) S) ∧ (¬ x4 < 0 → MtV g um_M_put d [.ref (g.2.1 + 151), .int (((w1 >>> (((nI 8) * x4).toInt64 &&& 63)).toInt32) &&& (nI 255))] S (fun S6 => AtI g um_M_type (d + 1) Q 32 [(0, .ref (g.2.1 + 151)), (1, .long w1), (4, .int (x4 + (-1)))] [] S6))) : AtI g um_M_type (d + 1) Q 32 [(0, .ref (g.2.1 + 151)), (1, .long w1), (4, .int x4)] [] S := by
  refine ab_iload 2 d_M_type_32 rfl ?_
  refine ab_if_lt (tgt := 59) d_M_type_34 (by decide) (fun b5 => ?_) (fun b5 => ?_)
  · replace HF := HF.1 b5
    refine ab_aload_n 0 d_M_type_59 rfl rfl ?_
    refine sa_getI kf_M_151 d_M_type_60 sh_151 rfl ?_
    exact sa_iretI rfl d_M_type_63 HF
  · replace HF := HF.2 b5
    refine ab_aload_n 0 d_M_type_37 rfl rfl ?_
    refine ab_lload_n 1 d_M_type_38 rfl rfl ?_
    refine ab_bipush (v := nI 8) d_M_type_39 (by decide) ?_
    refine ab_iload 2 d_M_type_41 rfl ?_
    refine ab_imul d_M_type_43 ?_
    refine ab_lshr d_M_type_44 rfl ?_
    refine ab_l2i d_M_type_45 rfl ?_
    refine ab_sipush (v := nI 255) d_M_type_46 (by decide) ?_
    refine ab_iand d_M_type_49 ?_
    refine sa_callVv (As := [.int (((w1 >>> (((nI 8) * x4).toInt64 &&& 63)).toInt32) &&& (nI 255))]) (rest := []) kc_M_154 d_M_type_50 sh_151 rfl rfl rfl (Nat.le_of_ble_eq_true rfl) enI (Nat.le_of_ble_eq_true rfl) ⟨Nat.zero_le _, Nat.zero_le _⟩ HF (fun S6 HF => ?_)
    refine ab_iinc (v := x4 + (-1)) (lv' := [(4, .int (x4 + (-1))), (0, .ref (g.2.1 + 151)), (1, .long w1)]) 2 d_M_type_53 rfl (congrArg (fun z => x4 + z) (show Int32.ofInt (-1) = (-1 : Int32) by decide)) (Nat.le_of_ble_eq_true rfl) rfl ?_
    refine ab_goto (tgt := 32) d_M_type_56 (by decide) ?_
    refine ab_sub (lv' := [(0, .ref (g.2.1 + 151)), (1, .long w1), (4, .int (x4 + (-1)))]) [1, 2, 0] rfl ?_
    exact HF
set_option maxRecDepth 100000 in
theorem f_M_wipe {g : lp_G} {d : Nat} {Q : Int32 → SS → Prop} {S : SS} 
    (HF : ∀ S1 : SS, S1 = setI S 151 24 (0 : Int32) → Q (S.1 151 24) S1) : MtI g um_M_wipe d [.ref (g.2.1 + 151)] S Q := by
  refine sa_entryI (lv' := [(0, .ref (g.2.1 + 151))]) (by decide +kernel) (Nat.le_of_ble_eq_true rfl) rfl ?_
  refine ab_aload_n 0 d_M_wipe_0 rfl rfl ?_
  refine sa_getI kf_M_151 d_M_wipe_1 sh_151 rfl ?_
  refine ab_istore_n (lv' := [(1, .int (S.1 151 24)), (0, .ref (g.2.1 + 151))]) d_M_wipe_4 rfl (Nat.le_of_ble_eq_true rfl) rfl ?_
  refine ab_aload_n 1 d_M_wipe_5 rfl rfl ?_
  refine ab_iconst (v := (0 : Int32)) d_M_wipe_6 (by decide) ?_
  refine sa_putIn kp_M_151 d_M_wipe_7 sh_151 rfl (fun S1 hS1 => ?_)
  replace HF := HF S1 hS1
  refine ab_iload_n 0 d_M_wipe_10 rfl rfl ?_
  exact sa_iretI rfl d_M_wipe_11 HF
set_option maxRecDepth 100000 in
theorem f_M_character {g : lp_G} {d : Nat} {Q : Int32 → SS → Prop} {S : SS} {x1 : Int32}
    (HF : MtI g um_M_within d [.int x1, .int (0 : Int32), .int ((S.1 151 24) - (1 : Int32))] S (fun r2 S1 => (r2 = 0 → Q (-3 : Int32) S1) ∧ (¬ r2 = 0 → (vp_in x1 900) ∧ (Q (S1.2 169 x1.toNatClampNeg) S1)))) : MtI g um_M_character (d + 1) [.ref (g.2.1 + 151), .int x1] S Q := by
  refine sa_entryI (lv' := [(0, .ref (g.2.1 + 151)), (1, .int x1)]) (by decide +kernel) (Nat.le_of_ble_eq_true rfl) rfl ?_
  refine ab_iload_n 1 d_M_character_0 rfl rfl ?_
  refine ab_iconst (v := (0 : Int32)) d_M_character_1 (by decide) ?_
  refine ab_aload_n 0 d_M_character_2 rfl rfl ?_
  refine sa_getI kf_M_151 d_M_character_3 sh_151 rfl ?_
  refine ab_iconst (v := (1 : Int32)) d_M_character_6 (by decide) ?_
  refine ab_isub d_M_character_7 ?_
  refine sa_callSi (As := [.int x1, .int (0 : Int32), .int ((S.1 151 24) - (1 : Int32))]) (rest := []) kc_M_88 d_M_character_8 rfl (Nat.le_of_ble_eq_true rfl) enI (Nat.le_of_ble_eq_true rfl) ⟨Nat.zero_le _, Nat.zero_le _⟩ HF (fun r2 S1 HF => ?_)
  refine ab_if_eq (tgt := 23) d_M_character_11 (by decide) (fun b3 => ?_) (fun b3 => ?_)
  · replace HF := HF.1 b3
    refine ab_bipush (v := (-3 : Int32)) d_M_character_23 (by decide) ?_
    exact sa_iretI rfl d_M_character_25 HF
  · replace HF := HF.2 b3
    refine ab_aload_n 0 d_M_character_14 rfl rfl ?_
    refine sa_getR (r := 169) kf_M_61 d_M_character_15 sh_151 rfl ?_
    refine ab_iload_n 1 d_M_character_18 rfl rfl ?_
    obtain ⟨c4, HF⟩ := HF
    refine sa_iald d_M_character_19 sh_169 c4 ?_
    refine ab_goto (tgt := 25) d_M_character_20 (by decide) ?_
    exact sa_iretI rfl d_M_character_25 HF
set_option maxRecDepth 100000 in
theorem f_M_look {g : lp_G} {d : Nat} {Q : Int32 → SS → Prop} {S : SS} 
    (HF : (S.1 151 24 ≤ S.1 151 33 → Q (-1 : Int32) S) ∧ (¬ S.1 151 24 ≤ S.1 151 33 → (vp_in (S.1 151 33) 900) ∧ (Q (S.2 169 (S.1 151 33).toNatClampNeg) S))) : MtI g um_M_look d [.ref (g.2.1 + 151)] S Q := by
  refine sa_entryI (lv' := [(0, .ref (g.2.1 + 151))]) (by decide +kernel) (Nat.le_of_ble_eq_true rfl) rfl ?_
  refine ab_aload_n 0 d_M_look_0 rfl rfl ?_
  refine sa_getI kf_M_174 d_M_look_1 sh_151 rfl ?_
  refine ab_aload_n 0 d_M_look_4 rfl rfl ?_
  refine sa_getI kf_M_151 d_M_look_5 sh_151 rfl ?_
  refine ab_icmp_ge (tgt := 23) d_M_look_8 (by decide) (fun b1 => ?_) (fun b1 => ?_)
  · replace HF := HF.1 b1
    refine ab_iconst (v := (-1 : Int32)) d_M_look_23 (by decide) ?_
    exact sa_iretI rfl d_M_look_24 HF
  · replace HF := HF.2 b1
    refine ab_aload_n 0 d_M_look_11 rfl rfl ?_
    refine sa_getR (r := 169) kf_M_61 d_M_look_12 sh_151 rfl ?_
    refine ab_aload_n 0 d_M_look_15 rfl rfl ?_
    refine sa_getI kf_M_174 d_M_look_16 sh_151 rfl ?_
    obtain ⟨c2, HF⟩ := HF
    refine sa_iald d_M_look_19 sh_169 c2 ?_
    refine ab_goto (tgt := 24) d_M_look_20 (by decide) ?_
    exact sa_iretI rfl d_M_look_24 HF
set_option maxRecDepth 100000 in
theorem f_M_want {g : lp_G} {d : Nat} {Q : SS → Prop} {S : SS} {x1 : Int32}
    (HF : (¬ S.1 151 34 = 0 → ∀ S2 : SS, S2 = setI S 151 34 (1 : Int32) → (S2.1 151 34 = 0 → ∀ S4 : SS, S4 = setI S2 151 33 ((S2.1 151 33) + (1 : Int32)) → Q S4) ∧ (¬ S2.1 151 34 = 0 → ∀ S5 : SS, S5 = setI S2 151 33 (S2.1 151 33) → Q S5)) ∧ (S.1 151 34 = 0 → MtI g um_M_look d [.ref (g.2.1 + 151)] S (fun r7 S6 => (r7 = x1 → ∀ S9 : SS, S9 = setI S6 151 34 (0 : Int32) → (S9.1 151 34 = 0 → ∀ S11 : SS, S11 = setI S9 151 33 ((S9.1 151 33) + (1 : Int32)) → Q S11) ∧ (¬ S9.1 151 34 = 0 → ∀ S12 : SS, S12 = setI S9 151 33 (S9.1 151 33) → Q S12)) ∧ (¬ r7 = x1 → ∀ S13 : SS, S13 = setI S6 151 34 (1 : Int32) → (S13.1 151 34 = 0 → ∀ S15 : SS, S15 = setI S13 151 33 ((S13.1 151 33) + (1 : Int32)) → Q S15) ∧ (¬ S13.1 151 34 = 0 → ∀ S16 : SS, S16 = setI S13 151 33 (S13.1 151 33) → Q S16))))) : MtV g um_M_want (d + 1) [.ref (g.2.1 + 151), .int x1] S Q := by
  refine sa_entryV (lv' := [(0, .ref (g.2.1 + 151)), (1, .int x1)]) (by decide +kernel) (Nat.le_of_ble_eq_true rfl) rfl ?_
  refine ab_aload_n 0 d_M_want_0 rfl rfl ?_
  refine ab_aload_n 0 d_M_want_1 rfl rfl ?_
  refine sa_getI kf_M_177 d_M_want_2 sh_151 rfl ?_
  refine ab_if_ne (tgt := 16) d_M_want_5 (by decide) (fun b1 => ?_) (fun b1 => ?_)
  · replace HF := HF.1 b1
    refine ab_iconst (v := (1 : Int32)) d_M_want_16 (by decide) ?_
    refine ab_goto (tgt := 21) d_M_want_17 (by decide) ?_
    refine sa_putZn kp_M_177 d_M_want_21 sh_151 rfl isB_1 (fun S2 hS2 => ?_)
    replace HF := HF S2 hS2
    refine ab_aload_n 0 d_M_want_24 rfl rfl ?_
    refine ab_aload_n 0 d_M_want_25 rfl rfl ?_
    refine sa_getI kf_M_177 d_M_want_26 sh_151 rfl ?_
    refine ab_if_eq (tgt := 39) d_M_want_29 (by decide) (fun b3 => ?_) (fun b3 => ?_)
    · replace HF := HF.1 b3
      refine ab_aload_n 0 d_M_want_39 rfl rfl ?_
      refine sa_getI kf_M_174 d_M_want_40 sh_151 rfl ?_
      refine ab_iconst (v := (1 : Int32)) d_M_want_43 (by decide) ?_
      refine ab_iadd d_M_want_44 ?_
      refine sa_putIn kp_M_174 d_M_want_45 sh_151 rfl (fun S4 hS4 => ?_)
      replace HF := HF S4 hS4
      exact sa_ret rfl d_M_want_48 HF
    · replace HF := HF.2 b3
      refine ab_aload_n 0 d_M_want_32 rfl rfl ?_
      refine sa_getI kf_M_174 d_M_want_33 sh_151 rfl ?_
      refine ab_goto (tgt := 45) d_M_want_36 (by decide) ?_
      refine sa_putIn kp_M_174 d_M_want_45 sh_151 rfl (fun S5 hS5 => ?_)
      replace HF := HF S5 hS5
      exact sa_ret rfl d_M_want_48 HF
  · replace HF := HF.2 b1
    refine ab_aload_n 0 d_M_want_8 rfl rfl ?_
    refine sa_callVi (As := []) (rest := [.ref (g.2.1 + 151)]) kc_M_180 d_M_want_9 sh_151 rfl rfl rfl (Nat.le_of_ble_eq_true rfl) enV (Nat.le_of_ble_eq_true rfl) ⟨Nat.zero_le _, Nat.zero_le _⟩ HF (fun r7 S6 HF => ?_)
    refine ab_iload_n 1 d_M_want_12 rfl rfl ?_
    refine ab_icmp_eq (tgt := 20) d_M_want_13 (by decide) (fun b8 => ?_) (fun b8 => ?_)
    · replace HF := HF.1 b8
      refine ab_iconst (v := (0 : Int32)) d_M_want_20 (by decide) ?_
      refine sa_putZn kp_M_177 d_M_want_21 sh_151 rfl isB_0 (fun S9 hS9 => ?_)
      replace HF := HF S9 hS9
      refine ab_aload_n 0 d_M_want_24 rfl rfl ?_
      refine ab_aload_n 0 d_M_want_25 rfl rfl ?_
      refine sa_getI kf_M_177 d_M_want_26 sh_151 rfl ?_
      refine ab_if_eq (tgt := 39) d_M_want_29 (by decide) (fun b10 => ?_) (fun b10 => ?_)
      · replace HF := HF.1 b10
        refine ab_aload_n 0 d_M_want_39 rfl rfl ?_
        refine sa_getI kf_M_174 d_M_want_40 sh_151 rfl ?_
        refine ab_iconst (v := (1 : Int32)) d_M_want_43 (by decide) ?_
        refine ab_iadd d_M_want_44 ?_
        refine sa_putIn kp_M_174 d_M_want_45 sh_151 rfl (fun S11 hS11 => ?_)
        replace HF := HF S11 hS11
        exact sa_ret rfl d_M_want_48 HF
      · replace HF := HF.2 b10
        refine ab_aload_n 0 d_M_want_32 rfl rfl ?_
        refine sa_getI kf_M_174 d_M_want_33 sh_151 rfl ?_
        refine ab_goto (tgt := 45) d_M_want_36 (by decide) ?_
        refine sa_putIn kp_M_174 d_M_want_45 sh_151 rfl (fun S12 hS12 => ?_)
        replace HF := HF S12 hS12
        exact sa_ret rfl d_M_want_48 HF
    · replace HF := HF.2 b8
      refine ab_iconst (v := (1 : Int32)) d_M_want_16 (by decide) ?_
      refine ab_goto (tgt := 21) d_M_want_17 (by decide) ?_
      refine sa_putZn kp_M_177 d_M_want_21 sh_151 rfl isB_1 (fun S13 hS13 => ?_)
      replace HF := HF S13 hS13
      refine ab_aload_n 0 d_M_want_24 rfl rfl ?_
      refine ab_aload_n 0 d_M_want_25 rfl rfl ?_
      refine sa_getI kf_M_177 d_M_want_26 sh_151 rfl ?_
      refine ab_if_eq (tgt := 39) d_M_want_29 (by decide) (fun b14 => ?_) (fun b14 => ?_)
      · replace HF := HF.1 b14
        refine ab_aload_n 0 d_M_want_39 rfl rfl ?_
        refine sa_getI kf_M_174 d_M_want_40 sh_151 rfl ?_
        refine ab_iconst (v := (1 : Int32)) d_M_want_43 (by decide) ?_
        refine ab_iadd d_M_want_44 ?_
        refine sa_putIn kp_M_174 d_M_want_45 sh_151 rfl (fun S15 hS15 => ?_)
        replace HF := HF S15 hS15
        exact sa_ret rfl d_M_want_48 HF
      · replace HF := HF.2 b14
        refine ab_aload_n 0 d_M_want_32 rfl rfl ?_
        refine sa_getI kf_M_174 d_M_want_33 sh_151 rfl ?_
        refine ab_goto (tgt := 45) d_M_want_36 (by decide) ?_
        refine sa_putIn kp_M_174 d_M_want_45 sh_151 rfl (fun S16 hS16 => ?_)
        replace HF := HF S16 hS16
        exact sa_ret rfl d_M_want_48 HF
set_option maxRecDepth 100000 in
theorem f_M_number {g : lp_G} {d : Nat} {Q : Int32 → SS → Prop} {S : SS} 
    (HF : (¬ S.1 151 34 = 0 → ∀ S2 : SS, S2 = setI S 151 34 (1 : Int32) → Q (0 : Int32) S2) ∧ (S.1 151 34 = 0 → MtI g um_M_look d [.ref (g.2.1 + 151)] S (fun r4 S3 => MtI g um_M_within d [.int r4, .int (nI 48), .int (nI 57)] S3 (fun r6 S5 => (¬ r6 = 0 → MtI g um_M_look d [.ref (g.2.1 + 151)] S5 (fun r9 S8 => ∀ S10 : SS, S10 = setI S8 151 33 ((S8.1 151 33) + (1 : Int32)) → (r9 - (nI 48) ≤ 0 → Q (r9 - (nI 48)) S10) ∧ (¬ r9 - (nI 48) ≤ 0 → MtI g um_M_look d [.ref (g.2.1 + 151)] S10 (fun r13 S12 => MtI g um_M_within d [.int r13, .int (nI 48), .int (nI 57)] S12 (fun r15 S14 => (r15 = 0 → Q (r9 - (nI 48)) S14) ∧ (¬ r15 = 0 → MtI g um_M_look d [.ref (g.2.1 + 151)] S14 (fun r18 S17 => ∀ S19 : SS, S19 = setI S17 151 33 ((S17.1 151 33) + (1 : Int32)) → Q ((((nI 10) * (r9 - (nI 48))) + r18) - (nI 48)) S19))))))) ∧ (r6 = 0 → ∀ S20 : SS, S20 = setI S5 151 34 (1 : Int32) → Q (0 : Int32) S20))))) : MtI g um_M_number (d + 1) [.ref (g.2.1 + 151)] S Q := by
  refine sa_entryI (lv' := [(0, .ref (g.2.1 + 151))]) (by decide +kernel) (Nat.le_of_ble_eq_true rfl) rfl ?_
  refine ab_aload_n 0 d_M_number_0 rfl rfl ?_
  refine sa_getI kf_M_177 d_M_number_1 sh_151 rfl ?_
  refine ab_if_ne (tgt := 21) d_M_number_4 (by decide) (fun b1 => ?_) (fun b1 => ?_)
  · replace HF := HF.1 b1
    refine ab_aload_n 0 d_M_number_21 rfl rfl ?_
    refine ab_iconst (v := (1 : Int32)) d_M_number_22 (by decide) ?_
    refine sa_putZn kp_M_177 d_M_number_23 sh_151 rfl isB_1 (fun S2 hS2 => ?_)
    replace HF := HF S2 hS2
    refine ab_iconst (v := (0 : Int32)) d_M_number_26 (by decide) ?_
    exact sa_iretI rfl d_M_number_27 HF
  · replace HF := HF.2 b1
    refine ab_aload_n 0 d_M_number_7 rfl rfl ?_
    refine sa_callVi (As := []) (rest := []) kc_M_180 d_M_number_8 sh_151 rfl rfl rfl (Nat.le_of_ble_eq_true rfl) enI (Nat.le_of_ble_eq_true rfl) ⟨Nat.zero_le _, Nat.zero_le _⟩ HF (fun r4 S3 HF => ?_)
    refine ab_bipush (v := nI 48) d_M_number_11 (by decide) ?_
    refine ab_bipush (v := nI 57) d_M_number_13 (by decide) ?_
    refine sa_callSi (As := [.int r4, .int (nI 48), .int (nI 57)]) (rest := []) kc_M_88 d_M_number_15 rfl (Nat.le_of_ble_eq_true rfl) enI (Nat.le_of_ble_eq_true rfl) ⟨Nat.zero_le _, Nat.zero_le _⟩ HF (fun r6 S5 HF => ?_)
    refine ab_if_ne (tgt := 28) d_M_number_18 (by decide) (fun b7 => ?_) (fun b7 => ?_)
    · replace HF := HF.1 b7
      refine ab_aload_n 0 d_M_number_28 rfl rfl ?_
      refine sa_callVi (As := []) (rest := []) kc_M_180 d_M_number_29 sh_151 rfl rfl rfl (Nat.le_of_ble_eq_true rfl) enI (Nat.le_of_ble_eq_true rfl) ⟨Nat.zero_le _, Nat.zero_le _⟩ HF (fun r9 S8 HF => ?_)
      refine ab_bipush (v := nI 48) d_M_number_32 (by decide) ?_
      refine ab_isub d_M_number_34 ?_
      refine ab_istore_n (lv' := [(1, .int (r9 - (nI 48))), (0, .ref (g.2.1 + 151))]) d_M_number_35 rfl (Nat.le_of_ble_eq_true rfl) rfl ?_
      refine ab_aload_n 1 d_M_number_36 rfl rfl ?_
      refine ab_dup d_M_number_37 rfl ?_
      refine sa_getI kf_M_174 d_M_number_38 sh_151 rfl ?_
      refine ab_iconst (v := (1 : Int32)) d_M_number_41 (by decide) ?_
      refine ab_iadd d_M_number_42 ?_
      refine sa_putIn kp_M_174 d_M_number_43 sh_151 rfl (fun S10 hS10 => ?_)
      replace HF := HF S10 hS10
      refine ab_iload_n 0 d_M_number_46 rfl rfl ?_
      refine ab_if_le (tgt := 87) d_M_number_47 (by decide) (fun b11 => ?_) (fun b11 => ?_)
      · replace HF := HF.1 b11
        refine ab_iload_n 0 d_M_number_87 rfl rfl ?_
        exact sa_iretI rfl d_M_number_88 HF
      · replace HF := HF.2 b11
        refine ab_aload_n 1 d_M_number_50 rfl rfl ?_
        refine sa_callVi (As := []) (rest := []) kc_M_180 d_M_number_51 sh_151 rfl rfl rfl (Nat.le_of_ble_eq_true rfl) enI (Nat.le_of_ble_eq_true rfl) ⟨Nat.zero_le _, Nat.zero_le _⟩ HF (fun r13 S12 HF => ?_)
        refine ab_bipush (v := nI 48) d_M_number_54 (by decide) ?_
        refine ab_bipush (v := nI 57) d_M_number_56 (by decide) ?_
        refine sa_callSi (As := [.int r13, .int (nI 48), .int (nI 57)]) (rest := []) kc_M_88 d_M_number_58 rfl (Nat.le_of_ble_eq_true rfl) enI (Nat.le_of_ble_eq_true rfl) ⟨Nat.zero_le _, Nat.zero_le _⟩ HF (fun r15 S14 HF => ?_)
        refine ab_if_eq (tgt := 87) d_M_number_61 (by decide) (fun b16 => ?_) (fun b16 => ?_)
        · replace HF := HF.1 b16
          refine ab_iload_n 0 d_M_number_87 rfl rfl ?_
          exact sa_iretI rfl d_M_number_88 HF
        · replace HF := HF.2 b16
          refine ab_bipush (v := nI 10) d_M_number_64 (by decide) ?_
          refine ab_iload_n 0 d_M_number_66 rfl rfl ?_
          refine ab_imul d_M_number_67 ?_
          refine ab_aload_n 1 d_M_number_68 rfl rfl ?_
          refine sa_callVi (As := []) (rest := [.int ((nI 10) * (r9 - (nI 48)))]) kc_M_180 d_M_number_69 sh_151 rfl rfl rfl (Nat.le_of_ble_eq_true rfl) enI (Nat.le_of_ble_eq_true rfl) ⟨Nat.zero_le _, Nat.zero_le _⟩ HF (fun r18 S17 HF => ?_)
          refine ab_iadd d_M_number_72 ?_
          refine ab_bipush (v := nI 48) d_M_number_73 (by decide) ?_
          refine ab_isub d_M_number_75 ?_
          refine ab_istore_n (lv' := [(1, .int ((((nI 10) * (r9 - (nI 48))) + r18) - (nI 48))), (0, .ref (g.2.1 + 151))]) d_M_number_76 rfl (Nat.le_of_ble_eq_true rfl) rfl ?_
          refine ab_aload_n 1 d_M_number_77 rfl rfl ?_
          refine ab_dup d_M_number_78 rfl ?_
          refine sa_getI kf_M_174 d_M_number_79 sh_151 rfl ?_
          refine ab_iconst (v := (1 : Int32)) d_M_number_82 (by decide) ?_
          refine ab_iadd d_M_number_83 ?_
          refine sa_putIn kp_M_174 d_M_number_84 sh_151 rfl (fun S19 hS19 => ?_)
          replace HF := HF S19 hS19
          refine ab_iload_n 0 d_M_number_87 rfl rfl ?_
          exact sa_iretI rfl d_M_number_88 HF
    · replace HF := HF.2 b7
      refine ab_aload_n 0 d_M_number_21 rfl rfl ?_
      refine ab_iconst (v := (1 : Int32)) d_M_number_22 (by decide) ?_
      refine sa_putZn kp_M_177 d_M_number_23 sh_151 rfl isB_1 (fun S20 hS20 => ?_)
      replace HF := HF S20 hS20
      refine ab_iconst (v := (0 : Int32)) d_M_number_26 (by decide) ?_
      exact sa_iretI rfl d_M_number_27 HF
set_option maxRecDepth 100000 in
theorem f_M_readHunk {g : lp_G} {d : Nat} {Q : SS → Prop} {S : SS} 
    (HF : MtV g um_M_want d [.ref (g.2.1 + 151), .int (nI 64)] S (fun S1 => MtI g um_M_number d [.ref (g.2.1 + 151)] S1 (fun r4 S3 => (vp_in (S1.1 151 26) 80) ∧ (∀ S6 : SS, S6 = setA S3 170 (S1.1 151 26).toNatClampNeg r4 → MtV g um_M_want d [.ref (g.2.1 + 151), .int (nI 44)] S6 (fun S7 => MtI g um_M_number d [.ref (g.2.1 + 151)] S7 (fun r10 S9 => MtV g um_M_want d [.ref (g.2.1 + 151), .int (nI 32)] S9 (fun S11 => MtI g um_M_number d [.ref (g.2.1 + 151)] S11 (fun r14 S13 => MtV g um_M_want d [.ref (g.2.1 + 151), .int (nI 44)] S13 (fun S15 => MtI g um_M_number d [.ref (g.2.1 + 151)] S15 (fun r18 S17 => (¬ S17.1 151 34 = 0 → AtV g um_M_readHunk (d + 1) Q 73 [(0, .ref (g.2.1 + 151)), (1, .int r10), (2, .int r18)] [.int (1 : Int32), .ref (g.2.1 + 151)] S17) ∧ (S17.1 151 34 = 0 → (¬ r10 = 0 → AtV g um_M_readHunk (d + 1) Q 73 [(0, .ref (g.2.1 + 151)), (1, .int r10), (2, .int r18)] [.int (0 : Int32), .ref (g.2.1 + 151)] S17) ∧ (r10 = 0 → (¬ r18 = 0 → AtV g um_M_readHunk (d + 1) Q 73 [(0, .ref (g.2.1 + 151)), (1, .int r10), (2, .int r18)] [.int (0 : Int32), .ref (g.2.1 + 151)] S17) ∧ (r18 = 0 → AtV g um_M_readHunk (d + 1) Q 73 [(0, .ref (g.2.1 + 151)), (1, .int r10), (2, .int r18)] [.int (1 : Int32), .ref (g.2.1 + 151)] S17))))))))))))) : MtV g um_M_readHunk (d + 1) [.ref (g.2.1 + 151)] S Q := by
  refine sa_entryV (lv' := [(0, .ref (g.2.1 + 151))]) (by decide +kernel) (Nat.le_of_ble_eq_true rfl) rfl ?_
  refine ab_aload_n 0 d_M_readHunk_0 rfl rfl ?_
  refine ab_bipush (v := nI 64) d_M_readHunk_1 (by decide) ?_
  refine sa_callVv (As := [.int (nI 64)]) (rest := []) kc_M_184 d_M_readHunk_3 sh_151 rfl rfl rfl (Nat.le_of_ble_eq_true rfl) enV (Nat.le_of_ble_eq_true rfl) ⟨Nat.zero_le _, Nat.zero_le _⟩ HF (fun S1 HF => ?_)
  refine ab_aload_n 0 d_M_readHunk_6 rfl rfl ?_
  refine sa_getR (r := 170) kf_M_64 d_M_readHunk_7 sh_151 rfl ?_
  refine ab_aload_n 0 d_M_readHunk_10 rfl rfl ?_
  refine sa_getI kf_M_187 d_M_readHunk_11 sh_151 rfl ?_
  refine ab_aload_n 0 d_M_readHunk_14 rfl rfl ?_
  refine sa_callVi (As := []) (rest := [.int (S1.1 151 26), .ref (g.2.1 + 170)]) kc_M_190 d_M_readHunk_15 sh_151 rfl rfl rfl (Nat.le_of_ble_eq_true rfl) enV (Nat.le_of_ble_eq_true rfl) ⟨Nat.zero_le _, Nat.zero_le _⟩ HF (fun r4 S3 HF => ?_)
  obtain ⟨c5, HF⟩ := HF
  refine sa_iastn d_M_readHunk_18 sh_170 c5 (fun S6 hS6 => ?_)
  replace HF := HF S6 hS6
  refine ab_aload_n 0 d_M_readHunk_19 rfl rfl ?_
  refine ab_bipush (v := nI 44) d_M_readHunk_20 (by decide) ?_
  refine sa_callVv (As := [.int (nI 44)]) (rest := []) kc_M_184 d_M_readHunk_22 sh_151 rfl rfl rfl (Nat.le_of_ble_eq_true rfl) enV (Nat.le_of_ble_eq_true rfl) ⟨Nat.zero_le _, Nat.zero_le _⟩ HF (fun S7 HF => ?_)
  refine ab_aload_n 0 d_M_readHunk_25 rfl rfl ?_
  refine sa_callVi (As := []) (rest := []) kc_M_190 d_M_readHunk_26 sh_151 rfl rfl rfl (Nat.le_of_ble_eq_true rfl) enV (Nat.le_of_ble_eq_true rfl) ⟨Nat.zero_le _, Nat.zero_le _⟩ HF (fun r10 S9 HF => ?_)
  refine ab_istore_n (lv' := [(1, .int r10), (0, .ref (g.2.1 + 151))]) d_M_readHunk_29 rfl (Nat.le_of_ble_eq_true rfl) rfl ?_
  refine ab_aload_n 1 d_M_readHunk_30 rfl rfl ?_
  refine ab_bipush (v := nI 32) d_M_readHunk_31 (by decide) ?_
  refine sa_callVv (As := [.int (nI 32)]) (rest := []) kc_M_184 d_M_readHunk_33 sh_151 rfl rfl rfl (Nat.le_of_ble_eq_true rfl) enV (Nat.le_of_ble_eq_true rfl) ⟨Nat.zero_le _, Nat.zero_le _⟩ HF (fun S11 HF => ?_)
  refine ab_aload_n 1 d_M_readHunk_36 rfl rfl ?_
  refine sa_callVi (As := []) (rest := []) kc_M_190 d_M_readHunk_37 sh_151 rfl rfl rfl (Nat.le_of_ble_eq_true rfl) enV (Nat.le_of_ble_eq_true rfl) ⟨Nat.zero_le _, Nat.zero_le _⟩ HF (fun r14 S13 HF => ?_)
  refine ab_pop d_M_readHunk_40 rfl ?_
  refine ab_aload_n 1 d_M_readHunk_41 rfl rfl ?_
  refine ab_bipush (v := nI 44) d_M_readHunk_42 (by decide) ?_
  refine sa_callVv (As := [.int (nI 44)]) (rest := []) kc_M_184 d_M_readHunk_44 sh_151 rfl rfl rfl (Nat.le_of_ble_eq_true rfl) enV (Nat.le_of_ble_eq_true rfl) ⟨Nat.zero_le _, Nat.zero_le _⟩ HF (fun S15 HF => ?_)
  refine ab_aload_n 1 d_M_readHunk_47 rfl rfl ?_
  refine sa_callVi (As := []) (rest := []) kc_M_190 d_M_readHunk_48 sh_151 rfl rfl rfl (Nat.le_of_ble_eq_true rfl) enV (Nat.le_of_ble_eq_true rfl) ⟨Nat.zero_le _, Nat.zero_le _⟩ HF (fun r18 S17 HF => ?_)
  refine ab_istore_n (lv' := [(2, .int r18), (1, .int r10), (0, .ref (g.2.1 + 151))]) d_M_readHunk_51 rfl (Nat.le_of_ble_eq_true rfl) rfl ?_
  refine ab_aload_n 2 d_M_readHunk_52 rfl rfl ?_
  refine ab_aload_n 2 d_M_readHunk_53 rfl rfl ?_
  refine sa_getI kf_M_177 d_M_readHunk_54 sh_151 rfl ?_
  refine ab_if_ne (tgt := 68) d_M_readHunk_57 (by decide) (fun b19 => ?_) (fun b19 => ?_)
  · replace HF := HF.1 b19
    refine ab_iconst (v := (1 : Int32)) d_M_readHunk_68 (by decide) ?_
    refine ab_goto (tgt := 73) d_M_readHunk_69 (by decide) ?_
    refine ab_sub (lv' := [(0, .ref (g.2.1 + 151)), (1, .int r10), (2, .int r18)]) [2, 1, 0] rfl ?_
    exact HF
  · replace HF := HF.2 b19
    refine ab_iload_n 1 d_M_readHunk_60 rfl rfl ?_
    refine ab_if_ne (tgt := 72) d_M_readHunk_61 (by decide) (fun b20 => ?_) (fun b20 => ?_)
    · replace HF := HF.1 b20
      refine ab_iconst (v := (0 : Int32)) d_M_readHunk_72 (by decide) ?_
      refine ab_sub (lv' := [(0, .ref (g.2.1 + 151)), (1, .int r10), (2, .int r18)]) [2, 1, 0] rfl ?_
      exact HF
    · replace HF := HF.2 b20
      refine ab_iload_n 0 d_M_readHunk_64 rfl rfl ?_
      refine ab_if_ne (tgt := 72) d_M_readHunk_65 (by decide) (fun b21 => ?_) (fun b21 => ?_)
      · replace HF := HF.1 b21
        refine ab_iconst (v := (0 : Int32)) d_M_readHunk_72 (by decide) ?_
        refine ab_sub (lv' := [(0, .ref (g.2.1 + 151)), (1, .int r10), (2, .int r18)]) [2, 1, 0] rfl ?_
        exact HF
      · replace HF := HF.2 b21
        refine ab_iconst (v := (1 : Int32)) d_M_readHunk_68 (by decide) ?_
        refine ab_goto (tgt := 73) d_M_readHunk_69 (by decide) ?_
        refine ab_sub (lv' := [(0, .ref (g.2.1 + 151)), (1, .int r10), (2, .int r18)]) [2, 1, 0] rfl ?_
        exact HF
set_option maxRecDepth 100000 in
theorem f_M_readHunk_73 {g : lp_G} {d : Nat} {Q : SS → Prop} {S : SS} {x1 : Int32} {x2 : Int32} {y0 : Int32}
    (HF : (isB y0) ∧ (∀ S22 : SS, S22 = setI S 151 34 y0 → MtV g um_M_want d [.ref (g.2.1 + 151), .int (nI 10)] S22 (fun S24 => (vp_in (S24.1 151 26) 80) ∧ (∀ S27 : SS, S27 = setA S24 171 (S24.1 151 26).toNatClampNeg x1 → (vp_in (S27.1 151 26) 80) ∧ (∀ S29 : SS, S29 = setA S27 172 (S27.1 151 26).toNatClampNeg x2 → (vp_in (S29.1 151 26) 80) ∧ (∀ S31 : SS, S31 = setA S29 174 (S29.1 151 26).toNatClampNeg (S29.1 151 33) → AtV g um_M_readHunk (d + 1) Q 117 [(0, .ref (g.2.1 + 151)), (1, .int x1), (2, .int x2), (3, .int (0 : Int32))] [] S31)))))) : AtV g um_M_readHunk (d + 1) Q 73 [(0, .ref (g.2.1 + 151)), (1, .int x1), (2, .int x2)] [.int y0, .ref (g.2.1 + 151)] S := by
  obtain ⟨c23, HF⟩ := HF
  refine sa_putZn kp_M_177 d_M_readHunk_73 sh_151 rfl c23 (fun S22 hS22 => ?_)
  replace HF := HF S22 hS22
  refine ab_aload_n 0 d_M_readHunk_76 rfl rfl ?_
  refine ab_bipush (v := nI 10) d_M_readHunk_77 (by decide) ?_
  refine sa_callVv (As := [.int (nI 10)]) (rest := []) kc_M_184 d_M_readHunk_79 sh_151 rfl rfl rfl (Nat.le_of_ble_eq_true rfl) enV (Nat.le_of_ble_eq_true rfl) ⟨Nat.zero_le _, Nat.zero_le _⟩ HF (fun S24 HF => ?_)
  refine ab_aload_n 0 d_M_readHunk_82 rfl rfl ?_
  refine sa_getR (r := 171) kf_M_67 d_M_readHunk_83 sh_151 rfl ?_
  refine ab_aload_n 0 d_M_readHunk_86 rfl rfl ?_
  refine sa_getI kf_M_187 d_M_readHunk_87 sh_151 rfl ?_
  refine ab_iload_n 1 d_M_readHunk_90 rfl rfl ?_
  obtain ⟨c26, HF⟩ := HF
  refine sa_iastn d_M_readHunk_91 sh_171 c26 (fun S27 hS27 => ?_)
  replace HF := HF S27 hS27
  refine ab_aload_n 0 d_M_readHunk_92 rfl rfl ?_
  refine sa_getR (r := 172) kf_M_70 d_M_readHunk_93 sh_151 rfl ?_
  refine ab_aload_n 0 d_M_readHunk_96 rfl rfl ?_
  refine sa_getI kf_M_187 d_M_readHunk_97 sh_151 rfl ?_
  refine ab_iload_n 2 d_M_readHunk_100 rfl rfl ?_
  obtain ⟨c28, HF⟩ := HF
  refine sa_iastn d_M_readHunk_101 sh_172 c28 (fun S29 hS29 => ?_)
  replace HF := HF S29 hS29
  refine ab_aload_n 0 d_M_readHunk_102 rfl rfl ?_
  refine sa_getR (r := 174) kf_M_76 d_M_readHunk_103 sh_151 rfl ?_
  refine ab_aload_n 0 d_M_readHunk_106 rfl rfl ?_
  refine sa_getI kf_M_187 d_M_readHunk_107 sh_151 rfl ?_
  refine ab_aload_n 0 d_M_readHunk_110 rfl rfl ?_
  refine sa_getI kf_M_174 d_M_readHunk_111 sh_151 rfl ?_
  obtain ⟨c30, HF⟩ := HF
  refine sa_iastn d_M_readHunk_114 sh_174 c30 (fun S31 hS31 => ?_)
  replace HF := HF S31 hS31
  refine ab_iconst (v := (0 : Int32)) d_M_readHunk_115 (by decide) ?_
  refine ab_istore_n (lv' := [(3, .int (0 : Int32)), (0, .ref (g.2.1 + 151)), (1, .int x1), (2, .int x2)]) d_M_readHunk_116 rfl (Nat.le_of_ble_eq_true rfl) rfl ?_
  refine ab_sub (lv' := [(0, .ref (g.2.1 + 151)), (1, .int x1), (2, .int x2), (3, .int (0 : Int32))]) [1, 2, 3, 0] rfl ?_
  exact HF
set_option maxRecDepth 100000 in
theorem f_M_readHunk_117 {g : lp_G} {d : Nat} {Q : SS → Prop} {S : SS} {x1 : Int32} {x2 : Int32} {x3 : Int32}
    (HF : (¬ S.1 151 34 = 0 → (vp_in (S.1 151 26) 80) ∧ (∀ S34 : SS, S34 = setA S 173 (S.1 151 26).toNatClampNeg x3 → ∀ S35 : SS, S35 = setI S34 151 26 ((S34.1 151 26) + (1 : Int32)) → Q S35)) ∧ (S.1 151 34 = 0 → (0 < x1 → MtI g um_M_look d [.ref (g.2.1 + 151)] S (fun r38 S37 => (¬ r38 = nI 32 → (¬ r38 = nI 45 → (¬ r38 = nI 43 → AtV g um_M_readHunk (d + 1) Q 196 [(0, .ref (g.2.1 + 151)), (1, .int x1), (2, .int x2), (3, .int x3), (4, .int r38)] [.int (0 : Int32)] S37) ∧ (r38 = nI 43 → (x2 ≤ 0 → AtV g um_M_readHunk (d + 1) Q 196 [(0, .ref (g.2.1 + 151)), (1, .int x1), (2, .int x2), (3, .int x3), (4, .int r38)] [.int (0 : Int32)] S37) ∧ (¬ x2 ≤ 0 → AtV g um_M_readHunk (d + 1) Q 196 [(0, .ref (g.2.1 + 151)), (1, .int x1), (2, .int x2), (3, .int x3), (4, .int r38)] [.int (1 : Int32)] S37))) ∧ (r38 = nI 45 → (x1 ≤ 0 → AtV g um_M_readHunk (d + 1) Q 196 [(0, .ref (g.2.1 + 151)), (1, .int x1), (2, .int x2), (3, .int x3), (4, .int r38)] [.int (0 : Int32)] S37) ∧ (¬ x1 ≤ 0 → AtV g um_M_readHunk (d + 1) Q 196 [(0, .ref (g.2.1 + 151)), (1, .int x1), (2, .int x2), (3, .int x3), (4, .int r38)] [.int (1 : Int32)] S37))) ∧ (r38 = nI 32 → (x1 ≤ 0 → AtV g um_M_readHunk (d + 1) Q 196 [(0, .ref (g.2.1 + 151)), (1, .int x1), (2, .int x2), (3, .int x3), (4, .int r38)] [.int (0 : Int32)] S37) ∧ (¬ x1 ≤ 0 → (x2 ≤ 0 → AtV g um_M_readHunk (d + 1) Q 196 [(0, .ref (g.2.1 + 151)), (1, .int x1), (2, .int x2), (3, .int x3), (4, .int r38)] [.int (0 : Int32)] S37) ∧ (¬ x2 ≤ 0 → AtV g um_M_readHunk (d + 1) Q 196 [(0, .ref (g.2.1 + 151)), (1, .int x1), (2, .int x2), (3, .int x3), (4, .int r38)] [.int (1 : Int32)] S37))))) ∧ (¬ 0 < x1 → (x2 ≤ 0 → (vp_in (S.1 151 26) 80) ∧ (∀ S48 : SS, S48 = setA S 173 (S.1 151 26).toNatClampNeg x3 → ∀ S49 : SS, S49 = setI S48 151 26 ((S48.1 151 26) + (1 : Int32)) → Q S49)) ∧ (¬ x2 ≤ 0 → MtI g um_M_look d [.ref (g.2.1 + 151)] S (fun r51 S50 => (¬ r51 = nI 32 → (¬ r51 = nI 45 → (¬ r51 = nI 43 → AtV g um_M_readHunk (d + 1) Q 196 [(0, .ref (g.2.1 + 151)), (1, .int x1), (2, .int x2), (3, .int x3), (4, .int r51)] [.int (0 : Int32)] S50) ∧ (r51 = nI 43 → AtV g um_M_readHunk (d + 1) Q 196 [(0, .ref (g.2.1 + 151)), (1, .int x1), (2, .int x2), (3, .int x3), (4, .int r51)] [.int (1 : Int32)] S50)) ∧ (r51 = nI 45 → (x1 ≤ 0 → AtV g um_M_readHunk (d + 1) Q 196 [(0, .ref (g.2.1 + 151)), (1, .int x1), (2, .int x2), (3, .int x3), (4, .int r51)] [.int (0 : Int32)] S50) ∧ (¬ x1 ≤ 0 → AtV g um_M_readHunk (d + 1) Q 196 [(0, .ref (g.2.1 + 151)), (1, .int x1), (2, .int x2), (3, .int x3), (4, .int r51)] [.int (1 : Int32)] S50))) ∧ (r51 = nI 32 → (x1 ≤ 0 → AtV g um_M_readHunk (d + 1) Q 196 [(0, .ref (g.2.1 + 151)), (1, .int x1), (2, .int x2), (3, .int x3), (4, .int r51)] [.int (0 : Int32)] S50) ∧ (¬ x1 ≤ 0 → AtV g um_M_readHunk (d + 1) Q 196 [(0, .ref (g.2.1 + 151)), (1, .int x1), (2, .int x2), (3, .int x3), (4, .int r51)] [.int (1 : Int32)] S50))))))) : AtV g um_M_readHunk (d + 1) Q 117 [(0, .ref (g.2.1 + 151)), (1, .int x1), (2, .int x2), (3, .int x3)] [] S := by
  refine ab_aload_n 0 d_M_readHunk_117 rfl rfl ?_
  refine sa_getI kf_M_177 d_M_readHunk_118 sh_151 rfl ?_
  refine ab_if_ne (tgt := 336) d_M_readHunk_121 (by decide) (fun b32 => ?_) (fun b32 => ?_)
  · replace HF := HF.1 b32
    refine ab_aload_n 0 d_M_readHunk_336 rfl rfl ?_
    refine sa_getR (r := 173) kf_M_73 d_M_readHunk_337 sh_151 rfl ?_
    refine ab_aload_n 0 d_M_readHunk_340 rfl rfl ?_
    refine sa_getI kf_M_187 d_M_readHunk_341 sh_151 rfl ?_
    refine ab_iload_n 3 d_M_readHunk_344 rfl rfl ?_
    obtain ⟨c33, HF⟩ := HF
    refine sa_iastn d_M_readHunk_345 sh_173 c33 (fun S34 hS34 => ?_)
    replace HF := HF S34 hS34
    refine ab_aload_n 0 d_M_readHunk_346 rfl rfl ?_
    refine ab_dup d_M_readHunk_347 rfl ?_
    refine sa_getI kf_M_187 d_M_readHunk_348 sh_151 rfl ?_
    refine ab_iconst (v := (1 : Int32)) d_M_readHunk_351 (by decide) ?_
    refine ab_iadd d_M_readHunk_352 ?_
    refine sa_putIn kp_M_187 d_M_readHunk_353 sh_151 rfl (fun S35 hS35 => ?_)
    replace HF := HF S35 hS35
    exact sa_ret rfl d_M_readHunk_356 HF
  · replace HF := HF.2 b32
    refine ab_iload_n 1 d_M_readHunk_124 rfl rfl ?_
    refine ab_if_gt (tgt := 132) d_M_readHunk_125 (by decide) (fun b36 => ?_) (fun b36 => ?_)
    · replace HF := HF.1 b36
      refine ab_aload_n 0 d_M_readHunk_132 rfl rfl ?_
      refine sa_callVi (As := []) (rest := []) kc_M_180 d_M_readHunk_133 sh_151 rfl rfl rfl (Nat.le_of_ble_eq_true rfl) enV (Nat.le_of_ble_eq_true rfl) ⟨Nat.zero_le _, Nat.zero_le _⟩ HF (fun r38 S37 HF => ?_)
      refine ab_istore (lv' := [(4, .int r38), (0, .ref (g.2.1 + 151)), (1, .int x1), (2, .int x2), (3, .int x3)]) d_M_readHunk_136 (Nat.le_of_ble_eq_true rfl) rfl ?_
      refine ab_iload 0 d_M_readHunk_138 rfl ?_
      refine ab_bipush (v := nI 32) d_M_readHunk_140 (by decide) ?_
      refine ab_icmp_ne (tgt := 161) d_M_readHunk_142 (by decide) (fun b39 => ?_) (fun b39 => ?_)
      · replace HF := HF.1 b39
        refine ab_iload 0 d_M_readHunk_161 rfl ?_
        refine ab_bipush (v := nI 45) d_M_readHunk_163 (by decide) ?_
        refine ab_icmp_ne (tgt := 180) d_M_readHunk_165 (by decide) (fun b40 => ?_) (fun b40 => ?_)
        · replace HF := HF.1 b40
          refine ab_iload 0 d_M_readHunk_180 rfl ?_
          refine ab_bipush (v := nI 43) d_M_readHunk_182 (by decide) ?_
          refine ab_icmp_ne (tgt := 195) d_M_readHunk_184 (by decide) (fun b41 => ?_) (fun b41 => ?_)
          · replace HF := HF.1 b41
            refine ab_iconst (v := (0 : Int32)) d_M_readHunk_195 (by decide) ?_
            refine ab_sub (lv' := [(0, .ref (g.2.1 + 151)), (1, .int x1), (2, .int x2), (3, .int x3), (4, .int r38)]) [1, 2, 3, 4, 0] rfl ?_
            exact HF
          · replace HF := HF.2 b41
            refine ab_iload_n 3 d_M_readHunk_187 rfl rfl ?_
            refine ab_if_le (tgt := 195) d_M_readHunk_188 (by decide) (fun b42 => ?_) (fun b42 => ?_)
            · replace HF := HF.1 b42
              refine ab_iconst (v := (0 : Int32)) d_M_readHunk_195 (by decide) ?_
              refine ab_sub (lv' := [(0, .ref (g.2.1 + 151)), (1, .int x1), (2, .int x2), (3, .int x3), (4, .int r38)]) [1, 2, 3, 4, 0] rfl ?_
              exact HF
            · replace HF := HF.2 b42
              refine ab_iconst (v := (1 : Int32)) d_M_readHunk_191 (by decide) ?_
              refine ab_goto (tgt := 196) d_M_readHunk_192 (by decide) ?_
              refine ab_sub (lv' := [(0, .ref (g.2.1 + 151)), (1, .int x1), (2, .int x2), (3, .int x3), (4, .int r38)]) [1, 2, 3, 4, 0] rfl ?_
              exact HF
        · replace HF := HF.2 b40
          refine ab_iload_n 2 d_M_readHunk_168 rfl rfl ?_
          refine ab_if_le (tgt := 176) d_M_readHunk_169 (by decide) (fun b43 => ?_) (fun b43 => ?_)
          · replace HF := HF.1 b43
            refine ab_iconst (v := (0 : Int32)) d_M_readHunk_176 (by decide) ?_
            refine ab_goto (tgt := 196) d_M_readHunk_177 (by decide) ?_
            refine ab_sub (lv' := [(0, .ref (g.2.1 + 151)), (1, .int x1), (2, .int x2), (3, .int x3), (4, .int r38)]) [1, 2, 3, 4, 0] rfl ?_
            exact HF
          · replace HF := HF.2 b43
            refine ab_iconst (v := (1 : Int32)) d_M_readHunk_172 (by decide) ?_
            refine ab_goto (tgt := 196) d_M_readHunk_173 (by decide) ?_
            refine ab_sub (lv' := [(0, .ref (g.2.1 + 151)), (1, .int x1), (2, .int x2), (3, .int x3), (4, .int r38)]) [1, 2, 3, 4, 0] rfl ?_
            exact HF
      · replace HF := HF.2 b39
        refine ab_iload_n 2 d_M_readHunk_145 rfl rfl ?_
        refine ab_if_le (tgt := 157) d_M_readHunk_146 (by decide) (fun b44 => ?_) (fun b44 => ?_)
        · replace HF := HF.1 b44
          refine ab_iconst (v := (0 : Int32)) d_M_readHunk_157 (by decide) ?_
          refine ab_goto (tgt := 196) d_M_readHunk_158 (by decide) ?_
          refine ab_sub (lv' := [(0, .ref (g.2.1 + 151)), (1, .int x1), (2, .int x2), (3, .int x3), (4, .int r38)]) [1, 2, 3, 4, 0] rfl ?_
          exact HF
        · replace HF := HF.2 b44
          refine ab_iload_n 3 d_M_readHunk_149 rfl rfl ?_
          refine ab_if_le (tgt := 157) d_M_readHunk_150 (by decide) (fun b45 => ?_) (fun b45 => ?_)
          · replace HF := HF.1 b45
            refine ab_iconst (v := (0 : Int32)) d_M_readHunk_157 (by decide) ?_
            refine ab_goto (tgt := 196) d_M_readHunk_158 (by decide) ?_
            refine ab_sub (lv' := [(0, .ref (g.2.1 + 151)), (1, .int x1), (2, .int x2), (3, .int x3), (4, .int r38)]) [1, 2, 3, 4, 0] rfl ?_
            exact HF
          · replace HF := HF.2 b45
            refine ab_iconst (v := (1 : Int32)) d_M_readHunk_153 (by decide) ?_
            refine ab_goto (tgt := 196) d_M_readHunk_154 (by decide) ?_
            refine ab_sub (lv' := [(0, .ref (g.2.1 + 151)), (1, .int x1), (2, .int x2), (3, .int x3), (4, .int r38)]) [1, 2, 3, 4, 0] rfl ?_
            exact HF
    · replace HF := HF.2 b36
      refine ab_iload_n 2 d_M_readHunk_128 rfl rfl ?_
      refine ab_if_le (tgt := 336) d_M_readHunk_129 (by decide) (fun b46 => ?_) (fun b46 => ?_)
      · replace HF := HF.1 b46
        refine ab_aload_n 0 d_M_readHunk_336 rfl rfl ?_
        refine sa_getR (r := 173) kf_M_73 d_M_readHunk_337 sh_151 rfl ?_
        refine ab_aload_n 0 d_M_readHunk_340 rfl rfl ?_
        refine sa_getI kf_M_187 d_M_readHunk_341 sh_151 rfl ?_
        refine ab_iload_n 3 d_M_readHunk_344 rfl rfl ?_
        obtain ⟨c47, HF⟩ := HF
        refine sa_iastn d_M_readHunk_345 sh_173 c47 (fun S48 hS48 => ?_)
        replace HF := HF S48 hS48
        refine ab_aload_n 0 d_M_readHunk_346 rfl rfl ?_
        refine ab_dup d_M_readHunk_347 rfl ?_
        refine sa_getI kf_M_187 d_M_readHunk_348 sh_151 rfl ?_
        refine ab_iconst (v := (1 : Int32)) d_M_readHunk_351 (by decide) ?_
        refine ab_iadd d_M_readHunk_352 ?_
        refine sa_putIn kp_M_187 d_M_readHunk_353 sh_151 rfl (fun S49 hS49 => ?_)
        replace HF := HF S49 hS49
        exact sa_ret rfl d_M_readHunk_356 HF
      · replace HF := HF.2 b46
        refine ab_aload_n 0 d_M_readHunk_132 rfl rfl ?_
        refine sa_callVi (As := []) (rest := []) kc_M_180 d_M_readHunk_133 sh_151 rfl rfl rfl (Nat.le_of_ble_eq_true rfl) enV (Nat.le_of_ble_eq_true rfl) ⟨Nat.zero_le _, Nat.zero_le _⟩ HF (fun r51 S50 HF => ?_)
        refine ab_istore (lv' := [(4, .int r51), (0, .ref (g.2.1 + 151)), (1, .int x1), (2, .int x2), (3, .int x3)]) d_M_readHunk_136 (Nat.le_of_ble_eq_true rfl) rfl ?_
        refine ab_iload 0 d_M_readHunk_138 rfl ?_
        refine ab_bipush (v := nI 32) d_M_readHunk_140 (by decide) ?_
        refine ab_icmp_ne (tgt := 161) d_M_readHunk_142 (by decide) (fun b52 => ?_) (fun b52 => ?_)
        · replace HF := HF.1 b52
          refine ab_iload 0 d_M_readHunk_161 rfl ?_
          refine ab_bipush (v := nI 45) d_M_readHunk_163 (by decide) ?_
          refine ab_icmp_ne (tgt := 180) d_M_readHunk_165 (by decide) (fun b53 => ?_) (fun b53 => ?_)
          · replace HF := HF.1 b53
            refine ab_iload 0 d_M_readHunk_180 rfl ?_
            refine ab_bipush (v := nI 43) d_M_readHunk_182 (by decide) ?_
            refine ab_icmp_ne (tgt := 195) d_M_readHunk_184 (by decide) (fun b54 => ?_) (fun b54 => ?_)
            · replace HF := HF.1 b54
              refine ab_iconst (v := (0 : Int32)) d_M_readHunk_195 (by decide) ?_
              refine ab_sub (lv' := [(0, .ref (g.2.1 + 151)), (1, .int x1), (2, .int x2), (3, .int x3), (4, .int r51)]) [1, 2, 3, 4, 0] rfl ?_
              exact HF
            · replace HF := HF.2 b54
              refine ab_iload_n 3 d_M_readHunk_187 rfl rfl ?_
              refine ab_if_le (tgt := 195) d_M_readHunk_188 (by decide) (fun h => absurd h b46) (fun _ => ?_)
              refine ab_iconst (v := (1 : Int32)) d_M_readHunk_191 (by decide) ?_
              refine ab_goto (tgt := 196) d_M_readHunk_192 (by decide) ?_
              refine ab_sub (lv' := [(0, .ref (g.2.1 + 151)), (1, .int x1), (2, .int x2), (3, .int x3), (4, .int r51)]) [1, 2, 3, 4, 0] rfl ?_
              exact HF
          · replace HF := HF.2 b53
            refine ab_iload_n 2 d_M_readHunk_168 rfl rfl ?_
            refine ab_if_le (tgt := 176) d_M_readHunk_169 (by decide) (fun b55 => ?_) (fun b55 => ?_)
            · replace HF := HF.1 b55
              refine ab_iconst (v := (0 : Int32)) d_M_readHunk_176 (by decide) ?_
              refine ab_goto (tgt := 196) d_M_readHunk_177 (by decide) ?_
              refine ab_sub (lv' := [(0, .ref (g.2.1 + 151)), (1, .int x1), (2, .int x2), (3, .int x3), (4, .int r51)]) [1, 2, 3, 4, 0] rfl ?_
              exact HF
            · replace HF := HF.2 b55
              refine ab_iconst (v := (1 : Int32)) d_M_readHunk_172 (by decide) ?_
              refine ab_goto (tgt := 196) d_M_readHunk_173 (by decide) ?_
              refine ab_sub (lv' := [(0, .ref (g.2.1 + 151)), (1, .int x1), (2, .int x2), (3, .int x3), (4, .int r51)]) [1, 2, 3, 4, 0] rfl ?_
              exact HF
        · replace HF := HF.2 b52
          refine ab_iload_n 2 d_M_readHunk_145 rfl rfl ?_
          refine ab_if_le (tgt := 157) d_M_readHunk_146 (by decide) (fun b56 => ?_) (fun b56 => ?_)
          · replace HF := HF.1 b56
            refine ab_iconst (v := (0 : Int32)) d_M_readHunk_157 (by decide) ?_
            refine ab_goto (tgt := 196) d_M_readHunk_158 (by decide) ?_
            refine ab_sub (lv' := [(0, .ref (g.2.1 + 151)), (1, .int x1), (2, .int x2), (3, .int x3), (4, .int r51)]) [1, 2, 3, 4, 0] rfl ?_
            exact HF
          · replace HF := HF.2 b56
            refine ab_iload_n 3 d_M_readHunk_149 rfl rfl ?_
            refine ab_if_le (tgt := 157) d_M_readHunk_150 (by decide) (fun h => absurd h b46) (fun _ => ?_)
            refine ab_iconst (v := (1 : Int32)) d_M_readHunk_153 (by decide) ?_
            refine ab_goto (tgt := 196) d_M_readHunk_154 (by decide) ?_
            refine ab_sub (lv' := [(0, .ref (g.2.1 + 151)), (1, .int x1), (2, .int x2), (3, .int x3), (4, .int r51)]) [1, 2, 3, 4, 0] rfl ?_
            exact HF
set_option maxRecDepth 100000 in
theorem f_M_readHunk_196 {g : lp_G} {d : Nat} {Q : SS → Prop} {S : SS} {x1 : Int32} {x2 : Int32} {x3 : Int32} {x4 : Int32} {y0 : Int32}
    (HF : (¬ y0 = 0 → ∀ S58 : SS, S58 = setI S 151 34 (0 : Int32) → (x4 = nI 43 → (x4 = nI 45 → AtV g um_M_readHunk (d + 1) Q 271 [(0, .ref (g.2.1 + 151)), (1, .int x1), (2, .int x2), (3, .int x3)] [.int ((S58.1 151 33) + (1 : Int32)), .ref (g.2.1 + 151)] S58) ∧ (¬ x4 = nI 45 → AtV g um_M_readHunk (d + 1) Q 271 [(0, .ref (g.2.1 + 151)), (1, .int x1), (2, .int (x2 - (1 : Int32))), (3, .int x3)] [.int ((S58.1 151 33) + (1 : Int32)), .ref (g.2.1 + 151)] S58)) ∧ (¬ x4 = nI 43 → (x4 = nI 45 → AtV g um_M_readHunk (d + 1) Q 271 [(0, .ref (g.2.1 + 151)), (1, .int (x1 - (1 : Int32))), (2, .int x2), (3, .int x3)] [.int ((S58.1 151 33) + (1 : Int32)), .ref (g.2.1 + 151)] S58) ∧ (¬ x4 = nI 45 → AtV g um_M_readHunk (d + 1) Q 271 [(0, .ref (g.2.1 + 151)), (1, .int (x1 - (1 : Int32))), (2, .int (x2 - (1 : Int32))), (3, .int x3)] [.int ((S58.1 151 33) + (1 : Int32)), .ref (g.2.1 + 151)] S58))) ∧ (y0 = 0 → ∀ S62 : SS, S62 = setI S 151 34 (1 : Int32) → AtV g um_M_readHunk (d + 1) Q 271 [(0, .ref (g.2.1 + 151)), (1, .int x1), (2, .int x2), (3, .int x3)] [.int (S62.1 151 33), .ref (g.2.1 + 151)] S62)) : AtV g um_M_readHunk (d + 1) Q 196 [(0, .ref (g.2.1 + 151)), (1, .int x1), (2, .int x2), (3, .int x3), (4, .int x4)] [.int y0] S := by
  refine ab_istore (lv' := [(5, .int y0), (0, .ref (g.2.1 + 151)), (1, .int x1), (2, .int x2), (3, .int x3), (4, .int x4)]) d_M_readHunk_196 (Nat.le_of_ble_eq_true rfl) rfl ?_
  refine ab_aload_n 1 d_M_readHunk_198 rfl rfl ?_
  refine ab_iload 0 d_M_readHunk_199 rfl ?_
  refine ab_if_ne (tgt := 208) d_M_readHunk_201 (by decide) (fun b57 => ?_) (fun b57 => ?_)
  · replace HF := HF.1 b57
    refine ab_iconst (v := (0 : Int32)) d_M_readHunk_208 (by decide) ?_
    refine sa_putZn kp_M_177 d_M_readHunk_209 sh_151 rfl isB_0 (fun S58 hS58 => ?_)
    replace HF := HF S58 hS58
    refine ab_iload 0 d_M_readHunk_212 rfl ?_
    refine ab_if_eq (tgt := 230) d_M_readHunk_214 (by decide) (fun h => absurd h b57) (fun _ => ?_)
    refine ab_iload 5 d_M_readHunk_217 rfl ?_
    refine ab_bipush (v := nI 43) d_M_readHunk_219 (by decide) ?_
    refine ab_icmp_eq (tgt := 230) d_M_readHunk_221 (by decide) (fun b59 => ?_) (fun b59 => ?_)
    · replace HF := HF.1 b59
      refine ab_iload_n 2 d_M_readHunk_230 rfl rfl ?_
      refine ab_istore_n (lv' := [(1, .int x1), (5, .int y0), (0, .ref (g.2.1 + 151)), (2, .int x2), (3, .int x3), (4, .int x4)]) d_M_readHunk_231 rfl (Nat.le_of_ble_eq_true rfl) rfl ?_
      refine ab_iload 1 d_M_readHunk_232 rfl ?_
      refine ab_if_eq (tgt := 250) d_M_readHunk_234 (by decide) (fun h => absurd h b57) (fun _ => ?_)
      refine ab_iload 5 d_M_readHunk_237 rfl ?_
      refine ab_bipush (v := nI 45) d_M_readHunk_239 (by decide) ?_
      refine ab_icmp_eq (tgt := 250) d_M_readHunk_241 (by decide) (fun b60 => ?_) (fun b60 => ?_)
      · replace HF := HF.1 b60
        refine ab_iload_n 3 d_M_readHunk_250 rfl rfl ?_
        refine ab_istore_n (lv' := [(2, .int x2), (1, .int x1), (5, .int y0), (0, .ref (g.2.1 + 151)), (3, .int x3), (4, .int x4)]) d_M_readHunk_251 rfl (Nat.le_of_ble_eq_true rfl) rfl ?_
        refine ab_aload_n 3 d_M_readHunk_252 rfl rfl ?_
        refine ab_iload 2 d_M_readHunk_253 rfl ?_
        refine ab_if_eq (tgt := 267) d_M_readHunk_255 (by decide) (fun h => absurd h b57) (fun _ => ?_)
        refine ab_aload_n 3 d_M_readHunk_258 rfl rfl ?_
        refine sa_getI kf_M_174 d_M_readHunk_259 sh_151 rfl ?_
        refine ab_iconst (v := (1 : Int32)) d_M_readHunk_262 (by decide) ?_
        refine ab_iadd d_M_readHunk_263 ?_
        refine ab_goto (tgt := 271) d_M_readHunk_264 (by decide) ?_
        refine ab_sub (lv' := [(0, .ref (g.2.1 + 151)), (1, .int x1), (2, .int x2), (3, .int x3)]) [3, 1, 0, 4] rfl ?_
        exact HF
      · replace HF := HF.2 b60
        refine ab_iload_n 3 d_M_readHunk_244 rfl rfl ?_
        refine ab_iconst (v := (1 : Int32)) d_M_readHunk_245 (by decide) ?_
        refine ab_isub d_M_readHunk_246 ?_
        refine ab_goto (tgt := 251) d_M_readHunk_247 (by decide) ?_
        refine ab_istore_n (lv' := [(2, .int (x2 - (1 : Int32))), (1, .int x1), (5, .int y0), (0, .ref (g.2.1 + 151)), (3, .int x3), (4, .int x4)]) d_M_readHunk_251 rfl (Nat.le_of_ble_eq_true rfl) rfl ?_
        refine ab_aload_n 3 d_M_readHunk_252 rfl rfl ?_
        refine ab_iload 2 d_M_readHunk_253 rfl ?_
        refine ab_if_eq (tgt := 267) d_M_readHunk_255 (by decide) (fun h => absurd h b57) (fun _ => ?_)
        refine ab_aload_n 3 d_M_readHunk_258 rfl rfl ?_
        refine sa_getI kf_M_174 d_M_readHunk_259 sh_151 rfl ?_
        refine ab_iconst (v := (1 : Int32)) d_M_readHunk_262 (by decide) ?_
        refine ab_iadd d_M_readHunk_263 ?_
        refine ab_goto (tgt := 271) d_M_readHunk_264 (by decide) ?_
        refine ab_sub (lv' := [(0, .ref (g.2.1 + 151)), (1, .int x1), (2, .int (x2 - (1 : Int32))), (3, .int x3)]) [3, 1, 0, 4] rfl ?_
        exact HF
    · replace HF := HF.2 b59
      refine ab_iload_n 2 d_M_readHunk_224 rfl rfl ?_
      refine ab_iconst (v := (1 : Int32)) d_M_readHunk_225 (by decide) ?_
      refine ab_isub d_M_readHunk_226 ?_
      refine ab_goto (tgt := 231) d_M_readHunk_227 (by decide) ?_
      refine ab_istore_n (lv' := [(1, .int (x1 - (1 : Int32))), (5, .int y0), (0, .ref (g.2.1 + 151)), (2, .int x2), (3, .int x3), (4, .int x4)]) d_M_readHunk_231 rfl (Nat.le_of_ble_eq_true rfl) rfl ?_
      refine ab_iload 1 d_M_readHunk_232 rfl ?_
      refine ab_if_eq (tgt := 250) d_M_readHunk_234 (by decide) (fun h => absurd h b57) (fun _ => ?_)
      refine ab_iload 5 d_M_readHunk_237 rfl ?_
      refine ab_bipush (v := nI 45) d_M_readHunk_239 (by decide) ?_
      refine ab_icmp_eq (tgt := 250) d_M_readHunk_241 (by decide) (fun b61 => ?_) (fun b61 => ?_)
      · replace HF := HF.1 b61
        refine ab_iload_n 3 d_M_readHunk_250 rfl rfl ?_
        refine ab_istore_n (lv' := [(2, .int x2), (1, .int (x1 - (1 : Int32))), (5, .int y0), (0, .ref (g.2.1 + 151)), (3, .int x3), (4, .int x4)]) d_M_readHunk_251 rfl (Nat.le_of_ble_eq_true rfl) rfl ?_
        refine ab_aload_n 3 d_M_readHunk_252 rfl rfl ?_
        refine ab_iload 2 d_M_readHunk_253 rfl ?_
        refine ab_if_eq (tgt := 267) d_M_readHunk_255 (by decide) (fun h => absurd h b57) (fun _ => ?_)
        refine ab_aload_n 3 d_M_readHunk_258 rfl rfl ?_
        refine sa_getI kf_M_174 d_M_readHunk_259 sh_151 rfl ?_
        refine ab_iconst (v := (1 : Int32)) d_M_readHunk_262 (by decide) ?_
        refine ab_iadd d_M_readHunk_263 ?_
        refine ab_goto (tgt := 271) d_M_readHunk_264 (by decide) ?_
        refine ab_sub (lv' := [(0, .ref (g.2.1 + 151)), (1, .int (x1 - (1 : Int32))), (2, .int x2), (3, .int x3)]) [3, 1, 0, 4] rfl ?_
        exact HF
      · replace HF := HF.2 b61
        refine ab_iload_n 3 d_M_readHunk_244 rfl rfl ?_
        refine ab_iconst (v := (1 : Int32)) d_M_readHunk_245 (by decide) ?_
        refine ab_isub d_M_readHunk_246 ?_
        refine ab_goto (tgt := 251) d_M_readHunk_247 (by decide) ?_
        refine ab_istore_n (lv' := [(2, .int (x2 - (1 : Int32))), (1, .int (x1 - (1 : Int32))), (5, .int y0), (0, .ref (g.2.1 + 151)), (3, .int x3), (4, .int x4)]) d_M_readHunk_251 rfl (Nat.le_of_ble_eq_true rfl) rfl ?_
        refine ab_aload_n 3 d_M_readHunk_252 rfl rfl ?_
        refine ab_iload 2 d_M_readHunk_253 rfl ?_
        refine ab_if_eq (tgt := 267) d_M_readHunk_255 (by decide) (fun h => absurd h b57) (fun _ => ?_)
        refine ab_aload_n 3 d_M_readHunk_258 rfl rfl ?_
        refine sa_getI kf_M_174 d_M_readHunk_259 sh_151 rfl ?_
        refine ab_iconst (v := (1 : Int32)) d_M_readHunk_262 (by decide) ?_
        refine ab_iadd d_M_readHunk_263 ?_
        refine ab_goto (tgt := 271) d_M_readHunk_264 (by decide) ?_
        refine ab_sub (lv' := [(0, .ref (g.2.1 + 151)), (1, .int (x1 - (1 : Int32))), (2, .int (x2 - (1 : Int32))), (3, .int x3)]) [3, 1, 0, 4] rfl ?_
        exact HF
  · replace HF := HF.2 b57
    refine ab_iconst (v := (1 : Int32)) d_M_readHunk_204 (by decide) ?_
    refine ab_goto (tgt := 209) d_M_readHunk_205 (by decide) ?_
    refine sa_putZn kp_M_177 d_M_readHunk_209 sh_151 rfl isB_1 (fun S62 hS62 => ?_)
    replace HF := HF S62 hS62
    refine ab_iload 0 d_M_readHunk_212 rfl ?_
    refine ab_if_eq (tgt := 230) d_M_readHunk_214 (by decide) (fun _ => ?_) (fun h => absurd b57 h)
    refine ab_iload_n 2 d_M_readHunk_230 rfl rfl ?_
    refine ab_istore_n (lv' := [(1, .int x1), (5, .int y0), (0, .ref (g.2.1 + 151)), (2, .int x2), (3, .int x3), (4, .int x4)]) d_M_readHunk_231 rfl (Nat.le_of_ble_eq_true rfl) rfl ?_
    refine ab_iload 1 d_M_readHunk_232 rfl ?_
    refine ab_if_eq (tgt := 250) d_M_readHunk_234 (by decide) (fun _ => ?_) (fun h => absurd b57 h)
    refine ab_iload_n 3 d_M_readHunk_250 rfl rfl ?_
    refine ab_istore_n (lv' := [(2, .int x2), (1, .int x1), (5, .int y0), (0, .ref (g.2.1 + 151)), (3, .int x3), (4, .int x4)]) d_M_readHunk_251 rfl (Nat.le_of_ble_eq_true rfl) rfl ?_
    refine ab_aload_n 3 d_M_readHunk_252 rfl rfl ?_
    refine ab_iload 2 d_M_readHunk_253 rfl ?_
    refine ab_if_eq (tgt := 267) d_M_readHunk_255 (by decide) (fun _ => ?_) (fun h => absurd b57 h)
    refine ab_aload_n 3 d_M_readHunk_267 rfl rfl ?_
    refine sa_getI kf_M_174 d_M_readHunk_268 sh_151 rfl ?_
    refine ab_sub (lv' := [(0, .ref (g.2.1 + 151)), (1, .int x1), (2, .int x2), (3, .int x3)]) [3, 1, 0, 4] rfl ?_
    exact HF
set_option maxRecDepth 100000 in
theorem f_M_readHunk_271 {g : lp_G} {d : Nat} {Q : SS → Prop} {S : SS} {x1 : Int32} {x2 : Int32} {x3 : Int32} {y0 : Int32}
    (HF : ∀ S63 : SS, S63 = setI S 151 33 y0 → (¬ S63.1 151 34 = 0 → AtV g um_M_readHunk (d + 1) Q 297 [(0, .ref (g.2.1 + 151)), (1, .int x1), (2, .int x2), (3, .int x3)] [.int (1 : Int32), .ref (g.2.1 + 151)] S63) ∧ (S63.1 151 34 = 0 → MtI g um_M_look d [.ref (g.2.1 + 151)] S63 (fun r66 S65 => MtI g um_M_isLetter d [.int r66] S65 (fun r68 S67 => (¬ r68 = 0 → AtV g um_M_readHunk (d + 1) Q 297 [(0, .ref (g.2.1 + 151)), (1, .int x1), (2, .int x2), (3, .int x3)] [.int (0 : Int32), .ref (g.2.1 + 151)] S67) ∧ (r68 = 0 → AtV g um_M_readHunk (d + 1) Q 297 [(0, .ref (g.2.1 + 151)), (1, .int x1), (2, .int x2), (3, .int x3)] [.int (1 : Int32), .ref (g.2.1 + 151)] S67))))) : AtV g um_M_readHunk (d + 1) Q 271 [(0, .ref (g.2.1 + 151)), (1, .int x1), (2, .int x2), (3, .int x3)] [.int y0, .ref (g.2.1 + 151)] S := by
  refine sa_putIn kp_M_174 d_M_readHunk_271 sh_151 rfl (fun S63 hS63 => ?_)
  replace HF := HF S63 hS63
  refine ab_aload_n 0 d_M_readHunk_274 rfl rfl ?_
  refine ab_aload_n 0 d_M_readHunk_275 rfl rfl ?_
  refine sa_getI kf_M_177 d_M_readHunk_276 sh_151 rfl ?_
  refine ab_if_ne (tgt := 292) d_M_readHunk_279 (by decide) (fun b64 => ?_) (fun b64 => ?_)
  · replace HF := HF.1 b64
    refine ab_iconst (v := (1 : Int32)) d_M_readHunk_292 (by decide) ?_
    refine ab_goto (tgt := 297) d_M_readHunk_293 (by decide) ?_
    exact HF
  · replace HF := HF.2 b64
    refine ab_aload_n 0 d_M_readHunk_282 rfl rfl ?_
    refine sa_callVi (As := []) (rest := [.ref (g.2.1 + 151)]) kc_M_180 d_M_readHunk_283 sh_151 rfl rfl rfl (Nat.le_of_ble_eq_true rfl) enV (Nat.le_of_ble_eq_true rfl) ⟨Nat.zero_le _, Nat.zero_le _⟩ HF (fun r66 S65 HF => ?_)
    refine sa_callSi (As := [.int r66]) (rest := [.ref (g.2.1 + 151)]) kc_M_92 d_M_readHunk_286 rfl (Nat.le_of_ble_eq_true rfl) enV (Nat.le_of_ble_eq_true rfl) ⟨Nat.zero_le _, Nat.zero_le _⟩ HF (fun r68 S67 HF => ?_)
    refine ab_if_ne (tgt := 296) d_M_readHunk_289 (by decide) (fun b69 => ?_) (fun b69 => ?_)
    · replace HF := HF.1 b69
      refine ab_iconst (v := (0 : Int32)) d_M_readHunk_296 (by decide) ?_
      exact HF
    · replace HF := HF.2 b69
      refine ab_iconst (v := (1 : Int32)) d_M_readHunk_292 (by decide) ?_
      refine ab_goto (tgt := 297) d_M_readHunk_293 (by decide) ?_
      exact HF
set_option maxRecDepth 100000 in
theorem f_M_readHunk_297 {g : lp_G} {d : Nat} {Q : SS → Prop} {S : SS} {x1 : Int32} {x2 : Int32} {x3 : Int32} {y0 : Int32}
    (HF : (isB y0) ∧ (∀ S70 : SS, S70 = setI S 151 34 y0 → (S70.1 151 34 = 0 → ∀ S73 : SS, S73 = setI S70 151 33 ((S70.1 151 33) + (1 : Int32)) → MtV g um_M_want d [.ref (g.2.1 + 151), .int (nI 10)] S73 (fun S74 => AtV g um_M_readHunk (d + 1) Q 117 [(0, .ref (g.2.1 + 151)), (1, .int x1), (2, .int x2), (3, .int (x3 + 1))] [] S74)) ∧ (¬ S70.1 151 34 = 0 → ∀ S76 : SS, S76 = setI S70 151 33 (S70.1 151 33) → MtV g um_M_want d [.ref (g.2.1 + 151), .int (nI 10)] S76 (fun S77 => AtV g um_M_readHunk (d + 1) Q 117 [(0, .ref (g.2.1 + 151)), (1, .int x1), (2, .int x2), (3, .int (x3 + 1))] [] S77)))) : AtV g um_M_readHunk (d + 1) Q 297 [(0, .ref (g.2.1 + 151)), (1, .int x1), (2, .int x2), (3, .int x3)] [.int y0, .ref (g.2.1 + 151)] S := by
  obtain ⟨c71, HF⟩ := HF
  refine sa_putZn kp_M_177 d_M_readHunk_297 sh_151 rfl c71 (fun S70 hS70 => ?_)
  replace HF := HF S70 hS70
  refine ab_aload_n 0 d_M_readHunk_300 rfl rfl ?_
  refine ab_aload_n 0 d_M_readHunk_301 rfl rfl ?_
  refine sa_getI kf_M_177 d_M_readHunk_302 sh_151 rfl ?_
  refine ab_if_eq (tgt := 315) d_M_readHunk_305 (by decide) (fun b72 => ?_) (fun b72 => ?_)
  · replace HF := HF.1 b72
    refine ab_aload_n 0 d_M_readHunk_315 rfl rfl ?_
    refine sa_getI kf_M_174 d_M_readHunk_316 sh_151 rfl ?_
    refine ab_iconst (v := (1 : Int32)) d_M_readHunk_319 (by decide) ?_
    refine ab_iadd d_M_readHunk_320 ?_
    refine sa_putIn kp_M_174 d_M_readHunk_321 sh_151 rfl (fun S73 hS73 => ?_)
    replace HF := HF S73 hS73
    refine ab_aload_n 0 d_M_readHunk_324 rfl rfl ?_
    refine ab_bipush (v := nI 10) d_M_readHunk_325 (by decide) ?_
    refine sa_callVv (As := [.int (nI 10)]) (rest := []) kc_M_184 d_M_readHunk_327 sh_151 rfl rfl rfl (Nat.le_of_ble_eq_true rfl) enV (Nat.le_of_ble_eq_true rfl) ⟨Nat.zero_le _, Nat.zero_le _⟩ HF (fun S74 HF => ?_)
    refine ab_iinc (v := x3 + 1) (lv' := [(3, .int (x3 + 1)), (0, .ref (g.2.1 + 151)), (1, .int x1), (2, .int x2)]) 3 d_M_readHunk_330 rfl (congrArg (fun z => x3 + z) (show Int32.ofInt 1 = (1 : Int32) by decide)) (Nat.le_of_ble_eq_true rfl) rfl ?_
    refine ab_goto (tgt := 117) d_M_readHunk_333 (by decide) ?_
    refine ab_sub (lv' := [(0, .ref (g.2.1 + 151)), (1, .int x1), (2, .int x2), (3, .int (x3 + 1))]) [1, 2, 3, 0] rfl ?_
    exact HF
  · replace HF := HF.2 b72
    refine ab_aload_n 0 d_M_readHunk_308 rfl rfl ?_
    refine sa_getI kf_M_174 d_M_readHunk_309 sh_151 rfl ?_
    refine ab_goto (tgt := 321) d_M_readHunk_312 (by decide) ?_
    refine sa_putIn kp_M_174 d_M_readHunk_321 sh_151 rfl (fun S76 hS76 => ?_)
    replace HF := HF S76 hS76
    refine ab_aload_n 0 d_M_readHunk_324 rfl rfl ?_
    refine ab_bipush (v := nI 10) d_M_readHunk_325 (by decide) ?_
    refine sa_callVv (As := [.int (nI 10)]) (rest := []) kc_M_184 d_M_readHunk_327 sh_151 rfl rfl rfl (Nat.le_of_ble_eq_true rfl) enV (Nat.le_of_ble_eq_true rfl) ⟨Nat.zero_le _, Nat.zero_le _⟩ HF (fun S77 HF => ?_)
    refine ab_iinc (v := x3 + 1) (lv' := [(3, .int (x3 + 1)), (0, .ref (g.2.1 + 151)), (1, .int x1), (2, .int x2)]) 3 d_M_readHunk_330 rfl (congrArg (fun z => x3 + z) (show Int32.ofInt 1 = (1 : Int32) by decide)) (Nat.le_of_ble_eq_true rfl) rfl ?_
    refine ab_goto (tgt := 117) d_M_readHunk_333 (by decide) ?_
    refine ab_sub (lv' := [(0, .ref (g.2.1 + 151)), (1, .int x1), (2, .int x2), (3, .int (x3 + 1))]) [1, 2, 3, 0] rfl ?_
    exact HF
set_option maxRecDepth 100000 in
theorem f_M_read {g : lp_G} {d : Nat} {Q : Int32 → SS → Prop} {S : SS} 
    (HF : ∀ S1 : SS, S1 = setI S 151 33 (0 : Int32) → ∀ S2 : SS, S2 = setI S1 151 26 (0 : Int32) → ∀ S3 : SS, S3 = setI S2 151 34 (0 : Int32) → AtI g um_M_read (d + 1) Q 15 [(0, .ref (g.2.1 + 151))] [] S3) : MtI g um_M_read (d + 1) [.ref (g.2.1 + 151)] S Q := by
  refine sa_entryI (lv' := [(0, .ref (g.2.1 + 151))]) (by decide +kernel) (Nat.le_of_ble_eq_true rfl) rfl ?_
  refine ab_aload_n 0 d_M_read_0 rfl rfl ?_
  refine ab_iconst (v := (0 : Int32)) d_M_read_1 (by decide) ?_
  refine sa_putIn kp_M_174 d_M_read_2 sh_151 rfl (fun S1 hS1 => ?_)
  replace HF := HF S1 hS1
  refine ab_aload_n 0 d_M_read_5 rfl rfl ?_
  refine ab_iconst (v := (0 : Int32)) d_M_read_6 (by decide) ?_
  refine sa_putIn kp_M_187 d_M_read_7 sh_151 rfl (fun S2 hS2 => ?_)
  replace HF := HF S2 hS2
  refine ab_aload_n 0 d_M_read_10 rfl rfl ?_
  refine ab_iconst (v := (0 : Int32)) d_M_read_11 (by decide) ?_
  refine sa_putZn kp_M_177 d_M_read_12 sh_151 rfl isB_0 (fun S3 hS3 => ?_)
  replace HF := HF S3 hS3
  exact HF
set_option maxRecDepth 100000 in
theorem f_M_read_15 {g : lp_G} {d : Nat} {Q : Int32 → SS → Prop} {S : SS} 
    (HF : (S.1 151 24 ≤ S.1 151 33 → (S.1 151 34 = 0 → Q (-1 : Int32) S) ∧ (¬ S.1 151 34 = 0 → Q (S.1 151 33) S)) ∧ (¬ S.1 151 24 ≤ S.1 151 33 → (¬ S.1 151 34 = 0 → Q (S.1 151 33) S) ∧ (S.1 151 34 = 0 → MtV g um_M_readHunk d [.ref (g.2.1 + 151)] S (fun S7 => AtI g um_M_read (d + 1) Q 15 [(0, .ref (g.2.1 + 151))] [] S7)))) : AtI g um_M_read (d + 1) Q 15 [(0, .ref (g.2.1 + 151))] [] S := by
  refine ab_aload_n 0 d_M_read_15 rfl rfl ?_
  refine sa_getI kf_M_174 d_M_read_16 sh_151 rfl ?_
  refine ab_aload_n 0 d_M_read_19 rfl rfl ?_
  refine sa_getI kf_M_151 d_M_read_20 sh_151 rfl ?_
  refine ab_icmp_ge (tgt := 40) d_M_read_23 (by decide) (fun b4 => ?_) (fun b4 => ?_)
  · replace HF := HF.1 b4
    refine ab_aload_n 0 d_M_read_40 rfl rfl ?_
    refine sa_getI kf_M_177 d_M_read_41 sh_151 rfl ?_
    refine ab_if_eq (tgt := 54) d_M_read_44 (by decide) (fun b5 => ?_) (fun b5 => ?_)
    · replace HF := HF.1 b5
      refine ab_iconst (v := (-1 : Int32)) d_M_read_54 (by decide) ?_
      exact sa_iretI rfl d_M_read_55 HF
    · replace HF := HF.2 b5
      refine ab_aload_n 0 d_M_read_47 rfl rfl ?_
      refine sa_getI kf_M_174 d_M_read_48 sh_151 rfl ?_
      refine ab_goto (tgt := 55) d_M_read_51 (by decide) ?_
      exact sa_iretI rfl d_M_read_55 HF
  · replace HF := HF.2 b4
    refine ab_aload_n 0 d_M_read_26 rfl rfl ?_
    refine sa_getI kf_M_177 d_M_read_27 sh_151 rfl ?_
    refine ab_if_ne (tgt := 40) d_M_read_30 (by decide) (fun b6 => ?_) (fun b6 => ?_)
    · replace HF := HF.1 b6
      refine ab_aload_n 0 d_M_read_40 rfl rfl ?_
      refine sa_getI kf_M_177 d_M_read_41 sh_151 rfl ?_
      refine ab_if_eq (tgt := 54) d_M_read_44 (by decide) (fun h => absurd h b6) (fun _ => ?_)
      refine ab_aload_n 0 d_M_read_47 rfl rfl ?_
      refine sa_getI kf_M_174 d_M_read_48 sh_151 rfl ?_
      refine ab_goto (tgt := 55) d_M_read_51 (by decide) ?_
      exact sa_iretI rfl d_M_read_55 HF
    · replace HF := HF.2 b6
      refine ab_aload_n 0 d_M_read_33 rfl rfl ?_
      refine sa_callVv (As := []) (rest := []) kc_M_193 d_M_read_34 sh_151 rfl rfl rfl (Nat.le_of_ble_eq_true rfl) enI (Nat.le_of_ble_eq_true rfl) ⟨Nat.zero_le _, Nat.zero_le _⟩ HF (fun S7 HF => ?_)
      refine ab_goto (tgt := 15) d_M_read_37 (by decide) ?_
      exact HF
set_option maxRecDepth 100000 in
theorem f_M_stands {g : lp_G} {d : Nat} {Q : Int32 → SS → Prop} {S : SS} {x1 : Int32} {x2 : Int32} {x3 : Int32}
    (HF : AtI g um_M_stands d Q 9 [(0, .ref (g.2.1 + 151)), (1, .int x1), (2, .int x2), (4, .int x3), (5, .int (1 : Int32)), (6, .int (0 : Int32))] [] S) : MtI g um_M_stands d [.ref (g.2.1 + 151), .int x1, .int x2, .int x3] S Q := by
  refine sa_entryI (lv' := [(0, .ref (g.2.1 + 151)), (1, .int x1), (2, .int x2), (3, .int x3)]) (by decide +kernel) (Nat.le_of_ble_eq_true rfl) rfl ?_
  refine ab_iload_n 3 d_M_stands_0 rfl rfl ?_
  refine ab_istore (lv' := [(4, .int x3), (0, .ref (g.2.1 + 151)), (1, .int x1), (2, .int x2), (3, .int x3)]) d_M_stands_1 (Nat.le_of_ble_eq_true rfl) rfl ?_
  refine ab_iconst (v := (1 : Int32)) d_M_stands_3 (by decide) ?_
  refine ab_istore (lv' := [(5, .int (1 : Int32)), (4, .int x3), (0, .ref (g.2.1 + 151)), (1, .int x1), (2, .int x2), (3, .int x3)]) d_M_stands_4 (Nat.le_of_ble_eq_true rfl) rfl ?_
  refine ab_iconst (v := (0 : Int32)) d_M_stands_6 (by decide) ?_
  refine ab_istore (lv' := [(6, .int (0 : Int32)), (5, .int (1 : Int32)), (4, .int x3), (0, .ref (g.2.1 + 151)), (1, .int x1), (2, .int x2), (3, .int x3)]) d_M_stands_7 (Nat.le_of_ble_eq_true rfl) rfl ?_
  refine ab_sub (lv' := [(0, .ref (g.2.1 + 151)), (1, .int x1), (2, .int x2), (4, .int x3), (5, .int (1 : Int32)), (6, .int (0 : Int32))]) [3, 4, 5, 2, 1, 0] rfl ?_
  exact HF
set_option maxRecDepth 100000 in
theorem f_M_stands_9 {g : lp_G} {d : Nat} {Q : Int32 → SS → Prop} {S : SS} {x1 : Int32} {x2 : Int32} {x4 : Int32} {x5 : Int32} {x6 : Int32}
    (HF : (vp_in x1 80) ∧ ((S.2 173 x1.toNatClampNeg ≤ x6 → (isB x5) ∧ (Q x5 S)) ∧ (¬ S.2 173 x1.toNatClampNeg ≤ x6 → (vp_in x1 80) ∧ ((vp_in ((S.2 174 x1.toNatClampNeg) + ((nI 3) * x6)) 900) ∧ ((S.2 169 ((S.2 174 x1.toNatClampNeg) + ((nI 3) * x6)).toNatClampNeg = nI 43 → AtI g um_M_stands d Q 9 [(0, .ref (g.2.1 + 151)), (1, .int x1), (2, .int x2), (4, .int x4), (5, .int x5), (6, .int (x6 + 1))] [] S) ∧ (¬ S.2 169 ((S.2 174 x1.toNatClampNeg) + ((nI 3) * x6)).toNatClampNeg = nI 43 → (x5 = 0 → AtI g um_M_stands d Q 9 [(0, .ref (g.2.1 + 151)), (1, .int x1), (2, .int x2), (4, .int (x4 + 1)), (5, .int (0 : Int32)), (6, .int (x6 + 1))] [] S) ∧ (¬ x5 = 0 → (vp_in (((nI 24) * x2) + x4) 96) ∧ ((vp_in (((S.2 174 x1.toNatClampNeg) + ((nI 3) * x6)) + (1 : Int32)) 900) ∧ ((¬ S.2 152 (((nI 24) * x2) + x4).toNatClampNeg = S.2 169 (((S.2 174 x1.toNatClampNeg) + ((nI 3) * x6)) + (1 : Int32)).toNatClampNeg → AtI g um_M_stands d Q 9 [(0, .ref (g.2.1 + 151)), (1, .int x1), (2, .int x2), (4, .int (x4 + 1)), (5, .int (0 : Int32)), (6, .int (x6 + 1))] [] S) ∧ (S.2 152 (((nI 24) * x2) + x4).toNatClampNeg = S.2 169 (((S.2 174 x1.toNatClampNeg) + ((nI 3) * x6)) + (1 : Int32)).toNatClampNeg → AtI g um_M_stands d Q 9 [(0, .ref (g.2.1 + 151)), (1, .int x1), (2, .int x2), (4, .int (x4 + 1)), (5, .int (1 : Int32)), (6, .int (x6 + 1))] [] S)))))))))) : AtI g um_M_stands d Q 9 [(0, .ref (g.2.1 + 151)), (1, .int x1), (2, .int x2), (4, .int x4), (5, .int x5), (6, .int x6)] [] S := by
  refine ab_iload 5 d_M_stands_9 rfl ?_
  refine ab_aload_n 0 d_M_stands_11 rfl rfl ?_
  refine sa_getR (r := 173) kf_M_73 d_M_stands_12 sh_151 rfl ?_
  refine ab_iload_n 1 d_M_stands_15 rfl rfl ?_
  obtain ⟨c1, HF⟩ := HF
  refine sa_iald d_M_stands_16 sh_173 c1 ?_
  refine ab_icmp_ge (tgt := 90) d_M_stands_17 (by decide) (fun b2 => ?_) (fun b2 => ?_)
  · replace HF := HF.1 b2
    refine ab_iload 4 d_M_stands_90 rfl ?_
    obtain ⟨c3, HF⟩ := HF
    exact sa_iretZ rfl c3.1 d_M_stands_92 HF
  · replace HF := HF.2 b2
    refine ab_aload_n 0 d_M_stands_20 rfl rfl ?_
    refine sa_getR (r := 174) kf_M_76 d_M_stands_21 sh_151 rfl ?_
    refine ab_iload_n 1 d_M_stands_24 rfl rfl ?_
    obtain ⟨c4, HF⟩ := HF
    refine sa_iald d_M_stands_25 sh_174 c4 ?_
    refine ab_iconst (v := nI 3) d_M_stands_26 (by decide) ?_
    refine ab_iload 5 d_M_stands_27 rfl ?_
    refine ab_imul d_M_stands_29 ?_
    refine ab_iadd d_M_stands_30 ?_
    refine ab_istore (lv' := [(7, .int ((S.2 174 x1.toNatClampNeg) + ((nI 3) * x6))), (0, .ref (g.2.1 + 151)), (1, .int x1), (2, .int x2), (4, .int x4), (5, .int x5), (6, .int x6)]) d_M_stands_31 (Nat.le_of_ble_eq_true rfl) rfl ?_
    refine ab_aload_n 1 d_M_stands_33 rfl rfl ?_
    refine sa_getR (r := 169) kf_M_61 d_M_stands_34 sh_151 rfl ?_
    refine ab_iload 0 d_M_stands_37 rfl ?_
    obtain ⟨c5, HF⟩ := HF
    refine sa_iald d_M_stands_39 sh_169 c5 ?_
    refine ab_bipush (v := nI 43) d_M_stands_40 (by decide) ?_
    refine ab_icmp_eq (tgt := 84) d_M_stands_42 (by decide) (fun b6 => ?_) (fun b6 => ?_)
    · replace HF := HF.1 b6
      refine ab_iinc (v := x6 + 1) (lv' := [(6, .int (x6 + 1)), (7, .int ((S.2 174 x1.toNatClampNeg) + ((nI 3) * x6))), (0, .ref (g.2.1 + 151)), (1, .int x1), (2, .int x2), (4, .int x4), (5, .int x5)]) 6 d_M_stands_84 rfl (congrArg (fun z => x6 + z) (show Int32.ofInt 1 = (1 : Int32) by decide)) (Nat.le_of_ble_eq_true rfl) rfl ?_
      refine ab_goto (tgt := 9) d_M_stands_87 (by decide) ?_
      refine ab_sub (lv' := [(0, .ref (g.2.1 + 151)), (1, .int x1), (2, .int x2), (4, .int x4), (5, .int x5), (6, .int (x6 + 1))]) [2, 3, 4, 5, 6, 0] rfl ?_
      exact HF
    · replace HF := HF.2 b6
      refine ab_iload 5 d_M_stands_45 rfl ?_
      refine ab_if_eq (tgt := 78) d_M_stands_47 (by decide) (fun b7 => ?_) (fun b7 => ?_)
      · replace HF := HF.1 b7
        refine ab_iconst (v := (0 : Int32)) d_M_stands_78 (by decide) ?_
        refine ab_istore (lv' := [(5, .int (0 : Int32)), (7, .int ((S.2 174 x1.toNatClampNeg) + ((nI 3) * x6))), (0, .ref (g.2.1 + 151)), (1, .int x1), (2, .int x2), (4, .int x4), (6, .int x6)]) d_M_stands_79 (Nat.le_of_ble_eq_true rfl) rfl ?_
        refine ab_iinc (v := x4 + 1) (lv' := [(4, .int (x4 + 1)), (5, .int (0 : Int32)), (7, .int ((S.2 174 x1.toNatClampNeg) + ((nI 3) * x6))), (0, .ref (g.2.1 + 151)), (1, .int x1), (2, .int x2), (6, .int x6)]) 5 d_M_stands_81 rfl (congrArg (fun z => x4 + z) (show Int32.ofInt 1 = (1 : Int32) by decide)) (Nat.le_of_ble_eq_true rfl) rfl ?_
        refine ab_iinc (v := x6 + 1) (lv' := [(6, .int (x6 + 1)), (4, .int (x4 + 1)), (5, .int (0 : Int32)), (7, .int ((S.2 174 x1.toNatClampNeg) + ((nI 3) * x6))), (0, .ref (g.2.1 + 151)), (1, .int x1), (2, .int x2)]) 6 d_M_stands_84 rfl (congrArg (fun z => x6 + z) (show Int32.ofInt 1 = (1 : Int32) by decide)) (Nat.le_of_ble_eq_true rfl) rfl ?_
        refine ab_goto (tgt := 9) d_M_stands_87 (by decide) ?_
        refine ab_sub (lv' := [(0, .ref (g.2.1 + 151)), (1, .int x1), (2, .int x2), (4, .int (x4 + 1)), (5, .int (0 : Int32)), (6, .int (x6 + 1))]) [4, 5, 6, 1, 2, 0] rfl ?_
        exact HF
      · replace HF := HF.2 b7
        refine ab_aload_n 1 d_M_stands_50 rfl rfl ?_
        refine sa_getR (r := 152) kf_M_7 d_M_stands_51 sh_151 rfl ?_
        refine ab_bipush (v := nI 24) d_M_stands_54 (by decide) ?_
        refine ab_iload_n 3 d_M_stands_56 rfl rfl ?_
        refine ab_imul d_M_stands_57 ?_
        refine ab_iload 4 d_M_stands_58 rfl ?_
        refine ab_iadd d_M_stands_60 ?_
        obtain ⟨c8, HF⟩ := HF
        refine sa_iald d_M_stands_61 sh_152 c8 ?_
        refine ab_aload_n 1 d_M_stands_62 rfl rfl ?_
        refine sa_getR (r := 169) kf_M_61 d_M_stands_63 sh_151 rfl ?_
        refine ab_iload 0 d_M_stands_66 rfl ?_
        refine ab_iconst (v := (1 : Int32)) d_M_stands_68 (by decide) ?_
        refine ab_iadd d_M_stands_69 ?_
        obtain ⟨c9, HF⟩ := HF
        refine sa_iald d_M_stands_70 sh_169 c9 ?_
        refine ab_icmp_ne (tgt := 78) d_M_stands_71 (by decide) (fun b10 => ?_) (fun b10 => ?_)
        · replace HF := HF.1 b10
          refine ab_iconst (v := (0 : Int32)) d_M_stands_78 (by decide) ?_
          refine ab_istore (lv' := [(5, .int (0 : Int32)), (7, .int ((S.2 174 x1.toNatClampNeg) + ((nI 3) * x6))), (0, .ref (g.2.1 + 151)), (1, .int x1), (2, .int x2), (4, .int x4), (6, .int x6)]) d_M_stands_79 (Nat.le_of_ble_eq_true rfl) rfl ?_
          refine ab_iinc (v := x4 + 1) (lv' := [(4, .int (x4 + 1)), (5, .int (0 : Int32)), (7, .int ((S.2 174 x1.toNatClampNeg) + ((nI 3) * x6))), (0, .ref (g.2.1 + 151)), (1, .int x1), (2, .int x2), (6, .int x6)]) 5 d_M_stands_81 rfl (congrArg (fun z => x4 + z) (show Int32.ofInt 1 = (1 : Int32) by decide)) (Nat.le_of_ble_eq_true rfl) rfl ?_
          refine ab_iinc (v := x6 + 1) (lv' := [(6, .int (x6 + 1)), (4, .int (x4 + 1)), (5, .int (0 : Int32)), (7, .int ((S.2 174 x1.toNatClampNeg) + ((nI 3) * x6))), (0, .ref (g.2.1 + 151)), (1, .int x1), (2, .int x2)]) 6 d_M_stands_84 rfl (congrArg (fun z => x6 + z) (show Int32.ofInt 1 = (1 : Int32) by decide)) (Nat.le_of_ble_eq_true rfl) rfl ?_
          refine ab_goto (tgt := 9) d_M_stands_87 (by decide) ?_
          refine ab_sub (lv' := [(0, .ref (g.2.1 + 151)), (1, .int x1), (2, .int x2), (4, .int (x4 + 1)), (5, .int (0 : Int32)), (6, .int (x6 + 1))]) [4, 5, 6, 1, 2, 0] rfl ?_
          exact HF
        · replace HF := HF.2 b10
          refine ab_iconst (v := (1 : Int32)) d_M_stands_74 (by decide) ?_
          refine ab_goto (tgt := 79) d_M_stands_75 (by decide) ?_
          refine ab_istore (lv' := [(5, .int (1 : Int32)), (7, .int ((S.2 174 x1.toNatClampNeg) + ((nI 3) * x6))), (0, .ref (g.2.1 + 151)), (1, .int x1), (2, .int x2), (4, .int x4), (6, .int x6)]) d_M_stands_79 (Nat.le_of_ble_eq_true rfl) rfl ?_
          refine ab_iinc (v := x4 + 1) (lv' := [(4, .int (x4 + 1)), (5, .int (1 : Int32)), (7, .int ((S.2 174 x1.toNatClampNeg) + ((nI 3) * x6))), (0, .ref (g.2.1 + 151)), (1, .int x1), (2, .int x2), (6, .int x6)]) 5 d_M_stands_81 rfl (congrArg (fun z => x4 + z) (show Int32.ofInt 1 = (1 : Int32) by decide)) (Nat.le_of_ble_eq_true rfl) rfl ?_
          refine ab_iinc (v := x6 + 1) (lv' := [(6, .int (x6 + 1)), (4, .int (x4 + 1)), (5, .int (1 : Int32)), (7, .int ((S.2 174 x1.toNatClampNeg) + ((nI 3) * x6))), (0, .ref (g.2.1 + 151)), (1, .int x1), (2, .int x2)]) 6 d_M_stands_84 rfl (congrArg (fun z => x6 + z) (show Int32.ofInt 1 = (1 : Int32) by decide)) (Nat.le_of_ble_eq_true rfl) rfl ?_
          refine ab_goto (tgt := 9) d_M_stands_87 (by decide) ?_
          refine ab_sub (lv' := [(0, .ref (g.2.1 + 151)), (1, .int x1), (2, .int x2), (4, .int (x4 + 1)), (5, .int (1 : Int32)), (6, .int (x6 + 1))]) [4, 5, 6, 1, 2, 0] rfl ?_
          exact HF
set_option maxRecDepth 100000 in
theorem f_M_fit {g : lp_G} {d : Nat} {Q : Int32 → SS → Prop} {S : SS} {x1 : Int32} {x2 : Int32} {x3 : Int32}
    (HF : AtI g um_M_fit (d + 1) Q 11 [(0, .ref (g.2.1 + 151)), (1, .int x1), (2, .int x2), (4, .int (-1 : Int32)), (5, .int (nI 1000)), (6, .int x3)] [] S) : MtI g um_M_fit (d + 1) [.ref (g.2.1 + 151), .int x1, .int x2, .int x3] S Q := by
  refine sa_entryI (lv' := [(0, .ref (g.2.1 + 151)), (1, .int x1), (2, .int x2), (3, .int x3)]) (by decide +kernel) (Nat.le_of_ble_eq_true rfl) rfl ?_
  refine ab_iconst (v := (-1 : Int32)) d_M_fit_0 (by decide) ?_
  refine ab_istore (lv' := [(4, .int (-1 : Int32)), (0, .ref (g.2.1 + 151)), (1, .int x1), (2, .int x2), (3, .int x3)]) d_M_fit_1 (Nat.le_of_ble_eq_true rfl) rfl ?_
  refine ab_sipush (v := nI 1000) d_M_fit_3 (by decide) ?_
  refine ab_istore (lv' := [(5, .int (nI 1000)), (4, .int (-1 : Int32)), (0, .ref (g.2.1 + 151)), (1, .int x1), (2, .int x2), (3, .int x3)]) d_M_fit_6 (Nat.le_of_ble_eq_true rfl) rfl ?_
  refine ab_iload_n 5 d_M_fit_8 rfl rfl ?_
  refine ab_istore (lv' := [(6, .int x3), (5, .int (nI 1000)), (4, .int (-1 : Int32)), (0, .ref (g.2.1 + 151)), (1, .int x1), (2, .int x2), (3, .int x3)]) d_M_fit_9 (Nat.le_of_ble_eq_true rfl) rfl ?_
  refine ab_sub (lv' := [(0, .ref (g.2.1 + 151)), (1, .int x1), (2, .int x2), (4, .int (-1 : Int32)), (5, .int (nI 1000)), (6, .int x3)]) [3, 4, 5, 2, 1, 0] rfl ?_
  exact HF
set_option maxRecDepth 100000 in
theorem f_M_fit_11 {g : lp_G} {d : Nat} {Q : Int32 → SS → Prop} {S : SS} {x1 : Int32} {x2 : Int32} {x4 : Int32} {x5 : Int32} {x6 : Int32}
    (HF : (vp_in x1 80) ∧ ((vp_in x2 4) ∧ ((S.2 153 x2.toNatClampNeg < x6 + (S.2 171 x1.toNatClampNeg) → Q x4 S) ∧ (¬ S.2 153 x2.toNatClampNeg < x6 + (S.2 171 x1.toNatClampNeg) → (vp_in x1 80) ∧ ((S.2 170 x1.toNatClampNeg ≤ x6 → (vp_in x1 80) ∧ ((x5 ≤ x6 - (S.2 170 x1.toNatClampNeg) → AtI g um_M_fit (d + 1) Q 11 [(0, .ref (g.2.1 + 151)), (1, .int x1), (2, .int x2), (4, .int x4), (5, .int x5), (6, .int (x6 + 1))] [] S) ∧ (¬ x5 ≤ x6 - (S.2 170 x1.toNatClampNeg) → MtI g um_M_stands d [.ref (g.2.1 + 151), .int x1, .int x2, .int x6] S (fun r9 S8 => (r9 = 0 → AtI g um_M_fit (d + 1) Q 11 [(0, .ref (g.2.1 + 151)), (1, .int x1), (2, .int x2), (4, .int x4), (5, .int x5), (6, .int (x6 + 1))] [] S8) ∧ (¬ r9 = 0 → AtI g um_M_fit (d + 1) Q 11 [(0, .ref (g.2.1 + 151)), (1, .int x1), (2, .int x2), (4, .int x6), (5, .int (x6 - (S.2 170 x1.toNatClampNeg))), (6, .int (x6 + 1))] [] S8))))) ∧ (¬ S.2 170 x1.toNatClampNeg ≤ x6 → (vp_in x1 80) ∧ ((x5 ≤ (S.2 170 x1.toNatClampNeg) - x6 → AtI g um_M_fit (d + 1) Q 11 [(0, .ref (g.2.1 + 151)), (1, .int x1), (2, .int x2), (4, .int x4), (5, .int x5), (6, .int (x6 + 1))] [] S) ∧ (¬ x5 ≤ (S.2 170 x1.toNatClampNeg) - x6 → MtI g um_M_stands d [.ref (g.2.1 + 151), .int x1, .int x2, .int x6] S (fun r14 S13 => (r14 = 0 → AtI g um_M_fit (d + 1) Q 11 [(0, .ref (g.2.1 + 151)), (1, .int x1), (2, .int x2), (4, .int x4), (5, .int x5), (6, .int (x6 + 1))] [] S13) ∧ (¬ r14 = 0 → AtI g um_M_fit (d + 1) Q 11 [(0, .ref (g.2.1 + 151)), (1, .int x1), (2, .int x2), (4, .int x6), (5, .int ((S.2 170 x1.toNatClampNeg) - x6)), (6, .int (x6 + 1))] [] S13)))))))))) : AtI g um_M_fit (d + 1) Q 11 [(0, .ref (g.2.1 + 151)), (1, .int x1), (2, .int x2), (4, .int x4), (5, .int x5), (6, .int x6)] [] S := by
  refine ab_iload 5 d_M_fit_11 rfl ?_
  refine ab_aload_n 0 d_M_fit_13 rfl rfl ?_
  refine sa_getR (r := 171) kf_M_67 d_M_fit_14 sh_151 rfl ?_
  refine ab_iload_n 1 d_M_fit_17 rfl rfl ?_
  obtain ⟨c1, HF⟩ := HF
  refine sa_iald d_M_fit_18 sh_171 c1 ?_
  refine ab_iadd d_M_fit_19 ?_
  refine ab_aload_n 0 d_M_fit_20 rfl rfl ?_
  refine sa_getR (r := 153) kf_M_13 d_M_fit_21 sh_151 rfl ?_
  refine ab_iload_n 2 d_M_fit_24 rfl rfl ?_
  obtain ⟨c2, HF⟩ := HF
  refine sa_iald d_M_fit_25 sh_153 c2 ?_
  refine ab_icmp_gt (tgt := 95) d_M_fit_26 (by decide) (fun b3 => ?_) (fun b3 => ?_)
  · replace HF := HF.1 b3
    refine ab_iload 3 d_M_fit_95 rfl ?_
    exact sa_iretI rfl d_M_fit_97 HF
  · replace HF := HF.2 b3
    refine ab_iload 5 d_M_fit_29 rfl ?_
    refine ab_aload_n 0 d_M_fit_31 rfl rfl ?_
    refine sa_getR (r := 170) kf_M_64 d_M_fit_32 sh_151 rfl ?_
    refine ab_iload_n 1 d_M_fit_35 rfl rfl ?_
    obtain ⟨c4, HF⟩ := HF
    refine sa_iald d_M_fit_36 sh_170 c4 ?_
    refine ab_icmp_ge (tgt := 52) d_M_fit_37 (by decide) (fun b5 => ?_) (fun b5 => ?_)
    · replace HF := HF.1 b5
      refine ab_iload 5 d_M_fit_52 rfl ?_
      refine ab_aload_n 0 d_M_fit_54 rfl rfl ?_
      refine sa_getR (r := 170) kf_M_64 d_M_fit_55 sh_151 rfl ?_
      refine ab_iload_n 1 d_M_fit_58 rfl rfl ?_
      obtain ⟨c6, HF⟩ := HF
      refine sa_iald d_M_fit_59 sh_170 c6 ?_
      refine ab_isub d_M_fit_60 ?_
      refine ab_istore (lv' := [(7, .int (x6 - (S.2 170 x1.toNatClampNeg))), (0, .ref (g.2.1 + 151)), (1, .int x1), (2, .int x2), (4, .int x4), (5, .int x5), (6, .int x6)]) d_M_fit_61 (Nat.le_of_ble_eq_true rfl) rfl ?_
      refine ab_iload 0 d_M_fit_63 rfl ?_
      refine ab_iload 5 d_M_fit_65 rfl ?_
      refine ab_icmp_ge (tgt := 89) d_M_fit_67 (by decide) (fun b7 => ?_) (fun b7 => ?_)
      · replace HF := HF.1 b7
        refine ab_iinc (v := x6 + 1) (lv' := [(6, .int (x6 + 1)), (7, .int (x6 - (S.2 170 x1.toNatClampNeg))), (0, .ref (g.2.1 + 151)), (1, .int x1), (2, .int x2), (4, .int x4), (5, .int x5)]) 6 d_M_fit_89 rfl (congrArg (fun z => x6 + z) (show Int32.ofInt 1 = (1 : Int32) by decide)) (Nat.le_of_ble_eq_true rfl) rfl ?_
        refine ab_goto (tgt := 11) d_M_fit_92 (by decide) ?_
        refine ab_sub (lv' := [(0, .ref (g.2.1 + 151)), (1, .int x1), (2, .int x2), (4, .int x4), (5, .int x5), (6, .int (x6 + 1))]) [2, 3, 4, 5, 6, 0] rfl ?_
        exact HF
      · replace HF := HF.2 b7
        refine ab_aload_n 1 d_M_fit_70 rfl rfl ?_
        refine ab_iload_n 2 d_M_fit_71 rfl rfl ?_
        refine ab_iload_n 3 d_M_fit_72 rfl rfl ?_
        refine ab_iload 6 d_M_fit_73 rfl ?_
        refine sa_callVi (As := [.int x1, .int x2, .int x6]) (rest := []) kc_M_196 d_M_fit_75 sh_151 rfl rfl rfl (Nat.le_of_ble_eq_true rfl) enI (Nat.le_of_ble_eq_true rfl) ⟨Nat.zero_le _, Nat.zero_le _⟩ HF (fun r9 S8 HF => ?_)
        refine ab_if_eq (tgt := 89) d_M_fit_78 (by decide) (fun b10 => ?_) (fun b10 => ?_)
        · replace HF := HF.1 b10
          refine ab_iinc (v := x6 + 1) (lv' := [(6, .int (x6 + 1)), (7, .int (x6 - (S.2 170 x1.toNatClampNeg))), (0, .ref (g.2.1 + 151)), (1, .int x1), (2, .int x2), (4, .int x4), (5, .int x5)]) 6 d_M_fit_89 rfl (congrArg (fun z => x6 + z) (show Int32.ofInt 1 = (1 : Int32) by decide)) (Nat.le_of_ble_eq_true rfl) rfl ?_
          refine ab_goto (tgt := 11) d_M_fit_92 (by decide) ?_
          refine ab_sub (lv' := [(0, .ref (g.2.1 + 151)), (1, .int x1), (2, .int x2), (4, .int x4), (5, .int x5), (6, .int (x6 + 1))]) [2, 3, 4, 5, 6, 0] rfl ?_
          exact HF
        · replace HF := HF.2 b10
          refine ab_iload 6 d_M_fit_81 rfl ?_
          refine ab_istore (lv' := [(4, .int x6), (7, .int (x6 - (S.2 170 x1.toNatClampNeg))), (0, .ref (g.2.1 + 151)), (1, .int x1), (2, .int x2), (5, .int x5), (6, .int x6)]) d_M_fit_83 (Nat.le_of_ble_eq_true rfl) rfl ?_
          refine ab_iload 1 d_M_fit_85 rfl ?_
          refine ab_istore (lv' := [(5, .int (x6 - (S.2 170 x1.toNatClampNeg))), (4, .int x6), (7, .int (x6 - (S.2 170 x1.toNatClampNeg))), (0, .ref (g.2.1 + 151)), (1, .int x1), (2, .int x2), (6, .int x6)]) d_M_fit_87 (Nat.le_of_ble_eq_true rfl) rfl ?_
          refine ab_iinc (v := x6 + 1) (lv' := [(6, .int (x6 + 1)), (5, .int (x6 - (S.2 170 x1.toNatClampNeg))), (4, .int x6), (7, .int (x6 - (S.2 170 x1.toNatClampNeg))), (0, .ref (g.2.1 + 151)), (1, .int x1), (2, .int x2)]) 6 d_M_fit_89 rfl (congrArg (fun z => x6 + z) (show Int32.ofInt 1 = (1 : Int32) by decide)) (Nat.le_of_ble_eq_true rfl) rfl ?_
          refine ab_goto (tgt := 11) d_M_fit_92 (by decide) ?_
          refine ab_sub (lv' := [(0, .ref (g.2.1 + 151)), (1, .int x1), (2, .int x2), (4, .int x6), (5, .int (x6 - (S.2 170 x1.toNatClampNeg))), (6, .int (x6 + 1))]) [4, 5, 6, 2, 1, 0] rfl ?_
          exact HF
    · replace HF := HF.2 b5
      refine ab_aload_n 0 d_M_fit_40 rfl rfl ?_
      refine sa_getR (r := 170) kf_M_64 d_M_fit_41 sh_151 rfl ?_
      refine ab_iload_n 1 d_M_fit_44 rfl rfl ?_
      obtain ⟨c11, HF⟩ := HF
      refine sa_iald d_M_fit_45 sh_170 c11 ?_
      refine ab_iload 5 d_M_fit_46 rfl ?_
      refine ab_isub d_M_fit_48 ?_
      refine ab_goto (tgt := 61) d_M_fit_49 (by decide) ?_
      refine ab_istore (lv' := [(7, .int ((S.2 170 x1.toNatClampNeg) - x6)), (0, .ref (g.2.1 + 151)), (1, .int x1), (2, .int x2), (4, .int x4), (5, .int x5), (6, .int x6)]) d_M_fit_61 (Nat.le_of_ble_eq_true rfl) rfl ?_
      refine ab_iload 0 d_M_fit_63 rfl ?_
      refine ab_iload 5 d_M_fit_65 rfl ?_
      refine ab_icmp_ge (tgt := 89) d_M_fit_67 (by decide) (fun b12 => ?_) (fun b12 => ?_)
      · replace HF := HF.1 b12
        refine ab_iinc (v := x6 + 1) (lv' := [(6, .int (x6 + 1)), (7, .int ((S.2 170 x1.toNatClampNeg) - x6)), (0, .ref (g.2.1 + 151)), (1, .int x1), (2, .int x2), (4, .int x4), (5, .int x5)]) 6 d_M_fit_89 rfl (congrArg (fun z => x6 + z) (show Int32.ofInt 1 = (1 : Int32) by decide)) (Nat.le_of_ble_eq_true rfl) rfl ?_
        refine ab_goto (tgt := 11) d_M_fit_92 (by decide) ?_
        refine ab_sub (lv' := [(0, .ref (g.2.1 + 151)), (1, .int x1), (2, .int x2), (4, .int x4), (5, .int x5), (6, .int (x6 + 1))]) [2, 3, 4, 5, 6, 0] rfl ?_
        exact HF
      · replace HF := HF.2 b12
        refine ab_aload_n 1 d_M_fit_70 rfl rfl ?_
        refine ab_iload_n 2 d_M_fit_71 rfl rfl ?_
        refine ab_iload_n 3 d_M_fit_72 rfl rfl ?_
        refine ab_iload 6 d_M_fit_73 rfl ?_
        refine sa_callVi (As := [.int x1, .int x2, .int x6]) (rest := []) kc_M_196 d_M_fit_75 sh_151 rfl rfl rfl (Nat.le_of_ble_eq_true rfl) enI (Nat.le_of_ble_eq_true rfl) ⟨Nat.zero_le _, Nat.zero_le _⟩ HF (fun r14 S13 HF => ?_)
        refine ab_if_eq (tgt := 89) d_M_fit_78 (by decide) (fun b15 => ?_) (fun b15 => ?_)
        · replace HF := HF.1 b15
          refine ab_iinc (v := x6 + 1) (lv' := [(6, .int (x6 + 1)), (7, .int ((S.2 170 x1.toNatClampNeg) - x6)), (0, .ref (g.2.1 + 151)), (1, .int x1), (2, .int x2), (4, .int x4), (5, .int x5)]) 6 d_M_fit_89 rfl (congrArg (fun z => x6 + z) (show Int32.ofInt 1 = (1 : Int32) by decide)) (Nat.le_of_ble_eq_true rfl) rfl ?_
          refine ab_goto (tgt := 11) d_M_fit_92 (by decide) ?_
          refine ab_sub (lv' := [(0, .ref (g.2.1 + 151)), (1, .int x1), (2, .int x2), (4, .int x4), (5, .int x5), (6, .int (x6 + 1))]) [2, 3, 4, 5, 6, 0] rfl ?_
          exact HF
        · replace HF := HF.2 b15
          refine ab_iload 6 d_M_fit_81 rfl ?_
          refine ab_istore (lv' := [(4, .int x6), (7, .int ((S.2 170 x1.toNatClampNeg) - x6)), (0, .ref (g.2.1 + 151)), (1, .int x1), (2, .int x2), (5, .int x5), (6, .int x6)]) d_M_fit_83 (Nat.le_of_ble_eq_true rfl) rfl ?_
          refine ab_iload 1 d_M_fit_85 rfl ?_
          refine ab_istore (lv' := [(5, .int ((S.2 170 x1.toNatClampNeg) - x6)), (4, .int x6), (7, .int ((S.2 170 x1.toNatClampNeg) - x6)), (0, .ref (g.2.1 + 151)), (1, .int x1), (2, .int x2), (6, .int x6)]) d_M_fit_87 (Nat.le_of_ble_eq_true rfl) rfl ?_
          refine ab_iinc (v := x6 + 1) (lv' := [(6, .int (x6 + 1)), (5, .int ((S.2 170 x1.toNatClampNeg) - x6)), (4, .int x6), (7, .int ((S.2 170 x1.toNatClampNeg) - x6)), (0, .ref (g.2.1 + 151)), (1, .int x1), (2, .int x2)]) 6 d_M_fit_89 rfl (congrArg (fun z => x6 + z) (show Int32.ofInt 1 = (1 : Int32) by decide)) (Nat.le_of_ble_eq_true rfl) rfl ?_
          refine ab_goto (tgt := 11) d_M_fit_92 (by decide) ?_
          refine ab_sub (lv' := [(0, .ref (g.2.1 + 151)), (1, .int x1), (2, .int x2), (4, .int x6), (5, .int ((S.2 170 x1.toNatClampNeg) - x6)), (6, .int (x6 + 1))]) [4, 5, 6, 2, 1, 0] rfl ?_
          exact HF
set_option maxRecDepth 100000 in
theorem f_M_emit {g : lp_G} {d : Nat} {Q : SS → Prop} {S : SS} {x1 : Int32}
    (HF : (vp_in (S.1 151 35) 24) ∧ (∀ S2 : SS, S2 = setA S 176 (S.1 151 35).toNatClampNeg x1 → ∀ S3 : SS, S3 = setI S2 151 35 ((S2.1 151 35) + (1 : Int32)) → Q S3)) : MtV g um_M_emit d [.ref (g.2.1 + 151), .int x1] S Q := by
  refine sa_entryV (lv' := [(0, .ref (g.2.1 + 151)), (1, .int x1)]) (by decide +kernel) (Nat.le_of_ble_eq_true rfl) rfl ?_
  refine ab_aload_n 0 d_M_emit_0 rfl rfl ?_
  refine sa_getR (r := 176) kf_M_82 d_M_emit_1 sh_151 rfl ?_
  refine ab_aload_n 0 d_M_emit_4 rfl rfl ?_
  refine sa_getI kf_M_199 d_M_emit_5 sh_151 rfl ?_
  refine ab_iload_n 1 d_M_emit_8 rfl rfl ?_
  obtain ⟨c1, HF⟩ := HF
  refine sa_iastn d_M_emit_9 sh_176 c1 (fun S2 hS2 => ?_)
  replace HF := HF S2 hS2
  refine ab_aload_n 0 d_M_emit_10 rfl rfl ?_
  refine ab_dup d_M_emit_11 rfl ?_
  refine sa_getI kf_M_199 d_M_emit_12 sh_151 rfl ?_
  refine ab_iconst (v := (1 : Int32)) d_M_emit_15 (by decide) ?_
  refine ab_iadd d_M_emit_16 ?_
  refine sa_putIn kp_M_199 d_M_emit_17 sh_151 rfl (fun S3 hS3 => ?_)
  replace HF := HF S3 hS3
  exact sa_ret rfl d_M_emit_20 HF
set_option maxRecDepth 100000 in
theorem f_M_apply {g : lp_G} {d : Nat} {Q : Int32 → SS → Prop} {S : SS} {x1 : Int32}
    (HF : MtI g um_M_within d [.int x1, .int (0 : Int32), .int (nI 3)] S (fun r2 S1 => (r2 = 0 → Q (-1 : Int32) S1) ∧ (¬ r2 = 0 → MtI g um_M_read d [.ref (g.2.1 + 151)] S1 (fun r5 S4 => (r5 < 0 → (vp_in x1 4) ∧ (AtI g um_M_apply (d + 1) Q 30 [(0, .ref (g.2.1 + 151)), (1, .int x1), (2, .int (0 : Int32)), (3, .int (S4.2 153 x1.toNatClampNeg)), (4, .int (0 : Int32))] [] S4)) ∧ (¬ r5 < 0 → Q (-1 : Int32) S4))))) : MtI g um_M_apply (d + 1) [.ref (g.2.1 + 151), .int x1] S Q := by
  refine sa_entryI (lv' := [(0, .ref (g.2.1 + 151)), (1, .int x1)]) (by decide +kernel) (Nat.le_of_ble_eq_true rfl) rfl ?_
  refine ab_iload_n 1 d_M_apply_0 rfl rfl ?_
  refine ab_iconst (v := (0 : Int32)) d_M_apply_1 (by decide) ?_
  refine ab_iconst (v := nI 3) d_M_apply_2 (by decide) ?_
  refine sa_callSi (As := [.int x1, .int (0 : Int32), .int (nI 3)]) (rest := []) kc_M_88 d_M_apply_3 rfl (Nat.le_of_ble_eq_true rfl) enI (Nat.le_of_ble_eq_true rfl) ⟨Nat.zero_le _, Nat.zero_le _⟩ HF (fun r2 S1 HF => ?_)
  refine ab_if_eq (tgt := 16) d_M_apply_6 (by decide) (fun b3 => ?_) (fun b3 => ?_)
  · replace HF := HF.1 b3
    refine ab_iconst (v := (-1 : Int32)) d_M_apply_16 (by decide) ?_
    exact sa_iretI rfl d_M_apply_17 HF
  · replace HF := HF.2 b3
    refine ab_aload_n 0 d_M_apply_9 rfl rfl ?_
    refine sa_callVi (As := []) (rest := []) kc_M_202 d_M_apply_10 sh_151 rfl rfl rfl (Nat.le_of_ble_eq_true rfl) enI (Nat.le_of_ble_eq_true rfl) ⟨Nat.zero_le _, Nat.zero_le _⟩ HF (fun r5 S4 HF => ?_)
    refine ab_if_lt (tgt := 18) d_M_apply_13 (by decide) (fun b6 => ?_) (fun b6 => ?_)
    · replace HF := HF.1 b6
      refine ab_iconst (v := (0 : Int32)) d_M_apply_18 (by decide) ?_
      refine ab_istore_n (lv' := [(2, .int (0 : Int32)), (0, .ref (g.2.1 + 151)), (1, .int x1)]) d_M_apply_19 rfl (Nat.le_of_ble_eq_true rfl) rfl ?_
      refine ab_aload_n 1 d_M_apply_20 rfl rfl ?_
      refine sa_getR (r := 153) kf_M_13 d_M_apply_21 sh_151 rfl ?_
      refine ab_iload_n 2 d_M_apply_24 rfl rfl ?_
      obtain ⟨c7, HF⟩ := HF
      refine sa_iald d_M_apply_25 sh_153 c7 ?_
      refine ab_istore_n (lv' := [(3, .int (S4.2 153 x1.toNatClampNeg)), (2, .int (0 : Int32)), (0, .ref (g.2.1 + 151)), (1, .int x1)]) d_M_apply_26 rfl (Nat.le_of_ble_eq_true rfl) rfl ?_
      refine ab_iconst (v := (0 : Int32)) d_M_apply_27 (by decide) ?_
      refine ab_istore (lv' := [(4, .int (0 : Int32)), (3, .int (S4.2 153 x1.toNatClampNeg)), (2, .int (0 : Int32)), (0, .ref (g.2.1 + 151)), (1, .int x1)]) d_M_apply_28 (Nat.le_of_ble_eq_true rfl) rfl ?_
      refine ab_sub (lv' := [(0, .ref (g.2.1 + 151)), (1, .int x1), (2, .int (0 : Int32)), (3, .int (S4.2 153 x1.toNatClampNeg)), (4, .int (0 : Int32))]) [3, 4, 2, 1, 0] rfl ?_
      exact HF
    · replace HF := HF.2 b6
      refine ab_iconst (v := (-1 : Int32)) d_M_apply_16 (by decide) ?_
      exact sa_iretI rfl d_M_apply_17 HF
set_option maxRecDepth 100000 in
theorem f_M_apply_30 {g : lp_G} {d : Nat} {Q : Int32 → SS → Prop} {S : SS} {x1 : Int32} {x2 : Int32} {x3 : Int32} {x4 : Int32}
    (HF : (S.1 151 26 ≤ x4 → ∀ S9 : SS, S9 = setI S 151 35 (0 : Int32) → AtI g um_M_apply (d + 1) Q 127 [(0, .ref (g.2.1 + 151)), (1, .int x1), (4, .int (0 : Int32)), (5, .int (0 : Int32))] [] S9) ∧ (¬ S.1 151 26 ≤ x4 → MtI g um_M_fit d [.ref (g.2.1 + 151), .int x4, .int x1, .int x2] S (fun r11 S10 => (vp_in x4 80) ∧ (∀ S13 : SS, S13 = setA S10 175 x4.toNatClampNeg r11 → (vp_in x4 80) ∧ ((vp_in x4 80) ∧ ((vp_in x4 80) ∧ ((S13.2 175 x4.toNatClampNeg < 0 → Q ((-3 : Int32) - x4) S13) ∧ (¬ S13.2 175 x4.toNatClampNeg < 0 → ((x3 + (S13.2 172 x4.toNatClampNeg)) - (S13.2 171 x4.toNatClampNeg) ≤ nI 24 → (vp_in x4 80) ∧ ((vp_in x4 80) ∧ (AtI g um_M_apply (d + 1) Q 30 [(0, .ref (g.2.1 + 151)), (1, .int x1), (2, .int ((S13.2 175 x4.toNatClampNeg) + (S13.2 171 x4.toNatClampNeg))), (3, .int ((x3 + (S13.2 172 x4.toNatClampNeg)) - (S13.2 171 x4.toNatClampNeg))), (4, .int (x4 + 1))] [] S13))) ∧ (¬ (x3 + (S13.2 172 x4.toNatClampNeg)) - (S13.2 171 x4.toNatClampNeg) ≤ nI 24 → Q ((-3 : Int32) - x4) S13))))))))) : AtI g um_M_apply (d + 1) Q 30 [(0, .ref (g.2.1 + 151)), (1, .int x1), (2, .int x2), (3, .int x3), (4, .int x4)] [] S := by
  refine ab_iload 4 d_M_apply_30 rfl ?_
  refine ab_aload_n 0 d_M_apply_32 rfl rfl ?_
  refine sa_getI kf_M_187 d_M_apply_33 sh_151 rfl ?_
  refine ab_icmp_ge (tgt := 116) d_M_apply_36 (by decide) (fun b8 => ?_) (fun b8 => ?_)
  · replace HF := HF.1 b8
    refine ab_aload_n 0 d_M_apply_116 rfl rfl ?_
    refine ab_iconst (v := (0 : Int32)) d_M_apply_117 (by decide) ?_
    refine sa_putIn kp_M_199 d_M_apply_118 sh_151 rfl (fun S9 hS9 => ?_)
    replace HF := HF S9 hS9
    refine ab_iconst (v := (0 : Int32)) d_M_apply_121 (by decide) ?_
    refine ab_istore (lv' := [(4, .int (0 : Int32)), (0, .ref (g.2.1 + 151)), (1, .int x1), (2, .int x2), (3, .int x3)]) d_M_apply_122 (Nat.le_of_ble_eq_true rfl) rfl ?_
    refine ab_iconst (v := (0 : Int32)) d_M_apply_124 (by decide) ?_
    refine ab_istore (lv' := [(5, .int (0 : Int32)), (4, .int (0 : Int32)), (0, .ref (g.2.1 + 151)), (1, .int x1), (2, .int x2), (3, .int x3)]) d_M_apply_125 (Nat.le_of_ble_eq_true rfl) rfl ?_
    refine ab_sub (lv' := [(0, .ref (g.2.1 + 151)), (1, .int x1), (4, .int (0 : Int32)), (5, .int (0 : Int32))]) [2, 3, 1, 0] rfl ?_
    exact HF
  · replace HF := HF.2 b8
    refine ab_aload_n 0 d_M_apply_39 rfl rfl ?_
    refine sa_getR (r := 175) kf_M_79 d_M_apply_40 sh_151 rfl ?_
    refine ab_iload 4 d_M_apply_43 rfl ?_
    refine ab_aload_n 0 d_M_apply_45 rfl rfl ?_
    refine ab_iload 4 d_M_apply_46 rfl ?_
    refine ab_iload_n 1 d_M_apply_48 rfl rfl ?_
    refine ab_iload_n 2 d_M_apply_49 rfl rfl ?_
    refine sa_callVi (As := [.int x4, .int x1, .int x2]) (rest := [.int x4, .ref (g.2.1 + 175)]) kc_M_205 d_M_apply_50 sh_151 rfl rfl rfl (Nat.le_of_ble_eq_true rfl) enI (Nat.le_of_ble_eq_true rfl) ⟨Nat.zero_le _, Nat.zero_le _⟩ HF (fun r11 S10 HF => ?_)
    obtain ⟨c12, HF⟩ := HF
    refine sa_iastn d_M_apply_53 sh_175 c12 (fun S13 hS13 => ?_)
    replace HF := HF S13 hS13
    refine ab_iload_n 3 d_M_apply_54 rfl rfl ?_
    refine ab_aload_n 0 d_M_apply_55 rfl rfl ?_
    refine sa_getR (r := 172) kf_M_70 d_M_apply_56 sh_151 rfl ?_
    refine ab_iload 4 d_M_apply_59 rfl ?_
    obtain ⟨c14, HF⟩ := HF
    refine sa_iald d_M_apply_61 sh_172 c14 ?_
    refine ab_iadd d_M_apply_62 ?_
    refine ab_aload_n 0 d_M_apply_63 rfl rfl ?_
    refine sa_getR (r := 171) kf_M_67 d_M_apply_64 sh_151 rfl ?_
    refine ab_iload 4 d_M_apply_67 rfl ?_
    obtain ⟨c15, HF⟩ := HF
    refine sa_iald d_M_apply_69 sh_171 c15 ?_
    refine ab_isub d_M_apply_70 ?_
    refine ab_istore_n (lv' := [(3, .int ((x3 + (S13.2 172 x4.toNatClampNeg)) - (S13.2 171 x4.toNatClampNeg))), (0, .ref (g.2.1 + 151)), (1, .int x1), (2, .int x2), (4, .int x4)]) d_M_apply_71 rfl (Nat.le_of_ble_eq_true rfl) rfl ?_
    refine ab_aload_n 1 d_M_apply_72 rfl rfl ?_
    refine sa_getR (r := 175) kf_M_79 d_M_apply_73 sh_151 rfl ?_
    refine ab_iload 4 d_M_apply_76 rfl ?_
    obtain ⟨c16, HF⟩ := HF
    refine sa_iald d_M_apply_78 sh_175 c16 ?_
    refine ab_if_lt (tgt := 88) d_M_apply_79 (by decide) (fun b17 => ?_) (fun b17 => ?_)
    · replace HF := HF.1 b17
      refine ab_bipush (v := (-3 : Int32)) d_M_apply_88 (by decide) ?_
      refine ab_iload 4 d_M_apply_90 rfl ?_
      refine ab_isub d_M_apply_92 ?_
      exact sa_iretI rfl d_M_apply_93 HF
    · replace HF := HF.2 b17
      refine ab_iload_n 0 d_M_apply_82 rfl rfl ?_
      refine ab_bipush (v := nI 24) d_M_apply_83 (by decide) ?_
      refine ab_icmp_le (tgt := 94) d_M_apply_85 (by decide) (fun b18 => ?_) (fun b18 => ?_)
      · replace HF := HF.1 b18
        refine ab_aload_n 1 d_M_apply_94 rfl rfl ?_
        refine sa_getR (r := 175) kf_M_79 d_M_apply_95 sh_151 rfl ?_
        refine ab_iload 4 d_M_apply_98 rfl ?_
        obtain ⟨c19, HF⟩ := HF
        refine sa_iald d_M_apply_100 sh_175 c19 ?_
        refine ab_aload_n 1 d_M_apply_101 rfl rfl ?_
        refine sa_getR (r := 171) kf_M_67 d_M_apply_102 sh_151 rfl ?_
        refine ab_iload 4 d_M_apply_105 rfl ?_
        obtain ⟨c20, HF⟩ := HF
        refine sa_iald d_M_apply_107 sh_171 c20 ?_
        refine ab_iadd d_M_apply_108 ?_
        refine ab_istore_n (lv' := [(2, .int ((S13.2 175 x4.toNatClampNeg) + (S13.2 171 x4.toNatClampNeg))), (3, .int ((x3 + (S13.2 172 x4.toNatClampNeg)) - (S13.2 171 x4.toNatClampNeg))), (0, .ref (g.2.1 + 151)), (1, .int x1), (4, .int x4)]) d_M_apply_109 rfl (Nat.le_of_ble_eq_true rfl) rfl ?_
        refine ab_iinc (v := x4 + 1) (lv' := [(4, .int (x4 + 1)), (2, .int ((S13.2 175 x4.toNatClampNeg) + (S13.2 171 x4.toNatClampNeg))), (3, .int ((x3 + (S13.2 172 x4.toNatClampNeg)) - (S13.2 171 x4.toNatClampNeg))), (0, .ref (g.2.1 + 151)), (1, .int x1)]) 4 d_M_apply_110 rfl (congrArg (fun z => x4 + z) (show Int32.ofInt 1 = (1 : Int32) by decide)) (Nat.le_of_ble_eq_true rfl) rfl ?_
        refine ab_goto (tgt := 30) d_M_apply_113 (by decide) ?_
        refine ab_sub (lv' := [(0, .ref (g.2.1 + 151)), (1, .int x1), (2, .int ((S13.2 175 x4.toNatClampNeg) + (S13.2 171 x4.toNatClampNeg))), (3, .int ((x3 + (S13.2 172 x4.toNatClampNeg)) - (S13.2 171 x4.toNatClampNeg))), (4, .int (x4 + 1))]) [3, 4, 1, 2, 0] rfl ?_
        exact HF
      · replace HF := HF.2 b18
        refine ab_bipush (v := (-3 : Int32)) d_M_apply_88 (by decide) ?_
        refine ab_iload 4 d_M_apply_90 rfl ?_
        refine ab_isub d_M_apply_92 ?_
        exact sa_iretI rfl d_M_apply_93 HF
set_option maxRecDepth 100000 in
theorem f_M_apply_127 {g : lp_G} {d : Nat} {Q : Int32 → SS → Prop} {S : SS} {x1 : Int32} {x4 : Int32} {x5 : Int32}
    (HF : (S.1 151 26 ≤ x5 → AtI g um_M_apply (d + 1) Q 248 [(0, .ref (g.2.1 + 151)), (1, .int x1), (4, .int x4)] [] S) ∧ (¬ S.1 151 26 ≤ x5 → AtI g um_M_apply (d + 1) Q 136 [(0, .ref (g.2.1 + 151)), (1, .int x1), (4, .int x4), (5, .int x5)] [] S)) : AtI g um_M_apply (d + 1) Q 127 [(0, .ref (g.2.1 + 151)), (1, .int x1), (4, .int x4), (5, .int x5)] [] S := by
  refine ab_iload 3 d_M_apply_127 rfl ?_
  refine ab_aload_n 0 d_M_apply_129 rfl rfl ?_
  refine sa_getI kf_M_187 d_M_apply_130 sh_151 rfl ?_
  refine ab_icmp_ge (tgt := 248) d_M_apply_133 (by decide) (fun b21 => ?_) (fun b21 => ?_)
  · replace HF := HF.1 b21
    refine ab_sub (lv' := [(0, .ref (g.2.1 + 151)), (1, .int x1), (4, .int x4)]) [0, 1, 2] rfl ?_
    exact HF
  · replace HF := HF.2 b21
    exact HF
set_option maxRecDepth 100000 in
theorem f_M_apply_248 {g : lp_G} {d : Nat} {Q : Int32 → SS → Prop} {S : SS} {x1 : Int32} {x4 : Int32}
    (HF : (vp_in x1 4) ∧ ((S.2 153 x1.toNatClampNeg ≤ x4 → MtV g um_M_keep d [.ref (g.2.1 + 151), .int x1] S (fun S24 => Q (S24.1 151 26) S24)) ∧ (¬ S.2 153 x1.toNatClampNeg ≤ x4 → (vp_in (((nI 24) * x1) + x4) 96) ∧ (MtV g um_M_emit d [.ref (g.2.1 + 151), .int (S.2 152 (((nI 24) * x1) + x4).toNatClampNeg)] S (fun S27 => AtI g um_M_apply (d + 1) Q 248 [(0, .ref (g.2.1 + 151)), (1, .int x1), (4, .int (x4 + 1))] [] S27))))) : AtI g um_M_apply (d + 1) Q 248 [(0, .ref (g.2.1 + 151)), (1, .int x1), (4, .int x4)] [] S := by
  refine ab_iload 2 d_M_apply_248 rfl ?_
  refine ab_aload_n 0 d_M_apply_250 rfl rfl ?_
  refine sa_getR (r := 153) kf_M_13 d_M_apply_251 sh_151 rfl ?_
  refine ab_iload_n 1 d_M_apply_254 rfl rfl ?_
  obtain ⟨c22, HF⟩ := HF
  refine sa_iald d_M_apply_255 sh_153 c22 ?_
  refine ab_icmp_ge (tgt := 281) d_M_apply_256 (by decide) (fun b23 => ?_) (fun b23 => ?_)
  · replace HF := HF.1 b23
    refine ab_aload_n 0 d_M_apply_281 rfl rfl ?_
    refine ab_iload_n 1 d_M_apply_282 rfl rfl ?_
    refine sa_callVv (As := [.int x1]) (rest := []) kc_M_211 d_M_apply_283 sh_151 rfl rfl rfl (Nat.le_of_ble_eq_true rfl) enI (Nat.le_of_ble_eq_true rfl) ⟨Nat.zero_le _, Nat.zero_le _⟩ HF (fun S24 HF => ?_)
    refine ab_aload_n 0 d_M_apply_286 rfl rfl ?_
    refine sa_getI kf_M_187 d_M_apply_287 sh_151 rfl ?_
    exact sa_iretI rfl d_M_apply_290 HF
  · replace HF := HF.2 b23
    refine ab_aload_n 0 d_M_apply_259 rfl rfl ?_
    refine ab_aload_n 0 d_M_apply_260 rfl rfl ?_
    refine sa_getR (r := 152) kf_M_7 d_M_apply_261 sh_151 rfl ?_
    refine ab_bipush (v := nI 24) d_M_apply_264 (by decide) ?_
    refine ab_iload_n 1 d_M_apply_266 rfl rfl ?_
    refine ab_imul d_M_apply_267 ?_
    refine ab_iload 2 d_M_apply_268 rfl ?_
    refine ab_iadd d_M_apply_270 ?_
    obtain ⟨c26, HF⟩ := HF
    refine sa_iald d_M_apply_271 sh_152 c26 ?_
    refine sa_callVv (As := [.int (S.2 152 (((nI 24) * x1) + x4).toNatClampNeg)]) (rest := []) kc_M_208 d_M_apply_272 sh_151 rfl rfl rfl (Nat.le_of_ble_eq_true rfl) enI (Nat.le_of_ble_eq_true rfl) ⟨Nat.zero_le _, Nat.zero_le _⟩ HF (fun S27 HF => ?_)
    refine ab_iinc (v := x4 + 1) (lv' := [(4, .int (x4 + 1)), (0, .ref (g.2.1 + 151)), (1, .int x1)]) 2 d_M_apply_275 rfl (congrArg (fun z => x4 + z) (show Int32.ofInt 1 = (1 : Int32) by decide)) (Nat.le_of_ble_eq_true rfl) rfl ?_
    refine ab_goto (tgt := 248) d_M_apply_278 (by decide) ?_
    refine ab_sub (lv' := [(0, .ref (g.2.1 + 151)), (1, .int x1), (4, .int (x4 + 1))]) [1, 2, 0] rfl ?_
    exact HF
set_option maxRecDepth 100000 in
theorem f_M_apply_136 {g : lp_G} {d : Nat} {Q : Int32 → SS → Prop} {S : SS} {x1 : Int32} {x4 : Int32} {x5 : Int32}
    (HF : (vp_in x5 80) ∧ ((S.2 175 x5.toNatClampNeg ≤ x4 → AtI g um_M_apply (d + 1) Q 173 [(0, .ref (g.2.1 + 151)), (1, .int x1), (4, .int x4), (5, .int x5), (6, .int (0 : Int32))] [] S) ∧ (¬ S.2 175 x5.toNatClampNeg ≤ x4 → (vp_in (((nI 24) * x1) + x4) 96) ∧ (MtV g um_M_emit d [.ref (g.2.1 + 151), .int (S.2 152 (((nI 24) * x1) + x4).toNatClampNeg)] S (fun S32 => AtI g um_M_apply (d + 1) Q 136 [(0, .ref (g.2.1 + 151)), (1, .int x1), (4, .int (x4 + 1)), (5, .int x5)] [] S32))))) : AtI g um_M_apply (d + 1) Q 136 [(0, .ref (g.2.1 + 151)), (1, .int x1), (4, .int x4), (5, .int x5)] [] S := by
  refine ab_iload 2 d_M_apply_136 rfl ?_
  refine ab_aload_n 0 d_M_apply_138 rfl rfl ?_
  refine sa_getR (r := 175) kf_M_79 d_M_apply_139 sh_151 rfl ?_
  refine ab_iload 3 d_M_apply_142 rfl ?_
  obtain ⟨c29, HF⟩ := HF
  refine sa_iald d_M_apply_144 sh_175 c29 ?_
  refine ab_icmp_ge (tgt := 170) d_M_apply_145 (by decide) (fun b30 => ?_) (fun b30 => ?_)
  · replace HF := HF.1 b30
    refine ab_iconst (v := (0 : Int32)) d_M_apply_170 (by decide) ?_
    refine ab_istore (lv' := [(6, .int (0 : Int32)), (0, .ref (g.2.1 + 151)), (1, .int x1), (4, .int x4), (5, .int x5)]) d_M_apply_171 (Nat.le_of_ble_eq_true rfl) rfl ?_
    refine ab_sub (lv' := [(0, .ref (g.2.1 + 151)), (1, .int x1), (4, .int x4), (5, .int x5), (6, .int (0 : Int32))]) [1, 2, 3, 4, 0] rfl ?_
    exact HF
  · replace HF := HF.2 b30
    refine ab_aload_n 0 d_M_apply_148 rfl rfl ?_
    refine ab_aload_n 0 d_M_apply_149 rfl rfl ?_
    refine sa_getR (r := 152) kf_M_7 d_M_apply_150 sh_151 rfl ?_
    refine ab_bipush (v := nI 24) d_M_apply_153 (by decide) ?_
    refine ab_iload_n 1 d_M_apply_155 rfl rfl ?_
    refine ab_imul d_M_apply_156 ?_
    refine ab_iload 2 d_M_apply_157 rfl ?_
    refine ab_iadd d_M_apply_159 ?_
    obtain ⟨c31, HF⟩ := HF
    refine sa_iald d_M_apply_160 sh_152 c31 ?_
    refine sa_callVv (As := [.int (S.2 152 (((nI 24) * x1) + x4).toNatClampNeg)]) (rest := []) kc_M_208 d_M_apply_161 sh_151 rfl rfl rfl (Nat.le_of_ble_eq_true rfl) enI (Nat.le_of_ble_eq_true rfl) ⟨Nat.zero_le _, Nat.zero_le _⟩ HF (fun S32 HF => ?_)
    refine ab_iinc (v := x4 + 1) (lv' := [(4, .int (x4 + 1)), (0, .ref (g.2.1 + 151)), (1, .int x1), (5, .int x5)]) 2 d_M_apply_164 rfl (congrArg (fun z => x4 + z) (show Int32.ofInt 1 = (1 : Int32) by decide)) (Nat.le_of_ble_eq_true rfl) rfl ?_
    refine ab_goto (tgt := 136) d_M_apply_167 (by decide) ?_
    refine ab_sub (lv' := [(0, .ref (g.2.1 + 151)), (1, .int x1), (4, .int (x4 + 1)), (5, .int x5)]) [1, 2, 0, 3] rfl ?_
    exact HF
set_option maxRecDepth 100000 in
theorem f_M_apply_173 {g : lp_G} {d : Nat} {Q : Int32 → SS → Prop} {S : SS} {x1 : Int32} {x4 : Int32} {x5 : Int32} {x6 : Int32}
    (HF : (vp_in x5 80) ∧ ((S.2 173 x5.toNatClampNeg ≤ x6 → (vp_in x5 80) ∧ (AtI g um_M_apply (d + 1) Q 127 [(0, .ref (g.2.1 + 151)), (1, .int x1), (4, .int (x4 + (S.2 171 x5.toNatClampNeg))), (5, .int (x5 + 1))] [] S)) ∧ (¬ S.2 173 x5.toNatClampNeg ≤ x6 → (vp_in x5 80) ∧ ((vp_in ((S.2 174 x5.toNatClampNeg) + ((nI 3) * x6)) 900) ∧ ((S.2 169 ((S.2 174 x5.toNatClampNeg) + ((nI 3) * x6)).toNatClampNeg = nI 45 → AtI g um_M_apply (d + 1) Q 173 [(0, .ref (g.2.1 + 151)), (1, .int x1), (4, .int x4), (5, .int x5), (6, .int (x6 + 1))] [] S) ∧ (¬ S.2 169 ((S.2 174 x5.toNatClampNeg) + ((nI 3) * x6)).toNatClampNeg = nI 45 → (vp_in (((S.2 174 x5.toNatClampNeg) + ((nI 3) * x6)) + (1 : Int32)) 900) ∧ (MtV g um_M_emit d [.ref (g.2.1 + 151), .int (S.2 169 (((S.2 174 x5.toNatClampNeg) + ((nI 3) * x6)) + (1 : Int32)).toNatClampNeg)] S (fun S41 => AtI g um_M_apply (d + 1) Q 173 [(0, .ref (g.2.1 + 151)), (1, .int x1), (4, .int x4), (5, .int x5), (6, .int (x6 + 1))] [] S41)))))))) : AtI g um_M_apply (d + 1) Q 173 [(0, .ref (g.2.1 + 151)), (1, .int x1), (4, .int x4), (5, .int x5), (6, .int x6)] [] S := by
  refine ab_iload 4 d_M_apply_173 rfl ?_
  refine ab_aload_n 0 d_M_apply_175 rfl rfl ?_
  refine sa_getR (r := 173) kf_M_73 d_M_apply_176 sh_151 rfl ?_
  refine ab_iload 3 d_M_apply_179 rfl ?_
  obtain ⟨c34, HF⟩ := HF
  refine sa_iald d_M_apply_181 sh_173 c34 ?_
  refine ab_icmp_ge (tgt := 230) d_M_apply_182 (by decide) (fun b35 => ?_) (fun b35 => ?_)
  · replace HF := HF.1 b35
    refine ab_iload 2 d_M_apply_230 rfl ?_
    refine ab_aload_n 0 d_M_apply_232 rfl rfl ?_
    refine sa_getR (r := 171) kf_M_67 d_M_apply_233 sh_151 rfl ?_
    refine ab_iload 3 d_M_apply_236 rfl ?_
    obtain ⟨c36, HF⟩ := HF
    refine sa_iald d_M_apply_238 sh_171 c36 ?_
    refine ab_iadd d_M_apply_239 ?_
    refine ab_istore (lv' := [(4, .int (x4 + (S.2 171 x5.toNatClampNeg))), (0, .ref (g.2.1 + 151)), (1, .int x1), (5, .int x5), (6, .int x6)]) d_M_apply_240 (Nat.le_of_ble_eq_true rfl) rfl ?_
    refine ab_iinc (v := x5 + 1) (lv' := [(5, .int (x5 + 1)), (4, .int (x4 + (S.2 171 x5.toNatClampNeg))), (0, .ref (g.2.1 + 151)), (1, .int x1), (6, .int x6)]) 3 d_M_apply_242 rfl (congrArg (fun z => x5 + z) (show Int32.ofInt 1 = (1 : Int32) by decide)) (Nat.le_of_ble_eq_true rfl) rfl ?_
    refine ab_goto (tgt := 127) d_M_apply_245 (by decide) ?_
    refine ab_sub (lv' := [(0, .ref (g.2.1 + 151)), (1, .int x1), (4, .int (x4 + (S.2 171 x5.toNatClampNeg))), (5, .int (x5 + 1))]) [2, 3, 1, 0] rfl ?_
    exact HF
  · replace HF := HF.2 b35
    refine ab_aload_n 0 d_M_apply_185 rfl rfl ?_
    refine sa_getR (r := 174) kf_M_76 d_M_apply_186 sh_151 rfl ?_
    refine ab_iload 3 d_M_apply_189 rfl ?_
    obtain ⟨c37, HF⟩ := HF
    refine sa_iald d_M_apply_191 sh_174 c37 ?_
    refine ab_iconst (v := nI 3) d_M_apply_192 (by decide) ?_
    refine ab_iload 4 d_M_apply_193 rfl ?_
    refine ab_imul d_M_apply_195 ?_
    refine ab_iadd d_M_apply_196 ?_
    refine ab_istore (lv' := [(7, .int ((S.2 174 x5.toNatClampNeg) + ((nI 3) * x6))), (0, .ref (g.2.1 + 151)), (1, .int x1), (4, .int x4), (5, .int x5), (6, .int x6)]) d_M_apply_197 (Nat.le_of_ble_eq_true rfl) rfl ?_
    refine ab_aload_n 1 d_M_apply_199 rfl rfl ?_
    refine sa_getR (r := 169) kf_M_61 d_M_apply_200 sh_151 rfl ?_
    refine ab_iload 0 d_M_apply_203 rfl ?_
    obtain ⟨c38, HF⟩ := HF
    refine sa_iald d_M_apply_205 sh_169 c38 ?_
    refine ab_bipush (v := nI 45) d_M_apply_206 (by decide) ?_
    refine ab_icmp_eq (tgt := 224) d_M_apply_208 (by decide) (fun b39 => ?_) (fun b39 => ?_)
    · replace HF := HF.1 b39
      refine ab_iinc (v := x6 + 1) (lv' := [(6, .int (x6 + 1)), (7, .int ((S.2 174 x5.toNatClampNeg) + ((nI 3) * x6))), (0, .ref (g.2.1 + 151)), (1, .int x1), (4, .int x4), (5, .int x5)]) 5 d_M_apply_224 rfl (congrArg (fun z => x6 + z) (show Int32.ofInt 1 = (1 : Int32) by decide)) (Nat.le_of_ble_eq_true rfl) rfl ?_
      refine ab_goto (tgt := 173) d_M_apply_227 (by decide) ?_
      refine ab_sub (lv' := [(0, .ref (g.2.1 + 151)), (1, .int x1), (4, .int x4), (5, .int x5), (6, .int (x6 + 1))]) [2, 3, 4, 5, 0] rfl ?_
      exact HF
    · replace HF := HF.2 b39
      refine ab_aload_n 1 d_M_apply_211 rfl rfl ?_
      refine ab_aload_n 1 d_M_apply_212 rfl rfl ?_
      refine sa_getR (r := 169) kf_M_61 d_M_apply_213 sh_151 rfl ?_
      refine ab_iload 0 d_M_apply_216 rfl ?_
      refine ab_iconst (v := (1 : Int32)) d_M_apply_218 (by decide) ?_
      refine ab_iadd d_M_apply_219 ?_
      obtain ⟨c40, HF⟩ := HF
      refine sa_iald d_M_apply_220 sh_169 c40 ?_
      refine sa_callVv (As := [.int (S.2 169 (((S.2 174 x5.toNatClampNeg) + ((nI 3) * x6)) + (1 : Int32)).toNatClampNeg)]) (rest := []) kc_M_208 d_M_apply_221 sh_151 rfl rfl rfl (Nat.le_of_ble_eq_true rfl) enI (Nat.le_of_ble_eq_true rfl) ⟨Nat.zero_le _, Nat.zero_le _⟩ HF (fun S41 HF => ?_)
      refine ab_iinc (v := x6 + 1) (lv' := [(6, .int (x6 + 1)), (7, .int ((S.2 174 x5.toNatClampNeg) + ((nI 3) * x6))), (0, .ref (g.2.1 + 151)), (1, .int x1), (4, .int x4), (5, .int x5)]) 5 d_M_apply_224 rfl (congrArg (fun z => x6 + z) (show Int32.ofInt 1 = (1 : Int32) by decide)) (Nat.le_of_ble_eq_true rfl) rfl ?_
      refine ab_goto (tgt := 173) d_M_apply_227 (by decide) ?_
      refine ab_sub (lv' := [(0, .ref (g.2.1 + 151)), (1, .int x1), (4, .int x4), (5, .int x5), (6, .int (x6 + 1))]) [2, 3, 4, 5, 0] rfl ?_
      exact HF
set_option maxRecDepth 100000 in
theorem f_M_keep {g : lp_G} {d : Nat} {Q : SS → Prop} {S : SS} {x1 : Int32}
    (HF : (vp_in x1 4) ∧ (∀ S2 : SS, S2 = setA S 153 x1.toNatClampNeg (S.1 151 35) → AtV g um_M_keep d Q 12 [(0, .ref (g.2.1 + 151)), (1, .int x1), (2, .int (0 : Int32))] [] S2)) : MtV g um_M_keep d [.ref (g.2.1 + 151), .int x1] S Q := by
  refine sa_entryV (lv' := [(0, .ref (g.2.1 + 151)), (1, .int x1)]) (by decide +kernel) (Nat.le_of_ble_eq_true rfl) rfl ?_
  refine ab_aload_n 0 d_M_keep_0 rfl rfl ?_
  refine sa_getR (r := 153) kf_M_13 d_M_keep_1 sh_151 rfl ?_
  refine ab_iload_n 1 d_M_keep_4 rfl rfl ?_
  refine ab_aload_n 0 d_M_keep_5 rfl rfl ?_
  refine sa_getI kf_M_199 d_M_keep_6 sh_151 rfl ?_
  obtain ⟨c1, HF⟩ := HF
  refine sa_iastn d_M_keep_9 sh_153 c1 (fun S2 hS2 => ?_)
  replace HF := HF S2 hS2
  refine ab_iconst (v := (0 : Int32)) d_M_keep_10 (by decide) ?_
  refine ab_istore_n (lv' := [(2, .int (0 : Int32)), (0, .ref (g.2.1 + 151)), (1, .int x1)]) d_M_keep_11 rfl (Nat.le_of_ble_eq_true rfl) rfl ?_
  refine ab_sub (lv' := [(0, .ref (g.2.1 + 151)), (1, .int x1), (2, .int (0 : Int32))]) [1, 2, 0] rfl ?_
  exact HF
set_option maxRecDepth 100000 in
theorem f_M_keep_12 {g : lp_G} {d : Nat} {Q : SS → Prop} {S : SS} {x1 : Int32} {x2 : Int32}
    (HF : (S.1 151 35 ≤ x2 → Q S) ∧ (¬ S.1 151 35 ≤ x2 → (vp_in x2 24) ∧ ((vp_in (((nI 24) * x1) + x2) 96) ∧ (∀ S6 : SS, S6 = setA S 152 (((nI 24) * x1) + x2).toNatClampNeg (S.2 176 x2.toNatClampNeg) → AtV g um_M_keep d Q 12 [(0, .ref (g.2.1 + 151)), (1, .int x1), (2, .int (x2 + 1))] [] S6)))) : AtV g um_M_keep d Q 12 [(0, .ref (g.2.1 + 151)), (1, .int x1), (2, .int x2)] [] S := by
  refine ab_iload_n 2 d_M_keep_12 rfl rfl ?_
  refine ab_aload_n 0 d_M_keep_13 rfl rfl ?_
  refine sa_getI kf_M_199 d_M_keep_14 sh_151 rfl ?_
  refine ab_icmp_ge (tgt := 43) d_M_keep_17 (by decide) (fun b3 => ?_) (fun b3 => ?_)
  · replace HF := HF.1 b3
    exact sa_ret rfl d_M_keep_43 HF
  · replace HF := HF.2 b3
    refine ab_aload_n 0 d_M_keep_20 rfl rfl ?_
    refine sa_getR (r := 152) kf_M_7 d_M_keep_21 sh_151 rfl ?_
    refine ab_bipush (v := nI 24) d_M_keep_24 (by decide) ?_
    refine ab_iload_n 1 d_M_keep_26 rfl rfl ?_
    refine ab_imul d_M_keep_27 ?_
    refine ab_iload_n 2 d_M_keep_28 rfl rfl ?_
    refine ab_iadd d_M_keep_29 ?_
    refine ab_aload_n 0 d_M_keep_30 rfl rfl ?_
    refine sa_getR (r := 176) kf_M_82 d_M_keep_31 sh_151 rfl ?_
    refine ab_iload_n 2 d_M_keep_34 rfl rfl ?_
    obtain ⟨c4, HF⟩ := HF
    refine sa_iald d_M_keep_35 sh_176 c4 ?_
    obtain ⟨c5, HF⟩ := HF
    refine sa_iastn d_M_keep_36 sh_152 c5 (fun S6 hS6 => ?_)
    replace HF := HF S6 hS6
    refine ab_iinc (v := x2 + 1) (lv' := [(2, .int (x2 + 1)), (0, .ref (g.2.1 + 151)), (1, .int x1)]) 2 d_M_keep_37 rfl (congrArg (fun z => x2 + z) (show Int32.ofInt 1 = (1 : Int32) by decide)) (Nat.le_of_ble_eq_true rfl) rfl ?_
    refine ab_goto (tgt := 12) d_M_keep_40 (by decide) ?_
    refine ab_sub (lv' := [(0, .ref (g.2.1 + 151)), (1, .int x1), (2, .int (x2 + 1))]) [1, 2, 0] rfl ?_
    exact HF
set_option maxRecDepth 100000 in
theorem f_M_sameParts {g : lp_G} {d : Nat} {Q : Int32 → SS → Prop} {S : SS} {x1 : Int32} {x2 : Int32} {x3 : Int32} {x4 : Int32} {x5 : Int32} {x6 : Int32}
    (HF : (¬ x3 - x2 = x6 - x5 → AtI g um_M_sameParts d Q 21 [(0, .ref (g.2.1 + 151)), (1, .int x1), (2, .int x2), (3, .int x3), (4, .int x4), (5, .int x5), (7, .int (0 : Int32)), (8, .int (0 : Int32))] [] S) ∧ (x3 - x2 = x6 - x5 → AtI g um_M_sameParts d Q 21 [(0, .ref (g.2.1 + 151)), (1, .int x1), (2, .int x2), (3, .int x3), (4, .int x4), (5, .int x5), (7, .int (1 : Int32)), (8, .int (0 : Int32))] [] S)) : MtI g um_M_sameParts d [.ref (g.2.1 + 151), .int x1, .int x2, .int x3, .int x4, .int x5, .int x6] S Q := by
  refine sa_entryI (lv' := [(0, .ref (g.2.1 + 151)), (1, .int x1), (2, .int x2), (3, .int x3), (4, .int x4), (5, .int x5), (6, .int x6)]) (by decide +kernel) (Nat.le_of_ble_eq_true rfl) rfl ?_
  refine ab_iload_n 3 d_M_sameParts_0 rfl rfl ?_
  refine ab_iload_n 2 d_M_sameParts_1 rfl rfl ?_
  refine ab_isub d_M_sameParts_2 ?_
  refine ab_iload 6 d_M_sameParts_3 rfl ?_
  refine ab_iload 5 d_M_sameParts_5 rfl ?_
  refine ab_isub d_M_sameParts_7 ?_
  refine ab_icmp_ne (tgt := 15) d_M_sameParts_8 (by decide) (fun b1 => ?_) (fun b1 => ?_)
  · replace HF := HF.1 b1
    refine ab_iconst (v := (0 : Int32)) d_M_sameParts_15 (by decide) ?_
    refine ab_istore (lv' := [(7, .int (0 : Int32)), (0, .ref (g.2.1 + 151)), (1, .int x1), (2, .int x2), (3, .int x3), (4, .int x4), (5, .int x5), (6, .int x6)]) d_M_sameParts_16 (Nat.le_of_ble_eq_true rfl) rfl ?_
    refine ab_iconst (v := (0 : Int32)) d_M_sameParts_18 (by decide) ?_
    refine ab_istore (lv' := [(8, .int (0 : Int32)), (7, .int (0 : Int32)), (0, .ref (g.2.1 + 151)), (1, .int x1), (2, .int x2), (3, .int x3), (4, .int x4), (5, .int x5), (6, .int x6)]) d_M_sameParts_19 (Nat.le_of_ble_eq_true rfl) rfl ?_
    refine ab_sub (lv' := [(0, .ref (g.2.1 + 151)), (1, .int x1), (2, .int x2), (3, .int x3), (4, .int x4), (5, .int x5), (7, .int (0 : Int32)), (8, .int (0 : Int32))]) [2, 3, 4, 5, 6, 7, 1, 0] rfl ?_
    exact HF
  · replace HF := HF.2 b1
    refine ab_iconst (v := (1 : Int32)) d_M_sameParts_11 (by decide) ?_
    refine ab_goto (tgt := 16) d_M_sameParts_12 (by decide) ?_
    refine ab_istore (lv' := [(7, .int (1 : Int32)), (0, .ref (g.2.1 + 151)), (1, .int x1), (2, .int x2), (3, .int x3), (4, .int x4), (5, .int x5), (6, .int x6)]) d_M_sameParts_16 (Nat.le_of_ble_eq_true rfl) rfl ?_
    refine ab_iconst (v := (0 : Int32)) d_M_sameParts_18 (by decide) ?_
    refine ab_istore (lv' := [(8, .int (0 : Int32)), (7, .int (1 : Int32)), (0, .ref (g.2.1 + 151)), (1, .int x1), (2, .int x2), (3, .int x3), (4, .int x4), (5, .int x5), (6, .int x6)]) d_M_sameParts_19 (Nat.le_of_ble_eq_true rfl) rfl ?_
    refine ab_sub (lv' := [(0, .ref (g.2.1 + 151)), (1, .int x1), (2, .int x2), (3, .int x3), (4, .int x4), (5, .int x5), (7, .int (1 : Int32)), (8, .int (0 : Int32))]) [2, 3, 4, 5, 6, 7, 1, 0] rfl ?_
    exact HF
set_option maxRecDepth 100000 in
theorem f_M_sameParts_21 {g : lp_G} {d : Nat} {Q : Int32 → SS → Prop} {S : SS} {x1 : Int32} {x2 : Int32} {x3 : Int32} {x4 : Int32} {x5 : Int32} {x7 : Int32} {x8 : Int32}
    (HF : (x3 - x2 ≤ x8 → (isB x7) ∧ (Q x7 S)) ∧ (¬ x3 - x2 ≤ x8 → (x7 = 0 → (isB x7) ∧ (Q x7 S)) ∧ (¬ x7 = 0 → (vp_in ((((nI 24) * x1) + x2) + x8) 96) ∧ ((vp_in ((((nI 24) * x4) + x5) + x8) 96) ∧ ((¬ S.2 152 ((((nI 24) * x1) + x2) + x8).toNatClampNeg = S.2 152 ((((nI 24) * x4) + x5) + x8).toNatClampNeg → AtI g um_M_sameParts d Q 21 [(0, .ref (g.2.1 + 151)), (1, .int x1), (2, .int x2), (3, .int x3), (4, .int x4), (5, .int x5), (7, .int (0 : Int32)), (8, .int (x8 + 1))] [] S) ∧ (S.2 152 ((((nI 24) * x1) + x2) + x8).toNatClampNeg = S.2 152 ((((nI 24) * x4) + x5) + x8).toNatClampNeg → AtI g um_M_sameParts d Q 21 [(0, .ref (g.2.1 + 151)), (1, .int x1), (2, .int x2), (3, .int x3), (4, .int x4), (5, .int x5), (7, .int (1 : Int32)), (8, .int (x8 + 1))] [] S)))))) : AtI g um_M_sameParts d Q 21 [(0, .ref (g.2.1 + 151)), (1, .int x1), (2, .int x2), (3, .int x3), (4, .int x4), (5, .int x5), (7, .int x7), (8, .int x8)] [] S := by
  refine ab_iload 7 d_M_sameParts_21 rfl ?_
  refine ab_iload_n 3 d_M_sameParts_23 rfl rfl ?_
  refine ab_iload_n 2 d_M_sameParts_24 rfl rfl ?_
  refine ab_isub d_M_sameParts_25 ?_
  refine ab_icmp_ge (tgt := 80) d_M_sameParts_26 (by decide) (fun b2 => ?_) (fun b2 => ?_)
  · replace HF := HF.1 b2
    refine ab_iload 6 d_M_sameParts_80 rfl ?_
    obtain ⟨c3, HF⟩ := HF
    exact sa_iretZ rfl c3.1 d_M_sameParts_82 HF
  · replace HF := HF.2 b2
    refine ab_iload 6 d_M_sameParts_29 rfl ?_
    refine ab_if_eq (tgt := 80) d_M_sameParts_31 (by decide) (fun b4 => ?_) (fun b4 => ?_)
    · replace HF := HF.1 b4
      refine ab_iload 6 d_M_sameParts_80 rfl ?_
      obtain ⟨c5, HF⟩ := HF
      exact sa_iretZ rfl c5.1 d_M_sameParts_82 HF
    · replace HF := HF.2 b4
      refine ab_aload_n 0 d_M_sameParts_34 rfl rfl ?_
      refine sa_getR (r := 152) kf_M_7 d_M_sameParts_35 sh_151 rfl ?_
      refine ab_bipush (v := nI 24) d_M_sameParts_38 (by decide) ?_
      refine ab_iload_n 1 d_M_sameParts_40 rfl rfl ?_
      refine ab_imul d_M_sameParts_41 ?_
      refine ab_iload_n 2 d_M_sameParts_42 rfl rfl ?_
      refine ab_iadd d_M_sameParts_43 ?_
      refine ab_iload 7 d_M_sameParts_44 rfl ?_
      refine ab_iadd d_M_sameParts_46 ?_
      obtain ⟨c6, HF⟩ := HF
      refine sa_iald d_M_sameParts_47 sh_152 c6 ?_
      refine ab_aload_n 0 d_M_sameParts_48 rfl rfl ?_
      refine sa_getR (r := 152) kf_M_7 d_M_sameParts_49 sh_151 rfl ?_
      refine ab_bipush (v := nI 24) d_M_sameParts_52 (by decide) ?_
      refine ab_iload 4 d_M_sameParts_54 rfl ?_
      refine ab_imul d_M_sameParts_56 ?_
      refine ab_iload 5 d_M_sameParts_57 rfl ?_
      refine ab_iadd d_M_sameParts_59 ?_
      refine ab_iload 7 d_M_sameParts_60 rfl ?_
      refine ab_iadd d_M_sameParts_62 ?_
      obtain ⟨c7, HF⟩ := HF
      refine sa_iald d_M_sameParts_63 sh_152 c7 ?_
      refine ab_icmp_ne (tgt := 71) d_M_sameParts_64 (by decide) (fun b8 => ?_) (fun b8 => ?_)
      · replace HF := HF.1 b8
        refine ab_iconst (v := (0 : Int32)) d_M_sameParts_71 (by decide) ?_
        refine ab_istore (lv' := [(7, .int (0 : Int32)), (0, .ref (g.2.1 + 151)), (1, .int x1), (2, .int x2), (3, .int x3), (4, .int x4), (5, .int x5), (8, .int x8)]) d_M_sameParts_72 (Nat.le_of_ble_eq_true rfl) rfl ?_
        refine ab_iinc (v := x8 + 1) (lv' := [(8, .int (x8 + 1)), (7, .int (0 : Int32)), (0, .ref (g.2.1 + 151)), (1, .int x1), (2, .int x2), (3, .int x3), (4, .int x4), (5, .int x5)]) 7 d_M_sameParts_74 rfl (congrArg (fun z => x8 + z) (show Int32.ofInt 1 = (1 : Int32) by decide)) (Nat.le_of_ble_eq_true rfl) rfl ?_
        refine ab_goto (tgt := 21) d_M_sameParts_77 (by decide) ?_
        refine ab_sub (lv' := [(0, .ref (g.2.1 + 151)), (1, .int x1), (2, .int x2), (3, .int x3), (4, .int x4), (5, .int x5), (7, .int (0 : Int32)), (8, .int (x8 + 1))]) [2, 3, 4, 5, 6, 7, 1, 0] rfl ?_
        exact HF
      · replace HF := HF.2 b8
        refine ab_iconst (v := (1 : Int32)) d_M_sameParts_67 (by decide) ?_
        refine ab_goto (tgt := 72) d_M_sameParts_68 (by decide) ?_
        refine ab_istore (lv' := [(7, .int (1 : Int32)), (0, .ref (g.2.1 + 151)), (1, .int x1), (2, .int x2), (3, .int x3), (4, .int x4), (5, .int x5), (8, .int x8)]) d_M_sameParts_72 (Nat.le_of_ble_eq_true rfl) rfl ?_
        refine ab_iinc (v := x8 + 1) (lv' := [(8, .int (x8 + 1)), (7, .int (1 : Int32)), (0, .ref (g.2.1 + 151)), (1, .int x1), (2, .int x2), (3, .int x3), (4, .int x4), (5, .int x5)]) 7 d_M_sameParts_74 rfl (congrArg (fun z => x8 + z) (show Int32.ofInt 1 = (1 : Int32) by decide)) (Nat.le_of_ble_eq_true rfl) rfl ?_
        refine ab_goto (tgt := 21) d_M_sameParts_77 (by decide) ?_
        refine ab_sub (lv' := [(0, .ref (g.2.1 + 151)), (1, .int x1), (2, .int x2), (3, .int x3), (4, .int x4), (5, .int x5), (7, .int (1 : Int32)), (8, .int (x8 + 1))]) [2, 3, 4, 5, 6, 7, 1, 0] rfl ?_
        exact HF
set_option maxRecDepth 100000 in
theorem f_M_tryEmit {g : lp_G} {d : Nat} {Q : Int32 → SS → Prop} {S : SS} {x1 : Int32}
    (HF : (¬ S.1 151 35 = nI 24 → MtV g um_M_emit d [.ref (g.2.1 + 151), .int x1] S (fun S2 => Q (1 : Int32) S2)) ∧ (S.1 151 35 = nI 24 → Q (0 : Int32) S)) : MtI g um_M_tryEmit (d + 1) [.ref (g.2.1 + 151), .int x1] S Q := by
  refine sa_entryI (lv' := [(0, .ref (g.2.1 + 151)), (1, .int x1)]) (by decide +kernel) (Nat.le_of_ble_eq_true rfl) rfl ?_
  refine ab_aload_n 0 d_M_tryEmit_0 rfl rfl ?_
  refine sa_getI kf_M_199 d_M_tryEmit_1 sh_151 rfl ?_
  refine ab_bipush (v := nI 24) d_M_tryEmit_4 (by decide) ?_
  refine ab_icmp_ne (tgt := 11) d_M_tryEmit_6 (by decide) (fun b1 => ?_) (fun b1 => ?_)
  · replace HF := HF.1 b1
    refine ab_aload_n 0 d_M_tryEmit_11 rfl rfl ?_
    refine ab_iload_n 1 d_M_tryEmit_12 rfl rfl ?_
    refine sa_callVv (As := [.int x1]) (rest := []) kc_M_208 d_M_tryEmit_13 sh_151 rfl rfl rfl (Nat.le_of_ble_eq_true rfl) enI (Nat.le_of_ble_eq_true rfl) ⟨Nat.zero_le _, Nat.zero_le _⟩ HF (fun S2 HF => ?_)
    refine ab_iconst (v := (1 : Int32)) d_M_tryEmit_16 (by decide) ?_
    exact sa_iretZ rfl isB_1.1 d_M_tryEmit_17 HF
  · replace HF := HF.2 b1
    refine ab_iconst (v := (0 : Int32)) d_M_tryEmit_9 (by decide) ?_
    exact sa_iretZ rfl isB_0.1 d_M_tryEmit_10 HF
set_option maxRecDepth 100000 in
theorem f_M_emitPart {g : lp_G} {d : Nat} {Q : Int32 → SS → Prop} {S : SS} {x1 : Int32} {x2 : Int32} {x3 : Int32}
    (HF : AtI g um_M_emitPart (d + 1) Q 6 [(0, .ref (g.2.1 + 151)), (1, .int x1), (3, .int x3), (4, .int (1 : Int32)), (5, .int x2)] [] S) : MtI g um_M_emitPart (d + 1) [.ref (g.2.1 + 151), .int x1, .int x2, .int x3] S Q := by
  refine sa_entryI (lv' := [(0, .ref (g.2.1 + 151)), (1, .int x1), (2, .int x2), (3, .int x3)]) (by decide +kernel) (Nat.le_of_ble_eq_true rfl) rfl ?_
  refine ab_iconst (v := (1 : Int32)) d_M_emitPart_0 (by decide) ?_
  refine ab_istore (lv' := [(4, .int (1 : Int32)), (0, .ref (g.2.1 + 151)), (1, .int x1), (2, .int x2), (3, .int x3)]) d_M_emitPart_1 (Nat.le_of_ble_eq_true rfl) rfl ?_
  refine ab_iload_n 3 d_M_emitPart_3 rfl rfl ?_
  refine ab_istore (lv' := [(5, .int x2), (4, .int (1 : Int32)), (0, .ref (g.2.1 + 151)), (1, .int x1), (2, .int x2), (3, .int x3)]) d_M_emitPart_4 (Nat.le_of_ble_eq_true rfl) rfl ?_
  refine ab_sub (lv' := [(0, .ref (g.2.1 + 151)), (1, .int x1), (3, .int x3), (4, .int (1 : Int32)), (5, .int x2)]) [2, 3, 5, 1, 0] rfl ?_
  exact HF
set_option maxRecDepth 100000 in
theorem f_M_emitPart_6 {g : lp_G} {d : Nat} {Q : Int32 → SS → Prop} {S : SS} {x1 : Int32} {x3 : Int32} {x4 : Int32} {x5 : Int32}
    (HF : (x3 ≤ x5 → (isB x4) ∧ (Q x4 S)) ∧ (¬ x3 ≤ x5 → (x4 = 0 → (isB x4) ∧ (Q x4 S)) ∧ (¬ x4 = 0 → (vp_in (((nI 24) * x1) + x5) 96) ∧ (MtI g um_M_tryEmit d [.ref (g.2.1 + 151), .int (S.2 152 (((nI 24) * x1) + x5).toNatClampNeg)] S (fun r7 S6 => AtI g um_M_emitPart (d + 1) Q 6 [(0, .ref (g.2.1 + 151)), (1, .int x1), (3, .int x3), (4, .int r7), (5, .int (x5 + 1))] [] S6))))) : AtI g um_M_emitPart (d + 1) Q 6 [(0, .ref (g.2.1 + 151)), (1, .int x1), (3, .int x3), (4, .int x4), (5, .int x5)] [] S := by
  refine ab_iload 4 d_M_emitPart_6 rfl ?_
  refine ab_iload_n 2 d_M_emitPart_8 rfl rfl ?_
  refine ab_icmp_ge (tgt := 41) d_M_emitPart_9 (by decide) (fun b1 => ?_) (fun b1 => ?_)
  · replace HF := HF.1 b1
    refine ab_iload 3 d_M_emitPart_41 rfl ?_
    obtain ⟨c2, HF⟩ := HF
    exact sa_iretZ rfl c2.1 d_M_emitPart_43 HF
  · replace HF := HF.2 b1
    refine ab_iload 3 d_M_emitPart_12 rfl ?_
    refine ab_if_eq (tgt := 41) d_M_emitPart_14 (by decide) (fun b3 => ?_) (fun b3 => ?_)
    · replace HF := HF.1 b3
      refine ab_iload 3 d_M_emitPart_41 rfl ?_
      obtain ⟨c4, HF⟩ := HF
      exact sa_iretZ rfl c4.1 d_M_emitPart_43 HF
    · replace HF := HF.2 b3
      refine ab_aload_n 0 d_M_emitPart_17 rfl rfl ?_
      refine ab_aload_n 0 d_M_emitPart_18 rfl rfl ?_
      refine sa_getR (r := 152) kf_M_7 d_M_emitPart_19 sh_151 rfl ?_
      refine ab_bipush (v := nI 24) d_M_emitPart_22 (by decide) ?_
      refine ab_iload_n 1 d_M_emitPart_24 rfl rfl ?_
      refine ab_imul d_M_emitPart_25 ?_
      refine ab_iload 4 d_M_emitPart_26 rfl ?_
      refine ab_iadd d_M_emitPart_28 ?_
      obtain ⟨c5, HF⟩ := HF
      refine sa_iald d_M_emitPart_29 sh_152 c5 ?_
      refine sa_callVi (As := [.int (S.2 152 (((nI 24) * x1) + x5).toNatClampNeg)]) (rest := []) kc_M_214 d_M_emitPart_30 sh_151 rfl rfl rfl (Nat.le_of_ble_eq_true rfl) enI (Nat.le_of_ble_eq_true rfl) ⟨Nat.zero_le _, Nat.zero_le _⟩ HF (fun r7 S6 HF => ?_)
      refine ab_istore (lv' := [(4, .int r7), (0, .ref (g.2.1 + 151)), (1, .int x1), (3, .int x3), (5, .int x5)]) d_M_emitPart_33 (Nat.le_of_ble_eq_true rfl) rfl ?_
      refine ab_iinc (v := x5 + 1) (lv' := [(5, .int (x5 + 1)), (4, .int r7), (0, .ref (g.2.1 + 151)), (1, .int x1), (3, .int x3)]) 4 d_M_emitPart_35 rfl (congrArg (fun z => x5 + z) (show Int32.ofInt 1 = (1 : Int32) by decide)) (Nat.le_of_ble_eq_true rfl) rfl ?_
      refine ab_goto (tgt := 6) d_M_emitPart_38 (by decide) ?_
      refine ab_sub (lv' := [(0, .ref (g.2.1 + 151)), (1, .int x1), (3, .int x3), (4, .int r7), (5, .int (x5 + 1))]) [2, 3, 4, 1, 0] rfl ?_
      exact HF
set_option maxRecDepth 100000 in
theorem f_M_mergeParts {g : lp_G} {d : Nat} {Q : Int32 → SS → Prop} {S : SS} {x1 : Int32} {x2 : Int32} {x3 : Int32} {x4 : Int32} {x5 : Int32} {x6 : Int32}
    (HF : MtI g um_M_sameParts d [.ref (g.2.1 + 151), .int (1 : Int32), .int x3, .int x4, .int (0 : Int32), .int x1, .int x2] S (fun r2 S1 => (r2 = 0 → MtI g um_M_sameParts d [.ref (g.2.1 + 151), .int (nI 2), .int x5, .int x6, .int (0 : Int32), .int x1, .int x2] S1 (fun r5 S4 => (¬ r5 = 0 → MtI g um_M_emitPart d [.ref (g.2.1 + 151), .int (1 : Int32), .int x3, .int x4] S4 (fun r8 S7 => (r8 = 0 → Q (-1 : Int32) S7) ∧ (¬ r8 = 0 → Q (0 : Int32) S7))) ∧ (r5 = 0 → MtI g um_M_sameParts d [.ref (g.2.1 + 151), .int (nI 2), .int x5, .int x6, .int (1 : Int32), .int x3, .int x4] S4 (fun r11 S10 => (r11 = 0 → MtI g um_M_tryEmit d [.ref (g.2.1 + 151), .int (nI 60)] S10 (fun r14 S13 => (r14 = 0 → Q (-1 : Int32) S13) ∧ (¬ r14 = 0 → MtI g um_M_emitPart d [.ref (g.2.1 + 151), .int (1 : Int32), .int x3, .int x4] S13 (fun r17 S16 => (r17 = 0 → Q (-1 : Int32) S16) ∧ (¬ r17 = 0 → MtI g um_M_tryEmit d [.ref (g.2.1 + 151), .int (nI 61)] S16 (fun r20 S19 => (r20 = 0 → Q (-1 : Int32) S19) ∧ (¬ r20 = 0 → MtI g um_M_emitPart d [.ref (g.2.1 + 151), .int (nI 2), .int x5, .int x6] S19 (fun r23 S22 => (r23 = 0 → Q (-1 : Int32) S22) ∧ (¬ r23 = 0 → MtI g um_M_tryEmit d [.ref (g.2.1 + 151), .int (nI 62)] S22 (fun r26 S25 => (r26 = 0 → Q (-1 : Int32) S25) ∧ (¬ r26 = 0 → Q (1 : Int32) S25))))))))))) ∧ (¬ r11 = 0 → MtI g um_M_emitPart d [.ref (g.2.1 + 151), .int (1 : Int32), .int x3, .int x4] S10 (fun r29 S28 => (r29 = 0 → Q (-1 : Int32) S28) ∧ (¬ r29 = 0 → Q (0 : Int32) S28))))))) ∧ (¬ r2 = 0 → MtI g um_M_emitPart d [.ref (g.2.1 + 151), .int (nI 2), .int x5, .int x6] S1 (fun r32 S31 => (r32 = 0 → Q (-1 : Int32) S31) ∧ (¬ r32 = 0 → Q (0 : Int32) S31))))) : MtI g um_M_mergeParts (d + 1) [.ref (g.2.1 + 151), .int x1, .int x2, .int x3, .int x4, .int x5, .int x6] S Q := by
  refine sa_entryI (lv' := [(0, .ref (g.2.1 + 151)), (1, .int x1), (2, .int x2), (3, .int x3), (4, .int x4), (5, .int x5), (6, .int x6)]) (by decide +kernel) (Nat.le_of_ble_eq_true rfl) rfl ?_
  refine ab_aload_n 0 d_M_mergeParts_0 rfl rfl ?_
  refine ab_iconst (v := (1 : Int32)) d_M_mergeParts_1 (by decide) ?_
  refine ab_iload_n 3 d_M_mergeParts_2 rfl rfl ?_
  refine ab_iload 4 d_M_mergeParts_3 rfl ?_
  refine ab_iconst (v := (0 : Int32)) d_M_mergeParts_5 (by decide) ?_
  refine ab_iload_n 1 d_M_mergeParts_6 rfl rfl ?_
  refine ab_iload_n 2 d_M_mergeParts_7 rfl rfl ?_
  refine sa_callVi (As := [.int (1 : Int32), .int x3, .int x4, .int (0 : Int32), .int x1, .int x2]) (rest := []) kc_M_217 d_M_mergeParts_8 sh_151 rfl rfl rfl (Nat.le_of_ble_eq_true rfl) enI (Nat.le_of_ble_eq_true rfl) ⟨Nat.zero_le _, Nat.zero_le _⟩ HF (fun r2 S1 HF => ?_)
  refine ab_if_eq (tgt := 32) d_M_mergeParts_11 (by decide) (fun b3 => ?_) (fun b3 => ?_)
  · replace HF := HF.1 b3
    refine ab_aload_n 0 d_M_mergeParts_32 rfl rfl ?_
    refine ab_iconst (v := nI 2) d_M_mergeParts_33 (by decide) ?_
    refine ab_iload 5 d_M_mergeParts_34 rfl ?_
    refine ab_iload 6 d_M_mergeParts_36 rfl ?_
    refine ab_iconst (v := (0 : Int32)) d_M_mergeParts_38 (by decide) ?_
    refine ab_iload_n 1 d_M_mergeParts_39 rfl rfl ?_
    refine ab_iload_n 2 d_M_mergeParts_40 rfl rfl ?_
    refine sa_callVi (As := [.int (nI 2), .int x5, .int x6, .int (0 : Int32), .int x1, .int x2]) (rest := []) kc_M_217 d_M_mergeParts_41 sh_151 rfl rfl rfl (Nat.le_of_ble_eq_true rfl) enI (Nat.le_of_ble_eq_true rfl) ⟨Nat.zero_le _, Nat.zero_le _⟩ HF (fun r5 S4 HF => ?_)
    refine ab_if_ne (tgt := 63) d_M_mergeParts_44 (by decide) (fun b6 => ?_) (fun b6 => ?_)
    · replace HF := HF.1 b6
      refine ab_aload_n 0 d_M_mergeParts_63 rfl rfl ?_
      refine ab_iconst (v := (1 : Int32)) d_M_mergeParts_64 (by decide) ?_
      refine ab_iload_n 3 d_M_mergeParts_65 rfl rfl ?_
      refine ab_iload 4 d_M_mergeParts_66 rfl ?_
      refine sa_callVi (As := [.int (1 : Int32), .int x3, .int x4]) (rest := []) kc_M_221 d_M_mergeParts_68 sh_151 rfl rfl rfl (Nat.le_of_ble_eq_true rfl) enI (Nat.le_of_ble_eq_true rfl) ⟨Nat.zero_le _, Nat.zero_le _⟩ HF (fun r8 S7 HF => ?_)
      refine ab_if_eq (tgt := 78) d_M_mergeParts_71 (by decide) (fun b9 => ?_) (fun b9 => ?_)
      · replace HF := HF.1 b9
        refine ab_iconst (v := (-1 : Int32)) d_M_mergeParts_78 (by decide) ?_
        exact sa_iretI rfl d_M_mergeParts_79 HF
      · replace HF := HF.2 b9
        refine ab_iconst (v := (0 : Int32)) d_M_mergeParts_74 (by decide) ?_
        refine ab_goto (tgt := 79) d_M_mergeParts_75 (by decide) ?_
        exact sa_iretI rfl d_M_mergeParts_79 HF
    · replace HF := HF.2 b6
      refine ab_aload_n 0 d_M_mergeParts_47 rfl rfl ?_
      refine ab_iconst (v := nI 2) d_M_mergeParts_48 (by decide) ?_
      refine ab_iload 5 d_M_mergeParts_49 rfl ?_
      refine ab_iload 6 d_M_mergeParts_51 rfl ?_
      refine ab_iconst (v := (1 : Int32)) d_M_mergeParts_53 (by decide) ?_
      refine ab_iload_n 3 d_M_mergeParts_54 rfl rfl ?_
      refine ab_iload 4 d_M_mergeParts_55 rfl ?_
      refine sa_callVi (As := [.int (nI 2), .int x5, .int x6, .int (1 : Int32), .int x3, .int x4]) (rest := []) kc_M_217 d_M_mergeParts_57 sh_151 rfl rfl rfl (Nat.le_of_ble_eq_true rfl) enI (Nat.le_of_ble_eq_true rfl) ⟨Nat.zero_le _, Nat.zero_le _⟩ HF (fun r11 S10 HF => ?_)
      refine ab_if_eq (tgt := 80) d_M_mergeParts_60 (by decide) (fun b12 => ?_) (fun b12 => ?_)
      · replace HF := HF.1 b12
        refine ab_aload_n 0 d_M_mergeParts_80 rfl rfl ?_
        refine ab_bipush (v := nI 60) d_M_mergeParts_81 (by decide) ?_
        refine sa_callVi (As := [.int (nI 60)]) (rest := []) kc_M_214 d_M_mergeParts_83 sh_151 rfl rfl rfl (Nat.le_of_ble_eq_true rfl) enI (Nat.le_of_ble_eq_true rfl) ⟨Nat.zero_le _, Nat.zero_le _⟩ HF (fun r14 S13 HF => ?_)
        refine ab_if_eq (tgt := 134) d_M_mergeParts_86 (by decide) (fun b15 => ?_) (fun b15 => ?_)
        · replace HF := HF.1 b15
          refine ab_iconst (v := (0 : Int32)) d_M_mergeParts_134 (by decide) ?_
          refine ab_istore (lv' := [(7, .int (0 : Int32)), (0, .ref (g.2.1 + 151)), (1, .int x1), (2, .int x2), (3, .int x3), (4, .int x4), (5, .int x5), (6, .int x6)]) d_M_mergeParts_135 (Nat.le_of_ble_eq_true rfl) rfl ?_
          refine ab_iload 0 d_M_mergeParts_137 rfl ?_
          refine ab_if_eq (tgt := 146) d_M_mergeParts_139 (by decide) (fun _ => ?_) (fun h => absurd h (by decide))
          refine ab_iconst (v := (-1 : Int32)) d_M_mergeParts_146 (by decide) ?_
          exact sa_iretI rfl d_M_mergeParts_147 HF
        · replace HF := HF.2 b15
          refine ab_aload_n 0 d_M_mergeParts_89 rfl rfl ?_
          refine ab_iconst (v := (1 : Int32)) d_M_mergeParts_90 (by decide) ?_
          refine ab_iload_n 3 d_M_mergeParts_91 rfl rfl ?_
          refine ab_iload 4 d_M_mergeParts_92 rfl ?_
          refine sa_callVi (As := [.int (1 : Int32), .int x3, .int x4]) (rest := []) kc_M_221 d_M_mergeParts_94 sh_151 rfl rfl rfl (Nat.le_of_ble_eq_true rfl) enI (Nat.le_of_ble_eq_true rfl) ⟨Nat.zero_le _, Nat.zero_le _⟩ HF (fun r17 S16 HF => ?_)
          refine ab_if_eq (tgt := 134) d_M_mergeParts_97 (by decide) (fun b18 => ?_) (fun b18 => ?_)
          · replace HF := HF.1 b18
            refine ab_iconst (v := (0 : Int32)) d_M_mergeParts_134 (by decide) ?_
            refine ab_istore (lv' := [(7, .int (0 : Int32)), (0, .ref (g.2.1 + 151)), (1, .int x1), (2, .int x2), (3, .int x3), (4, .int x4), (5, .int x5), (6, .int x6)]) d_M_mergeParts_135 (Nat.le_of_ble_eq_true rfl) rfl ?_
            refine ab_iload 0 d_M_mergeParts_137 rfl ?_
            refine ab_if_eq (tgt := 146) d_M_mergeParts_139 (by decide) (fun _ => ?_) (fun h => absurd h (by decide))
            refine ab_iconst (v := (-1 : Int32)) d_M_mergeParts_146 (by decide) ?_
            exact sa_iretI rfl d_M_mergeParts_147 HF
          · replace HF := HF.2 b18
            refine ab_aload_n 0 d_M_mergeParts_100 rfl rfl ?_
            refine ab_bipush (v := nI 61) d_M_mergeParts_101 (by decide) ?_
            refine sa_callVi (As := [.int (nI 61)]) (rest := []) kc_M_214 d_M_mergeParts_103 sh_151 rfl rfl rfl (Nat.le_of_ble_eq_true rfl) enI (Nat.le_of_ble_eq_true rfl) ⟨Nat.zero_le _, Nat.zero_le _⟩ HF (fun r20 S19 HF => ?_)
            refine ab_if_eq (tgt := 134) d_M_mergeParts_106 (by decide) (fun b21 => ?_) (fun b21 => ?_)
            · replace HF := HF.1 b21
              refine ab_iconst (v := (0 : Int32)) d_M_mergeParts_134 (by decide) ?_
              refine ab_istore (lv' := [(7, .int (0 : Int32)), (0, .ref (g.2.1 + 151)), (1, .int x1), (2, .int x2), (3, .int x3), (4, .int x4), (5, .int x5), (6, .int x6)]) d_M_mergeParts_135 (Nat.le_of_ble_eq_true rfl) rfl ?_
              refine ab_iload 0 d_M_mergeParts_137 rfl ?_
              refine ab_if_eq (tgt := 146) d_M_mergeParts_139 (by decide) (fun _ => ?_) (fun h => absurd h (by decide))
              refine ab_iconst (v := (-1 : Int32)) d_M_mergeParts_146 (by decide) ?_
              exact sa_iretI rfl d_M_mergeParts_147 HF
            · replace HF := HF.2 b21
              refine ab_aload_n 0 d_M_mergeParts_109 rfl rfl ?_
              refine ab_iconst (v := nI 2) d_M_mergeParts_110 (by decide) ?_
              refine ab_iload 5 d_M_mergeParts_111 rfl ?_
              refine ab_iload 6 d_M_mergeParts_113 rfl ?_
              refine sa_callVi (As := [.int (nI 2), .int x5, .int x6]) (rest := []) kc_M_221 d_M_mergeParts_115 sh_151 rfl rfl rfl (Nat.le_of_ble_eq_true rfl) enI (Nat.le_of_ble_eq_true rfl) ⟨Nat.zero_le _, Nat.zero_le _⟩ HF (fun r23 S22 HF => ?_)
              refine ab_if_eq (tgt := 134) d_M_mergeParts_118 (by decide) (fun b24 => ?_) (fun b24 => ?_)
              · replace HF := HF.1 b24
                refine ab_iconst (v := (0 : Int32)) d_M_mergeParts_134 (by decide) ?_
                refine ab_istore (lv' := [(7, .int (0 : Int32)), (0, .ref (g.2.1 + 151)), (1, .int x1), (2, .int x2), (3, .int x3), (4, .int x4), (5, .int x5), (6, .int x6)]) d_M_mergeParts_135 (Nat.le_of_ble_eq_true rfl) rfl ?_
                refine ab_iload 0 d_M_mergeParts_137 rfl ?_
                refine ab_if_eq (tgt := 146) d_M_mergeParts_139 (by decide) (fun _ => ?_) (fun h => absurd h (by decide))
                refine ab_iconst (v := (-1 : Int32)) d_M_mergeParts_146 (by decide) ?_
                exact sa_iretI rfl d_M_mergeParts_147 HF
              · replace HF := HF.2 b24
                refine ab_aload_n 0 d_M_mergeParts_121 rfl rfl ?_
                refine ab_bipush (v := nI 62) d_M_mergeParts_122 (by decide) ?_
                refine sa_callVi (As := [.int (nI 62)]) (rest := []) kc_M_214 d_M_mergeParts_124 sh_151 rfl rfl rfl (Nat.le_of_ble_eq_true rfl) enI (Nat.le_of_ble_eq_true rfl) ⟨Nat.zero_le _, Nat.zero_le _⟩ HF (fun r26 S25 HF => ?_)
                refine ab_if_eq (tgt := 134) d_M_mergeParts_127 (by decide) (fun b27 => ?_) (fun b27 => ?_)
                · replace HF := HF.1 b27
                  refine ab_iconst (v := (0 : Int32)) d_M_mergeParts_134 (by decide) ?_
                  refine ab_istore (lv' := [(7, .int (0 : Int32)), (0, .ref (g.2.1 + 151)), (1, .int x1), (2, .int x2), (3, .int x3), (4, .int x4), (5, .int x5), (6, .int x6)]) d_M_mergeParts_135 (Nat.le_of_ble_eq_true rfl) rfl ?_
                  refine ab_iload 0 d_M_mergeParts_137 rfl ?_
                  refine ab_if_eq (tgt := 146) d_M_mergeParts_139 (by decide) (fun _ => ?_) (fun h => absurd h (by decide))
                  refine ab_iconst (v := (-1 : Int32)) d_M_mergeParts_146 (by decide) ?_
                  exact sa_iretI rfl d_M_mergeParts_147 HF
                · replace HF := HF.2 b27
                  refine ab_iconst (v := (1 : Int32)) d_M_mergeParts_130 (by decide) ?_
                  refine ab_goto (tgt := 135) d_M_mergeParts_131 (by decide) ?_
                  refine ab_istore (lv' := [(7, .int (1 : Int32)), (0, .ref (g.2.1 + 151)), (1, .int x1), (2, .int x2), (3, .int x3), (4, .int x4), (5, .int x5), (6, .int x6)]) d_M_mergeParts_135 (Nat.le_of_ble_eq_true rfl) rfl ?_
                  refine ab_iload 0 d_M_mergeParts_137 rfl ?_
                  refine ab_if_eq (tgt := 146) d_M_mergeParts_139 (by decide) (fun h => absurd h (by decide)) (fun _ => ?_)
                  refine ab_iconst (v := (1 : Int32)) d_M_mergeParts_142 (by decide) ?_
                  refine ab_goto (tgt := 147) d_M_mergeParts_143 (by decide) ?_
                  exact sa_iretI rfl d_M_mergeParts_147 HF
      · replace HF := HF.2 b12
        refine ab_aload_n 0 d_M_mergeParts_63 rfl rfl ?_
        refine ab_iconst (v := (1 : Int32)) d_M_mergeParts_64 (by decide) ?_
        refine ab_iload_n 3 d_M_mergeParts_65 rfl rfl ?_
        refine ab_iload 4 d_M_mergeParts_66 rfl ?_
        refine sa_callVi (As := [.int (1 : Int32), .int x3, .int x4]) (rest := []) kc_M_221 d_M_mergeParts_68 sh_151 rfl rfl rfl (Nat.le_of_ble_eq_true rfl) enI (Nat.le_of_ble_eq_true rfl) ⟨Nat.zero_le _, Nat.zero_le _⟩ HF (fun r29 S28 HF => ?_)
        refine ab_if_eq (tgt := 78) d_M_mergeParts_71 (by decide) (fun b30 => ?_) (fun b30 => ?_)
        · replace HF := HF.1 b30
          refine ab_iconst (v := (-1 : Int32)) d_M_mergeParts_78 (by decide) ?_
          exact sa_iretI rfl d_M_mergeParts_79 HF
        · replace HF := HF.2 b30
          refine ab_iconst (v := (0 : Int32)) d_M_mergeParts_74 (by decide) ?_
          refine ab_goto (tgt := 79) d_M_mergeParts_75 (by decide) ?_
          exact sa_iretI rfl d_M_mergeParts_79 HF
  · replace HF := HF.2 b3
    refine ab_aload_n 0 d_M_mergeParts_14 rfl rfl ?_
    refine ab_iconst (v := nI 2) d_M_mergeParts_15 (by decide) ?_
    refine ab_iload 5 d_M_mergeParts_16 rfl ?_
    refine ab_iload 6 d_M_mergeParts_18 rfl ?_
    refine sa_callVi (As := [.int (nI 2), .int x5, .int x6]) (rest := []) kc_M_221 d_M_mergeParts_20 sh_151 rfl rfl rfl (Nat.le_of_ble_eq_true rfl) enI (Nat.le_of_ble_eq_true rfl) ⟨Nat.zero_le _, Nat.zero_le _⟩ HF (fun r32 S31 HF => ?_)
    refine ab_if_eq (tgt := 30) d_M_mergeParts_23 (by decide) (fun b33 => ?_) (fun b33 => ?_)
    · replace HF := HF.1 b33
      refine ab_iconst (v := (-1 : Int32)) d_M_mergeParts_30 (by decide) ?_
      exact sa_iretI rfl d_M_mergeParts_31 HF
    · replace HF := HF.2 b33
      refine ab_iconst (v := (0 : Int32)) d_M_mergeParts_26 (by decide) ?_
      refine ab_goto (tgt := 31) d_M_mergeParts_27 (by decide) ?_
      exact sa_iretI rfl d_M_mergeParts_31 HF
set_option maxRecDepth 100000 in
theorem f_M_merge {g : lp_G} {d : Nat} {Q : Int32 → SS → Prop} {S : SS} 
    (HF : MtI g um_M_allLetters d [.ref (g.2.1 + 151), .int (0 : Int32)] S (fun r2 S1 => (r2 = 0 → Q (-3 : Int32) S1) ∧ (¬ r2 = 0 → MtI g um_M_allLetters d [.ref (g.2.1 + 151), .int (1 : Int32)] S1 (fun r5 S4 => (r5 = 0 → Q (-3 : Int32) S4) ∧ (¬ r5 = 0 → MtI g um_M_allLetters d [.ref (g.2.1 + 151), .int (nI 2)] S4 (fun r8 S7 => (¬ r8 = 0 → MtV g um_M_take d [.ref (g.2.1 + 151), .int (0 : Int32), .int (nI 2)] S7 (fun S10 => MtV g um_M_compareAll d [.ref (g.2.1 + 151), .int (0 : Int32)] S10 (fun S12 => AtI g um_M_merge (d + 1) Q 40 [(0, .ref (g.2.1 + 151)), (1, .int (0 : Int32))] [] S12))) ∧ (r8 = 0 → Q (-3 : Int32) S7))))))) : MtI g um_M_merge (d + 1) [.ref (g.2.1 + 151)] S Q := by
  refine sa_entryI (lv' := [(0, .ref (g.2.1 + 151))]) (by decide +kernel) (Nat.le_of_ble_eq_true rfl) rfl ?_
  refine ab_aload_n 0 d_M_merge_0 rfl rfl ?_
  refine ab_iconst (v := (0 : Int32)) d_M_merge_1 (by decide) ?_
  refine sa_callVi (As := [.int (0 : Int32)]) (rest := []) kc_M_124 d_M_merge_2 sh_151 rfl rfl rfl (Nat.le_of_ble_eq_true rfl) enI (Nat.le_of_ble_eq_true rfl) ⟨Nat.zero_le _, Nat.zero_le _⟩ HF (fun r2 S1 HF => ?_)
  refine ab_if_eq (tgt := 24) d_M_merge_5 (by decide) (fun b3 => ?_) (fun b3 => ?_)
  · replace HF := HF.1 b3
    refine ab_bipush (v := (-3 : Int32)) d_M_merge_24 (by decide) ?_
    exact sa_iretI rfl d_M_merge_26 HF
  · replace HF := HF.2 b3
    refine ab_aload_n 0 d_M_merge_8 rfl rfl ?_
    refine ab_iconst (v := (1 : Int32)) d_M_merge_9 (by decide) ?_
    refine sa_callVi (As := [.int (1 : Int32)]) (rest := []) kc_M_124 d_M_merge_10 sh_151 rfl rfl rfl (Nat.le_of_ble_eq_true rfl) enI (Nat.le_of_ble_eq_true rfl) ⟨Nat.zero_le _, Nat.zero_le _⟩ HF (fun r5 S4 HF => ?_)
    refine ab_if_eq (tgt := 24) d_M_merge_13 (by decide) (fun b6 => ?_) (fun b6 => ?_)
    · replace HF := HF.1 b6
      refine ab_bipush (v := (-3 : Int32)) d_M_merge_24 (by decide) ?_
      exact sa_iretI rfl d_M_merge_26 HF
    · replace HF := HF.2 b6
      refine ab_aload_n 0 d_M_merge_16 rfl rfl ?_
      refine ab_iconst (v := nI 2) d_M_merge_17 (by decide) ?_
      refine sa_callVi (As := [.int (nI 2)]) (rest := []) kc_M_124 d_M_merge_18 sh_151 rfl rfl rfl (Nat.le_of_ble_eq_true rfl) enI (Nat.le_of_ble_eq_true rfl) ⟨Nat.zero_le _, Nat.zero_le _⟩ HF (fun r8 S7 HF => ?_)
      refine ab_if_ne (tgt := 27) d_M_merge_21 (by decide) (fun b9 => ?_) (fun b9 => ?_)
      · replace HF := HF.1 b9
        refine ab_aload_n 0 d_M_merge_27 rfl rfl ?_
        refine ab_iconst (v := (0 : Int32)) d_M_merge_28 (by decide) ?_
        refine ab_iconst (v := nI 2) d_M_merge_29 (by decide) ?_
        refine sa_callVv (As := [.int (0 : Int32), .int (nI 2)]) (rest := []) kc_M_127 d_M_merge_30 sh_151 rfl rfl rfl (Nat.le_of_ble_eq_true rfl) enI (Nat.le_of_ble_eq_true rfl) ⟨Nat.zero_le _, Nat.zero_le _⟩ HF (fun S10 HF => ?_)
        refine ab_aload_n 0 d_M_merge_33 rfl rfl ?_
        refine ab_iconst (v := (0 : Int32)) d_M_merge_34 (by decide) ?_
        refine sa_callVv (As := [.int (0 : Int32)]) (rest := []) kc_M_131 d_M_merge_35 sh_151 rfl rfl rfl (Nat.le_of_ble_eq_true rfl) enI (Nat.le_of_ble_eq_true rfl) ⟨Nat.zero_le _, Nat.zero_le _⟩ HF (fun S12 HF => ?_)
        refine ab_iconst (v := (0 : Int32)) d_M_merge_38 (by decide) ?_
        refine ab_istore_n (lv' := [(1, .int (0 : Int32)), (0, .ref (g.2.1 + 151))]) d_M_merge_39 rfl (Nat.le_of_ble_eq_true rfl) rfl ?_
        refine ab_sub (lv' := [(0, .ref (g.2.1 + 151)), (1, .int (0 : Int32))]) [1, 0] rfl ?_
        exact HF
      · replace HF := HF.2 b9
        refine ab_bipush (v := (-3 : Int32)) d_M_merge_24 (by decide) ?_
        exact sa_iretI rfl d_M_merge_26 HF
set_option maxRecDepth 100000 in
theorem f_M_merge_40 {g : lp_G} {d : Nat} {Q : Int32 → SS → Prop} {S : SS} {x1 : Int32}
    (HF : (S.1 151 2 ≤ x1 → MtV g um_M_take d [.ref (g.2.1 + 151), .int (0 : Int32), .int (1 : Int32)] S (fun S15 => MtV g um_M_compareAll d [.ref (g.2.1 + 151), .int (0 : Int32)] S15 (fun S17 => ∀ S19 : SS, S19 = setI S17 151 35 (0 : Int32) → AtI g um_M_merge (d + 1) Q 94 [(0, .ref (g.2.1 + 151)), (1, .int (0 : Int32)), (2, .int (0 : Int32)), (3, .int (0 : Int32)), (4, .int (0 : Int32)), (5, .int (0 : Int32))] [] S19))) ∧ (¬ S.1 151 2 ≤ x1 → (vp_in x1 24) ∧ ((vp_in x1 24) ∧ (∀ S22 : SS, S22 = setA S 177 x1.toNatClampNeg (S.2 156 x1.toNatClampNeg) → AtI g um_M_merge (d + 1) Q 40 [(0, .ref (g.2.1 + 151)), (1, .int (x1 + 1))] [] S22)))) : AtI g um_M_merge (d + 1) Q 40 [(0, .ref (g.2.1 + 151)), (1, .int x1)] [] S := by
  refine ab_iload_n 1 d_M_merge_40 rfl rfl ?_
  refine ab_aload_n 0 d_M_merge_41 rfl rfl ?_
  refine sa_getI kf_M_96 d_M_merge_42 sh_151 rfl ?_
  refine ab_icmp_ge (tgt := 66) d_M_merge_45 (by decide) (fun b14 => ?_) (fun b14 => ?_)
  · replace HF := HF.1 b14
    refine ab_aload_n 0 d_M_merge_66 rfl rfl ?_
    refine ab_iconst (v := (0 : Int32)) d_M_merge_67 (by decide) ?_
    refine ab_iconst (v := (1 : Int32)) d_M_merge_68 (by decide) ?_
    refine sa_callVv (As := [.int (0 : Int32), .int (1 : Int32)]) (rest := []) kc_M_127 d_M_merge_69 sh_151 rfl rfl rfl (Nat.le_of_ble_eq_true rfl) enI (Nat.le_of_ble_eq_true rfl) ⟨Nat.zero_le _, Nat.zero_le _⟩ HF (fun S15 HF => ?_)
    refine ab_aload_n 0 d_M_merge_72 rfl rfl ?_
    refine ab_iconst (v := (0 : Int32)) d_M_merge_73 (by decide) ?_
    refine sa_callVv (As := [.int (0 : Int32)]) (rest := []) kc_M_131 d_M_merge_74 sh_151 rfl rfl rfl (Nat.le_of_ble_eq_true rfl) enI (Nat.le_of_ble_eq_true rfl) ⟨Nat.zero_le _, Nat.zero_le _⟩ HF (fun S17 HF => ?_)
    refine ab_aload_n 0 d_M_merge_77 rfl rfl ?_
    refine ab_iconst (v := (0 : Int32)) d_M_merge_78 (by decide) ?_
    refine sa_putIn kp_M_199 d_M_merge_79 sh_151 rfl (fun S19 hS19 => ?_)
    replace HF := HF S19 hS19
    refine ab_iconst (v := (0 : Int32)) d_M_merge_82 (by decide) ?_
    refine ab_istore_n (lv' := [(1, .int (0 : Int32)), (0, .ref (g.2.1 + 151))]) d_M_merge_83 rfl (Nat.le_of_ble_eq_true rfl) rfl ?_
    refine ab_iconst (v := (0 : Int32)) d_M_merge_84 (by decide) ?_
    refine ab_istore_n (lv' := [(2, .int (0 : Int32)), (1, .int (0 : Int32)), (0, .ref (g.2.1 + 151))]) d_M_merge_85 rfl (Nat.le_of_ble_eq_true rfl) rfl ?_
    refine ab_iconst (v := (0 : Int32)) d_M_merge_86 (by decide) ?_
    refine ab_istore_n (lv' := [(3, .int (0 : Int32)), (2, .int (0 : Int32)), (1, .int (0 : Int32)), (0, .ref (g.2.1 + 151))]) d_M_merge_87 rfl (Nat.le_of_ble_eq_true rfl) rfl ?_
    refine ab_iconst (v := (0 : Int32)) d_M_merge_88 (by decide) ?_
    refine ab_istore (lv' := [(4, .int (0 : Int32)), (3, .int (0 : Int32)), (2, .int (0 : Int32)), (1, .int (0 : Int32)), (0, .ref (g.2.1 + 151))]) d_M_merge_89 (Nat.le_of_ble_eq_true rfl) rfl ?_
    refine ab_iconst (v := (0 : Int32)) d_M_merge_91 (by decide) ?_
    refine ab_istore (lv' := [(5, .int (0 : Int32)), (4, .int (0 : Int32)), (3, .int (0 : Int32)), (2, .int (0 : Int32)), (1, .int (0 : Int32)), (0, .ref (g.2.1 + 151))]) d_M_merge_92 (Nat.le_of_ble_eq_true rfl) rfl ?_
    refine ab_sub (lv' := [(0, .ref (g.2.1 + 151)), (1, .int (0 : Int32)), (2, .int (0 : Int32)), (3, .int (0 : Int32)), (4, .int (0 : Int32)), (5, .int (0 : Int32))]) [5, 4, 3, 2, 1, 0] rfl ?_
    exact HF
  · replace HF := HF.2 b14
    refine ab_aload_n 0 d_M_merge_48 rfl rfl ?_
    refine sa_getR (r := 177) kf_M_85 d_M_merge_49 sh_151 rfl ?_
    refine ab_iload_n 1 d_M_merge_52 rfl rfl ?_
    refine ab_aload_n 0 d_M_merge_53 rfl rfl ?_
    refine sa_getR (r := 156) kf_M_22 d_M_merge_54 sh_151 rfl ?_
    refine ab_iload_n 1 d_M_merge_57 rfl rfl ?_
    obtain ⟨c20, HF⟩ := HF
    refine sa_iald d_M_merge_58 sh_156 c20 ?_
    obtain ⟨c21, HF⟩ := HF
    refine sa_iastn d_M_merge_59 sh_177 c21 (fun S22 hS22 => ?_)
    replace HF := HF S22 hS22
    refine ab_iinc (v := x1 + 1) (lv' := [(1, .int (x1 + 1)), (0, .ref (g.2.1 + 151))]) 1 d_M_merge_60 rfl (congrArg (fun z => x1 + z) (show Int32.ofInt 1 = (1 : Int32) by decide)) (Nat.le_of_ble_eq_true rfl) rfl ?_
    refine ab_goto (tgt := 40) d_M_merge_63 (by decide) ?_
    refine ab_sub (lv' := [(0, .ref (g.2.1 + 151)), (1, .int (x1 + 1))]) [1, 0] rfl ?_
    exact HF
set_option maxRecDepth 100000 in
theorem f_M_merge_94 {g : lp_G} {d : Nat} {Q : Int32 → SS → Prop} {S : SS} {x1 : Int32} {x2 : Int32} {x3 : Int32} {x4 : Int32} {x5 : Int32}
    (HF : (S.2 153 (0 : Int32).toNatClampNeg < x5 → MtV g um_M_keep d [.ref (g.2.1 + 151), .int (nI 3)] S (fun S24 => Q x1 S24)) ∧ (¬ S.2 153 (0 : Int32).toNatClampNeg < x5 → (¬ x5 = S.2 153 (0 : Int32).toNatClampNeg → (vp_in x5 24) ∧ ((S.2 156 x5.toNatClampNeg < 0 → AtI g um_M_merge (d + 1) Q 94 [(0, .ref (g.2.1 + 151)), (1, .int x1), (2, .int x2), (3, .int x3), (4, .int x4), (5, .int (x5 + 1))] [] S) ∧ (¬ S.2 156 x5.toNatClampNeg < 0 → (vp_in x5 24) ∧ ((S.2 177 x5.toNatClampNeg < 0 → AtI g um_M_merge (d + 1) Q 94 [(0, .ref (g.2.1 + 151)), (1, .int x1), (2, .int x2), (3, .int x3), (4, .int x4), (5, .int (x5 + 1))] [] S) ∧ (¬ S.2 177 x5.toNatClampNeg < 0 → (vp_in x5 24) ∧ ((vp_in x5 24) ∧ (MtI g um_M_mergeParts d [.ref (g.2.1 + 151), .int x2, .int x5, .int x3, .int (S.2 156 x5.toNatClampNeg), .int x4, .int (S.2 177 x5.toNatClampNeg)] S (fun r34 S33 => (r34 < 0 → Q (-2 : Int32) S33) ∧ (¬ r34 < 0 → (vp_in x5 96) ∧ (MtI g um_M_tryEmit d [.ref (g.2.1 + 151), .int (S33.2 152 x5.toNatClampNeg)] S33 (fun r38 S37 => (¬ r38 = 0 → (vp_in x5 24) ∧ ((vp_in x5 24) ∧ (AtI g um_M_merge (d + 1) Q 94 [(0, .ref (g.2.1 + 151)), (1, .int (x1 + r34)), (2, .int (x5 + (1 : Int32))), (3, .int ((S37.2 156 x5.toNatClampNeg) + (1 : Int32))), (4, .int ((S37.2 177 x5.toNatClampNeg) + (1 : Int32))), (5, .int (x5 + 1))] [] S37))) ∧ (r38 = 0 → Q (-2 : Int32) S37)))))))))))) ∧ (x5 = S.2 153 (0 : Int32).toNatClampNeg → MtI g um_M_mergeParts d [.ref (g.2.1 + 151), .int x2, .int x5, .int x3, .int (S.2 153 (1 : Int32).toNatClampNeg), .int x4, .int (S.2 153 (nI 2).toNatClampNeg)] S (fun r43 S42 => (r43 < 0 → Q (-2 : Int32) S42) ∧ (¬ r43 < 0 → AtI g um_M_merge (d + 1) Q 94 [(0, .ref (g.2.1 + 151)), (1, .int (x1 + r43)), (2, .int (x5 + (1 : Int32))), (3, .int x3), (4, .int x4), (5, .int (x5 + 1))] [] S42))))) : AtI g um_M_merge (d + 1) Q 94 [(0, .ref (g.2.1 + 151)), (1, .int x1), (2, .int x2), (3, .int x3), (4, .int x4), (5, .int x5)] [] S := by
  refine ab_iload 5 d_M_merge_94 rfl ?_
  refine ab_aload_n 0 d_M_merge_96 rfl rfl ?_
  refine sa_getR (r := 153) kf_M_13 d_M_merge_97 sh_151 rfl ?_
  refine ab_iconst (v := (0 : Int32)) d_M_merge_100 (by decide) ?_
  refine sa_iald d_M_merge_101 sh_153 (show vp_in 0 4 by unfold vp_in; decide) ?_
  refine ab_icmp_gt (tgt := 285) d_M_merge_102 (by decide) (fun b23 => ?_) (fun b23 => ?_)
  · replace HF := HF.1 b23
    refine ab_aload_n 0 d_M_merge_285 rfl rfl ?_
    refine ab_iconst (v := nI 3) d_M_merge_286 (by decide) ?_
    refine sa_callVv (As := [.int (nI 3)]) (rest := []) kc_M_211 d_M_merge_287 sh_151 rfl rfl rfl (Nat.le_of_ble_eq_true rfl) enI (Nat.le_of_ble_eq_true rfl) ⟨Nat.zero_le _, Nat.zero_le _⟩ HF (fun S24 HF => ?_)
    refine ab_iload_n 1 d_M_merge_290 rfl rfl ?_
    exact sa_iretI rfl d_M_merge_291 HF
  · replace HF := HF.2 b23
    refine ab_iload 5 d_M_merge_105 rfl ?_
    refine ab_aload_n 0 d_M_merge_107 rfl rfl ?_
    refine sa_getR (r := 153) kf_M_13 d_M_merge_108 sh_151 rfl ?_
    refine ab_iconst (v := (0 : Int32)) d_M_merge_111 (by decide) ?_
    refine sa_iald d_M_merge_112 sh_153 (show vp_in 0 4 by unfold vp_in; decide) ?_
    refine ab_icmp_ne (tgt := 120) d_M_merge_113 (by decide) (fun b26 => ?_) (fun b26 => ?_)
    · replace HF := HF.1 b26
      refine ab_iconst (v := (0 : Int32)) d_M_merge_120 (by decide) ?_
      refine ab_istore (lv' := [(6, .int (0 : Int32)), (0, .ref (g.2.1 + 151)), (1, .int x1), (2, .int x2), (3, .int x3), (4, .int x4), (5, .int x5)]) d_M_merge_121 (Nat.le_of_ble_eq_true rfl) rfl ?_
      refine ab_iload 0 d_M_merge_123 rfl ?_
      refine ab_if_ne (tgt := 148) d_M_merge_125 (by decide) (fun h => absurd h (by decide)) (fun _ => ?_)
      refine ab_aload_n 1 d_M_merge_128 rfl rfl ?_
      refine sa_getR (r := 156) kf_M_22 d_M_merge_129 sh_151 rfl ?_
      refine ab_iload 6 d_M_merge_132 rfl ?_
      obtain ⟨c27, HF⟩ := HF
      refine sa_iald d_M_merge_134 sh_156 c27 ?_
      refine ab_if_lt (tgt := 279) d_M_merge_135 (by decide) (fun b28 => ?_) (fun b28 => ?_)
      · replace HF := HF.1 b28
        refine ab_iinc (v := x5 + 1) (lv' := [(5, .int (x5 + 1)), (6, .int (0 : Int32)), (0, .ref (g.2.1 + 151)), (1, .int x1), (2, .int x2), (3, .int x3), (4, .int x4)]) 6 d_M_merge_279 rfl (congrArg (fun z => x5 + z) (show Int32.ofInt 1 = (1 : Int32) by decide)) (Nat.le_of_ble_eq_true rfl) rfl ?_
        refine ab_goto (tgt := 94) d_M_merge_282 (by decide) ?_
        refine ab_sub (lv' := [(0, .ref (g.2.1 + 151)), (1, .int x1), (2, .int x2), (3, .int x3), (4, .int x4), (5, .int (x5 + 1))]) [2, 3, 4, 5, 6, 0] rfl ?_
        exact HF
      · replace HF := HF.2 b28
        refine ab_aload_n 1 d_M_merge_138 rfl rfl ?_
        refine sa_getR (r := 177) kf_M_85 d_M_merge_139 sh_151 rfl ?_
        refine ab_iload 6 d_M_merge_142 rfl ?_
        obtain ⟨c29, HF⟩ := HF
        refine sa_iald d_M_merge_144 sh_177 c29 ?_
        refine ab_if_lt (tgt := 279) d_M_merge_145 (by decide) (fun b30 => ?_) (fun b30 => ?_)
        · replace HF := HF.1 b30
          refine ab_iinc (v := x5 + 1) (lv' := [(5, .int (x5 + 1)), (6, .int (0 : Int32)), (0, .ref (g.2.1 + 151)), (1, .int x1), (2, .int x2), (3, .int x3), (4, .int x4)]) 6 d_M_merge_279 rfl (congrArg (fun z => x5 + z) (show Int32.ofInt 1 = (1 : Int32) by decide)) (Nat.le_of_ble_eq_true rfl) rfl ?_
          refine ab_goto (tgt := 94) d_M_merge_282 (by decide) ?_
          refine ab_sub (lv' := [(0, .ref (g.2.1 + 151)), (1, .int x1), (2, .int x2), (3, .int x3), (4, .int x4), (5, .int (x5 + 1))]) [2, 3, 4, 5, 6, 0] rfl ?_
          exact HF
        · replace HF := HF.2 b30
          refine ab_aload_n 1 d_M_merge_148 rfl rfl ?_
          refine ab_iload_n 3 d_M_merge_149 rfl rfl ?_
          refine ab_iload 6 d_M_merge_150 rfl ?_
          refine ab_iload_n 4 d_M_merge_152 rfl rfl ?_
          refine ab_iload 0 d_M_merge_153 rfl ?_
          refine ab_if_eq (tgt := 167) d_M_merge_155 (by decide) (fun _ => ?_) (fun h => absurd h (by decide))
          refine ab_aload_n 1 d_M_merge_167 rfl rfl ?_
          refine sa_getR (r := 156) kf_M_22 d_M_merge_168 sh_151 rfl ?_
          refine ab_iload 6 d_M_merge_171 rfl ?_
          obtain ⟨c31, HF⟩ := HF
          refine sa_iald d_M_merge_173 sh_156 c31 ?_
          refine ab_iload 5 d_M_merge_174 rfl ?_
          refine ab_iload 0 d_M_merge_176 rfl ?_
          refine ab_if_eq (tgt := 190) d_M_merge_178 (by decide) (fun _ => ?_) (fun h => absurd h (by decide))
          refine ab_aload_n 1 d_M_merge_190 rfl rfl ?_
          refine sa_getR (r := 177) kf_M_85 d_M_merge_191 sh_151 rfl ?_
          refine ab_iload 6 d_M_merge_194 rfl ?_
          obtain ⟨c32, HF⟩ := HF
          refine sa_iald d_M_merge_196 sh_177 c32 ?_
          refine sa_callVi (As := [.int x2, .int x5, .int x3, .int (S.2 156 x5.toNatClampNeg), .int x4, .int (S.2 177 x5.toNatClampNeg)]) (rest := []) kc_M_224 d_M_merge_197 sh_151 rfl rfl rfl (Nat.le_of_ble_eq_true rfl) enI (Nat.le_of_ble_eq_true rfl) ⟨Nat.zero_le _, Nat.zero_le _⟩ HF (fun r34 S33 HF => ?_)
          refine ab_istore (lv' := [(7, .int r34), (6, .int (0 : Int32)), (0, .ref (g.2.1 + 151)), (1, .int x1), (2, .int x2), (3, .int x3), (4, .int x4), (5, .int x5)]) d_M_merge_200 (Nat.le_of_ble_eq_true rfl) rfl ?_
          refine ab_iload 0 d_M_merge_202 rfl ?_
          refine ab_if_lt (tgt := 226) d_M_merge_204 (by decide) (fun b35 => ?_) (fun b35 => ?_)
          · replace HF := HF.1 b35
            refine ab_bipush (v := (-2 : Int32)) d_M_merge_226 (by decide) ?_
            exact sa_iretI rfl d_M_merge_228 HF
          · replace HF := HF.2 b35
            refine ab_iload 1 d_M_merge_207 rfl ?_
            refine ab_if_ne (tgt := 229) d_M_merge_209 (by decide) (fun h => absurd h (by decide)) (fun _ => ?_)
            refine ab_aload_n 2 d_M_merge_212 rfl rfl ?_
            refine ab_aload_n 2 d_M_merge_213 rfl rfl ?_
            refine sa_getR (r := 152) kf_M_7 d_M_merge_214 sh_151 rfl ?_
            refine ab_iload 7 d_M_merge_217 rfl ?_
            obtain ⟨c36, HF⟩ := HF
            refine sa_iald d_M_merge_219 sh_152 c36 ?_
            refine sa_callVi (As := [.int (S33.2 152 x5.toNatClampNeg)]) (rest := []) kc_M_214 d_M_merge_220 sh_151 rfl rfl rfl (Nat.le_of_ble_eq_true rfl) enI (Nat.le_of_ble_eq_true rfl) ⟨Nat.zero_le _, Nat.zero_le _⟩ HF (fun r38 S37 HF => ?_)
            refine ab_if_ne (tgt := 229) d_M_merge_223 (by decide) (fun b39 => ?_) (fun b39 => ?_)
            · replace HF := HF.1 b39
              refine ab_iload_n 3 d_M_merge_229 rfl rfl ?_
              refine ab_iload 0 d_M_merge_230 rfl ?_
              refine ab_iadd d_M_merge_232 ?_
              refine ab_istore_n (lv' := [(1, .int (x1 + r34)), (7, .int r34), (6, .int (0 : Int32)), (0, .ref (g.2.1 + 151)), (2, .int x2), (3, .int x3), (4, .int x4), (5, .int x5)]) d_M_merge_233 rfl (Nat.le_of_ble_eq_true rfl) rfl ?_
              refine ab_iload 7 d_M_merge_234 rfl ?_
              refine ab_iconst (v := (1 : Int32)) d_M_merge_236 (by decide) ?_
              refine ab_iadd d_M_merge_237 ?_
              refine ab_istore_n (lv' := [(2, .int (x5 + (1 : Int32))), (1, .int (x1 + r34)), (7, .int r34), (6, .int (0 : Int32)), (0, .ref (g.2.1 + 151)), (3, .int x3), (4, .int x4), (5, .int x5)]) d_M_merge_238 rfl (Nat.le_of_ble_eq_true rfl) rfl ?_
              refine ab_iload 3 d_M_merge_239 rfl ?_
              refine ab_if_eq (tgt := 248) d_M_merge_241 (by decide) (fun _ => ?_) (fun h => absurd h (by decide))
              refine ab_aload_n 4 d_M_merge_248 rfl rfl ?_
              refine sa_getR (r := 156) kf_M_22 d_M_merge_249 sh_151 rfl ?_
              refine ab_iload 7 d_M_merge_252 rfl ?_
              obtain ⟨c40, HF⟩ := HF
              refine sa_iald d_M_merge_254 sh_156 c40 ?_
              refine ab_iconst (v := (1 : Int32)) d_M_merge_255 (by decide) ?_
              refine ab_iadd d_M_merge_256 ?_
              refine ab_istore_n (lv' := [(3, .int ((S37.2 156 x5.toNatClampNeg) + (1 : Int32))), (2, .int (x5 + (1 : Int32))), (1, .int (x1 + r34)), (7, .int r34), (6, .int (0 : Int32)), (0, .ref (g.2.1 + 151)), (4, .int x4), (5, .int x5)]) d_M_merge_257 rfl (Nat.le_of_ble_eq_true rfl) rfl ?_
              refine ab_iload 4 d_M_merge_258 rfl ?_
              refine ab_if_eq (tgt := 268) d_M_merge_260 (by decide) (fun _ => ?_) (fun h => absurd h (by decide))
              refine ab_aload_n 5 d_M_merge_268 rfl rfl ?_
              refine sa_getR (r := 177) kf_M_85 d_M_merge_269 sh_151 rfl ?_
              refine ab_iload 7 d_M_merge_272 rfl ?_
              obtain ⟨c41, HF⟩ := HF
              refine sa_iald d_M_merge_274 sh_177 c41 ?_
              refine ab_iconst (v := (1 : Int32)) d_M_merge_275 (by decide) ?_
              refine ab_iadd d_M_merge_276 ?_
              refine ab_istore (lv' := [(4, .int ((S37.2 177 x5.toNatClampNeg) + (1 : Int32))), (3, .int ((S37.2 156 x5.toNatClampNeg) + (1 : Int32))), (2, .int (x5 + (1 : Int32))), (1, .int (x1 + r34)), (7, .int r34), (6, .int (0 : Int32)), (0, .ref (g.2.1 + 151)), (5, .int x5)]) d_M_merge_277 (Nat.le_of_ble_eq_true rfl) rfl ?_
              refine ab_iinc (v := x5 + 1) (lv' := [(5, .int (x5 + 1)), (4, .int ((S37.2 177 x5.toNatClampNeg) + (1 : Int32))), (3, .int ((S37.2 156 x5.toNatClampNeg) + (1 : Int32))), (2, .int (x5 + (1 : Int32))), (1, .int (x1 + r34)), (7, .int r34), (6, .int (0 : Int32)), (0, .ref (g.2.1 + 151))]) 7 d_M_merge_279 rfl (congrArg (fun z => x5 + z) (show Int32.ofInt 1 = (1 : Int32) by decide)) (Nat.le_of_ble_eq_true rfl) rfl ?_
              refine ab_goto (tgt := 94) d_M_merge_282 (by decide) ?_
              refine ab_sub (lv' := [(0, .ref (g.2.1 + 151)), (1, .int (x1 + r34)), (2, .int (x5 + (1 : Int32))), (3, .int ((S37.2 156 x5.toNatClampNeg) + (1 : Int32))), (4, .int ((S37.2 177 x5.toNatClampNeg) + (1 : Int32))), (5, .int (x5 + 1))]) [7, 4, 3, 2, 1, 0] rfl ?_
              exact HF
            · replace HF := HF.2 b39
              refine ab_bipush (v := (-2 : Int32)) d_M_merge_226 (by decide) ?_
              exact sa_iretI rfl d_M_merge_228 HF
    · replace HF := HF.2 b26
      refine ab_iconst (v := (1 : Int32)) d_M_merge_116 (by decide) ?_
      refine ab_goto (tgt := 121) d_M_merge_117 (by decide) ?_
      refine ab_istore (lv' := [(6, .int (1 : Int32)), (0, .ref (g.2.1 + 151)), (1, .int x1), (2, .int x2), (3, .int x3), (4, .int x4), (5, .int x5)]) d_M_merge_121 (Nat.le_of_ble_eq_true rfl) rfl ?_
      refine ab_iload 0 d_M_merge_123 rfl ?_
      refine ab_if_ne (tgt := 148) d_M_merge_125 (by decide) (fun _ => ?_) (fun h => absurd h (by decide))
      refine ab_aload_n 1 d_M_merge_148 rfl rfl ?_
      refine ab_iload_n 3 d_M_merge_149 rfl rfl ?_
      refine ab_iload 6 d_M_merge_150 rfl ?_
      refine ab_iload_n 4 d_M_merge_152 rfl rfl ?_
      refine ab_iload 0 d_M_merge_153 rfl ?_
      refine ab_if_eq (tgt := 167) d_M_merge_155 (by decide) (fun h => absurd h (by decide)) (fun _ => ?_)
      refine ab_aload_n 1 d_M_merge_158 rfl rfl ?_
      refine sa_getR (r := 153) kf_M_13 d_M_merge_159 sh_151 rfl ?_
      refine ab_iconst (v := (1 : Int32)) d_M_merge_162 (by decide) ?_
      refine sa_iald d_M_merge_163 sh_153 (show vp_in 1 4 by unfold vp_in; decide) ?_
      refine ab_goto (tgt := 174) d_M_merge_164 (by decide) ?_
      refine ab_iload 5 d_M_merge_174 rfl ?_
      refine ab_iload 0 d_M_merge_176 rfl ?_
      refine ab_if_eq (tgt := 190) d_M_merge_178 (by decide) (fun h => absurd h (by decide)) (fun _ => ?_)
      refine ab_aload_n 1 d_M_merge_181 rfl rfl ?_
      refine sa_getR (r := 153) kf_M_13 d_M_merge_182 sh_151 rfl ?_
      refine ab_iconst (v := nI 2) d_M_merge_185 (by decide) ?_
      refine sa_iald d_M_merge_186 sh_153 (show vp_in 2 4 by unfold vp_in; decide) ?_
      refine ab_goto (tgt := 197) d_M_merge_187 (by decide) ?_
      refine sa_callVi (As := [.int x2, .int x5, .int x3, .int (S.2 153 (1 : Int32).toNatClampNeg), .int x4, .int (S.2 153 (nI 2).toNatClampNeg)]) (rest := []) kc_M_224 d_M_merge_197 sh_151 rfl rfl rfl (Nat.le_of_ble_eq_true rfl) enI (Nat.le_of_ble_eq_true rfl) ⟨Nat.zero_le _, Nat.zero_le _⟩ HF (fun r43 S42 HF => ?_)
      refine ab_istore (lv' := [(7, .int r43), (6, .int (1 : Int32)), (0, .ref (g.2.1 + 151)), (1, .int x1), (2, .int x2), (3, .int x3), (4, .int x4), (5, .int x5)]) d_M_merge_200 (Nat.le_of_ble_eq_true rfl) rfl ?_
      refine ab_iload 0 d_M_merge_202 rfl ?_
      refine ab_if_lt (tgt := 226) d_M_merge_204 (by decide) (fun b44 => ?_) (fun b44 => ?_)
      · replace HF := HF.1 b44
        refine ab_bipush (v := (-2 : Int32)) d_M_merge_226 (by decide) ?_
        exact sa_iretI rfl d_M_merge_228 HF
      · replace HF := HF.2 b44
        refine ab_iload 1 d_M_merge_207 rfl ?_
        refine ab_if_ne (tgt := 229) d_M_merge_209 (by decide) (fun _ => ?_) (fun h => absurd h (by decide))
        refine ab_iload_n 3 d_M_merge_229 rfl rfl ?_
        refine ab_iload 0 d_M_merge_230 rfl ?_
        refine ab_iadd d_M_merge_232 ?_
        refine ab_istore_n (lv' := [(1, .int (x1 + r43)), (7, .int r43), (6, .int (1 : Int32)), (0, .ref (g.2.1 + 151)), (2, .int x2), (3, .int x3), (4, .int x4), (5, .int x5)]) d_M_merge_233 rfl (Nat.le_of_ble_eq_true rfl) rfl ?_
        refine ab_iload 7 d_M_merge_234 rfl ?_
        refine ab_iconst (v := (1 : Int32)) d_M_merge_236 (by decide) ?_
        refine ab_iadd d_M_merge_237 ?_
        refine ab_istore_n (lv' := [(2, .int (x5 + (1 : Int32))), (1, .int (x1 + r43)), (7, .int r43), (6, .int (1 : Int32)), (0, .ref (g.2.1 + 151)), (3, .int x3), (4, .int x4), (5, .int x5)]) d_M_merge_238 rfl (Nat.le_of_ble_eq_true rfl) rfl ?_
        refine ab_iload 3 d_M_merge_239 rfl ?_
        refine ab_if_eq (tgt := 248) d_M_merge_241 (by decide) (fun h => absurd h (by decide)) (fun _ => ?_)
        refine ab_iload_n 5 d_M_merge_244 rfl rfl ?_
        refine ab_goto (tgt := 257) d_M_merge_245 (by decide) ?_
        refine ab_istore_n (lv' := [(3, .int x3), (2, .int (x5 + (1 : Int32))), (1, .int (x1 + r43)), (7, .int r43), (6, .int (1 : Int32)), (0, .ref (g.2.1 + 151)), (4, .int x4), (5, .int x5)]) d_M_merge_257 rfl (Nat.le_of_ble_eq_true rfl) rfl ?_
        refine ab_iload 4 d_M_merge_258 rfl ?_
        refine ab_if_eq (tgt := 268) d_M_merge_260 (by decide) (fun h => absurd h (by decide)) (fun _ => ?_)
        refine ab_iload 6 d_M_merge_263 rfl ?_
        refine ab_goto (tgt := 277) d_M_merge_265 (by decide) ?_
        refine ab_istore (lv' := [(4, .int x4), (3, .int x3), (2, .int (x5 + (1 : Int32))), (1, .int (x1 + r43)), (7, .int r43), (6, .int (1 : Int32)), (0, .ref (g.2.1 + 151)), (5, .int x5)]) d_M_merge_277 (Nat.le_of_ble_eq_true rfl) rfl ?_
        refine ab_iinc (v := x5 + 1) (lv' := [(5, .int (x5 + 1)), (4, .int x4), (3, .int x3), (2, .int (x5 + (1 : Int32))), (1, .int (x1 + r43)), (7, .int r43), (6, .int (1 : Int32)), (0, .ref (g.2.1 + 151))]) 7 d_M_merge_279 rfl (congrArg (fun z => x5 + z) (show Int32.ofInt 1 = (1 : Int32) by decide)) (Nat.le_of_ble_eq_true rfl) rfl ?_
        refine ab_goto (tgt := 94) d_M_merge_282 (by decide) ?_
        refine ab_sub (lv' := [(0, .ref (g.2.1 + 151)), (1, .int (x1 + r43)), (2, .int (x5 + (1 : Int32))), (3, .int x3), (4, .int x4), (5, .int (x5 + 1))]) [7, 4, 3, 2, 1, 0] rfl ?_
        exact HF

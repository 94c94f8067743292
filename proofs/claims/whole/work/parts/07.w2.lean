set_option maxRecDepth 100000 in
theorem f_W_writePatch {g : lp_G} {d : Nat} {Q : Int32 → SS → Prop} {S : SS} {x1 : Int32}
    (HF : MtV g um_W_findChanges d [.ref (g.2.1 + 92)] S (fun S1 => ∀ S3 : SS, S3 = setI S1 90 1 (0 : Int32) → AtI g um_W_writePatch (d + 1) Q 19 [(0, .ref (g.2.1 + 92)), (1, .int x1), (2, .int (0 : Int32)), (3, .int (0 : Int32)), (4, .int (0 : Int32))] [] S3)) : MtI g um_W_writePatch (d + 1) [.ref (g.2.1 + 92), .int x1] S Q := by
  refine sa_entryI (lv' := [(0, .ref (g.2.1 + 92)), (1, .int x1)]) (by decide +kernel) (Nat.le_of_ble_eq_true rfl) rfl ?_
  refine ab_aload_n 0 d_W_writePatch_0 rfl rfl ?_
  refine sa_callVv (As := []) (rest := []) kc_W_26 d_W_writePatch_1 sh_92 rfl rfl rfl (Nat.le_of_ble_eq_true rfl) enI (Nat.le_of_ble_eq_true rfl) ⟨Nat.zero_le _, Nat.zero_le _⟩ HF (fun S1 HF => ?_)
  refine ab_aload_n 0 d_W_writePatch_4 rfl rfl ?_
  refine sa_getR (r := 90) kf_W_21 d_W_writePatch_5 sh_92 rfl ?_
  refine ab_iconst (v := (0 : Int32)) d_W_writePatch_8 (by decide) ?_
  refine sa_putIn kp_W_29 d_W_writePatch_9 sh_90 rfl (fun S3 hS3 => ?_)
  replace HF := HF S3 hS3
  refine ab_iconst (v := (0 : Int32)) d_W_writePatch_12 (by decide) ?_
  refine ab_istore_n (lv' := [(2, .int (0 : Int32)), (0, .ref (g.2.1 + 92)), (1, .int x1)]) d_W_writePatch_13 rfl (Nat.le_of_ble_eq_true rfl) rfl ?_
  refine ab_iconst (v := (0 : Int32)) d_W_writePatch_14 (by decide) ?_
  refine ab_istore_n (lv' := [(3, .int (0 : Int32)), (2, .int (0 : Int32)), (0, .ref (g.2.1 + 92)), (1, .int x1)]) d_W_writePatch_15 rfl (Nat.le_of_ble_eq_true rfl) rfl ?_
  refine ab_iconst (v := (0 : Int32)) d_W_writePatch_16 (by decide) ?_
  refine ab_istore (lv' := [(4, .int (0 : Int32)), (3, .int (0 : Int32)), (2, .int (0 : Int32)), (0, .ref (g.2.1 + 92)), (1, .int x1)]) d_W_writePatch_17 (Nat.le_of_ble_eq_true rfl) rfl ?_
  refine ab_sub (lv' := [(0, .ref (g.2.1 + 92)), (1, .int x1), (2, .int (0 : Int32)), (3, .int (0 : Int32)), (4, .int (0 : Int32))]) [3, 4, 2, 1, 0] rfl ?_
  exact HF
set_option maxRecDepth 100000 in
theorem f_W_writePatch_19 {g : lp_G} {d : Nat} {Q : Int32 → SS → Prop} {S : SS} {x1 : Int32} {x2 : Int32} {x3 : Int32} {x4 : Int32}
    (HF : (S.1 92 3 ≤ x4 → Q x2 S) ∧ (¬ S.1 92 3 ≤ x4 → (¬ x4 = (S.1 92 3) - (1 : Int32) → MtI g um_W_matchedBehind d [.ref (g.2.1 + 92), .int x4] S (fun r7 S6 => (r7 ≤ (nI 2) * x1 → AtI g um_W_writePatch (d + 1) Q 19 [(0, .ref (g.2.1 + 92)), (1, .int x1), (2, .int x2), (3, .int x3), (4, .int (x4 + 1))] [] S6) ∧ (¬ r7 ≤ (nI 2) * x1 → MtV g um_W_writeHunk d [.ref (g.2.1 + 92), .int x3, .int x4, .int x1] S6 (fun S9 => AtI g um_W_writePatch (d + 1) Q 19 [(0, .ref (g.2.1 + 92)), (1, .int x1), (2, .int (x2 + 1)), (3, .int (x4 + (1 : Int32))), (4, .int (x4 + 1))] [] S9)))) ∧ (x4 = (S.1 92 3) - (1 : Int32) → MtV g um_W_writeHunk d [.ref (g.2.1 + 92), .int x3, .int x4, .int x1] S (fun S11 => AtI g um_W_writePatch (d + 1) Q 19 [(0, .ref (g.2.1 + 92)), (1, .int x1), (2, .int (x2 + 1)), (3, .int (x4 + (1 : Int32))), (4, .int (x4 + 1))] [] S11)))) : AtI g um_W_writePatch (d + 1) Q 19 [(0, .ref (g.2.1 + 92)), (1, .int x1), (2, .int x2), (3, .int x3), (4, .int x4)] [] S := by
  refine ab_iload 4 d_W_writePatch_19 rfl ?_
  refine ab_aload_n 0 d_W_writePatch_21 rfl rfl ?_
  refine sa_getI kf_W_35 d_W_writePatch_22 sh_92 rfl ?_
  refine ab_icmp_ge (tgt := 85) d_W_writePatch_25 (by decide) (fun b4 => ?_) (fun b4 => ?_)
  · replace HF := HF.1 b4
    refine ab_iload_n 2 d_W_writePatch_85 rfl rfl ?_
    exact sa_iretI rfl d_W_writePatch_86 HF
  · replace HF := HF.2 b4
    refine ab_iload 4 d_W_writePatch_28 rfl ?_
    refine ab_aload_n 0 d_W_writePatch_30 rfl rfl ?_
    refine sa_getI kf_W_35 d_W_writePatch_31 sh_92 rfl ?_
    refine ab_iconst (v := (1 : Int32)) d_W_writePatch_34 (by decide) ?_
    refine ab_isub d_W_writePatch_35 ?_
    refine ab_icmp_ne (tgt := 43) d_W_writePatch_36 (by decide) (fun b5 => ?_) (fun b5 => ?_)
    · replace HF := HF.1 b5
      refine ab_iconst (v := (0 : Int32)) d_W_writePatch_43 (by decide) ?_
      refine ab_istore (lv' := [(5, .int (0 : Int32)), (0, .ref (g.2.1 + 92)), (1, .int x1), (2, .int x2), (3, .int x3), (4, .int x4)]) d_W_writePatch_44 (Nat.le_of_ble_eq_true rfl) rfl ?_
      refine ab_iload 0 d_W_writePatch_46 rfl ?_
      refine ab_if_ne (tgt := 63) d_W_writePatch_48 (by decide) (fun h => absurd h (by decide)) (fun _ => ?_)
      refine ab_aload_n 1 d_W_writePatch_51 rfl rfl ?_
      refine ab_iload 5 d_W_writePatch_52 rfl ?_
      refine sa_callVi (As := [.int x4]) (rest := []) kc_W_38 d_W_writePatch_54 sh_92 rfl rfl rfl (Nat.le_of_ble_eq_true rfl) enI (Nat.le_of_ble_eq_true rfl) ⟨Nat.zero_le _, Nat.zero_le _⟩ HF (fun r7 S6 HF => ?_)
      refine ab_iconst (v := nI 2) d_W_writePatch_57 (by decide) ?_
      refine ab_iload_n 2 d_W_writePatch_58 rfl rfl ?_
      refine ab_imul d_W_writePatch_59 ?_
      refine ab_icmp_le (tgt := 79) d_W_writePatch_60 (by decide) (fun b8 => ?_) (fun b8 => ?_)
      · replace HF := HF.1 b8
        refine ab_iinc (v := x4 + 1) (lv' := [(4, .int (x4 + 1)), (5, .int (0 : Int32)), (0, .ref (g.2.1 + 92)), (1, .int x1), (2, .int x2), (3, .int x3)]) 5 d_W_writePatch_79 rfl (congrArg (fun z => x4 + z) (show Int32.ofInt 1 = (1 : Int32) by decide)) (Nat.le_of_ble_eq_true rfl) rfl ?_
        refine ab_goto (tgt := 19) d_W_writePatch_82 (by decide) ?_
        refine ab_sub (lv' := [(0, .ref (g.2.1 + 92)), (1, .int x1), (2, .int x2), (3, .int x3), (4, .int (x4 + 1))]) [2, 3, 4, 5, 0] rfl ?_
        exact HF
      · replace HF := HF.2 b8
        refine ab_aload_n 1 d_W_writePatch_63 rfl rfl ?_
        refine ab_iload_n 4 d_W_writePatch_64 rfl rfl ?_
        refine ab_iload 5 d_W_writePatch_65 rfl ?_
        refine ab_iload_n 2 d_W_writePatch_67 rfl rfl ?_
        refine sa_callVv (As := [.int x3, .int x4, .int x1]) (rest := []) kc_W_42 d_W_writePatch_68 sh_92 rfl rfl rfl (Nat.le_of_ble_eq_true rfl) enI (Nat.le_of_ble_eq_true rfl) ⟨Nat.zero_le _, Nat.zero_le _⟩ HF (fun S9 HF => ?_)
        refine ab_iinc (v := x2 + 1) (lv' := [(2, .int (x2 + 1)), (5, .int (0 : Int32)), (0, .ref (g.2.1 + 92)), (1, .int x1), (3, .int x3), (4, .int x4)]) 3 d_W_writePatch_71 rfl (congrArg (fun z => x2 + z) (show Int32.ofInt 1 = (1 : Int32) by decide)) (Nat.le_of_ble_eq_true rfl) rfl ?_
        refine ab_iload 5 d_W_writePatch_74 rfl ?_
        refine ab_iconst (v := (1 : Int32)) d_W_writePatch_76 (by decide) ?_
        refine ab_iadd d_W_writePatch_77 ?_
        refine ab_istore_n (lv' := [(3, .int (x4 + (1 : Int32))), (2, .int (x2 + 1)), (5, .int (0 : Int32)), (0, .ref (g.2.1 + 92)), (1, .int x1), (4, .int x4)]) d_W_writePatch_78 rfl (Nat.le_of_ble_eq_true rfl) rfl ?_
        refine ab_iinc (v := x4 + 1) (lv' := [(4, .int (x4 + 1)), (3, .int (x4 + (1 : Int32))), (2, .int (x2 + 1)), (5, .int (0 : Int32)), (0, .ref (g.2.1 + 92)), (1, .int x1)]) 5 d_W_writePatch_79 rfl (congrArg (fun z => x4 + z) (show Int32.ofInt 1 = (1 : Int32) by decide)) (Nat.le_of_ble_eq_true rfl) rfl ?_
        refine ab_goto (tgt := 19) d_W_writePatch_82 (by decide) ?_
        refine ab_sub (lv' := [(0, .ref (g.2.1 + 92)), (1, .int x1), (2, .int (x2 + 1)), (3, .int (x4 + (1 : Int32))), (4, .int (x4 + 1))]) [4, 5, 2, 1, 0] rfl ?_
        exact HF
    · replace HF := HF.2 b5
      refine ab_iconst (v := (1 : Int32)) d_W_writePatch_39 (by decide) ?_
      refine ab_goto (tgt := 44) d_W_writePatch_40 (by decide) ?_
      refine ab_istore (lv' := [(5, .int (1 : Int32)), (0, .ref (g.2.1 + 92)), (1, .int x1), (2, .int x2), (3, .int x3), (4, .int x4)]) d_W_writePatch_44 (Nat.le_of_ble_eq_true rfl) rfl ?_
      refine ab_iload 0 d_W_writePatch_46 rfl ?_
      refine ab_if_ne (tgt := 63) d_W_writePatch_48 (by decide) (fun _ => ?_) (fun h => absurd h (by decide))
      refine ab_aload_n 1 d_W_writePatch_63 rfl rfl ?_
      refine ab_iload_n 4 d_W_writePatch_64 rfl rfl ?_
      refine ab_iload 5 d_W_writePatch_65 rfl ?_
      refine ab_iload_n 2 d_W_writePatch_67 rfl rfl ?_
      refine sa_callVv (As := [.int x3, .int x4, .int x1]) (rest := []) kc_W_42 d_W_writePatch_68 sh_92 rfl rfl rfl (Nat.le_of_ble_eq_true rfl) enI (Nat.le_of_ble_eq_true rfl) ⟨Nat.zero_le _, Nat.zero_le _⟩ HF (fun S11 HF => ?_)
      refine ab_iinc (v := x2 + 1) (lv' := [(2, .int (x2 + 1)), (5, .int (1 : Int32)), (0, .ref (g.2.1 + 92)), (1, .int x1), (3, .int x3), (4, .int x4)]) 3 d_W_writePatch_71 rfl (congrArg (fun z => x2 + z) (show Int32.ofInt 1 = (1 : Int32) by decide)) (Nat.le_of_ble_eq_true rfl) rfl ?_
      refine ab_iload 5 d_W_writePatch_74 rfl ?_
      refine ab_iconst (v := (1 : Int32)) d_W_writePatch_76 (by decide) ?_
      refine ab_iadd d_W_writePatch_77 ?_
      refine ab_istore_n (lv' := [(3, .int (x4 + (1 : Int32))), (2, .int (x2 + 1)), (5, .int (1 : Int32)), (0, .ref (g.2.1 + 92)), (1, .int x1), (4, .int x4)]) d_W_writePatch_78 rfl (Nat.le_of_ble_eq_true rfl) rfl ?_
      refine ab_iinc (v := x4 + 1) (lv' := [(4, .int (x4 + 1)), (3, .int (x4 + (1 : Int32))), (2, .int (x2 + 1)), (5, .int (1 : Int32)), (0, .ref (g.2.1 + 92)), (1, .int x1)]) 5 d_W_writePatch_79 rfl (congrArg (fun z => x4 + z) (show Int32.ofInt 1 = (1 : Int32) by decide)) (Nat.le_of_ble_eq_true rfl) rfl ?_
      refine ab_goto (tgt := 19) d_W_writePatch_82 (by decide) ?_
      refine ab_sub (lv' := [(0, .ref (g.2.1 + 92)), (1, .int x1), (2, .int (x2 + 1)), (3, .int (x4 + (1 : Int32))), (4, .int (x4 + 1))]) [4, 5, 2, 1, 0] rfl ?_
      exact HF
set_option maxRecDepth 100000 in
theorem f_W_findChanges {g : lp_G} {d : Nat} {Q : SS → Prop} {S : SS} 
    (HF : ∀ S1 : SS, S1 = setI S 92 3 (0 : Int32) → AtV g um_W_findChanges (d + 1) Q 11 [(0, .ref (g.2.1 + 92)), (1, .int (0 : Int32)), (2, .int (0 : Int32)), (3, .int (0 : Int32))] [] S1) : MtV g um_W_findChanges (d + 1) [.ref (g.2.1 + 92)] S Q := by
  refine sa_entryV (lv' := [(0, .ref (g.2.1 + 92))]) (by decide +kernel) (Nat.le_of_ble_eq_true rfl) rfl ?_
  refine ab_aload_n 0 d_W_findChanges_0 rfl rfl ?_
  refine ab_iconst (v := (0 : Int32)) d_W_findChanges_1 (by decide) ?_
  refine sa_putIn kp_W_35 d_W_findChanges_2 sh_92 rfl (fun S1 hS1 => ?_)
  replace HF := HF S1 hS1
  refine ab_iconst (v := (0 : Int32)) d_W_findChanges_5 (by decide) ?_
  refine ab_istore_n (lv' := [(1, .int (0 : Int32)), (0, .ref (g.2.1 + 92))]) d_W_findChanges_6 rfl (Nat.le_of_ble_eq_true rfl) rfl ?_
  refine ab_iconst (v := (0 : Int32)) d_W_findChanges_7 (by decide) ?_
  refine ab_istore_n (lv' := [(2, .int (0 : Int32)), (1, .int (0 : Int32)), (0, .ref (g.2.1 + 92))]) d_W_findChanges_8 rfl (Nat.le_of_ble_eq_true rfl) rfl ?_
  refine ab_iconst (v := (0 : Int32)) d_W_findChanges_9 (by decide) ?_
  refine ab_istore_n (lv' := [(3, .int (0 : Int32)), (2, .int (0 : Int32)), (1, .int (0 : Int32)), (0, .ref (g.2.1 + 92))]) d_W_findChanges_10 rfl (Nat.le_of_ble_eq_true rfl) rfl ?_
  refine ab_sub (lv' := [(0, .ref (g.2.1 + 92)), (1, .int (0 : Int32)), (2, .int (0 : Int32)), (3, .int (0 : Int32))]) [3, 2, 1, 0] rfl ?_
  exact HF
set_option maxRecDepth 100000 in
theorem f_W_findChanges_11 {g : lp_G} {d : Nat} {Q : SS → Prop} {S : SS} {x1 : Int32} {x2 : Int32} {x3 : Int32}
    (HF : (S.1 3 1 ≤ x3 → MtV g um_W_keepChange d [.ref (g.2.1 + 92), .int x1, .int (S.1 3 1), .int x2, .int (S.1 5 1)] S (fun S3 => Q S3)) ∧ (¬ S.1 3 1 ≤ x3 → MtI g um_C_partnerOf d [.ref (g.2.1 + 2), .int x3] S (fun r6 S5 => (r6 = (-3 : Int32) → AtV g um_W_findChanges (d + 1) Q 11 [(0, .ref (g.2.1 + 92)), (1, .int x1), (2, .int x2), (3, .int (x3 + 1))] [] S5) ∧ (¬ r6 = (-3 : Int32) → MtV g um_W_keepChange d [.ref (g.2.1 + 92), .int x1, .int x3, .int x2, .int r6] S5 (fun S8 => AtV g um_W_findChanges (d + 1) Q 11 [(0, .ref (g.2.1 + 92)), (1, .int (x3 + (1 : Int32))), (2, .int (r6 + (1 : Int32))), (3, .int (x3 + 1))] [] S8))))) : AtV g um_W_findChanges (d + 1) Q 11 [(0, .ref (g.2.1 + 92)), (1, .int x1), (2, .int x2), (3, .int x3)] [] S := by
  refine ab_iload_n 3 d_W_findChanges_11 rfl rfl ?_
  refine ab_aload_n 0 d_W_findChanges_12 rfl rfl ?_
  refine sa_getR (r := 2) kf_W_17 d_W_findChanges_13 sh_92 rfl ?_
  refine sa_getR (r := 3) kf_W_46 d_W_findChanges_16 sh_2 rfl ?_
  refine sa_getI kf_W_52 d_W_findChanges_19 sh_3 rfl ?_
  refine ab_icmp_ge (tgt := 66) d_W_findChanges_22 (by decide) (fun b2 => ?_) (fun b2 => ?_)
  · replace HF := HF.1 b2
    refine ab_aload_n 0 d_W_findChanges_66 rfl rfl ?_
    refine ab_iload_n 1 d_W_findChanges_67 rfl rfl ?_
    refine ab_aload_n 0 d_W_findChanges_68 rfl rfl ?_
    refine sa_getR (r := 2) kf_W_17 d_W_findChanges_69 sh_92 rfl ?_
    refine sa_getR (r := 3) kf_W_46 d_W_findChanges_72 sh_2 rfl ?_
    refine sa_getI kf_W_52 d_W_findChanges_75 sh_3 rfl ?_
    refine ab_iload_n 2 d_W_findChanges_78 rfl rfl ?_
    refine ab_aload_n 0 d_W_findChanges_79 rfl rfl ?_
    refine sa_getR (r := 2) kf_W_17 d_W_findChanges_80 sh_92 rfl ?_
    refine sa_getR (r := 5) kf_W_64 d_W_findChanges_83 sh_2 rfl ?_
    refine sa_getI kf_W_52 d_W_findChanges_86 sh_5 rfl ?_
    refine sa_callVv (As := [.int x1, .int (S.1 3 1), .int x2, .int (S.1 5 1)]) (rest := []) kc_W_60 d_W_findChanges_89 sh_92 rfl rfl rfl (Nat.le_of_ble_eq_true rfl) enV (Nat.le_of_ble_eq_true rfl) ⟨Nat.zero_le _, Nat.zero_le _⟩ HF (fun S3 HF => ?_)
    exact sa_ret rfl d_W_findChanges_92 HF
  · replace HF := HF.2 b2
    refine ab_aload_n 0 d_W_findChanges_25 rfl rfl ?_
    refine sa_getR (r := 2) kf_W_17 d_W_findChanges_26 sh_92 rfl ?_
    refine ab_iload_n 3 d_W_findChanges_29 rfl rfl ?_
    refine sa_callVi (As := [.int x3]) (rest := []) kc_W_57 d_W_findChanges_30 sh_2 rfl rfl rfl (Nat.le_of_ble_eq_true rfl) enV (Nat.le_of_ble_eq_true rfl) ⟨Nat.zero_le _, Nat.zero_le _⟩ HF (fun r6 S5 HF => ?_)
    refine ab_istore (lv' := [(4, .int r6), (0, .ref (g.2.1 + 92)), (1, .int x1), (2, .int x2), (3, .int x3)]) d_W_findChanges_33 (Nat.le_of_ble_eq_true rfl) rfl ?_
    refine ab_iload 0 d_W_findChanges_35 rfl ?_
    refine ab_bipush (v := (-3 : Int32)) d_W_findChanges_37 (by decide) ?_
    refine ab_icmp_eq (tgt := 60) d_W_findChanges_39 (by decide) (fun b7 => ?_) (fun b7 => ?_)
    · replace HF := HF.1 b7
      refine ab_iinc (v := x3 + 1) (lv' := [(3, .int (x3 + 1)), (4, .int r6), (0, .ref (g.2.1 + 92)), (1, .int x1), (2, .int x2)]) 4 d_W_findChanges_60 rfl (congrArg (fun z => x3 + z) (show Int32.ofInt 1 = (1 : Int32) by decide)) (Nat.le_of_ble_eq_true rfl) rfl ?_
      refine ab_goto (tgt := 11) d_W_findChanges_63 (by decide) ?_
      refine ab_sub (lv' := [(0, .ref (g.2.1 + 92)), (1, .int x1), (2, .int x2), (3, .int (x3 + 1))]) [2, 3, 4, 0] rfl ?_
      exact HF
    · replace HF := HF.2 b7
      refine ab_aload_n 1 d_W_findChanges_42 rfl rfl ?_
      refine ab_iload_n 2 d_W_findChanges_43 rfl rfl ?_
      refine ab_iload_n 4 d_W_findChanges_44 rfl rfl ?_
      refine ab_iload_n 3 d_W_findChanges_45 rfl rfl ?_
      refine ab_iload 0 d_W_findChanges_46 rfl ?_
      refine sa_callVv (As := [.int x1, .int x3, .int x2, .int r6]) (rest := []) kc_W_60 d_W_findChanges_48 sh_92 rfl rfl rfl (Nat.le_of_ble_eq_true rfl) enV (Nat.le_of_ble_eq_true rfl) ⟨Nat.zero_le _, Nat.zero_le _⟩ HF (fun S8 HF => ?_)
      refine ab_iload_n 4 d_W_findChanges_51 rfl rfl ?_
      refine ab_iconst (v := (1 : Int32)) d_W_findChanges_52 (by decide) ?_
      refine ab_iadd d_W_findChanges_53 ?_
      refine ab_istore_n (lv' := [(1, .int (x3 + (1 : Int32))), (4, .int r6), (0, .ref (g.2.1 + 92)), (2, .int x2), (3, .int x3)]) d_W_findChanges_54 rfl (Nat.le_of_ble_eq_true rfl) rfl ?_
      refine ab_iload 1 d_W_findChanges_55 rfl ?_
      refine ab_iconst (v := (1 : Int32)) d_W_findChanges_57 (by decide) ?_
      refine ab_iadd d_W_findChanges_58 ?_
      refine ab_istore_n (lv' := [(2, .int (r6 + (1 : Int32))), (1, .int (x3 + (1 : Int32))), (4, .int r6), (0, .ref (g.2.1 + 92)), (3, .int x3)]) d_W_findChanges_59 rfl (Nat.le_of_ble_eq_true rfl) rfl ?_
      refine ab_iinc (v := x3 + 1) (lv' := [(3, .int (x3 + 1)), (2, .int (r6 + (1 : Int32))), (1, .int (x3 + (1 : Int32))), (4, .int r6), (0, .ref (g.2.1 + 92))]) 4 d_W_findChanges_60 rfl (congrArg (fun z => x3 + z) (show Int32.ofInt 1 = (1 : Int32) by decide)) (Nat.le_of_ble_eq_true rfl) rfl ?_
      refine ab_goto (tgt := 11) d_W_findChanges_63 (by decide) ?_
      refine ab_sub (lv' := [(0, .ref (g.2.1 + 92)), (1, .int (x3 + (1 : Int32))), (2, .int (r6 + (1 : Int32))), (3, .int (x3 + 1))]) [4, 2, 1, 0] rfl ?_
      exact HF
set_option maxRecDepth 100000 in
theorem f_W_keepChange {g : lp_G} {d : Nat} {Q : SS → Prop} {S : SS} {x1 : Int32} {x2 : Int32} {x3 : Int32} {x4 : Int32}
    (HF : (x1 < x2 → (nI 25 ≤ S.1 92 3 → Q S) ∧ (¬ nI 25 ≤ S.1 92 3 → (vp_in (S.1 92 3) 25) ∧ (MtV g um_R_span d [.ref (g.2.1 + (94 + 1 * (S.1 92 3).toNatClampNeg)), .int x1, .int x2, .int x3, .int x4] S (fun S4 => ∀ S6 : SS, S6 = setI S4 92 3 ((S4.1 92 3) + (1 : Int32)) → Q S6)))) ∧ (¬ x1 < x2 → (x4 ≤ x3 → Q S) ∧ (¬ x4 ≤ x3 → (nI 25 ≤ S.1 92 3 → Q S) ∧ (¬ nI 25 ≤ S.1 92 3 → (vp_in (S.1 92 3) 25) ∧ (MtV g um_R_span d [.ref (g.2.1 + (94 + 1 * (S.1 92 3).toNatClampNeg)), .int x1, .int x2, .int x3, .int x4] S (fun S10 => ∀ S12 : SS, S12 = setI S10 92 3 ((S10.1 92 3) + (1 : Int32)) → Q S12)))))) : MtV g um_W_keepChange (d + 1) [.ref (g.2.1 + 92), .int x1, .int x2, .int x3, .int x4] S Q := by
  refine sa_entryV (lv' := [(0, .ref (g.2.1 + 92)), (1, .int x1), (2, .int x2), (3, .int x3), (4, .int x4)]) (by decide +kernel) (Nat.le_of_ble_eq_true rfl) rfl ?_
  refine ab_iload_n 1 d_W_keepChange_0 rfl rfl ?_
  refine ab_iload_n 2 d_W_keepChange_1 rfl rfl ?_
  refine ab_icmp_lt (tgt := 11) d_W_keepChange_2 (by decide) (fun b1 => ?_) (fun b1 => ?_)
  · replace HF := HF.1 b1
    refine ab_aload_n 0 d_W_keepChange_11 rfl rfl ?_
    refine sa_getI kf_W_35 d_W_keepChange_12 sh_92 rfl ?_
    refine ab_bipush (v := nI 25) d_W_keepChange_15 (by decide) ?_
    refine ab_icmp_ge (tgt := 47) d_W_keepChange_17 (by decide) (fun b2 => ?_) (fun b2 => ?_)
    · replace HF := HF.1 b2
      exact sa_ret rfl d_W_keepChange_47 HF
    · replace HF := HF.2 b2
      refine ab_aload_n 0 d_W_keepChange_20 rfl rfl ?_
      refine sa_getR (r := 93) kf_W_13 d_W_keepChange_21 sh_92 rfl ?_
      refine ab_aload_n 0 d_W_keepChange_24 rfl rfl ?_
      refine sa_getI kf_W_35 d_W_keepChange_25 sh_92 rfl ?_
      obtain ⟨c3, HF⟩ := HF
      refine sa_aald (ty := .object "LinePatcher$Range") d_W_keepChange_28 sh_93 rfl rfl c3 ?_
      refine ab_iload_n 1 d_W_keepChange_29 rfl rfl ?_
      refine ab_iload_n 2 d_W_keepChange_30 rfl rfl ?_
      refine ab_iload_n 3 d_W_keepChange_31 rfl rfl ?_
      refine ab_iload 4 d_W_keepChange_32 rfl ?_
      refine sa_callVv (As := [.int x1, .int x2, .int x3, .int x4]) (rest := []) kc_W_67 d_W_keepChange_34 (sr_93 _ (vp_lt c3)) rfl rfl rfl (Nat.le_of_ble_eq_true rfl) enV (Nat.le_of_ble_eq_true rfl) ⟨Nat.zero_le _, Nat.zero_le _⟩ HF (fun S4 HF => ?_)
      refine ab_aload_n 0 d_W_keepChange_37 rfl rfl ?_
      refine ab_dup d_W_keepChange_38 rfl ?_
      refine sa_getI kf_W_35 d_W_keepChange_39 sh_92 rfl ?_
      refine ab_iconst (v := (1 : Int32)) d_W_keepChange_42 (by decide) ?_
      refine ab_iadd d_W_keepChange_43 ?_
      refine sa_putIn kp_W_35 d_W_keepChange_44 sh_92 rfl (fun S6 hS6 => ?_)
      replace HF := HF S6 hS6
      exact sa_ret rfl d_W_keepChange_47 HF
  · replace HF := HF.2 b1
    refine ab_iload_n 3 d_W_keepChange_5 rfl rfl ?_
    refine ab_iload 4 d_W_keepChange_6 rfl ?_
    refine ab_icmp_ge (tgt := 47) d_W_keepChange_8 (by decide) (fun b7 => ?_) (fun b7 => ?_)
    · replace HF := HF.1 b7
      exact sa_ret rfl d_W_keepChange_47 HF
    · replace HF := HF.2 b7
      refine ab_aload_n 0 d_W_keepChange_11 rfl rfl ?_
      refine sa_getI kf_W_35 d_W_keepChange_12 sh_92 rfl ?_
      refine ab_bipush (v := nI 25) d_W_keepChange_15 (by decide) ?_
      refine ab_icmp_ge (tgt := 47) d_W_keepChange_17 (by decide) (fun b8 => ?_) (fun b8 => ?_)
      · replace HF := HF.1 b8
        exact sa_ret rfl d_W_keepChange_47 HF
      · replace HF := HF.2 b8
        refine ab_aload_n 0 d_W_keepChange_20 rfl rfl ?_
        refine sa_getR (r := 93) kf_W_13 d_W_keepChange_21 sh_92 rfl ?_
        refine ab_aload_n 0 d_W_keepChange_24 rfl rfl ?_
        refine sa_getI kf_W_35 d_W_keepChange_25 sh_92 rfl ?_
        obtain ⟨c9, HF⟩ := HF
        refine sa_aald (ty := .object "LinePatcher$Range") d_W_keepChange_28 sh_93 rfl rfl c9 ?_
        refine ab_iload_n 1 d_W_keepChange_29 rfl rfl ?_
        refine ab_iload_n 2 d_W_keepChange_30 rfl rfl ?_
        refine ab_iload_n 3 d_W_keepChange_31 rfl rfl ?_
        refine ab_iload 4 d_W_keepChange_32 rfl ?_
        refine sa_callVv (As := [.int x1, .int x2, .int x3, .int x4]) (rest := []) kc_W_67 d_W_keepChange_34 (sr_93 _ (vp_lt c9)) rfl rfl rfl (Nat.le_of_ble_eq_true rfl) enV (Nat.le_of_ble_eq_true rfl) ⟨Nat.zero_le _, Nat.zero_le _⟩ HF (fun S10 HF => ?_)
        refine ab_aload_n 0 d_W_keepChange_37 rfl rfl ?_
        refine ab_dup d_W_keepChange_38 rfl ?_
        refine sa_getI kf_W_35 d_W_keepChange_39 sh_92 rfl ?_
        refine ab_iconst (v := (1 : Int32)) d_W_keepChange_42 (by decide) ?_
        refine ab_iadd d_W_keepChange_43 ?_
        refine sa_putIn kp_W_35 d_W_keepChange_44 sh_92 rfl (fun S12 hS12 => ?_)
        replace HF := HF S12 hS12
        exact sa_ret rfl d_W_keepChange_47 HF
set_option maxRecDepth 100000 in
theorem f_W_matchedBefore {g : lp_G} {d : Nat} {Q : Int32 → SS → Prop} {S : SS} {x1 : Int32}
    (HF : (vp_in x1 25) ∧ ((x1 ≤ 0 → Q ((S.1 (94 + 1 * x1.toNatClampNeg) 0) - (0 : Int32)) S) ∧ (¬ x1 ≤ 0 → (vp_in (x1 - (1 : Int32)) 25) ∧ (Q ((S.1 (94 + 1 * x1.toNatClampNeg) 0) - (S.1 (94 + 1 * (x1 - (1 : Int32)).toNatClampNeg) 1)) S)))) : MtI g um_W_matchedBefore d [.ref (g.2.1 + 92), .int x1] S Q := by
  refine sa_entryI (lv' := [(0, .ref (g.2.1 + 92)), (1, .int x1)]) (by decide +kernel) (Nat.le_of_ble_eq_true rfl) rfl ?_
  refine ab_aload_n 0 d_W_matchedBefore_0 rfl rfl ?_
  refine sa_getR (r := 93) kf_W_13 d_W_matchedBefore_1 sh_92 rfl ?_
  refine ab_iload_n 1 d_W_matchedBefore_4 rfl rfl ?_
  obtain ⟨c1, HF⟩ := HF
  refine sa_aald (ty := .object "LinePatcher$Range") d_W_matchedBefore_5 sh_93 rfl rfl c1 ?_
  refine sa_getI kf_W_70 d_W_matchedBefore_6 (sr_93 _ (vp_lt c1)) rfl ?_
  refine ab_iload_n 1 d_W_matchedBefore_9 rfl rfl ?_
  refine ab_if_le (tgt := 27) d_W_matchedBefore_10 (by decide) (fun b2 => ?_) (fun b2 => ?_)
  · replace HF := HF.1 b2
    refine ab_iconst (v := (0 : Int32)) d_W_matchedBefore_27 (by decide) ?_
    refine ab_isub d_W_matchedBefore_28 ?_
    exact sa_iretI rfl d_W_matchedBefore_29 HF
  · replace HF := HF.2 b2
    refine ab_aload_n 0 d_W_matchedBefore_13 rfl rfl ?_
    refine sa_getR (r := 93) kf_W_13 d_W_matchedBefore_14 sh_92 rfl ?_
    refine ab_iload_n 1 d_W_matchedBefore_17 rfl rfl ?_
    refine ab_iconst (v := (1 : Int32)) d_W_matchedBefore_18 (by decide) ?_
    refine ab_isub d_W_matchedBefore_19 ?_
    obtain ⟨c3, HF⟩ := HF
    refine sa_aald (ty := .object "LinePatcher$Range") d_W_matchedBefore_20 sh_93 rfl rfl c3 ?_
    refine sa_getI kf_W_72 d_W_matchedBefore_21 (sr_93 _ (vp_lt c3)) rfl ?_
    refine ab_goto (tgt := 28) d_W_matchedBefore_24 (by decide) ?_
    refine ab_isub d_W_matchedBefore_28 ?_
    exact sa_iretI rfl d_W_matchedBefore_29 HF
set_option maxRecDepth 100000 in
theorem f_W_matchedBehind {g : lp_G} {d : Nat} {Q : Int32 → SS → Prop} {S : SS} {x1 : Int32}
    (HF : (¬ x1 = (S.1 92 3) - (1 : Int32) → (vp_in (x1 + (1 : Int32)) 25) ∧ ((vp_in x1 25) ∧ (Q ((S.1 (94 + 1 * (x1 + (1 : Int32)).toNatClampNeg) 0) - (S.1 (94 + 1 * x1.toNatClampNeg) 1)) S))) ∧ (x1 = (S.1 92 3) - (1 : Int32) → (vp_in x1 25) ∧ (Q ((S.1 3 1) - (S.1 (94 + 1 * x1.toNatClampNeg) 1)) S))) : MtI g um_W_matchedBehind d [.ref (g.2.1 + 92), .int x1] S Q := by
  refine sa_entryI (lv' := [(0, .ref (g.2.1 + 92)), (1, .int x1)]) (by decide +kernel) (Nat.le_of_ble_eq_true rfl) rfl ?_
  refine ab_iload_n 1 d_W_matchedBehind_0 rfl rfl ?_
  refine ab_aload_n 0 d_W_matchedBehind_1 rfl rfl ?_
  refine sa_getI kf_W_35 d_W_matchedBehind_2 sh_92 rfl ?_
  refine ab_iconst (v := (1 : Int32)) d_W_matchedBehind_5 (by decide) ?_
  refine ab_isub d_W_matchedBehind_6 ?_
  refine ab_icmp_ne (tgt := 14) d_W_matchedBehind_7 (by decide) (fun b1 => ?_) (fun b1 => ?_)
  · replace HF := HF.1 b1
    refine ab_iconst (v := (0 : Int32)) d_W_matchedBehind_14 (by decide) ?_
    refine ab_istore_n (lv' := [(2, .int (0 : Int32)), (0, .ref (g.2.1 + 92)), (1, .int x1)]) d_W_matchedBehind_15 rfl (Nat.le_of_ble_eq_true rfl) rfl ?_
    refine ab_iload_n 0 d_W_matchedBehind_16 rfl rfl ?_
    refine ab_if_eq (tgt := 33) d_W_matchedBehind_17 (by decide) (fun _ => ?_) (fun h => absurd h (by decide))
    refine ab_aload_n 1 d_W_matchedBehind_33 rfl rfl ?_
    refine sa_getR (r := 93) kf_W_13 d_W_matchedBehind_34 sh_92 rfl ?_
    refine ab_iload_n 2 d_W_matchedBehind_37 rfl rfl ?_
    refine ab_iconst (v := (1 : Int32)) d_W_matchedBehind_38 (by decide) ?_
    refine ab_iadd d_W_matchedBehind_39 ?_
    obtain ⟨c2, HF⟩ := HF
    refine sa_aald (ty := .object "LinePatcher$Range") d_W_matchedBehind_40 sh_93 rfl rfl c2 ?_
    refine sa_getI kf_W_70 d_W_matchedBehind_41 (sr_93 _ (vp_lt c2)) rfl ?_
    refine ab_istore_n (lv' := [(3, .int (S.1 (94 + 1 * (x1 + (1 : Int32)).toNatClampNeg) 0)), (2, .int (0 : Int32)), (0, .ref (g.2.1 + 92)), (1, .int x1)]) d_W_matchedBehind_44 rfl (Nat.le_of_ble_eq_true rfl) rfl ?_
    refine ab_iload_n 0 d_W_matchedBehind_45 rfl rfl ?_
    refine ab_aload_n 2 d_W_matchedBehind_46 rfl rfl ?_
    refine sa_getR (r := 93) kf_W_13 d_W_matchedBehind_47 sh_92 rfl ?_
    refine ab_iload_n 3 d_W_matchedBehind_50 rfl rfl ?_
    obtain ⟨c3, HF⟩ := HF
    refine sa_aald (ty := .object "LinePatcher$Range") d_W_matchedBehind_51 sh_93 rfl rfl c3 ?_
    refine sa_getI kf_W_72 d_W_matchedBehind_52 (sr_93 _ (vp_lt c3)) rfl ?_
    refine ab_isub d_W_matchedBehind_55 ?_
    exact sa_iretI rfl d_W_matchedBehind_56 HF
  · replace HF := HF.2 b1
    refine ab_iconst (v := (1 : Int32)) d_W_matchedBehind_10 (by decide) ?_
    refine ab_goto (tgt := 15) d_W_matchedBehind_11 (by decide) ?_
    refine ab_istore_n (lv' := [(2, .int (1 : Int32)), (0, .ref (g.2.1 + 92)), (1, .int x1)]) d_W_matchedBehind_15 rfl (Nat.le_of_ble_eq_true rfl) rfl ?_
    refine ab_iload_n 0 d_W_matchedBehind_16 rfl rfl ?_
    refine ab_if_eq (tgt := 33) d_W_matchedBehind_17 (by decide) (fun h => absurd h (by decide)) (fun _ => ?_)
    refine ab_aload_n 1 d_W_matchedBehind_20 rfl rfl ?_
    refine sa_getR (r := 2) kf_W_17 d_W_matchedBehind_21 sh_92 rfl ?_
    refine sa_getR (r := 3) kf_W_46 d_W_matchedBehind_24 sh_2 rfl ?_
    refine sa_getI kf_W_52 d_W_matchedBehind_27 sh_3 rfl ?_
    refine ab_goto (tgt := 44) d_W_matchedBehind_30 (by decide) ?_
    refine ab_istore_n (lv' := [(3, .int (S.1 3 1)), (2, .int (1 : Int32)), (0, .ref (g.2.1 + 92)), (1, .int x1)]) d_W_matchedBehind_44 rfl (Nat.le_of_ble_eq_true rfl) rfl ?_
    refine ab_iload_n 0 d_W_matchedBehind_45 rfl rfl ?_
    refine ab_aload_n 2 d_W_matchedBehind_46 rfl rfl ?_
    refine sa_getR (r := 93) kf_W_13 d_W_matchedBehind_47 sh_92 rfl ?_
    refine ab_iload_n 3 d_W_matchedBehind_50 rfl rfl ?_
    obtain ⟨c4, HF⟩ := HF
    refine sa_aald (ty := .object "LinePatcher$Range") d_W_matchedBehind_51 sh_93 rfl rfl c4 ?_
    refine sa_getI kf_W_72 d_W_matchedBehind_52 (sr_93 _ (vp_lt c4)) rfl ?_
    refine ab_isub d_W_matchedBehind_55 ?_
    exact sa_iretI rfl d_W_matchedBehind_56 HF
set_option maxRecDepth 100000 in
theorem f_W_writeHunk {g : lp_G} {d : Nat} {Q : SS → Prop} {S : SS} {x1 : Int32} {x2 : Int32} {x3 : Int32}
    (HF : MtI g um_W_matchedBefore d [.ref (g.2.1 + 92), .int x1] S (fun r2 S1 => MtI g um_W_matchedBehind d [.ref (g.2.1 + 92), .int x2] S1 (fun r4 S3 => (vp_in x1 25) ∧ ((vp_in x1 25) ∧ ((vp_in x2 25) ∧ ((vp_in x2 25) ∧ (MtV g um_W_writeHead d [.ref (g.2.1 + 92), .int ((S3.1 (94 + 1 * x1.toNatClampNeg) 0) - (if r2 < x3 then r2 else x3)), .int (((S3.1 (94 + 1 * x2.toNatClampNeg) 1) + (if r4 < x3 then r4 else x3)) - ((S3.1 (94 + 1 * x1.toNatClampNeg) 0) - (if r2 < x3 then r2 else x3))), .int ((S3.1 (94 + 1 * x1.toNatClampNeg) 2) - (if r2 < x3 then r2 else x3)), .int (((S3.1 (94 + 1 * x2.toNatClampNeg) 3) + (if r4 < x3 then r4 else x3)) - ((S3.1 (94 + 1 * x1.toNatClampNeg) 2) - (if r2 < x3 then r2 else x3)))] S3 (fun S9 => (vp_in x1 25) ∧ (MtV g um_W_writeLines d [.ref (g.2.1 + 92), .int (nI 32), .ref (g.2.1 + 3), .int ((S3.1 (94 + 1 * x1.toNatClampNeg) 0) - (if r2 < x3 then r2 else x3)), .int (S9.1 (94 + 1 * x1.toNatClampNeg) 0)] S9 (fun S12 => AtV g um_W_writeHunk (d + 1) Q 115 [(0, .ref (g.2.1 + 92)), (2, .int x2), (5, .int (if r4 < x3 then r4 else x3)), (8, .int x1)] [] S12)))))))))) : MtV g um_W_writeHunk (d + 1) [.ref (g.2.1 + 92), .int x1, .int x2, .int x3] S Q := by
  refine sa_entryV (lv' := [(0, .ref (g.2.1 + 92)), (1, .int x1), (2, .int x2), (3, .int x3)]) (by decide +kernel) (Nat.le_of_ble_eq_true rfl) rfl ?_
  refine ab_iload_n 3 d_W_writeHunk_0 rfl rfl ?_
  refine ab_aload_n 0 d_W_writeHunk_1 rfl rfl ?_
  refine ab_iload_n 1 d_W_writeHunk_2 rfl rfl ?_
  refine sa_callVi (As := [.int x1]) (rest := [.int x3]) kc_W_75 d_W_writeHunk_3 sh_92 rfl rfl rfl (Nat.le_of_ble_eq_true rfl) enV (Nat.le_of_ble_eq_true rfl) ⟨Nat.zero_le _, Nat.zero_le _⟩ HF (fun r2 S1 HF => ?_)
  refine sa_mmin km_W_78 d_W_writeHunk_6 enV (Nat.le_of_ble_eq_true rfl) ⟨Nat.zero_le _, Nat.zero_le _⟩ ?_
  refine ab_istore (lv' := [(4, .int (if r2 < x3 then r2 else x3)), (0, .ref (g.2.1 + 92)), (1, .int x1), (2, .int x2), (3, .int x3)]) d_W_writeHunk_9 (Nat.le_of_ble_eq_true rfl) rfl ?_
  refine ab_iload_n 4 d_W_writeHunk_11 rfl rfl ?_
  refine ab_aload_n 1 d_W_writeHunk_12 rfl rfl ?_
  refine ab_iload_n 3 d_W_writeHunk_13 rfl rfl ?_
  refine sa_callVi (As := [.int x2]) (rest := [.int x3]) kc_W_38 d_W_writeHunk_14 sh_92 rfl rfl rfl (Nat.le_of_ble_eq_true rfl) enV (Nat.le_of_ble_eq_true rfl) ⟨Nat.zero_le _, Nat.zero_le _⟩ HF (fun r4 S3 HF => ?_)
  refine sa_mmin km_W_78 d_W_writeHunk_17 enV (Nat.le_of_ble_eq_true rfl) ⟨Nat.zero_le _, Nat.zero_le _⟩ ?_
  refine ab_istore (lv' := [(5, .int (if r4 < x3 then r4 else x3)), (4, .int (if r2 < x3 then r2 else x3)), (0, .ref (g.2.1 + 92)), (1, .int x1), (2, .int x2), (3, .int x3)]) d_W_writeHunk_20 (Nat.le_of_ble_eq_true rfl) rfl ?_
  refine ab_aload_n 2 d_W_writeHunk_22 rfl rfl ?_
  refine sa_getR (r := 93) kf_W_13 d_W_writeHunk_23 sh_92 rfl ?_
  refine ab_iload_n 3 d_W_writeHunk_26 rfl rfl ?_
  obtain ⟨c5, HF⟩ := HF
  refine sa_aald (ty := .object "LinePatcher$Range") d_W_writeHunk_27 sh_93 rfl rfl c5 ?_
  refine sa_getI kf_W_70 d_W_writeHunk_28 (sr_93 _ (vp_lt c5)) rfl ?_
  refine ab_iload 1 d_W_writeHunk_31 rfl ?_
  refine ab_isub d_W_writeHunk_33 ?_
  refine ab_istore (lv' := [(6, .int ((S3.1 (94 + 1 * x1.toNatClampNeg) 0) - (if r2 < x3 then r2 else x3))), (5, .int (if r4 < x3 then r4 else x3)), (4, .int (if r2 < x3 then r2 else x3)), (0, .ref (g.2.1 + 92)), (1, .int x1), (2, .int x2), (3, .int x3)]) d_W_writeHunk_34 (Nat.le_of_ble_eq_true rfl) rfl ?_
  refine ab_aload_n 3 d_W_writeHunk_36 rfl rfl ?_
  refine sa_getR (r := 93) kf_W_13 d_W_writeHunk_37 sh_92 rfl ?_
  refine ab_iload_n 4 d_W_writeHunk_40 rfl rfl ?_
  obtain ⟨c6, HF⟩ := HF
  refine sa_aald (ty := .object "LinePatcher$Range") d_W_writeHunk_41 sh_93 rfl rfl c6 ?_
  refine sa_getI kf_W_84 d_W_writeHunk_42 (sr_93 _ (vp_lt c6)) rfl ?_
  refine ab_iload 2 d_W_writeHunk_45 rfl ?_
  refine ab_isub d_W_writeHunk_47 ?_
  refine ab_istore (lv' := [(7, .int ((S3.1 (94 + 1 * x1.toNatClampNeg) 2) - (if r2 < x3 then r2 else x3))), (6, .int ((S3.1 (94 + 1 * x1.toNatClampNeg) 0) - (if r2 < x3 then r2 else x3))), (5, .int (if r4 < x3 then r4 else x3)), (4, .int (if r2 < x3 then r2 else x3)), (0, .ref (g.2.1 + 92)), (1, .int x1), (2, .int x2), (3, .int x3)]) d_W_writeHunk_48 (Nat.le_of_ble_eq_true rfl) rfl ?_
  refine ab_aload_n 4 d_W_writeHunk_50 rfl rfl ?_
  refine ab_iload 1 d_W_writeHunk_51 rfl ?_
  refine ab_aload_n 4 d_W_writeHunk_53 rfl rfl ?_
  refine sa_getR (r := 93) kf_W_13 d_W_writeHunk_54 sh_92 rfl ?_
  refine ab_iload_n 6 d_W_writeHunk_57 rfl rfl ?_
  obtain ⟨c7, HF⟩ := HF
  refine sa_aald (ty := .object "LinePatcher$Range") d_W_writeHunk_58 sh_93 rfl rfl c7 ?_
  refine sa_getI kf_W_72 d_W_writeHunk_59 (sr_93 _ (vp_lt c7)) rfl ?_
  refine ab_iload 2 d_W_writeHunk_62 rfl ?_
  refine ab_iadd d_W_writeHunk_64 ?_
  refine ab_iload 1 d_W_writeHunk_65 rfl ?_
  refine ab_isub d_W_writeHunk_67 ?_
  refine ab_iload 0 d_W_writeHunk_68 rfl ?_
  refine ab_aload_n 4 d_W_writeHunk_70 rfl rfl ?_
  refine sa_getR (r := 93) kf_W_13 d_W_writeHunk_71 sh_92 rfl ?_
  refine ab_iload_n 6 d_W_writeHunk_74 rfl rfl ?_
  obtain ⟨c8, HF⟩ := HF
  refine sa_aald (ty := .object "LinePatcher$Range") d_W_writeHunk_75 sh_93 rfl rfl c8 ?_
  refine sa_getI kf_W_86 d_W_writeHunk_76 (sr_93 _ (vp_lt c8)) rfl ?_
  refine ab_iload 2 d_W_writeHunk_79 rfl ?_
  refine ab_iadd d_W_writeHunk_81 ?_
  refine ab_iload 0 d_W_writeHunk_82 rfl ?_
  refine ab_isub d_W_writeHunk_84 ?_
  refine sa_callVv (As := [.int ((S3.1 (94 + 1 * x1.toNatClampNeg) 0) - (if r2 < x3 then r2 else x3)), .int (((S3.1 (94 + 1 * x2.toNatClampNeg) 1) + (if r4 < x3 then r4 else x3)) - ((S3.1 (94 + 1 * x1.toNatClampNeg) 0) - (if r2 < x3 then r2 else x3))), .int ((S3.1 (94 + 1 * x1.toNatClampNeg) 2) - (if r2 < x3 then r2 else x3)), .int (((S3.1 (94 + 1 * x2.toNatClampNeg) 3) + (if r4 < x3 then r4 else x3)) - ((S3.1 (94 + 1 * x1.toNatClampNeg) 2) - (if r2 < x3 then r2 else x3)))]) (rest := []) kc_W_89 d_W_writeHunk_85 sh_92 rfl rfl rfl (Nat.le_of_ble_eq_true rfl) enV (Nat.le_of_ble_eq_true rfl) ⟨Nat.zero_le _, Nat.zero_le _⟩ HF (fun S9 HF => ?_)
  refine ab_aload_n 4 d_W_writeHunk_88 rfl rfl ?_
  refine ab_bipush (v := nI 32) d_W_writeHunk_89 (by decide) ?_
  refine ab_aload_n 4 d_W_writeHunk_91 rfl rfl ?_
  refine sa_getR (r := 2) kf_W_17 d_W_writeHunk_92 sh_92 rfl ?_
  refine sa_getR (r := 3) kf_W_46 d_W_writeHunk_95 sh_2 rfl ?_
  refine ab_iload 1 d_W_writeHunk_98 rfl ?_
  refine ab_aload_n 4 d_W_writeHunk_100 rfl rfl ?_
  refine sa_getR (r := 93) kf_W_13 d_W_writeHunk_101 sh_92 rfl ?_
  refine ab_iload_n 5 d_W_writeHunk_104 rfl rfl ?_
  obtain ⟨c11, HF⟩ := HF
  refine sa_aald (ty := .object "LinePatcher$Range") d_W_writeHunk_105 sh_93 rfl rfl c11 ?_
  refine sa_getI kf_W_70 d_W_writeHunk_106 (sr_93 _ (vp_lt c11)) rfl ?_
  refine sa_callVv (As := [.int (nI 32), .ref (g.2.1 + 3), .int ((S3.1 (94 + 1 * x1.toNatClampNeg) 0) - (if r2 < x3 then r2 else x3)), .int (S9.1 (94 + 1 * x1.toNatClampNeg) 0)]) (rest := []) kc_W_92 d_W_writeHunk_109 sh_92 rfl rfl rfl (Nat.le_of_ble_eq_true rfl) enV (Nat.le_of_ble_eq_true rfl) ⟨Nat.zero_le _, Nat.zero_le _⟩ HF (fun S12 HF => ?_)
  refine ab_iload_n 5 d_W_writeHunk_112 rfl rfl ?_
  refine ab_istore (lv' := [(8, .int x1), (7, .int ((S3.1 (94 + 1 * x1.toNatClampNeg) 2) - (if r2 < x3 then r2 else x3))), (6, .int ((S3.1 (94 + 1 * x1.toNatClampNeg) 0) - (if r2 < x3 then r2 else x3))), (5, .int (if r4 < x3 then r4 else x3)), (4, .int (if r2 < x3 then r2 else x3)), (0, .ref (g.2.1 + 92)), (1, .int x1), (2, .int x2), (3, .int x3)]) d_W_writeHunk_113 (Nat.le_of_ble_eq_true rfl) rfl ?_
  refine ab_sub (lv' := [(0, .ref (g.2.1 + 92)), (2, .int x2), (5, .int (if r4 < x3 then r4 else x3)), (8, .int x1)]) [5, 7, 3, 0] rfl ?_
  exact HF
set_option maxRecDepth 100000 in
theorem f_W_writeHunk_115 {g : lp_G} {d : Nat} {Q : SS → Prop} {S : SS} {x2 : Int32} {x5 : Int32} {x8 : Int32}
    (HF : (x2 < x8 → Q S) ∧ (¬ x2 < x8 → (vp_in x8 25) ∧ (MtV g um_W_writeLines d [.ref (g.2.1 + 92), .int (nI 45), .ref (g.2.1 + 3), .int (S.1 (94 + 1 * x8.toNatClampNeg) 0), .int (S.1 (94 + 1 * x8.toNatClampNeg) 1)] S (fun S16 => MtV g um_W_writeLines d [.ref (g.2.1 + 92), .int (nI 43), .ref (g.2.1 + 5), .int (S16.1 (94 + 1 * x8.toNatClampNeg) 2), .int (S16.1 (94 + 1 * x8.toNatClampNeg) 3)] S16 (fun S18 => (¬ x8 = x2 → MtI g um_W_matchedBehind d [.ref (g.2.1 + 92), .int x8] S18 (fun r22 S21 => MtV g um_W_writeLines d [.ref (g.2.1 + 92), .int (nI 32), .ref (g.2.1 + 3), .int (S21.1 (94 + 1 * x8.toNatClampNeg) 1), .int ((S21.1 (94 + 1 * x8.toNatClampNeg) 1) + r22)] S21 (fun S23 => AtV g um_W_writeHunk (d + 1) Q 115 [(0, .ref (g.2.1 + 92)), (2, .int x2), (5, .int x5), (8, .int (x8 + 1))] [] S23))) ∧ (x8 = x2 → MtV g um_W_writeLines d [.ref (g.2.1 + 92), .int (nI 32), .ref (g.2.1 + 3), .int (S18.1 (94 + 1 * x8.toNatClampNeg) 1), .int ((S18.1 (94 + 1 * x8.toNatClampNeg) 1) + x5)] S18 (fun S25 => AtV g um_W_writeHunk (d + 1) Q 115 [(0, .ref (g.2.1 + 92)), (2, .int x2), (5, .int x5), (8, .int (x8 + 1))] [] S25))))))) : AtV g um_W_writeHunk (d + 1) Q 115 [(0, .ref (g.2.1 + 92)), (2, .int x2), (5, .int x5), (8, .int x8)] [] S := by
  refine ab_iload 3 d_W_writeHunk_115 rfl ?_
  refine ab_iload_n 1 d_W_writeHunk_117 rfl rfl ?_
  refine ab_icmp_gt (tgt := 227) d_W_writeHunk_118 (by decide) (fun b14 => ?_) (fun b14 => ?_)
  · replace HF := HF.1 b14
    exact sa_ret rfl d_W_writeHunk_227 HF
  · replace HF := HF.2 b14
    refine ab_aload_n 0 d_W_writeHunk_121 rfl rfl ?_
    refine sa_getR (r := 93) kf_W_13 d_W_writeHunk_122 sh_92 rfl ?_
    refine ab_iload 3 d_W_writeHunk_125 rfl ?_
    obtain ⟨c15, HF⟩ := HF
    refine sa_aald (ty := .object "LinePatcher$Range") d_W_writeHunk_127 sh_93 rfl rfl c15 ?_
    refine ab_astore (lv' := [(9, .ref (g.2.1 + (94 + 1 * x8.toNatClampNeg))), (0, .ref (g.2.1 + 92)), (2, .int x2), (5, .int x5), (8, .int x8)]) d_W_writeHunk_128 (Nat.le_of_ble_eq_true rfl) rfl ?_
    refine ab_aload_n 1 d_W_writeHunk_130 rfl rfl ?_
    refine ab_bipush (v := nI 45) d_W_writeHunk_131 (by decide) ?_
    refine ab_aload_n 1 d_W_writeHunk_133 rfl rfl ?_
    refine sa_getR (r := 2) kf_W_17 d_W_writeHunk_134 sh_92 rfl ?_
    refine sa_getR (r := 3) kf_W_46 d_W_writeHunk_137 sh_2 rfl ?_
    refine ab_aload 0 d_W_writeHunk_140 rfl ?_
    refine sa_getI kf_W_70 d_W_writeHunk_142 (sr_93 _ (vp_lt c15)) rfl ?_
    refine ab_aload 0 d_W_writeHunk_145 rfl ?_
    refine sa_getI kf_W_72 d_W_writeHunk_147 (sr_93 _ (vp_lt c15)) rfl ?_
    refine sa_callVv (As := [.int (nI 45), .ref (g.2.1 + 3), .int (S.1 (94 + 1 * x8.toNatClampNeg) 0), .int (S.1 (94 + 1 * x8.toNatClampNeg) 1)]) (rest := []) kc_W_92 d_W_writeHunk_150 sh_92 rfl rfl rfl (Nat.le_of_ble_eq_true rfl) enV (Nat.le_of_ble_eq_true rfl) ⟨Nat.zero_le _, Nat.zero_le _⟩ HF (fun S16 HF => ?_)
    refine ab_aload_n 1 d_W_writeHunk_153 rfl rfl ?_
    refine ab_bipush (v := nI 43) d_W_writeHunk_154 (by decide) ?_
    refine ab_aload_n 1 d_W_writeHunk_156 rfl rfl ?_
    refine sa_getR (r := 2) kf_W_17 d_W_writeHunk_157 sh_92 rfl ?_
    refine sa_getR (r := 5) kf_W_64 d_W_writeHunk_160 sh_2 rfl ?_
    refine ab_aload 0 d_W_writeHunk_163 rfl ?_
    refine sa_getI kf_W_84 d_W_writeHunk_165 (sr_93 _ (vp_lt c15)) rfl ?_
    refine ab_aload 0 d_W_writeHunk_168 rfl ?_
    refine sa_getI kf_W_86 d_W_writeHunk_170 (sr_93 _ (vp_lt c15)) rfl ?_
    refine sa_callVv (As := [.int (nI 43), .ref (g.2.1 + 5), .int (S16.1 (94 + 1 * x8.toNatClampNeg) 2), .int (S16.1 (94 + 1 * x8.toNatClampNeg) 3)]) (rest := []) kc_W_92 d_W_writeHunk_173 sh_92 rfl rfl rfl (Nat.le_of_ble_eq_true rfl) enV (Nat.le_of_ble_eq_true rfl) ⟨Nat.zero_le _, Nat.zero_le _⟩ HF (fun S18 HF => ?_)
    refine ab_iload 4 d_W_writeHunk_176 rfl ?_
    refine ab_iload_n 2 d_W_writeHunk_178 rfl rfl ?_
    refine ab_icmp_ne (tgt := 187) d_W_writeHunk_179 (by decide) (fun b20 => ?_) (fun b20 => ?_)
    · replace HF := HF.1 b20
      refine ab_aload_n 1 d_W_writeHunk_187 rfl rfl ?_
      refine ab_iload 4 d_W_writeHunk_188 rfl ?_
      refine sa_callVi (As := [.int x8]) (rest := []) kc_W_38 d_W_writeHunk_190 sh_92 rfl rfl rfl (Nat.le_of_ble_eq_true rfl) enV (Nat.le_of_ble_eq_true rfl) ⟨Nat.zero_le _, Nat.zero_le _⟩ HF (fun r22 S21 HF => ?_)
      refine ab_istore (lv' := [(10, .int r22), (9, .ref (g.2.1 + (94 + 1 * x8.toNatClampNeg))), (0, .ref (g.2.1 + 92)), (2, .int x2), (5, .int x5), (8, .int x8)]) d_W_writeHunk_193 (Nat.le_of_ble_eq_true rfl) rfl ?_
      refine ab_aload_n 2 d_W_writeHunk_195 rfl rfl ?_
      refine ab_bipush (v := nI 32) d_W_writeHunk_196 (by decide) ?_
      refine ab_aload_n 2 d_W_writeHunk_198 rfl rfl ?_
      refine sa_getR (r := 2) kf_W_17 d_W_writeHunk_199 sh_92 rfl ?_
      refine sa_getR (r := 3) kf_W_46 d_W_writeHunk_202 sh_2 rfl ?_
      refine ab_aload 1 d_W_writeHunk_205 rfl ?_
      refine sa_getI kf_W_72 d_W_writeHunk_207 (sr_93 _ (vp_lt c15)) rfl ?_
      refine ab_aload 1 d_W_writeHunk_210 rfl ?_
      refine sa_getI kf_W_72 d_W_writeHunk_212 (sr_93 _ (vp_lt c15)) rfl ?_
      refine ab_iload 0 d_W_writeHunk_215 rfl ?_
      refine ab_iadd d_W_writeHunk_217 ?_
      refine sa_callVv (As := [.int (nI 32), .ref (g.2.1 + 3), .int (S21.1 (94 + 1 * x8.toNatClampNeg) 1), .int ((S21.1 (94 + 1 * x8.toNatClampNeg) 1) + r22)]) (rest := []) kc_W_92 d_W_writeHunk_218 sh_92 rfl rfl rfl (Nat.le_of_ble_eq_true rfl) enV (Nat.le_of_ble_eq_true rfl) ⟨Nat.zero_le _, Nat.zero_le _⟩ HF (fun S23 HF => ?_)
      refine ab_iinc (v := x8 + 1) (lv' := [(8, .int (x8 + 1)), (10, .int r22), (9, .ref (g.2.1 + (94 + 1 * x8.toNatClampNeg))), (0, .ref (g.2.1 + 92)), (2, .int x2), (5, .int x5)]) 5 d_W_writeHunk_221 rfl (congrArg (fun z => x8 + z) (show Int32.ofInt 1 = (1 : Int32) by decide)) (Nat.le_of_ble_eq_true rfl) rfl ?_
      refine ab_goto (tgt := 115) d_W_writeHunk_224 (by decide) ?_
      refine ab_sub (lv' := [(0, .ref (g.2.1 + 92)), (2, .int x2), (5, .int x5), (8, .int (x8 + 1))]) [3, 4, 5, 0] rfl ?_
      exact HF
    · replace HF := HF.2 b20
      refine ab_iload 3 d_W_writeHunk_182 rfl ?_
      refine ab_goto (tgt := 193) d_W_writeHunk_184 (by decide) ?_
      refine ab_istore (lv' := [(10, .int x5), (9, .ref (g.2.1 + (94 + 1 * x8.toNatClampNeg))), (0, .ref (g.2.1 + 92)), (2, .int x2), (5, .int x5), (8, .int x8)]) d_W_writeHunk_193 (Nat.le_of_ble_eq_true rfl) rfl ?_
      refine ab_aload_n 2 d_W_writeHunk_195 rfl rfl ?_
      refine ab_bipush (v := nI 32) d_W_writeHunk_196 (by decide) ?_
      refine ab_aload_n 2 d_W_writeHunk_198 rfl rfl ?_
      refine sa_getR (r := 2) kf_W_17 d_W_writeHunk_199 sh_92 rfl ?_
      refine sa_getR (r := 3) kf_W_46 d_W_writeHunk_202 sh_2 rfl ?_
      refine ab_aload 1 d_W_writeHunk_205 rfl ?_
      refine sa_getI kf_W_72 d_W_writeHunk_207 (sr_93 _ (vp_lt c15)) rfl ?_
      refine ab_aload 1 d_W_writeHunk_210 rfl ?_
      refine sa_getI kf_W_72 d_W_writeHunk_212 (sr_93 _ (vp_lt c15)) rfl ?_
      refine ab_iload 0 d_W_writeHunk_215 rfl ?_
      refine ab_iadd d_W_writeHunk_217 ?_
      refine sa_callVv (As := [.int (nI 32), .ref (g.2.1 + 3), .int (S18.1 (94 + 1 * x8.toNatClampNeg) 1), .int ((S18.1 (94 + 1 * x8.toNatClampNeg) 1) + x5)]) (rest := []) kc_W_92 d_W_writeHunk_218 sh_92 rfl rfl rfl (Nat.le_of_ble_eq_true rfl) enV (Nat.le_of_ble_eq_true rfl) ⟨Nat.zero_le _, Nat.zero_le _⟩ HF (fun S25 HF => ?_)
      refine ab_iinc (v := x8 + 1) (lv' := [(8, .int (x8 + 1)), (10, .int x5), (9, .ref (g.2.1 + (94 + 1 * x8.toNatClampNeg))), (0, .ref (g.2.1 + 92)), (2, .int x2), (5, .int x5)]) 5 d_W_writeHunk_221 rfl (congrArg (fun z => x8 + z) (show Int32.ofInt 1 = (1 : Int32) by decide)) (Nat.le_of_ble_eq_true rfl) rfl ?_
      refine ab_goto (tgt := 115) d_W_writeHunk_224 (by decide) ?_
      refine ab_sub (lv' := [(0, .ref (g.2.1 + 92)), (2, .int x2), (5, .int x5), (8, .int (x8 + 1))]) [3, 4, 5, 0] rfl ?_
      exact HF
set_option maxRecDepth 100000 in
theorem f_W_writeHead {g : lp_G} {d : Nat} {Q : SS → Prop} {S : SS} {x1 : Int32} {x2 : Int32} {x3 : Int32} {x4 : Int32}
    (HF : MtV g um_A_append d [.ref (g.2.1 + 90), .int (nI 64)] S (fun S1 => MtV g um_A_appendNumber d [.ref (g.2.1 + 90), .int x1] S1 (fun S3 => MtV g um_A_append d [.ref (g.2.1 + 90), .int (nI 44)] S3 (fun S5 => MtV g um_A_appendNumber d [.ref (g.2.1 + 90), .int x2] S5 (fun S7 => MtV g um_A_append d [.ref (g.2.1 + 90), .int (nI 32)] S7 (fun S9 => MtV g um_A_appendNumber d [.ref (g.2.1 + 90), .int x3] S9 (fun S11 => MtV g um_A_append d [.ref (g.2.1 + 90), .int (nI 44)] S11 (fun S13 => MtV g um_A_appendNumber d [.ref (g.2.1 + 90), .int x4] S13 (fun S15 => MtV g um_A_append d [.ref (g.2.1 + 90), .int (nI 10)] S15 (fun S17 => Q S17)))))))))) : MtV g um_W_writeHead (d + 1) [.ref (g.2.1 + 92), .int x1, .int x2, .int x3, .int x4] S Q := by
  refine sa_entryV (lv' := [(0, .ref (g.2.1 + 92)), (1, .int x1), (2, .int x2), (3, .int x3), (4, .int x4)]) (by decide +kernel) (Nat.le_of_ble_eq_true rfl) rfl ?_
  refine ab_aload_n 0 d_W_writeHead_0 rfl rfl ?_
  refine sa_getR (r := 90) kf_W_21 d_W_writeHead_1 sh_92 rfl ?_
  refine ab_bipush (v := nI 64) d_W_writeHead_4 (by decide) ?_
  refine sa_callVv (As := [.int (nI 64)]) (rest := []) kc_W_96 d_W_writeHead_6 sh_90 rfl rfl rfl (Nat.le_of_ble_eq_true rfl) enV (Nat.le_of_ble_eq_true rfl) ⟨Nat.zero_le _, Nat.zero_le _⟩ HF (fun S1 HF => ?_)
  refine ab_aload_n 0 d_W_writeHead_9 rfl rfl ?_
  refine sa_getR (r := 90) kf_W_21 d_W_writeHead_10 sh_92 rfl ?_
  refine ab_iload_n 1 d_W_writeHead_13 rfl rfl ?_
  refine sa_callVv (As := [.int x1]) (rest := []) kc_W_100 d_W_writeHead_14 sh_90 rfl rfl rfl (Nat.le_of_ble_eq_true rfl) enV (Nat.le_of_ble_eq_true rfl) ⟨Nat.zero_le _, Nat.zero_le _⟩ HF (fun S3 HF => ?_)
  refine ab_aload_n 0 d_W_writeHead_17 rfl rfl ?_
  refine sa_getR (r := 90) kf_W_21 d_W_writeHead_18 sh_92 rfl ?_
  refine ab_bipush (v := nI 44) d_W_writeHead_21 (by decide) ?_
  refine sa_callVv (As := [.int (nI 44)]) (rest := []) kc_W_96 d_W_writeHead_23 sh_90 rfl rfl rfl (Nat.le_of_ble_eq_true rfl) enV (Nat.le_of_ble_eq_true rfl) ⟨Nat.zero_le _, Nat.zero_le _⟩ HF (fun S5 HF => ?_)
  refine ab_aload_n 0 d_W_writeHead_26 rfl rfl ?_
  refine sa_getR (r := 90) kf_W_21 d_W_writeHead_27 sh_92 rfl ?_
  refine ab_iload_n 2 d_W_writeHead_30 rfl rfl ?_
  refine sa_callVv (As := [.int x2]) (rest := []) kc_W_100 d_W_writeHead_31 sh_90 rfl rfl rfl (Nat.le_of_ble_eq_true rfl) enV (Nat.le_of_ble_eq_true rfl) ⟨Nat.zero_le _, Nat.zero_le _⟩ HF (fun S7 HF => ?_)
  refine ab_aload_n 0 d_W_writeHead_34 rfl rfl ?_
  refine sa_getR (r := 90) kf_W_21 d_W_writeHead_35 sh_92 rfl ?_
  refine ab_bipush (v := nI 32) d_W_writeHead_38 (by decide) ?_
  refine sa_callVv (As := [.int (nI 32)]) (rest := []) kc_W_96 d_W_writeHead_40 sh_90 rfl rfl rfl (Nat.le_of_ble_eq_true rfl) enV (Nat.le_of_ble_eq_true rfl) ⟨Nat.zero_le _, Nat.zero_le _⟩ HF (fun S9 HF => ?_)
  refine ab_aload_n 0 d_W_writeHead_43 rfl rfl ?_
  refine sa_getR (r := 90) kf_W_21 d_W_writeHead_44 sh_92 rfl ?_
  refine ab_iload_n 3 d_W_writeHead_47 rfl rfl ?_
  refine sa_callVv (As := [.int x3]) (rest := []) kc_W_100 d_W_writeHead_48 sh_90 rfl rfl rfl (Nat.le_of_ble_eq_true rfl) enV (Nat.le_of_ble_eq_true rfl) ⟨Nat.zero_le _, Nat.zero_le _⟩ HF (fun S11 HF => ?_)
  refine ab_aload_n 0 d_W_writeHead_51 rfl rfl ?_
  refine sa_getR (r := 90) kf_W_21 d_W_writeHead_52 sh_92 rfl ?_
  refine ab_bipush (v := nI 44) d_W_writeHead_55 (by decide) ?_
  refine sa_callVv (As := [.int (nI 44)]) (rest := []) kc_W_96 d_W_writeHead_57 sh_90 rfl rfl rfl (Nat.le_of_ble_eq_true rfl) enV (Nat.le_of_ble_eq_true rfl) ⟨Nat.zero_le _, Nat.zero_le _⟩ HF (fun S13 HF => ?_)
  refine ab_aload_n 0 d_W_writeHead_60 rfl rfl ?_
  refine sa_getR (r := 90) kf_W_21 d_W_writeHead_61 sh_92 rfl ?_
  refine ab_iload 4 d_W_writeHead_64 rfl ?_
  refine sa_callVv (As := [.int x4]) (rest := []) kc_W_100 d_W_writeHead_66 sh_90 rfl rfl rfl (Nat.le_of_ble_eq_true rfl) enV (Nat.le_of_ble_eq_true rfl) ⟨Nat.zero_le _, Nat.zero_le _⟩ HF (fun S15 HF => ?_)
  refine ab_aload_n 0 d_W_writeHead_69 rfl rfl ?_
  refine sa_getR (r := 90) kf_W_21 d_W_writeHead_70 sh_92 rfl ?_
  refine ab_bipush (v := nI 10) d_W_writeHead_73 (by decide) ?_
  refine sa_callVv (As := [.int (nI 10)]) (rest := []) kc_W_96 d_W_writeHead_75 sh_90 rfl rfl rfl (Nat.le_of_ble_eq_true rfl) enV (Nat.le_of_ble_eq_true rfl) ⟨Nat.zero_le _, Nat.zero_le _⟩ HF (fun S17 HF => ?_)
  exact sa_ret rfl d_W_writeHead_78 HF
set_option maxRecDepth 100000 in
theorem f_W_writeLines {g : lp_G} {d : Nat} {Q : SS → Prop} {S : SS} {x1 : Int32} {k2 : Nat} (hk2 : isT k2) {x3 : Int32} {x4 : Int32}
    (HF : AtV g um_W_writeLines (d + 1) Q 3 [(0, .ref (g.2.1 + 92)), (1, .int x1), (2, .ref (g.2.1 + k2)), (4, .int x4), (5, .int x3)] [] S) : MtV g um_W_writeLines (d + 1) [.ref (g.2.1 + 92), .int x1, .ref (g.2.1 + k2), .int x3, .int x4] S Q := by
  refine sa_entryV (lv' := [(0, .ref (g.2.1 + 92)), (1, .int x1), (2, .ref (g.2.1 + k2)), (3, .int x3), (4, .int x4)]) (by decide +kernel) (Nat.le_of_ble_eq_true rfl) rfl ?_
  refine ab_iload_n 3 d_W_writeLines_0 rfl rfl ?_
  refine ab_istore (lv' := [(5, .int x3), (0, .ref (g.2.1 + 92)), (1, .int x1), (2, .ref (g.2.1 + k2)), (3, .int x3), (4, .int x4)]) d_W_writeLines_1 (Nat.le_of_ble_eq_true rfl) rfl ?_
  refine ab_sub (lv' := [(0, .ref (g.2.1 + 92)), (1, .int x1), (2, .ref (g.2.1 + k2)), (4, .int x4), (5, .int x3)]) [1, 2, 3, 5, 0] rfl ?_
  exact HF
set_option maxRecDepth 100000 in
theorem f_W_writeLines_3 {g : lp_G} {d : Nat} {Q : SS → Prop} {S : SS} {x1 : Int32} {x4 : Int32} {x5 : Int32} {k2 : Nat} (hk2 : isT k2)
    (HF : (x4 ≤ x5 → Q S) ∧ (¬ x4 ≤ x5 → (vp_in x5 24) ∧ (MtV g um_A_appendLine d [.ref (g.2.1 + 90), .int x1, .int (S.2 (k2 + 1) x5.toNatClampNeg)] S (fun S3 => AtV g um_W_writeLines (d + 1) Q 3 [(0, .ref (g.2.1 + 92)), (1, .int x1), (2, .ref (g.2.1 + k2)), (4, .int x4), (5, .int (x5 + 1))] [] S3)))) : AtV g um_W_writeLines (d + 1) Q 3 [(0, .ref (g.2.1 + 92)), (1, .int x1), (2, .ref (g.2.1 + k2)), (4, .int x4), (5, .int x5)] [] S := by
  refine ab_iload 4 d_W_writeLines_3 rfl ?_
  refine ab_iload 3 d_W_writeLines_5 rfl ?_
  refine ab_icmp_ge (tgt := 31) d_W_writeLines_7 (by decide) (fun b1 => ?_) (fun b1 => ?_)
  · replace HF := HF.1 b1
    exact sa_ret rfl d_W_writeLines_31 HF
  · replace HF := HF.2 b1
    refine ab_aload_n 0 d_W_writeLines_10 rfl rfl ?_
    refine sa_getR (r := 90) kf_W_21 d_W_writeLines_11 sh_92 rfl ?_
    refine ab_iload_n 1 d_W_writeLines_14 rfl rfl ?_
    refine ab_aload_n 2 d_W_writeLines_15 rfl rfl ?_
    refine sa_getR (r := k2 + 1) kf_W_103 d_W_writeLines_16 hk2.1 rfl ?_
    refine ab_iload 4 d_W_writeLines_19 rfl ?_
    obtain ⟨c2, HF⟩ := HF
    refine sa_iald d_W_writeLines_21 hk2.2 c2 ?_
    refine sa_callVv (As := [.int x1, .int (S.2 (k2 + 1) x5.toNatClampNeg)]) (rest := []) kc_W_107 d_W_writeLines_22 sh_90 rfl rfl rfl (Nat.le_of_ble_eq_true rfl) enV (Nat.le_of_ble_eq_true rfl) ⟨Nat.zero_le _, Nat.zero_le _⟩ HF (fun S3 HF => ?_)
    refine ab_iinc (v := x5 + 1) (lv' := [(5, .int (x5 + 1)), (0, .ref (g.2.1 + 92)), (1, .int x1), (2, .ref (g.2.1 + k2)), (4, .int x4)]) 4 d_W_writeLines_25 rfl (congrArg (fun z => x5 + z) (show Int32.ofInt 1 = (1 : Int32) by decide)) (Nat.le_of_ble_eq_true rfl) rfl ?_
    refine ab_goto (tgt := 3) d_W_writeLines_28 (by decide) ?_
    refine ab_sub (lv' := [(0, .ref (g.2.1 + 92)), (1, .int x1), (2, .ref (g.2.1 + k2)), (4, .int x4), (5, .int (x5 + 1))]) [1, 2, 3, 4, 0] rfl ?_
    exact HF
set_option maxRecDepth 100000 in
theorem f_D_placeOfFailure {g : lp_G} {d : Nat} {Q : Int32 → SS → Prop} {S : SS} 
    (HF : MtV g um_D_goToBeginning d [.ref (g.2.1 + 119)] S (fun S1 => AtI g um_D_placeOfFailure (d + 1) Q 6 [(0, .ref (g.2.1 + 119)), (1, .int (0 : Int32))] [] S1)) : MtI g um_D_placeOfFailure (d + 1) [.ref (g.2.1 + 119)] S Q := by
  refine sa_entryI (lv' := [(0, .ref (g.2.1 + 119))]) (by decide +kernel) (Nat.le_of_ble_eq_true rfl) rfl ?_
  refine ab_aload_n 0 d_D_placeOfFailure_0 rfl rfl ?_
  refine sa_callVv (As := []) (rest := []) kc_D_22 d_D_placeOfFailure_1 sh_119 rfl rfl rfl (Nat.le_of_ble_eq_true rfl) enI (Nat.le_of_ble_eq_true rfl) ⟨Nat.zero_le _, Nat.zero_le _⟩ HF (fun S1 HF => ?_)
  refine ab_iconst (v := (0 : Int32)) d_D_placeOfFailure_4 (by decide) ?_
  refine ab_istore_n (lv' := [(1, .int (0 : Int32)), (0, .ref (g.2.1 + 119))]) d_D_placeOfFailure_5 rfl (Nat.le_of_ble_eq_true rfl) rfl ?_
  refine ab_sub (lv' := [(0, .ref (g.2.1 + 119)), (1, .int (0 : Int32))]) [1, 0] rfl ?_
  exact HF
set_option maxRecDepth 100000 in
theorem f_D_placeOfFailure_6 {g : lp_G} {d : Nat} {Q : Int32 → SS → Prop} {S : SS} {x1 : Int32}
    (HF : (nI 900 ≤ x1 → Q (-1 : Int32) S) ∧ (¬ nI 900 ≤ x1 → MtI g um_D_hasMore d [.ref (g.2.1 + 119)] S (fun r5 S4 => (r5 = 0 → Q (-1 : Int32) S4) ∧ (¬ r5 = 0 → MtI g um_D_takeHunk d [.ref (g.2.1 + 119)] S4 (fun r8 S7 => (¬ r8 = 0 → AtI g um_D_placeOfFailure (d + 1) Q 6 [(0, .ref (g.2.1 + 119)), (1, .int (x1 + 1))] [] S7) ∧ (r8 = 0 → Q (S7.1 119 1) S7)))))) : AtI g um_D_placeOfFailure (d + 1) Q 6 [(0, .ref (g.2.1 + 119)), (1, .int x1)] [] S := by
  refine ab_iload_n 1 d_D_placeOfFailure_6 rfl rfl ?_
  refine ab_sipush (v := nI 900) d_D_placeOfFailure_7 (by decide) ?_
  refine ab_icmp_ge (tgt := 38) d_D_placeOfFailure_10 (by decide) (fun b3 => ?_) (fun b3 => ?_)
  · replace HF := HF.1 b3
    refine ab_iconst (v := (-1 : Int32)) d_D_placeOfFailure_38 (by decide) ?_
    exact sa_iretI rfl d_D_placeOfFailure_39 HF
  · replace HF := HF.2 b3
    refine ab_aload_n 0 d_D_placeOfFailure_13 rfl rfl ?_
    refine sa_callVi (As := []) (rest := []) kc_D_25 d_D_placeOfFailure_14 sh_119 rfl rfl rfl (Nat.le_of_ble_eq_true rfl) enI (Nat.le_of_ble_eq_true rfl) ⟨Nat.zero_le _, Nat.zero_le _⟩ HF (fun r5 S4 HF => ?_)
    refine ab_if_eq (tgt := 38) d_D_placeOfFailure_17 (by decide) (fun b6 => ?_) (fun b6 => ?_)
    · replace HF := HF.1 b6
      refine ab_iconst (v := (-1 : Int32)) d_D_placeOfFailure_38 (by decide) ?_
      exact sa_iretI rfl d_D_placeOfFailure_39 HF
    · replace HF := HF.2 b6
      refine ab_aload_n 0 d_D_placeOfFailure_20 rfl rfl ?_
      refine sa_callVi (As := []) (rest := []) kc_D_29 d_D_placeOfFailure_21 sh_119 rfl rfl rfl (Nat.le_of_ble_eq_true rfl) enI (Nat.le_of_ble_eq_true rfl) ⟨Nat.zero_le _, Nat.zero_le _⟩ HF (fun r8 S7 HF => ?_)
      refine ab_if_ne (tgt := 32) d_D_placeOfFailure_24 (by decide) (fun b9 => ?_) (fun b9 => ?_)
      · replace HF := HF.1 b9
        refine ab_iinc (v := x1 + 1) (lv' := [(1, .int (x1 + 1)), (0, .ref (g.2.1 + 119))]) 1 d_D_placeOfFailure_32 rfl (congrArg (fun z => x1 + z) (show Int32.ofInt 1 = (1 : Int32) by decide)) (Nat.le_of_ble_eq_true rfl) rfl ?_
        refine ab_goto (tgt := 6) d_D_placeOfFailure_35 (by decide) ?_
        refine ab_sub (lv' := [(0, .ref (g.2.1 + 119)), (1, .int (x1 + 1))]) [1, 0] rfl ?_
        exact HF
      · replace HF := HF.2 b9
        refine ab_aload_n 0 d_D_placeOfFailure_27 rfl rfl ?_
        refine sa_getI kf_D_32 d_D_placeOfFailure_28 sh_119 rfl ?_
        exact sa_iretI rfl d_D_placeOfFailure_31 HF
set_option maxRecDepth 100000 in
theorem f_D_goToBeginning {g : lp_G} {d : Nat} {Q : SS → Prop} {S : SS} 
    (HF : ∀ S1 : SS, S1 = setI S 119 1 (0 : Int32) → Q S1) : MtV g um_D_goToBeginning d [.ref (g.2.1 + 119)] S Q := by
  refine sa_entryV (lv' := [(0, .ref (g.2.1 + 119))]) (by decide +kernel) (Nat.le_of_ble_eq_true rfl) rfl ?_
  refine ab_aload_n 0 d_D_goToBeginning_0 rfl rfl ?_
  refine ab_iconst (v := (0 : Int32)) d_D_goToBeginning_1 (by decide) ?_
  refine sa_putIn kp_D_32 d_D_goToBeginning_2 sh_119 rfl (fun S1 hS1 => ?_)
  replace HF := HF S1 hS1
  exact sa_ret rfl d_D_goToBeginning_5 HF
set_option maxRecDepth 100000 in
theorem f_D_hasMore {g : lp_G} {d : Nat} {Q : Int32 → SS → Prop} {S : SS} 
    (HF : (S.1 90 1 ≤ S.1 119 1 → Q (0 : Int32) S) ∧ (¬ S.1 90 1 ≤ S.1 119 1 → Q (1 : Int32) S)) : MtI g um_D_hasMore d [.ref (g.2.1 + 119)] S Q := by
  refine sa_entryI (lv' := [(0, .ref (g.2.1 + 119))]) (by decide +kernel) (Nat.le_of_ble_eq_true rfl) rfl ?_
  refine ab_aload_n 0 d_D_hasMore_0 rfl rfl ?_
  refine sa_getI kf_D_32 d_D_hasMore_1 sh_119 rfl ?_
  refine ab_aload_n 0 d_D_hasMore_4 rfl rfl ?_
  refine sa_getR (r := 90) kf_D_18 d_D_hasMore_5 sh_119 rfl ?_
  refine sa_getI kf_D_36 d_D_hasMore_8 sh_90 rfl ?_
  refine ab_icmp_ge (tgt := 18) d_D_hasMore_11 (by decide) (fun b1 => ?_) (fun b1 => ?_)
  · replace HF := HF.1 b1
    refine ab_iconst (v := (0 : Int32)) d_D_hasMore_18 (by decide) ?_
    exact sa_iretZ rfl isB_0.1 d_D_hasMore_19 HF
  · replace HF := HF.2 b1
    refine ab_iconst (v := (1 : Int32)) d_D_hasMore_14 (by decide) ?_
    refine ab_goto (tgt := 19) d_D_hasMore_15 (by decide) ?_
    exact sa_iretZ rfl isB_1.1 d_D_hasMore_19 HF
set_option maxRecDepth 100000 in
theorem f_D_takeHunk {g : lp_G} {d : Nat} {Q : Int32 → SS → Prop} {S : SS} 
    (HF : MtI g um_D_takeHead d [.ref (g.2.1 + 119)] S (fun r2 S1 => (r2 = 0 → Q (0 : Int32) S1) ∧ (¬ r2 = 0 → MtI g um_D_takeLines d [.ref (g.2.1 + 119)] S1 (fun r5 S4 => (r5 = 0 → Q (0 : Int32) S4) ∧ (¬ r5 = 0 → Q (1 : Int32) S4))))) : MtI g um_D_takeHunk (d + 1) [.ref (g.2.1 + 119)] S Q := by
  refine sa_entryI (lv' := [(0, .ref (g.2.1 + 119))]) (by decide +kernel) (Nat.le_of_ble_eq_true rfl) rfl ?_
  refine ab_aload_n 0 d_D_takeHunk_0 rfl rfl ?_
  refine sa_callVi (As := []) (rest := []) kc_D_41 d_D_takeHunk_1 sh_119 rfl rfl rfl (Nat.le_of_ble_eq_true rfl) enI (Nat.le_of_ble_eq_true rfl) ⟨Nat.zero_le _, Nat.zero_le _⟩ HF (fun r2 S1 HF => ?_)
  refine ab_if_eq (tgt := 18) d_D_takeHunk_4 (by decide) (fun b3 => ?_) (fun b3 => ?_)
  · replace HF := HF.1 b3
    refine ab_iconst (v := (0 : Int32)) d_D_takeHunk_18 (by decide) ?_
    exact sa_iretZ rfl isB_0.1 d_D_takeHunk_19 HF
  · replace HF := HF.2 b3
    refine ab_aload_n 0 d_D_takeHunk_7 rfl rfl ?_
    refine sa_callVi (As := []) (rest := []) kc_D_44 d_D_takeHunk_8 sh_119 rfl rfl rfl (Nat.le_of_ble_eq_true rfl) enI (Nat.le_of_ble_eq_true rfl) ⟨Nat.zero_le _, Nat.zero_le _⟩ HF (fun r5 S4 HF => ?_)
    refine ab_if_eq (tgt := 18) d_D_takeHunk_11 (by decide) (fun b6 => ?_) (fun b6 => ?_)
    · replace HF := HF.1 b6
      refine ab_iconst (v := (0 : Int32)) d_D_takeHunk_18 (by decide) ?_
      exact sa_iretZ rfl isB_0.1 d_D_takeHunk_19 HF
    · replace HF := HF.2 b6
      refine ab_iconst (v := (1 : Int32)) d_D_takeHunk_14 (by decide) ?_
      refine ab_goto (tgt := 19) d_D_takeHunk_15 (by decide) ?_
      exact sa_iretZ rfl isB_1.1 d_D_takeHunk_19 HF
set_option maxRecDepth 100000 in
theorem f_D_takeHead {g : lp_G} {d : Nat} {Q : Int32 → SS → Prop} {S : SS} 
    (HF : MtI g um_D_takeSign d [.ref (g.2.1 + 119), .int (nI 64)] S (fun r2 S1 => (¬ r2 = 0 → MtI g um_D_takeNumber d [.ref (g.2.1 + 119)] S1 (fun r5 S4 => ∀ S6 : SS, S6 = setI S4 119 2 r5 → (S6.1 119 2 = (-1 : Int32) → Q (0 : Int32) S6) ∧ (¬ S6.1 119 2 = (-1 : Int32) → MtI g um_D_takeSign d [.ref (g.2.1 + 119), .int (nI 44)] S6 (fun r9 S8 => (¬ r9 = 0 → MtI g um_D_takeNumber d [.ref (g.2.1 + 119)] S8 (fun r12 S11 => ∀ S13 : SS, S13 = setI S11 119 3 r12 → (S13.1 119 3 = (-1 : Int32) → Q (0 : Int32) S13) ∧ (¬ S13.1 119 3 = (-1 : Int32) → MtI g um_D_takeSign d [.ref (g.2.1 + 119), .int (nI 32)] S13 (fun r16 S15 => (¬ r16 = 0 → MtI g um_D_takeNumber d [.ref (g.2.1 + 119)] S15 (fun r19 S18 => (r19 = (-1 : Int32) → Q (0 : Int32) S18) ∧ (¬ r19 = (-1 : Int32) → MtI g um_D_takeSign d [.ref (g.2.1 + 119), .int (nI 44)] S18 (fun r22 S21 => (¬ r22 = 0 → MtI g um_D_takeNumber d [.ref (g.2.1 + 119)] S21 (fun r25 S24 => ∀ S26 : SS, S26 = setI S24 119 4 r25 → (¬ S26.1 119 4 = (-1 : Int32) → ((S26.1 119 3) + (S26.1 119 4) ≤ 0 → Q (0 : Int32) S26) ∧ (¬ (S26.1 119 3) + (S26.1 119 4) ≤ 0 → MtI g um_D_takeSign d [.ref (g.2.1 + 119), .int (nI 10)] S26 (fun r30 S29 => (r30 = 0 → Q (0 : Int32) S29) ∧ (¬ r30 = 0 → Q (1 : Int32) S29)))) ∧ (S26.1 119 4 = (-1 : Int32) → Q (0 : Int32) S26))) ∧ (r22 = 0 → Q (0 : Int32) S21))))) ∧ (r16 = 0 → Q (0 : Int32) S15))))) ∧ (r9 = 0 → Q (0 : Int32) S8))))) ∧ (r2 = 0 → Q (0 : Int32) S1))) : MtI g um_D_takeHead (d + 1) [.ref (g.2.1 + 119)] S Q := by
  refine sa_entryI (lv' := [(0, .ref (g.2.1 + 119))]) (by decide +kernel) (Nat.le_of_ble_eq_true rfl) rfl ?_
  refine ab_aload_n 0 d_D_takeHead_0 rfl rfl ?_
  refine ab_bipush (v := nI 64) d_D_takeHead_1 (by decide) ?_
  refine sa_callVi (As := [.int (nI 64)]) (rest := []) kc_D_47 d_D_takeHead_3 sh_119 rfl rfl rfl (Nat.le_of_ble_eq_true rfl) enI (Nat.le_of_ble_eq_true rfl) ⟨Nat.zero_le _, Nat.zero_le _⟩ HF (fun r2 S1 HF => ?_)
  refine ab_if_ne (tgt := 11) d_D_takeHead_6 (by decide) (fun b3 => ?_) (fun b3 => ?_)
  · replace HF := HF.1 b3
    refine ab_aload_n 0 d_D_takeHead_11 rfl rfl ?_
    refine ab_aload_n 0 d_D_takeHead_12 rfl rfl ?_
    refine sa_callVi (As := []) (rest := [.ref (g.2.1 + 119)]) kc_D_51 d_D_takeHead_13 sh_119 rfl rfl rfl (Nat.le_of_ble_eq_true rfl) enI (Nat.le_of_ble_eq_true rfl) ⟨Nat.zero_le _, Nat.zero_le _⟩ HF (fun r5 S4 HF => ?_)
    refine sa_putIn kp_D_55 d_D_takeHead_16 sh_119 rfl (fun S6 hS6 => ?_)
    replace HF := HF S6 hS6
    refine ab_aload_n 0 d_D_takeHead_19 rfl rfl ?_
    refine sa_getI kf_D_55 d_D_takeHead_20 sh_119 rfl ?_
    refine ab_iconst (v := (-1 : Int32)) d_D_takeHead_23 (by decide) ?_
    refine ab_icmp_eq (tgt := 36) d_D_takeHead_24 (by decide) (fun b7 => ?_) (fun b7 => ?_)
    · replace HF := HF.1 b7
      refine ab_iconst (v := (0 : Int32)) d_D_takeHead_36 (by decide) ?_
      exact sa_iretZ rfl isB_0.1 d_D_takeHead_37 HF
    · replace HF := HF.2 b7
      refine ab_aload_n 0 d_D_takeHead_27 rfl rfl ?_
      refine ab_bipush (v := nI 44) d_D_takeHead_28 (by decide) ?_
      refine sa_callVi (As := [.int (nI 44)]) (rest := []) kc_D_47 d_D_takeHead_30 sh_119 rfl rfl rfl (Nat.le_of_ble_eq_true rfl) enI (Nat.le_of_ble_eq_true rfl) ⟨Nat.zero_le _, Nat.zero_le _⟩ HF (fun r9 S8 HF => ?_)
      refine ab_if_ne (tgt := 38) d_D_takeHead_33 (by decide) (fun b10 => ?_) (fun b10 => ?_)
      · replace HF := HF.1 b10
        refine ab_aload_n 0 d_D_takeHead_38 rfl rfl ?_
        refine ab_aload_n 0 d_D_takeHead_39 rfl rfl ?_
        refine sa_callVi (As := []) (rest := [.ref (g.2.1 + 119)]) kc_D_51 d_D_takeHead_40 sh_119 rfl rfl rfl (Nat.le_of_ble_eq_true rfl) enI (Nat.le_of_ble_eq_true rfl) ⟨Nat.zero_le _, Nat.zero_le _⟩ HF (fun r12 S11 HF => ?_)
        refine sa_putIn kp_D_58 d_D_takeHead_43 sh_119 rfl (fun S13 hS13 => ?_)
        replace HF := HF S13 hS13
        refine ab_aload_n 0 d_D_takeHead_46 rfl rfl ?_
        refine sa_getI kf_D_58 d_D_takeHead_47 sh_119 rfl ?_
        refine ab_iconst (v := (-1 : Int32)) d_D_takeHead_50 (by decide) ?_
        refine ab_icmp_eq (tgt := 63) d_D_takeHead_51 (by decide) (fun b14 => ?_) (fun b14 => ?_)
        · replace HF := HF.1 b14
          refine ab_iconst (v := (0 : Int32)) d_D_takeHead_63 (by decide) ?_
          exact sa_iretZ rfl isB_0.1 d_D_takeHead_64 HF
        · replace HF := HF.2 b14
          refine ab_aload_n 0 d_D_takeHead_54 rfl rfl ?_
          refine ab_bipush (v := nI 32) d_D_takeHead_55 (by decide) ?_
          refine sa_callVi (As := [.int (nI 32)]) (rest := []) kc_D_47 d_D_takeHead_57 sh_119 rfl rfl rfl (Nat.le_of_ble_eq_true rfl) enI (Nat.le_of_ble_eq_true rfl) ⟨Nat.zero_le _, Nat.zero_le _⟩ HF (fun r16 S15 HF => ?_)
          refine ab_if_ne (tgt := 65) d_D_takeHead_60 (by decide) (fun b17 => ?_) (fun b17 => ?_)
          · replace HF := HF.1 b17
            refine ab_aload_n 0 d_D_takeHead_65 rfl rfl ?_
            refine sa_callVi (As := []) (rest := []) kc_D_51 d_D_takeHead_66 sh_119 rfl rfl rfl (Nat.le_of_ble_eq_true rfl) enI (Nat.le_of_ble_eq_true rfl) ⟨Nat.zero_le _, Nat.zero_le _⟩ HF (fun r19 S18 HF => ?_)
            refine ab_iconst (v := (-1 : Int32)) d_D_takeHead_69 (by decide) ?_
            refine ab_icmp_eq (tgt := 82) d_D_takeHead_70 (by decide) (fun b20 => ?_) (fun b20 => ?_)
            · replace HF := HF.1 b20
              refine ab_iconst (v := (0 : Int32)) d_D_takeHead_82 (by decide) ?_
              exact sa_iretZ rfl isB_0.1 d_D_takeHead_83 HF
            · replace HF := HF.2 b20
              refine ab_aload_n 0 d_D_takeHead_73 rfl rfl ?_
              refine ab_bipush (v := nI 44) d_D_takeHead_74 (by decide) ?_
              refine sa_callVi (As := [.int (nI 44)]) (rest := []) kc_D_47 d_D_takeHead_76 sh_119 rfl rfl rfl (Nat.le_of_ble_eq_true rfl) enI (Nat.le_of_ble_eq_true rfl) ⟨Nat.zero_le _, Nat.zero_le _⟩ HF (fun r22 S21 HF => ?_)
              refine ab_if_ne (tgt := 84) d_D_takeHead_79 (by decide) (fun b23 => ?_) (fun b23 => ?_)
              · replace HF := HF.1 b23
                refine ab_aload_n 0 d_D_takeHead_84 rfl rfl ?_
                refine ab_aload_n 0 d_D_takeHead_85 rfl rfl ?_
                refine sa_callVi (As := []) (rest := [.ref (g.2.1 + 119)]) kc_D_51 d_D_takeHead_86 sh_119 rfl rfl rfl (Nat.le_of_ble_eq_true rfl) enI (Nat.le_of_ble_eq_true rfl) ⟨Nat.zero_le _, Nat.zero_le _⟩ HF (fun r25 S24 HF => ?_)
                refine sa_putIn kp_D_61 d_D_takeHead_89 sh_119 rfl (fun S26 hS26 => ?_)
                replace HF := HF S26 hS26
                refine ab_aload_n 0 d_D_takeHead_92 rfl rfl ?_
                refine sa_getI kf_D_61 d_D_takeHead_93 sh_119 rfl ?_
                refine ab_iconst (v := (-1 : Int32)) d_D_takeHead_96 (by decide) ?_
                refine ab_icmp_ne (tgt := 102) d_D_takeHead_97 (by decide) (fun b27 => ?_) (fun b27 => ?_)
                · replace HF := HF.1 b27
                  refine ab_aload_n 0 d_D_takeHead_102 rfl rfl ?_
                  refine sa_getI kf_D_58 d_D_takeHead_103 sh_119 rfl ?_
                  refine ab_aload_n 0 d_D_takeHead_106 rfl rfl ?_
                  refine sa_getI kf_D_61 d_D_takeHead_107 sh_119 rfl ?_
                  refine ab_iadd d_D_takeHead_110 ?_
                  refine ab_if_le (tgt := 127) d_D_takeHead_111 (by decide) (fun b28 => ?_) (fun b28 => ?_)
                  · replace HF := HF.1 b28
                    refine ab_iconst (v := (0 : Int32)) d_D_takeHead_127 (by decide) ?_
                    exact sa_iretZ rfl isB_0.1 d_D_takeHead_128 HF
                  · replace HF := HF.2 b28
                    refine ab_aload_n 0 d_D_takeHead_114 rfl rfl ?_
                    refine ab_bipush (v := nI 10) d_D_takeHead_115 (by decide) ?_
                    refine sa_callVi (As := [.int (nI 10)]) (rest := []) kc_D_47 d_D_takeHead_117 sh_119 rfl rfl rfl (Nat.le_of_ble_eq_true rfl) enI (Nat.le_of_ble_eq_true rfl) ⟨Nat.zero_le _, Nat.zero_le _⟩ HF (fun r30 S29 HF => ?_)
                    refine ab_if_eq (tgt := 127) d_D_takeHead_120 (by decide) (fun b31 => ?_) (fun b31 => ?_)
                    · replace HF := HF.1 b31
                      refine ab_iconst (v := (0 : Int32)) d_D_takeHead_127 (by decide) ?_
                      exact sa_iretZ rfl isB_0.1 d_D_takeHead_128 HF
                    · replace HF := HF.2 b31
                      refine ab_iconst (v := (1 : Int32)) d_D_takeHead_123 (by decide) ?_
                      refine ab_goto (tgt := 128) d_D_takeHead_124 (by decide) ?_
                      exact sa_iretZ rfl isB_1.1 d_D_takeHead_128 HF
                · replace HF := HF.2 b27
                  refine ab_iconst (v := (0 : Int32)) d_D_takeHead_100 (by decide) ?_
                  exact sa_iretZ rfl isB_0.1 d_D_takeHead_101 HF
              · replace HF := HF.2 b23
                refine ab_iconst (v := (0 : Int32)) d_D_takeHead_82 (by decide) ?_
                exact sa_iretZ rfl isB_0.1 d_D_takeHead_83 HF
          · replace HF := HF.2 b17
            refine ab_iconst (v := (0 : Int32)) d_D_takeHead_63 (by decide) ?_
            exact sa_iretZ rfl isB_0.1 d_D_takeHead_64 HF
      · replace HF := HF.2 b10
        refine ab_iconst (v := (0 : Int32)) d_D_takeHead_36 (by decide) ?_
        exact sa_iretZ rfl isB_0.1 d_D_takeHead_37 HF
  · replace HF := HF.2 b3
    refine ab_iconst (v := (0 : Int32)) d_D_takeHead_9 (by decide) ?_
    exact sa_iretZ rfl isB_0.1 d_D_takeHead_10 HF
set_option maxRecDepth 100000 in
theorem f_D_takeLines {g : lp_G} {d : Nat} {Q : Int32 → SS → Prop} {S : SS} 
    (HF : ∀ S1 : SS, S1 = setI S 119 6 (0 : Int32) → ∀ S2 : SS, S2 = setI S1 119 8 (0 : Int32) → AtI g um_D_takeLines (d + 1) Q 20 [(0, .ref (g.2.1 + 119)), (1, .int ((S2.1 119 3) + (S2.1 119 4)))] [] S2) : MtI g um_D_takeLines (d + 1) [.ref (g.2.1 + 119)] S Q := by
  refine sa_entryI (lv' := [(0, .ref (g.2.1 + 119))]) (by decide +kernel) (Nat.le_of_ble_eq_true rfl) rfl ?_
  refine ab_aload_n 0 d_D_takeLines_0 rfl rfl ?_
  refine ab_iconst (v := (0 : Int32)) d_D_takeLines_1 (by decide) ?_
  refine sa_putIn kp_D_64 d_D_takeLines_2 sh_119 rfl (fun S1 hS1 => ?_)
  replace HF := HF S1 hS1
  refine ab_aload_n 0 d_D_takeLines_5 rfl rfl ?_
  refine ab_iconst (v := (0 : Int32)) d_D_takeLines_6 (by decide) ?_
  refine sa_putIn kp_D_67 d_D_takeLines_7 sh_119 rfl (fun S2 hS2 => ?_)
  replace HF := HF S2 hS2
  refine ab_aload_n 0 d_D_takeLines_10 rfl rfl ?_
  refine sa_getI kf_D_58 d_D_takeLines_11 sh_119 rfl ?_
  refine ab_aload_n 0 d_D_takeLines_14 rfl rfl ?_
  refine sa_getI kf_D_61 d_D_takeLines_15 sh_119 rfl ?_
  refine ab_iadd d_D_takeLines_18 ?_
  refine ab_istore_n (lv' := [(1, .int ((S2.1 119 3) + (S2.1 119 4))), (0, .ref (g.2.1 + 119))]) d_D_takeLines_19 rfl (Nat.le_of_ble_eq_true rfl) rfl ?_
  refine ab_sub (lv' := [(0, .ref (g.2.1 + 119)), (1, .int ((S2.1 119 3) + (S2.1 119 4)))]) [1, 0] rfl ?_
  exact HF
set_option maxRecDepth 100000 in
theorem f_D_takeLines_20 {g : lp_G} {d : Nat} {Q : Int32 → SS → Prop} {S : SS} {x1 : Int32}
    (HF : (x1 ≤ 0 → Q (1 : Int32) S) ∧ (¬ x1 ≤ 0 → MtI g um_D_hasLinesDue d [.ref (g.2.1 + 119)] S (fun r5 S4 => (r5 = 0 → Q (1 : Int32) S4) ∧ (¬ r5 = 0 → MtI g um_D_takeLine d [.ref (g.2.1 + 119)] S4 (fun r8 S7 => (¬ r8 = 0 → AtI g um_D_takeLines (d + 1) Q 20 [(0, .ref (g.2.1 + 119)), (1, .int (x1 + (-1)))] [] S7) ∧ (r8 = 0 → Q (0 : Int32) S7)))))) : AtI g um_D_takeLines (d + 1) Q 20 [(0, .ref (g.2.1 + 119)), (1, .int x1)] [] S := by
  refine ab_iload_n 1 d_D_takeLines_20 rfl rfl ?_
  refine ab_if_le (tgt := 46) d_D_takeLines_21 (by decide) (fun b3 => ?_) (fun b3 => ?_)
  · replace HF := HF.1 b3
    refine ab_iconst (v := (1 : Int32)) d_D_takeLines_46 (by decide) ?_
    exact sa_iretZ rfl isB_1.1 d_D_takeLines_47 HF
  · replace HF := HF.2 b3
    refine ab_aload_n 0 d_D_takeLines_24 rfl rfl ?_
    refine sa_callVi (As := []) (rest := []) kc_D_70 d_D_takeLines_25 sh_119 rfl rfl rfl (Nat.le_of_ble_eq_true rfl) enI (Nat.le_of_ble_eq_true rfl) ⟨Nat.zero_le _, Nat.zero_le _⟩ HF (fun r5 S4 HF => ?_)
    refine ab_if_eq (tgt := 46) d_D_takeLines_28 (by decide) (fun b6 => ?_) (fun b6 => ?_)
    · replace HF := HF.1 b6
      refine ab_iconst (v := (1 : Int32)) d_D_takeLines_46 (by decide) ?_
      exact sa_iretZ rfl isB_1.1 d_D_takeLines_47 HF
    · replace HF := HF.2 b6
      refine ab_aload_n 0 d_D_takeLines_31 rfl rfl ?_
      refine sa_callVi (As := []) (rest := []) kc_D_73 d_D_takeLines_32 sh_119 rfl rfl rfl (Nat.le_of_ble_eq_true rfl) enI (Nat.le_of_ble_eq_true rfl) ⟨Nat.zero_le _, Nat.zero_le _⟩ HF (fun r8 S7 HF => ?_)
      refine ab_if_ne (tgt := 40) d_D_takeLines_35 (by decide) (fun b9 => ?_) (fun b9 => ?_)
      · replace HF := HF.1 b9
        refine ab_iinc (v := x1 + (-1)) (lv' := [(1, .int (x1 + (-1))), (0, .ref (g.2.1 + 119))]) 1 d_D_takeLines_40 rfl (congrArg (fun z => x1 + z) (show Int32.ofInt (-1) = (-1 : Int32) by decide)) (Nat.le_of_ble_eq_true rfl) rfl ?_
        refine ab_goto (tgt := 20) d_D_takeLines_43 (by decide) ?_
        refine ab_sub (lv' := [(0, .ref (g.2.1 + 119)), (1, .int (x1 + (-1)))]) [1, 0] rfl ?_
        exact HF
      · replace HF := HF.2 b9
        refine ab_iconst (v := (0 : Int32)) d_D_takeLines_38 (by decide) ?_
        exact sa_iretZ rfl isB_0.1 d_D_takeLines_39 HF
set_option maxRecDepth 100000 in
theorem f_D_hasLinesDue {g : lp_G} {d : Nat} {Q : Int32 → SS → Prop} {S : SS} 
    (HF : (S.1 119 6 < S.1 119 3 → Q (1 : Int32) S) ∧ (¬ S.1 119 6 < S.1 119 3 → (S.1 119 4 ≤ S.1 119 8 → Q (0 : Int32) S) ∧ (¬ S.1 119 4 ≤ S.1 119 8 → Q (1 : Int32) S))) : MtI g um_D_hasLinesDue d [.ref (g.2.1 + 119)] S Q := by
  refine sa_entryI (lv' := [(0, .ref (g.2.1 + 119))]) (by decide +kernel) (Nat.le_of_ble_eq_true rfl) rfl ?_
  refine ab_aload_n 0 d_D_hasLinesDue_0 rfl rfl ?_
  refine sa_getI kf_D_64 d_D_hasLinesDue_1 sh_119 rfl ?_
  refine ab_aload_n 0 d_D_hasLinesDue_4 rfl rfl ?_
  refine sa_getI kf_D_58 d_D_hasLinesDue_5 sh_119 rfl ?_
  refine ab_icmp_lt (tgt := 22) d_D_hasLinesDue_8 (by decide) (fun b1 => ?_) (fun b1 => ?_)
  · replace HF := HF.1 b1
    refine ab_iconst (v := (1 : Int32)) d_D_hasLinesDue_22 (by decide) ?_
    refine ab_goto (tgt := 27) d_D_hasLinesDue_23 (by decide) ?_
    exact sa_iretZ rfl isB_1.1 d_D_hasLinesDue_27 HF
  · replace HF := HF.2 b1
    refine ab_aload_n 0 d_D_hasLinesDue_11 rfl rfl ?_
    refine sa_getI kf_D_67 d_D_hasLinesDue_12 sh_119 rfl ?_
    refine ab_aload_n 0 d_D_hasLinesDue_15 rfl rfl ?_
    refine sa_getI kf_D_61 d_D_hasLinesDue_16 sh_119 rfl ?_
    refine ab_icmp_ge (tgt := 26) d_D_hasLinesDue_19 (by decide) (fun b2 => ?_) (fun b2 => ?_)
    · replace HF := HF.1 b2
      refine ab_iconst (v := (0 : Int32)) d_D_hasLinesDue_26 (by decide) ?_
      exact sa_iretZ rfl isB_0.1 d_D_hasLinesDue_27 HF
    · replace HF := HF.2 b2
      refine ab_iconst (v := (1 : Int32)) d_D_hasLinesDue_22 (by decide) ?_
      refine ab_goto (tgt := 27) d_D_hasLinesDue_23 (by decide) ?_
      exact sa_iretZ rfl isB_1.1 d_D_hasLinesDue_27 HF
set_option maxRecDepth 100000 in
theorem f_D_takeLine {g : lp_G} {d : Nat} {Q : Int32 → SS → Prop} {S : SS} 
    (HF : MtI g um_D_here d [.ref (g.2.1 + 119)] S (fun r2 S1 => (r2 = nI 32 → (S1.1 119 3 ≤ S1.1 119 6 → Q (0 : Int32) S1) ∧ (¬ S1.1 119 3 ≤ S1.1 119 6 → (S1.1 119 8 < S1.1 119 4 → ∀ S6 : SS, S6 = setI S1 119 1 ((S1.1 119 1) + (1 : Int32)) → MtI g um_D_here d [.ref (g.2.1 + 119)] S6 (fun r8 S7 => MtI g um_P_isLetter d [.int r8] S7 (fun r10 S9 => (¬ r10 = 0 → ∀ S12 : SS, S12 = setI S9 119 1 ((S9.1 119 1) + (1 : Int32)) → (vp_in (S12.1 119 6) 99) ∧ (∀ S14 : SS, S14 = setA S12 120 (S12.1 119 6).toNatClampNeg r8 → ∀ S15 : SS, S15 = setI S14 119 6 ((S14.1 119 6) + (1 : Int32)) → (vp_in (S15.1 119 8) 99) ∧ (∀ S17 : SS, S17 = setA S15 121 (S15.1 119 8).toNatClampNeg r8 → ∀ S18 : SS, S18 = setI S17 119 8 ((S17.1 119 8) + (1 : Int32)) → MtI g um_D_takeSign d [.ref (g.2.1 + 119), .int (nI 10)] S18 (fun r20 S19 => (isB r20) ∧ (Q r20 S19))))) ∧ (r10 = 0 → Q (0 : Int32) S9)))) ∧ (¬ S1.1 119 8 < S1.1 119 4 → Q (0 : Int32) S1))) ∧ (¬ r2 = nI 32 → (¬ r2 = nI 45 → (¬ r2 = nI 43 → Q (0 : Int32) S1) ∧ (r2 = nI 43 → (S1.1 119 8 < S1.1 119 4 → ∀ S25 : SS, S25 = setI S1 119 1 ((S1.1 119 1) + (1 : Int32)) → MtI g um_D_here d [.ref (g.2.1 + 119)] S25 (fun r27 S26 => MtI g um_P_isLetter d [.int r27] S26 (fun r29 S28 => (¬ r29 = 0 → ∀ S31 : SS, S31 = setI S28 119 1 ((S28.1 119 1) + (1 : Int32)) → (vp_in (S31.1 119 8) 99) ∧ (∀ S33 : SS, S33 = setA S31 121 (S31.1 119 8).toNatClampNeg r27 → ∀ S34 : SS, S34 = setI S33 119 8 ((S33.1 119 8) + (1 : Int32)) → MtI g um_D_takeSign d [.ref (g.2.1 + 119), .int (nI 10)] S34 (fun r36 S35 => (isB r36) ∧ (Q r36 S35)))) ∧ (r29 = 0 → Q (0 : Int32) S28)))) ∧ (¬ S1.1 119 8 < S1.1 119 4 → Q (0 : Int32) S1))) ∧ (r2 = nI 45 → (¬ r2 = nI 43 → (S1.1 119 3 ≤ S1.1 119 6 → Q (0 : Int32) S1) ∧ (¬ S1.1 119 3 ≤ S1.1 119 6 → ∀ S40 : SS, S40 = setI S1 119 1 ((S1.1 119 1) + (1 : Int32)) → MtI g um_D_here d [.ref (g.2.1 + 119)] S40 (fun r42 S41 => MtI g um_P_isLetter d [.int r42] S41 (fun r44 S43 => (¬ r44 = 0 → ∀ S46 : SS, S46 = setI S43 119 1 ((S43.1 119 1) + (1 : Int32)) → (vp_in (S46.1 119 6) 99) ∧ (∀ S48 : SS, S48 = setA S46 120 (S46.1 119 6).toNatClampNeg r42 → ∀ S49 : SS, S49 = setI S48 119 6 ((S48.1 119 6) + (1 : Int32)) → MtI g um_D_takeSign d [.ref (g.2.1 + 119), .int (nI 10)] S49 (fun r51 S50 => (isB r51) ∧ (Q r51 S50)))) ∧ (r44 = 0 → Q (0 : Int32) S43))))) ∧ (r2 = nI 43 → (S1.1 119 3 ≤ S1.1 119 6 → Q (0 : Int32) S1) ∧ (¬ S1.1 119 3 ≤ S1.1 119 6 → (S1.1 119 8 < S1.1 119 4 → ∀ S55 : SS, S55 = setI S1 119 1 ((S1.1 119 1) + (1 : Int32)) → MtI g um_D_here d [.ref (g.2.1 + 119)] S55 (fun r57 S56 => MtI g um_P_isLetter d [.int r57] S56 (fun r59 S58 => (¬ r59 = 0 → ∀ S61 : SS, S61 = setI S58 119 1 ((S58.1 119 1) + (1 : Int32)) → (vp_in (S61.1 119 6) 99) ∧ (∀ S63 : SS, S63 = setA S61 120 (S61.1 119 6).toNatClampNeg r57 → ∀ S64 : SS, S64 = setI S63 119 6 ((S63.1 119 6) + (1 : Int32)) → (vp_in (S64.1 119 8) 99) ∧ (∀ S66 : SS, S66 = setA S64 121 (S64.1 119 8).toNatClampNeg r57 → ∀ S67 : SS, S67 = setI S66 119 8 ((S66.1 119 8) + (1 : Int32)) → MtI g um_D_takeSign d [.ref (g.2.1 + 119), .int (nI 10)] S67 (fun r69 S68 => (isB r69) ∧ (Q r69 S68))))) ∧ (r59 = 0 → Q (0 : Int32) S58)))) ∧ (¬ S1.1 119 8 < S1.1 119 4 → Q (0 : Int32) S1))))))) : MtI g um_D_takeLine (d + 1) [.ref (g.2.1 + 119)] S Q := by
  refine sa_entryI (lv' := [(0, .ref (g.2.1 + 119))]) (by decide +kernel) (Nat.le_of_ble_eq_true rfl) rfl ?_
  refine ab_aload_n 0 d_D_takeLine_0 rfl rfl ?_
  refine sa_callVi (As := []) (rest := []) kc_D_76 d_D_takeLine_1 sh_119 rfl rfl rfl (Nat.le_of_ble_eq_true rfl) enI (Nat.le_of_ble_eq_true rfl) ⟨Nat.zero_le _, Nat.zero_le _⟩ HF (fun r2 S1 HF => ?_)
  refine ab_istore_n (lv' := [(1, .int r2), (0, .ref (g.2.1 + 119))]) d_D_takeLine_4 rfl (Nat.le_of_ble_eq_true rfl) rfl ?_
  refine ab_iload_n 0 d_D_takeLine_5 rfl rfl ?_
  refine ab_bipush (v := nI 32) d_D_takeLine_6 (by decide) ?_
  refine ab_icmp_eq (tgt := 17) d_D_takeLine_8 (by decide) (fun b3 => ?_) (fun b3 => ?_)
  · replace HF := HF.1 b3
    refine ab_iconst (v := (1 : Int32)) d_D_takeLine_17 (by decide) ?_
    refine ab_goto (tgt := 22) d_D_takeLine_18 (by decide) ?_
    refine ab_istore_n (lv' := [(2, .int (1 : Int32)), (1, .int r2), (0, .ref (g.2.1 + 119))]) d_D_takeLine_22 rfl (Nat.le_of_ble_eq_true rfl) rfl ?_
    refine ab_iload_n 1 d_D_takeLine_23 rfl rfl ?_
    refine ab_bipush (v := nI 32) d_D_takeLine_24 (by decide) ?_
    refine ab_icmp_eq (tgt := 35) d_D_takeLine_26 (by decide) (fun _ => ?_) (fun h => absurd b3 h)
    refine ab_iconst (v := (1 : Int32)) d_D_takeLine_35 (by decide) ?_
    refine ab_goto (tgt := 40) d_D_takeLine_36 (by decide) ?_
    refine ab_istore_n (lv' := [(3, .int (1 : Int32)), (2, .int (1 : Int32)), (1, .int r2), (0, .ref (g.2.1 + 119))]) d_D_takeLine_40 rfl (Nat.le_of_ble_eq_true rfl) rfl ?_
    refine ab_iload_n 1 d_D_takeLine_41 rfl rfl ?_
    refine ab_if_eq (tgt := 56) d_D_takeLine_42 (by decide) (fun h => absurd h (by decide)) (fun _ => ?_)
    refine ab_aload_n 3 d_D_takeLine_45 rfl rfl ?_
    refine sa_getI kf_D_64 d_D_takeLine_46 sh_119 rfl ?_
    refine ab_aload_n 3 d_D_takeLine_49 rfl rfl ?_
    refine sa_getI kf_D_58 d_D_takeLine_50 sh_119 rfl ?_
    refine ab_icmp_ge (tgt := 71) d_D_takeLine_53 (by decide) (fun b4 => ?_) (fun b4 => ?_)
    · replace HF := HF.1 b4
      refine ab_iconst (v := (1 : Int32)) d_D_takeLine_71 (by decide) ?_
      refine ab_goto (tgt := 76) d_D_takeLine_72 (by decide) ?_
      refine ab_istore (lv' := [(4, .int (1 : Int32)), (3, .int (1 : Int32)), (2, .int (1 : Int32)), (1, .int r2), (0, .ref (g.2.1 + 119))]) d_D_takeLine_76 (Nat.le_of_ble_eq_true rfl) rfl ?_
      refine ab_iload_n 2 d_D_takeLine_78 rfl rfl ?_
      refine ab_if_ne (tgt := 86) d_D_takeLine_79 (by decide) (fun _ => ?_) (fun h => absurd h (by decide))
      refine ab_iload 0 d_D_takeLine_86 rfl ?_
      refine ab_if_eq (tgt := 93) d_D_takeLine_88 (by decide) (fun h => absurd h (by decide)) (fun _ => ?_)
      refine ab_iconst (v := (0 : Int32)) d_D_takeLine_91 (by decide) ?_
      exact sa_iretZ rfl isB_0.1 d_D_takeLine_92 HF
    · replace HF := HF.2 b4
      refine ab_iload_n 0 d_D_takeLine_56 rfl rfl ?_
      refine ab_if_eq (tgt := 75) d_D_takeLine_57 (by decide) (fun h => absurd h (by decide)) (fun _ => ?_)
      refine ab_aload_n 3 d_D_takeLine_60 rfl rfl ?_
      refine sa_getI kf_D_67 d_D_takeLine_61 sh_119 rfl ?_
      refine ab_aload_n 3 d_D_takeLine_64 rfl rfl ?_
      refine sa_getI kf_D_61 d_D_takeLine_65 sh_119 rfl ?_
      refine ab_icmp_lt (tgt := 75) d_D_takeLine_68 (by decide) (fun b5 => ?_) (fun b5 => ?_)
      · replace HF := HF.1 b5
        refine ab_iconst (v := (0 : Int32)) d_D_takeLine_75 (by decide) ?_
        refine ab_istore (lv' := [(4, .int (0 : Int32)), (3, .int (1 : Int32)), (2, .int (1 : Int32)), (1, .int r2), (0, .ref (g.2.1 + 119))]) d_D_takeLine_76 (Nat.le_of_ble_eq_true rfl) rfl ?_
        refine ab_iload_n 2 d_D_takeLine_78 rfl rfl ?_
        refine ab_if_ne (tgt := 86) d_D_takeLine_79 (by decide) (fun _ => ?_) (fun h => absurd h (by decide))
        refine ab_iload 0 d_D_takeLine_86 rfl ?_
        refine ab_if_eq (tgt := 93) d_D_takeLine_88 (by decide) (fun _ => ?_) (fun h => absurd h (by decide))
        refine ab_aload_n 4 d_D_takeLine_93 rfl rfl ?_
        refine ab_dup d_D_takeLine_94 rfl ?_
        refine sa_getI kf_D_32 d_D_takeLine_95 sh_119 rfl ?_
        refine ab_iconst (v := (1 : Int32)) d_D_takeLine_98 (by decide) ?_
        refine ab_iadd d_D_takeLine_99 ?_
        refine sa_putIn kp_D_32 d_D_takeLine_100 sh_119 rfl (fun S6 hS6 => ?_)
        replace HF := HF S6 hS6
        refine ab_aload_n 4 d_D_takeLine_103 rfl rfl ?_
        refine sa_callVi (As := []) (rest := []) kc_D_76 d_D_takeLine_104 sh_119 rfl rfl rfl (Nat.le_of_ble_eq_true rfl) enI (Nat.le_of_ble_eq_true rfl) ⟨Nat.zero_le _, Nat.zero_le _⟩ HF (fun r8 S7 HF => ?_)
        refine ab_istore (lv' := [(5, .int r8), (4, .int (0 : Int32)), (3, .int (1 : Int32)), (2, .int (1 : Int32)), (1, .int r2), (0, .ref (g.2.1 + 119))]) d_D_takeLine_107 (Nat.le_of_ble_eq_true rfl) rfl ?_
        refine ab_iload 0 d_D_takeLine_109 rfl ?_
        refine sa_callSNi (As := [.int r8]) (rest := []) kc_D_79 d_D_takeLine_111 rfl (Nat.le_of_ble_eq_true rfl) enI (Nat.le_of_ble_eq_true rfl) ⟨Nat.zero_le _, Nat.zero_le _⟩ HF (fun r10 S9 HF => ?_)
        refine ab_if_ne (tgt := 119) d_D_takeLine_114 (by decide) (fun b11 => ?_) (fun b11 => ?_)
        · replace HF := HF.1 b11
          refine ab_aload_n 5 d_D_takeLine_119 rfl rfl ?_
          refine ab_dup d_D_takeLine_120 rfl ?_
          refine sa_getI kf_D_32 d_D_takeLine_121 sh_119 rfl ?_
          refine ab_iconst (v := (1 : Int32)) d_D_takeLine_124 (by decide) ?_
          refine ab_iadd d_D_takeLine_125 ?_
          refine sa_putIn kp_D_32 d_D_takeLine_126 sh_119 rfl (fun S12 hS12 => ?_)
          replace HF := HF S12 hS12
          refine ab_iload_n 3 d_D_takeLine_129 rfl rfl ?_
          refine ab_if_eq (tgt := 154) d_D_takeLine_130 (by decide) (fun h => absurd h (by decide)) (fun _ => ?_)
          refine ab_aload_n 5 d_D_takeLine_133 rfl rfl ?_
          refine sa_getR (r := 120) kf_D_11 d_D_takeLine_134 sh_119 rfl ?_
          refine ab_aload_n 5 d_D_takeLine_137 rfl rfl ?_
          refine sa_getI kf_D_64 d_D_takeLine_138 sh_119 rfl ?_
          refine ab_iload 0 d_D_takeLine_141 rfl ?_
          obtain ⟨c13, HF⟩ := HF
          refine sa_iastn d_D_takeLine_143 sh_120 c13 (fun S14 hS14 => ?_)
          replace HF := HF S14 hS14
          refine ab_aload_n 5 d_D_takeLine_144 rfl rfl ?_
          refine ab_dup d_D_takeLine_145 rfl ?_
          refine sa_getI kf_D_64 d_D_takeLine_146 sh_119 rfl ?_
          refine ab_iconst (v := (1 : Int32)) d_D_takeLine_149 (by decide) ?_
          refine ab_iadd d_D_takeLine_150 ?_
          refine sa_putIn kp_D_64 d_D_takeLine_151 sh_119 rfl (fun S15 hS15 => ?_)
          replace HF := HF S15 hS15
          refine ab_iload_n 2 d_D_takeLine_154 rfl rfl ?_
          refine ab_if_eq (tgt := 179) d_D_takeLine_155 (by decide) (fun h => absurd h (by decide)) (fun _ => ?_)
          refine ab_aload_n 5 d_D_takeLine_158 rfl rfl ?_
          refine sa_getR (r := 121) kf_D_15 d_D_takeLine_159 sh_119 rfl ?_
          refine ab_aload_n 5 d_D_takeLine_162 rfl rfl ?_
          refine sa_getI kf_D_67 d_D_takeLine_163 sh_119 rfl ?_
          refine ab_iload 0 d_D_takeLine_166 rfl ?_
          obtain ⟨c16, HF⟩ := HF
          refine sa_iastn d_D_takeLine_168 sh_121 c16 (fun S17 hS17 => ?_)
          replace HF := HF S17 hS17
          refine ab_aload_n 5 d_D_takeLine_169 rfl rfl ?_
          refine ab_dup d_D_takeLine_170 rfl ?_
          refine sa_getI kf_D_67 d_D_takeLine_171 sh_119 rfl ?_
          refine ab_iconst (v := (1 : Int32)) d_D_takeLine_174 (by decide) ?_
          refine ab_iadd d_D_takeLine_175 ?_
          refine sa_putIn kp_D_67 d_D_takeLine_176 sh_119 rfl (fun S18 hS18 => ?_)
          replace HF := HF S18 hS18
          refine ab_aload_n 5 d_D_takeLine_179 rfl rfl ?_
          refine ab_bipush (v := nI 10) d_D_takeLine_180 (by decide) ?_
          refine sa_callVi (As := [.int (nI 10)]) (rest := []) kc_D_47 d_D_takeLine_182 sh_119 rfl rfl rfl (Nat.le_of_ble_eq_true rfl) enI (Nat.le_of_ble_eq_true rfl) ⟨Nat.zero_le _, Nat.zero_le _⟩ HF (fun r20 S19 HF => ?_)
          obtain ⟨c21, HF⟩ := HF
          exact sa_iretZ rfl c21.1 d_D_takeLine_185 HF
        · replace HF := HF.2 b11
          refine ab_iconst (v := (0 : Int32)) d_D_takeLine_117 (by decide) ?_
          exact sa_iretZ rfl isB_0.1 d_D_takeLine_118 HF
      · replace HF := HF.2 b5
        refine ab_iconst (v := (1 : Int32)) d_D_takeLine_71 (by decide) ?_
        refine ab_goto (tgt := 76) d_D_takeLine_72 (by decide) ?_
        refine ab_istore (lv' := [(4, .int (1 : Int32)), (3, .int (1 : Int32)), (2, .int (1 : Int32)), (1, .int r2), (0, .ref (g.2.1 + 119))]) d_D_takeLine_76 (Nat.le_of_ble_eq_true rfl) rfl ?_
        refine ab_iload_n 2 d_D_takeLine_78 rfl rfl ?_
        refine ab_if_ne (tgt := 86) d_D_takeLine_79 (by decide) (fun _ => ?_) (fun h => absurd h (by decide))
        refine ab_iload 0 d_D_takeLine_86 rfl ?_
        refine ab_if_eq (tgt := 93) d_D_takeLine_88 (by decide) (fun h => absurd h (by decide)) (fun _ => ?_)
        refine ab_iconst (v := (0 : Int32)) d_D_takeLine_91 (by decide) ?_
        exact sa_iretZ rfl isB_0.1 d_D_takeLine_92 HF
  · replace HF := HF.2 b3
    refine ab_iload_n 0 d_D_takeLine_11 rfl rfl ?_
    refine ab_bipush (v := nI 45) d_D_takeLine_12 (by decide) ?_
    refine ab_icmp_ne (tgt := 21) d_D_takeLine_14 (by decide) (fun b22 => ?_) (fun b22 => ?_)
    · replace HF := HF.1 b22
      refine ab_iconst (v := (0 : Int32)) d_D_takeLine_21 (by decide) ?_
      refine ab_istore_n (lv' := [(2, .int (0 : Int32)), (1, .int r2), (0, .ref (g.2.1 + 119))]) d_D_takeLine_22 rfl (Nat.le_of_ble_eq_true rfl) rfl ?_
      refine ab_iload_n 1 d_D_takeLine_23 rfl rfl ?_
      refine ab_bipush (v := nI 32) d_D_takeLine_24 (by decide) ?_
      refine ab_icmp_eq (tgt := 35) d_D_takeLine_26 (by decide) (fun h => absurd h b3) (fun _ => ?_)
      refine ab_iload_n 1 d_D_takeLine_29 rfl rfl ?_
      refine ab_bipush (v := nI 43) d_D_takeLine_30 (by decide) ?_
      refine ab_icmp_ne (tgt := 39) d_D_takeLine_32 (by decide) (fun b23 => ?_) (fun b23 => ?_)
      · replace HF := HF.1 b23
        refine ab_iconst (v := (0 : Int32)) d_D_takeLine_39 (by decide) ?_
        refine ab_istore_n (lv' := [(3, .int (0 : Int32)), (2, .int (0 : Int32)), (1, .int r2), (0, .ref (g.2.1 + 119))]) d_D_takeLine_40 rfl (Nat.le_of_ble_eq_true rfl) rfl ?_
        refine ab_iload_n 1 d_D_takeLine_41 rfl rfl ?_
        refine ab_if_eq (tgt := 56) d_D_takeLine_42 (by decide) (fun _ => ?_) (fun h => absurd h (by decide))
        refine ab_iload_n 0 d_D_takeLine_56 rfl rfl ?_
        refine ab_if_eq (tgt := 75) d_D_takeLine_57 (by decide) (fun _ => ?_) (fun h => absurd h (by decide))
        refine ab_iconst (v := (0 : Int32)) d_D_takeLine_75 (by decide) ?_
        refine ab_istore (lv' := [(4, .int (0 : Int32)), (3, .int (0 : Int32)), (2, .int (0 : Int32)), (1, .int r2), (0, .ref (g.2.1 + 119))]) d_D_takeLine_76 (Nat.le_of_ble_eq_true rfl) rfl ?_
        refine ab_iload_n 2 d_D_takeLine_78 rfl rfl ?_
        refine ab_if_ne (tgt := 86) d_D_takeLine_79 (by decide) (fun h => absurd h (by decide)) (fun _ => ?_)
        refine ab_iload_n 1 d_D_takeLine_82 rfl rfl ?_
        refine ab_if_eq (tgt := 91) d_D_takeLine_83 (by decide) (fun _ => ?_) (fun h => absurd h (by decide))
        refine ab_iconst (v := (0 : Int32)) d_D_takeLine_91 (by decide) ?_
        exact sa_iretZ rfl isB_0.1 d_D_takeLine_92 HF
      · replace HF := HF.2 b23
        refine ab_iconst (v := (1 : Int32)) d_D_takeLine_35 (by decide) ?_
        refine ab_goto (tgt := 40) d_D_takeLine_36 (by decide) ?_
        refine ab_istore_n (lv' := [(3, .int (1 : Int32)), (2, .int (0 : Int32)), (1, .int r2), (0, .ref (g.2.1 + 119))]) d_D_takeLine_40 rfl (Nat.le_of_ble_eq_true rfl) rfl ?_
        refine ab_iload_n 1 d_D_takeLine_41 rfl rfl ?_
        refine ab_if_eq (tgt := 56) d_D_takeLine_42 (by decide) (fun _ => ?_) (fun h => absurd h (by decide))
        refine ab_iload_n 0 d_D_takeLine_56 rfl rfl ?_
        refine ab_if_eq (tgt := 75) d_D_takeLine_57 (by decide) (fun h => absurd h (by decide)) (fun _ => ?_)
        refine ab_aload_n 3 d_D_takeLine_60 rfl rfl ?_
        refine sa_getI kf_D_67 d_D_takeLine_61 sh_119 rfl ?_
        refine ab_aload_n 3 d_D_takeLine_64 rfl rfl ?_
        refine sa_getI kf_D_61 d_D_takeLine_65 sh_119 rfl ?_
        refine ab_icmp_lt (tgt := 75) d_D_takeLine_68 (by decide) (fun b24 => ?_) (fun b24 => ?_)
        · replace HF := HF.1 b24
          refine ab_iconst (v := (0 : Int32)) d_D_takeLine_75 (by decide) ?_
          refine ab_istore (lv' := [(4, .int (0 : Int32)), (3, .int (1 : Int32)), (2, .int (0 : Int32)), (1, .int r2), (0, .ref (g.2.1 + 119))]) d_D_takeLine_76 (Nat.le_of_ble_eq_true rfl) rfl ?_
          refine ab_iload_n 2 d_D_takeLine_78 rfl rfl ?_
          refine ab_if_ne (tgt := 86) d_D_takeLine_79 (by decide) (fun h => absurd h (by decide)) (fun _ => ?_)
          refine ab_iload_n 1 d_D_takeLine_82 rfl rfl ?_
          refine ab_if_eq (tgt := 91) d_D_takeLine_83 (by decide) (fun h => absurd h (by decide)) (fun _ => ?_)
          refine ab_iload 0 d_D_takeLine_86 rfl ?_
          refine ab_if_eq (tgt := 93) d_D_takeLine_88 (by decide) (fun _ => ?_) (fun h => absurd h (by decide))
          refine ab_aload_n 4 d_D_takeLine_93 rfl rfl ?_
          refine ab_dup d_D_takeLine_94 rfl ?_
          refine sa_getI kf_D_32 d_D_takeLine_95 sh_119 rfl ?_
          refine ab_iconst (v := (1 : Int32)) d_D_takeLine_98 (by decide) ?_
          refine ab_iadd d_D_takeLine_99 ?_
          refine sa_putIn kp_D_32 d_D_takeLine_100 sh_119 rfl (fun S25 hS25 => ?_)
          replace HF := HF S25 hS25
          refine ab_aload_n 4 d_D_takeLine_103 rfl rfl ?_
          refine sa_callVi (As := []) (rest := []) kc_D_76 d_D_takeLine_104 sh_119 rfl rfl rfl (Nat.le_of_ble_eq_true rfl) enI (Nat.le_of_ble_eq_true rfl) ⟨Nat.zero_le _, Nat.zero_le _⟩ HF (fun r27 S26 HF => ?_)
          refine ab_istore (lv' := [(5, .int r27), (4, .int (0 : Int32)), (3, .int (1 : Int32)), (2, .int (0 : Int32)), (1, .int r2), (0, .ref (g.2.1 + 119))]) d_D_takeLine_107 (Nat.le_of_ble_eq_true rfl) rfl ?_
          refine ab_iload 0 d_D_takeLine_109 rfl ?_
          refine sa_callSNi (As := [.int r27]) (rest := []) kc_D_79 d_D_takeLine_111 rfl (Nat.le_of_ble_eq_true rfl) enI (Nat.le_of_ble_eq_true rfl) ⟨Nat.zero_le _, Nat.zero_le _⟩ HF (fun r29 S28 HF => ?_)
          refine ab_if_ne (tgt := 119) d_D_takeLine_114 (by decide) (fun b30 => ?_) (fun b30 => ?_)
          · replace HF := HF.1 b30
            refine ab_aload_n 5 d_D_takeLine_119 rfl rfl ?_
            refine ab_dup d_D_takeLine_120 rfl ?_
            refine sa_getI kf_D_32 d_D_takeLine_121 sh_119 rfl ?_
            refine ab_iconst (v := (1 : Int32)) d_D_takeLine_124 (by decide) ?_
            refine ab_iadd d_D_takeLine_125 ?_
            refine sa_putIn kp_D_32 d_D_takeLine_126 sh_119 rfl (fun S31 hS31 => ?_)
            replace HF := HF S31 hS31
            refine ab_iload_n 3 d_D_takeLine_129 rfl rfl ?_
            refine ab_if_eq (tgt := 154) d_D_takeLine_130 (by decide) (fun _ => ?_) (fun h => absurd h (by decide))
            refine ab_iload_n 2 d_D_takeLine_154 rfl rfl ?_
            refine ab_if_eq (tgt := 179) d_D_takeLine_155 (by decide) (fun h => absurd h (by decide)) (fun _ => ?_)
            refine ab_aload_n 5 d_D_takeLine_158 rfl rfl ?_
            refine sa_getR (r := 121) kf_D_15 d_D_takeLine_159 sh_119 rfl ?_
            refine ab_aload_n 5 d_D_takeLine_162 rfl rfl ?_
            refine sa_getI kf_D_67 d_D_takeLine_163 sh_119 rfl ?_
            refine ab_iload 0 d_D_takeLine_166 rfl ?_
            obtain ⟨c32, HF⟩ := HF
            refine sa_iastn d_D_takeLine_168 sh_121 c32 (fun S33 hS33 => ?_)
            replace HF := HF S33 hS33
            refine ab_aload_n 5 d_D_takeLine_169 rfl rfl ?_
            refine ab_dup d_D_takeLine_170 rfl ?_
            refine sa_getI kf_D_67 d_D_takeLine_171 sh_119 rfl ?_
            refine ab_iconst (v := (1 : Int32)) d_D_takeLine_174 (by decide) ?_
            refine ab_iadd d_D_takeLine_175 ?_
            refine sa_putIn kp_D_67 d_D_takeLine_176 sh_119 rfl (fun S34 hS34 => ?_)
            replace HF := HF S34 hS34
            refine ab_aload_n 5 d_D_takeLine_179 rfl rfl ?_
            refine ab_bipush (v := nI 10) d_D_takeLine_180 (by decide) ?_
            refine sa_callVi (As := [.int (nI 10)]) (rest := []) kc_D_47 d_D_takeLine_182 sh_119 rfl rfl rfl (Nat.le_of_ble_eq_true rfl) enI (Nat.le_of_ble_eq_true rfl) ⟨Nat.zero_le _, Nat.zero_le _⟩ HF (fun r36 S35 HF => ?_)
            obtain ⟨c37, HF⟩ := HF
            exact sa_iretZ rfl c37.1 d_D_takeLine_185 HF
          · replace HF := HF.2 b30
            refine ab_iconst (v := (0 : Int32)) d_D_takeLine_117 (by decide) ?_
            exact sa_iretZ rfl isB_0.1 d_D_takeLine_118 HF
        · replace HF := HF.2 b24
          refine ab_iconst (v := (1 : Int32)) d_D_takeLine_71 (by decide) ?_
          refine ab_goto (tgt := 76) d_D_takeLine_72 (by decide) ?_
          refine ab_istore (lv' := [(4, .int (1 : Int32)), (3, .int (1 : Int32)), (2, .int (0 : Int32)), (1, .int r2), (0, .ref (g.2.1 + 119))]) d_D_takeLine_76 (Nat.le_of_ble_eq_true rfl) rfl ?_
          refine ab_iload_n 2 d_D_takeLine_78 rfl rfl ?_
          refine ab_if_ne (tgt := 86) d_D_takeLine_79 (by decide) (fun h => absurd h (by decide)) (fun _ => ?_)
          refine ab_iload_n 1 d_D_takeLine_82 rfl rfl ?_
          refine ab_if_eq (tgt := 91) d_D_takeLine_83 (by decide) (fun h => absurd h (by decide)) (fun _ => ?_)
          refine ab_iload 0 d_D_takeLine_86 rfl ?_
          refine ab_if_eq (tgt := 93) d_D_takeLine_88 (by decide) (fun h => absurd h (by decide)) (fun _ => ?_)
          refine ab_iconst (v := (0 : Int32)) d_D_takeLine_91 (by decide) ?_
          exact sa_iretZ rfl isB_0.1 d_D_takeLine_92 HF
    · replace HF := HF.2 b22
      refine ab_iconst (v := (1 : Int32)) d_D_takeLine_17 (by decide) ?_
      refine ab_goto (tgt := 22) d_D_takeLine_18 (by decide) ?_
      refine ab_istore_n (lv' := [(2, .int (1 : Int32)), (1, .int r2), (0, .ref (g.2.1 + 119))]) d_D_takeLine_22 rfl (Nat.le_of_ble_eq_true rfl) rfl ?_
      refine ab_iload_n 1 d_D_takeLine_23 rfl rfl ?_
      refine ab_bipush (v := nI 32) d_D_takeLine_24 (by decide) ?_
      refine ab_icmp_eq (tgt := 35) d_D_takeLine_26 (by decide) (fun h => absurd h b3) (fun _ => ?_)
      refine ab_iload_n 1 d_D_takeLine_29 rfl rfl ?_
      refine ab_bipush (v := nI 43) d_D_takeLine_30 (by decide) ?_
      refine ab_icmp_ne (tgt := 39) d_D_takeLine_32 (by decide) (fun b38 => ?_) (fun b38 => ?_)
      · replace HF := HF.1 b38
        refine ab_iconst (v := (0 : Int32)) d_D_takeLine_39 (by decide) ?_
        refine ab_istore_n (lv' := [(3, .int (0 : Int32)), (2, .int (1 : Int32)), (1, .int r2), (0, .ref (g.2.1 + 119))]) d_D_takeLine_40 rfl (Nat.le_of_ble_eq_true rfl) rfl ?_
        refine ab_iload_n 1 d_D_takeLine_41 rfl rfl ?_
        refine ab_if_eq (tgt := 56) d_D_takeLine_42 (by decide) (fun h => absurd h (by decide)) (fun _ => ?_)
        refine ab_aload_n 3 d_D_takeLine_45 rfl rfl ?_
        refine sa_getI kf_D_64 d_D_takeLine_46 sh_119 rfl ?_
        refine ab_aload_n 3 d_D_takeLine_49 rfl rfl ?_
        refine sa_getI kf_D_58 d_D_takeLine_50 sh_119 rfl ?_
        refine ab_icmp_ge (tgt := 71) d_D_takeLine_53 (by decide) (fun b39 => ?_) (fun b39 => ?_)
        · replace HF := HF.1 b39
          refine ab_iconst (v := (1 : Int32)) d_D_takeLine_71 (by decide) ?_
          refine ab_goto (tgt := 76) d_D_takeLine_72 (by decide) ?_
          refine ab_istore (lv' := [(4, .int (1 : Int32)), (3, .int (0 : Int32)), (2, .int (1 : Int32)), (1, .int r2), (0, .ref (g.2.1 + 119))]) d_D_takeLine_76 (Nat.le_of_ble_eq_true rfl) rfl ?_
          refine ab_iload_n 2 d_D_takeLine_78 rfl rfl ?_
          refine ab_if_ne (tgt := 86) d_D_takeLine_79 (by decide) (fun _ => ?_) (fun h => absurd h (by decide))
          refine ab_iload 0 d_D_takeLine_86 rfl ?_
          refine ab_if_eq (tgt := 93) d_D_takeLine_88 (by decide) (fun h => absurd h (by decide)) (fun _ => ?_)
          refine ab_iconst (v := (0 : Int32)) d_D_takeLine_91 (by decide) ?_
          exact sa_iretZ rfl isB_0.1 d_D_takeLine_92 HF
        · replace HF := HF.2 b39
          refine ab_iload_n 0 d_D_takeLine_56 rfl rfl ?_
          refine ab_if_eq (tgt := 75) d_D_takeLine_57 (by decide) (fun _ => ?_) (fun h => absurd h (by decide))
          refine ab_iconst (v := (0 : Int32)) d_D_takeLine_75 (by decide) ?_
          refine ab_istore (lv' := [(4, .int (0 : Int32)), (3, .int (0 : Int32)), (2, .int (1 : Int32)), (1, .int r2), (0, .ref (g.2.1 + 119))]) d_D_takeLine_76 (Nat.le_of_ble_eq_true rfl) rfl ?_
          refine ab_iload_n 2 d_D_takeLine_78 rfl rfl ?_
          refine ab_if_ne (tgt := 86) d_D_takeLine_79 (by decide) (fun _ => ?_) (fun h => absurd h (by decide))
          refine ab_iload 0 d_D_takeLine_86 rfl ?_
          refine ab_if_eq (tgt := 93) d_D_takeLine_88 (by decide) (fun _ => ?_) (fun h => absurd h (by decide))
          refine ab_aload_n 4 d_D_takeLine_93 rfl rfl ?_
          refine ab_dup d_D_takeLine_94 rfl ?_
          refine sa_getI kf_D_32 d_D_takeLine_95 sh_119 rfl ?_
          refine ab_iconst (v := (1 : Int32)) d_D_takeLine_98 (by decide) ?_
          refine ab_iadd d_D_takeLine_99 ?_
          refine sa_putIn kp_D_32 d_D_takeLine_100 sh_119 rfl (fun S40 hS40 => ?_)
          replace HF := HF S40 hS40
          refine ab_aload_n 4 d_D_takeLine_103 rfl rfl ?_
          refine sa_callVi (As := []) (rest := []) kc_D_76 d_D_takeLine_104 sh_119 rfl rfl rfl (Nat.le_of_ble_eq_true rfl) enI (Nat.le_of_ble_eq_true rfl) ⟨Nat.zero_le _, Nat.zero_le _⟩ HF (fun r42 S41 HF => ?_)
          refine ab_istore (lv' := [(5, .int r42), (4, .int (0 : Int32)), (3, .int (0 : Int32)), (2, .int (1 : Int32)), (1, .int r2), (0, .ref (g.2.1 + 119))]) d_D_takeLine_107 (Nat.le_of_ble_eq_true rfl) rfl ?_
          refine ab_iload 0 d_D_takeLine_109 rfl ?_
          refine sa_callSNi (As := [.int r42]) (rest := []) kc_D_79 d_D_takeLine_111 rfl (Nat.le_of_ble_eq_true rfl) enI (Nat.le_of_ble_eq_true rfl) ⟨Nat.zero_le _, Nat.zero_le _⟩ HF (fun r44 S43 HF => ?_)
          refine ab_if_ne (tgt := 119) d_D_takeLine_114 (by decide) (fun b45 => ?_) (fun b45 => ?_)
          · replace HF := HF.1 b45
            refine ab_aload_n 5 d_D_takeLine_119 rfl rfl ?_
            refine ab_dup d_D_takeLine_120 rfl ?_
            refine sa_getI kf_D_32 d_D_takeLine_121 sh_119 rfl ?_
            refine ab_iconst (v := (1 : Int32)) d_D_takeLine_124 (by decide) ?_
            refine ab_iadd d_D_takeLine_125 ?_
            refine sa_putIn kp_D_32 d_D_takeLine_126 sh_119 rfl (fun S46 hS46 => ?_)
            replace HF := HF S46 hS46
            refine ab_iload_n 3 d_D_takeLine_129 rfl rfl ?_
            refine ab_if_eq (tgt := 154) d_D_takeLine_130 (by decide) (fun h => absurd h (by decide)) (fun _ => ?_)
            refine ab_aload_n 5 d_D_takeLine_133 rfl rfl ?_
            refine sa_getR (r := 120) kf_D_11 d_D_takeLine_134 sh_119 rfl ?_
            refine ab_aload_n 5 d_D_takeLine_137 rfl rfl ?_
            refine sa_getI kf_D_64 d_D_takeLine_138 sh_119 rfl ?_
            refine ab_iload 0 d_D_takeLine_141 rfl ?_
            obtain ⟨c47, HF⟩ := HF
            refine sa_iastn d_D_takeLine_143 sh_120 c47 (fun S48 hS48 => ?_)
            replace HF := HF S48 hS48
            refine ab_aload_n 5 d_D_takeLine_144 rfl rfl ?_
            refine ab_dup d_D_takeLine_145 rfl ?_
            refine sa_getI kf_D_64 d_D_takeLine_146 sh_119 rfl ?_
            refine ab_iconst (v := (1 : Int32)) d_D_takeLine_149 (by decide) ?_
            refine ab_iadd d_D_takeLine_150 ?_
            refine sa_putIn kp_D_64 d_D_takeLine_151 sh_119 rfl (fun S49 hS49 => ?_)
            replace HF := HF S49 hS49
            refine ab_iload_n 2 d_D_takeLine_154 rfl rfl ?_
            refine ab_if_eq (tgt := 179) d_D_takeLine_155 (by decide) (fun _ => ?_) (fun h => absurd h (by decide))
            refine ab_aload_n 5 d_D_takeLine_179 rfl rfl ?_
            refine ab_bipush (v := nI 10) d_D_takeLine_180 (by decide) ?_
            refine sa_callVi (As := [.int (nI 10)]) (rest := []) kc_D_47 d_D_takeLine_182 sh_119 rfl rfl rfl (Nat.le_of_ble_eq_true rfl) enI (Nat.le_of_ble_eq_true rfl) ⟨Nat.zero_le _, Nat.zero_le _⟩ HF (fun r51 S50 HF => ?_)
            obtain ⟨c52, HF⟩ := HF
            exact sa_iretZ rfl c52.1 d_D_takeLine_185 HF
          · replace HF := HF.2 b45
            refine ab_iconst (v := (0 : Int32)) d_D_takeLine_117 (by decide) ?_
            exact sa_iretZ rfl isB_0.1 d_D_takeLine_118 HF
      · replace HF := HF.2 b38
        refine ab_iconst (v := (1 : Int32)) d_D_takeLine_35 (by decide) ?_
        refine ab_goto (tgt := 40) d_D_takeLine_36 (by decide) ?_
        refine ab_istore_n (lv' := [(3, .int (1 : Int32)), (2, .int (1 : Int32)), (1, .int r2), (0, .ref (g.2.1 + 119))]) d_D_takeLine_40 rfl (Nat.le_of_ble_eq_true rfl) rfl ?_
        refine ab_iload_n 1 d_D_takeLine_41 rfl rfl ?_
        refine ab_if_eq (tgt := 56) d_D_takeLine_42 (by decide) (fun h => absurd h (by decide)) (fun _ => ?_)
        refine ab_aload_n 3 d_D_takeLine_45 rfl rfl ?_
        refine sa_getI kf_D_64 d_D_takeLine_46 sh_119 rfl ?_
        refine ab_aload_n 3 d_D_takeLine_49 rfl rfl ?_
        refine sa_getI kf_D_58 d_D_takeLine_50 sh_119 rfl ?_
        refine ab_icmp_ge (tgt := 71) d_D_takeLine_53 (by decide) (fun b53 => ?_) (fun b53 => ?_)
        · replace HF := HF.1 b53
          refine ab_iconst (v := (1 : Int32)) d_D_takeLine_71 (by decide) ?_
          refine ab_goto (tgt := 76) d_D_takeLine_72 (by decide) ?_
          refine ab_istore (lv' := [(4, .int (1 : Int32)), (3, .int (1 : Int32)), (2, .int (1 : Int32)), (1, .int r2), (0, .ref (g.2.1 + 119))]) d_D_takeLine_76 (Nat.le_of_ble_eq_true rfl) rfl ?_
          refine ab_iload_n 2 d_D_takeLine_78 rfl rfl ?_
          refine ab_if_ne (tgt := 86) d_D_takeLine_79 (by decide) (fun _ => ?_) (fun h => absurd h (by decide))
          refine ab_iload 0 d_D_takeLine_86 rfl ?_
          refine ab_if_eq (tgt := 93) d_D_takeLine_88 (by decide) (fun h => absurd h (by decide)) (fun _ => ?_)
          refine ab_iconst (v := (0 : Int32)) d_D_takeLine_91 (by decide) ?_
          exact sa_iretZ rfl isB_0.1 d_D_takeLine_92 HF
        · replace HF := HF.2 b53
          refine ab_iload_n 0 d_D_takeLine_56 rfl rfl ?_
          refine ab_if_eq (tgt := 75) d_D_takeLine_57 (by decide) (fun h => absurd h (by decide)) (fun _ => ?_)
          refine ab_aload_n 3 d_D_takeLine_60 rfl rfl ?_
          refine sa_getI kf_D_67 d_D_takeLine_61 sh_119 rfl ?_
          refine ab_aload_n 3 d_D_takeLine_64 rfl rfl ?_
          refine sa_getI kf_D_61 d_D_takeLine_65 sh_119 rfl ?_
          refine ab_icmp_lt (tgt := 75) d_D_takeLine_68 (by decide) (fun b54 => ?_) (fun b54 => ?_)
          · replace HF := HF.1 b54
            refine ab_iconst (v := (0 : Int32)) d_D_takeLine_75 (by decide) ?_
            refine ab_istore (lv' := [(4, .int (0 : Int32)), (3, .int (1 : Int32)), (2, .int (1 : Int32)), (1, .int r2), (0, .ref (g.2.1 + 119))]) d_D_takeLine_76 (Nat.le_of_ble_eq_true rfl) rfl ?_
            refine ab_iload_n 2 d_D_takeLine_78 rfl rfl ?_
            refine ab_if_ne (tgt := 86) d_D_takeLine_79 (by decide) (fun _ => ?_) (fun h => absurd h (by decide))
            refine ab_iload 0 d_D_takeLine_86 rfl ?_
            refine ab_if_eq (tgt := 93) d_D_takeLine_88 (by decide) (fun _ => ?_) (fun h => absurd h (by decide))
            refine ab_aload_n 4 d_D_takeLine_93 rfl rfl ?_
            refine ab_dup d_D_takeLine_94 rfl ?_
            refine sa_getI kf_D_32 d_D_takeLine_95 sh_119 rfl ?_
            refine ab_iconst (v := (1 : Int32)) d_D_takeLine_98 (by decide) ?_
            refine ab_iadd d_D_takeLine_99 ?_
            refine sa_putIn kp_D_32 d_D_takeLine_100 sh_119 rfl (fun S55 hS55 => ?_)
            replace HF := HF S55 hS55
            refine ab_aload_n 4 d_D_takeLine_103 rfl rfl ?_
            refine sa_callVi (As := []) (rest := []) kc_D_76 d_D_takeLine_104 sh_119 rfl rfl rfl (Nat.le_of_ble_eq_true rfl) enI (Nat.le_of_ble_eq_true rfl) ⟨Nat.zero_le _, Nat.zero_le _⟩ HF (fun r57 S56 HF => ?_)
            refine ab_istore (lv' := [(5, .int r57), (4, .int (0 : Int32)), (3, .int (1 : Int32)), (2, .int (1 : Int32)), (1, .int r2), (0, .ref (g.2.1 + 119))]) d_D_takeLine_107 (Nat.le_of_ble_eq_true rfl) rfl ?_
            refine ab_iload 0 d_D_takeLine_109 rfl ?_
            refine sa_callSNi (As := [.int r57]) (rest := []) kc_D_79 d_D_takeLine_111 rfl (Nat.le_of_ble_eq_true rfl) enI (Nat.le_of_ble_eq_true rfl) ⟨Nat.zero_le _, Nat.zero_le _⟩ HF (fun r59 S58 HF => ?_)
            refine ab_if_ne (tgt := 119) d_D_takeLine_114 (by decide) (fun b60 => ?_) (fun b60 => ?_)
            · replace HF := HF.1 b60
              refine ab_aload_n 5 d_D_takeLine_119 rfl rfl ?_
              refine ab_dup d_D_takeLine_120 rfl ?_
              refine sa_getI kf_D_32 d_D_takeLine_121 sh_119 rfl ?_
              refine ab_iconst (v := (1 : Int32)) d_D_takeLine_124 (by decide) ?_
              refine ab_iadd d_D_takeLine_125 ?_
              refine sa_putIn kp_D_32 d_D_takeLine_126 sh_119 rfl (fun S61 hS61 => ?_)
              replace HF := HF S61 hS61
              refine ab_iload_n 3 d_D_takeLine_129 rfl rfl ?_
              refine ab_if_eq (tgt := 154) d_D_takeLine_130 (by decide) (fun h => absurd h (by decide)) (fun _ => ?_)
              refine ab_aload_n 5 d_D_takeLine_133 rfl rfl ?_
              refine sa_getR (r := 120) kf_D_11 d_D_takeLine_134 sh_119 rfl ?_
              refine ab_aload_n 5 d_D_takeLine_137 rfl rfl ?_
              refine sa_getI kf_D_64 d_D_takeLine_138 sh_119 rfl ?_
              refine ab_iload 0 d_D_takeLine_141 rfl ?_
              obtain ⟨c62, HF⟩ := HF
              refine sa_iastn d_D_takeLine_143 sh_120 c62 (fun S63 hS63 => ?_)
              replace HF := HF S63 hS63
              refine ab_aload_n 5 d_D_takeLine_144 rfl rfl ?_
              refine ab_dup d_D_takeLine_145 rfl ?_
              refine sa_getI kf_D_64 d_D_takeLine_146 sh_119 rfl ?_
              refine ab_iconst (v := (1 : Int32)) d_D_takeLine_149 (by decide) ?_
              refine ab_iadd d_D_takeLine_150 ?_
              refine sa_putIn kp_D_64 d_D_takeLine_151 sh_119 rfl (fun S64 hS64 => ?_)
              replace HF := HF S64 hS64
              refine ab_iload_n 2 d_D_takeLine_154 rfl rfl ?_
              refine ab_if_eq (tgt := 179) d_D_takeLine_155 (by decide) (fun h => absurd h (by decide)) (fun _ => ?_)
              refine ab_aload_n 5 d_D_takeLine_158 rfl rfl ?_
              refine sa_getR (r := 121) kf_D_15 d_D_takeLine_159 sh_119 rfl ?_
              refine ab_aload_n 5 d_D_takeLine_162 rfl rfl ?_
              refine sa_getI kf_D_67 d_D_takeLine_163 sh_119 rfl ?_
              refine ab_iload 0 d_D_takeLine_166 rfl ?_
              obtain ⟨c65, HF⟩ := HF
              refine sa_iastn d_D_takeLine_168 sh_121 c65 (fun S66 hS66 => ?_)
              replace HF := HF S66 hS66
              refine ab_aload_n 5 d_D_takeLine_169 rfl rfl ?_
              refine ab_dup d_D_takeLine_170 rfl ?_
              refine sa_getI kf_D_67 d_D_takeLine_171 sh_119 rfl ?_
              refine ab_iconst (v := (1 : Int32)) d_D_takeLine_174 (by decide) ?_
              refine ab_iadd d_D_takeLine_175 ?_
              refine sa_putIn kp_D_67 d_D_takeLine_176 sh_119 rfl (fun S67 hS67 => ?_)
              replace HF := HF S67 hS67
              refine ab_aload_n 5 d_D_takeLine_179 rfl rfl ?_
              refine ab_bipush (v := nI 10) d_D_takeLine_180 (by decide) ?_
              refine sa_callVi (As := [.int (nI 10)]) (rest := []) kc_D_47 d_D_takeLine_182 sh_119 rfl rfl rfl (Nat.le_of_ble_eq_true rfl) enI (Nat.le_of_ble_eq_true rfl) ⟨Nat.zero_le _, Nat.zero_le _⟩ HF (fun r69 S68 HF => ?_)
              obtain ⟨c70, HF⟩ := HF
              exact sa_iretZ rfl c70.1 d_D_takeLine_185 HF
            · replace HF := HF.2 b60
              refine ab_iconst (v := (0 : Int32)) d_D_takeLine_117 (by decide) ?_
              exact sa_iretZ rfl isB_0.1 d_D_takeLine_118 HF
          · replace HF := HF.2 b54
            refine ab_iconst (v := (1 : Int32)) d_D_takeLine_71 (by decide) ?_
            refine ab_goto (tgt := 76) d_D_takeLine_72 (by decide) ?_
            refine ab_istore (lv' := [(4, .int (1 : Int32)), (3, .int (1 : Int32)), (2, .int (1 : Int32)), (1, .int r2), (0, .ref (g.2.1 + 119))]) d_D_takeLine_76 (Nat.le_of_ble_eq_true rfl) rfl ?_
            refine ab_iload_n 2 d_D_takeLine_78 rfl rfl ?_
            refine ab_if_ne (tgt := 86) d_D_takeLine_79 (by decide) (fun _ => ?_) (fun h => absurd h (by decide))
            refine ab_iload 0 d_D_takeLine_86 rfl ?_
            refine ab_if_eq (tgt := 93) d_D_takeLine_88 (by decide) (fun h => absurd h (by decide)) (fun _ => ?_)
            refine ab_iconst (v := (0 : Int32)) d_D_takeLine_91 (by decide) ?_
            exact sa_iretZ rfl isB_0.1 d_D_takeLine_92 HF
set_option maxRecDepth 100000 in
theorem f_D_takeSign {g : lp_G} {d : Nat} {Q : Int32 → SS → Prop} {S : SS} {x1 : Int32}
    (HF : MtI g um_D_here d [.ref (g.2.1 + 119)] S (fun r2 S1 => (r2 = x1 → ∀ S4 : SS, S4 = setI S1 119 1 ((S1.1 119 1) + (1 : Int32)) → Q (1 : Int32) S4) ∧ (¬ r2 = x1 → Q (0 : Int32) S1))) : MtI g um_D_takeSign (d + 1) [.ref (g.2.1 + 119), .int x1] S Q := by
  refine sa_entryI (lv' := [(0, .ref (g.2.1 + 119)), (1, .int x1)]) (by decide +kernel) (Nat.le_of_ble_eq_true rfl) rfl ?_
  refine ab_aload_n 0 d_D_takeSign_0 rfl rfl ?_
  refine sa_callVi (As := []) (rest := []) kc_D_76 d_D_takeSign_1 sh_119 rfl rfl rfl (Nat.le_of_ble_eq_true rfl) enI (Nat.le_of_ble_eq_true rfl) ⟨Nat.zero_le _, Nat.zero_le _⟩ HF (fun r2 S1 HF => ?_)
  refine ab_iload_n 1 d_D_takeSign_4 rfl rfl ?_
  refine ab_icmp_eq (tgt := 10) d_D_takeSign_5 (by decide) (fun b3 => ?_) (fun b3 => ?_)
  · replace HF := HF.1 b3
    refine ab_aload_n 0 d_D_takeSign_10 rfl rfl ?_
    refine ab_dup d_D_takeSign_11 rfl ?_
    refine sa_getI kf_D_32 d_D_takeSign_12 sh_119 rfl ?_
    refine ab_iconst (v := (1 : Int32)) d_D_takeSign_15 (by decide) ?_
    refine ab_iadd d_D_takeSign_16 ?_
    refine sa_putIn kp_D_32 d_D_takeSign_17 sh_119 rfl (fun S4 hS4 => ?_)
    replace HF := HF S4 hS4
    refine ab_iconst (v := (1 : Int32)) d_D_takeSign_20 (by decide) ?_
    exact sa_iretZ rfl isB_1.1 d_D_takeSign_21 HF
  · replace HF := HF.2 b3
    refine ab_iconst (v := (0 : Int32)) d_D_takeSign_8 (by decide) ?_
    exact sa_iretZ rfl isB_0.1 d_D_takeSign_9 HF
set_option maxRecDepth 100000 in
theorem f_D_takeNumber {g : lp_G} {d : Nat} {Q : Int32 → SS → Prop} {S : SS} 
    (HF : MtI g um_D_here d [.ref (g.2.1 + 119)] S (fun r2 S1 => MtI g um_D_isDigit d [.int r2] S1 (fun r4 S3 => (¬ r4 = 0 → MtI g um_D_here d [.ref (g.2.1 + 119)] S3 (fun r7 S6 => ∀ S8 : SS, S8 = setI S6 119 1 ((S6.1 119 1) + (1 : Int32)) → (r7 - (nI 48) ≤ 0 → Q (r7 - (nI 48)) S8) ∧ (¬ r7 - (nI 48) ≤ 0 → MtI g um_D_here d [.ref (g.2.1 + 119)] S8 (fun r11 S10 => MtI g um_D_isDigit d [.int r11] S10 (fun r13 S12 => (r13 = 0 → Q (r7 - (nI 48)) S12) ∧ (¬ r13 = 0 → MtI g um_D_here d [.ref (g.2.1 + 119)] S12 (fun r16 S15 => ∀ S17 : SS, S17 = setI S15 119 1 ((S15.1 119 1) + (1 : Int32)) → Q ((((nI 10) * (r7 - (nI 48))) + r16) - (nI 48)) S17))))))) ∧ (r4 = 0 → Q (-1 : Int32) S3)))) : MtI g um_D_takeNumber (d + 1) [.ref (g.2.1 + 119)] S Q := by
  refine sa_entryI (lv' := [(0, .ref (g.2.1 + 119))]) (by decide +kernel) (Nat.le_of_ble_eq_true rfl) rfl ?_
  refine ab_aload_n 0 d_D_takeNumber_0 rfl rfl ?_
  refine sa_callVi (As := []) (rest := []) kc_D_76 d_D_takeNumber_1 sh_119 rfl rfl rfl (Nat.le_of_ble_eq_true rfl) enI (Nat.le_of_ble_eq_true rfl) ⟨Nat.zero_le _, Nat.zero_le _⟩ HF (fun r2 S1 HF => ?_)
  refine sa_callSi (As := [.int r2]) (rest := []) kc_D_82 d_D_takeNumber_4 rfl (Nat.le_of_ble_eq_true rfl) enI (Nat.le_of_ble_eq_true rfl) ⟨Nat.zero_le _, Nat.zero_le _⟩ HF (fun r4 S3 HF => ?_)
  refine ab_if_ne (tgt := 12) d_D_takeNumber_7 (by decide) (fun b5 => ?_) (fun b5 => ?_)
  · replace HF := HF.1 b5
    refine ab_aload_n 0 d_D_takeNumber_12 rfl rfl ?_
    refine sa_callVi (As := []) (rest := []) kc_D_76 d_D_takeNumber_13 sh_119 rfl rfl rfl (Nat.le_of_ble_eq_true rfl) enI (Nat.le_of_ble_eq_true rfl) ⟨Nat.zero_le _, Nat.zero_le _⟩ HF (fun r7 S6 HF => ?_)
    refine ab_bipush (v := nI 48) d_D_takeNumber_16 (by decide) ?_
    refine ab_isub d_D_takeNumber_18 ?_
    refine ab_istore_n (lv' := [(1, .int (r7 - (nI 48))), (0, .ref (g.2.1 + 119))]) d_D_takeNumber_19 rfl (Nat.le_of_ble_eq_true rfl) rfl ?_
    refine ab_aload_n 1 d_D_takeNumber_20 rfl rfl ?_
    refine ab_dup d_D_takeNumber_21 rfl ?_
    refine sa_getI kf_D_32 d_D_takeNumber_22 sh_119 rfl ?_
    refine ab_iconst (v := (1 : Int32)) d_D_takeNumber_25 (by decide) ?_
    refine ab_iadd d_D_takeNumber_26 ?_
    refine sa_putIn kp_D_32 d_D_takeNumber_27 sh_119 rfl (fun S8 hS8 => ?_)
    replace HF := HF S8 hS8
    refine ab_iload_n 0 d_D_takeNumber_30 rfl rfl ?_
    refine ab_if_le (tgt := 67) d_D_takeNumber_31 (by decide) (fun b9 => ?_) (fun b9 => ?_)
    · replace HF := HF.1 b9
      refine ab_iload_n 0 d_D_takeNumber_67 rfl rfl ?_
      exact sa_iretI rfl d_D_takeNumber_68 HF
    · replace HF := HF.2 b9
      refine ab_aload_n 1 d_D_takeNumber_34 rfl rfl ?_
      refine sa_callVi (As := []) (rest := []) kc_D_76 d_D_takeNumber_35 sh_119 rfl rfl rfl (Nat.le_of_ble_eq_true rfl) enI (Nat.le_of_ble_eq_true rfl) ⟨Nat.zero_le _, Nat.zero_le _⟩ HF (fun r11 S10 HF => ?_)
      refine sa_callSi (As := [.int r11]) (rest := []) kc_D_82 d_D_takeNumber_38 rfl (Nat.le_of_ble_eq_true rfl) enI (Nat.le_of_ble_eq_true rfl) ⟨Nat.zero_le _, Nat.zero_le _⟩ HF (fun r13 S12 HF => ?_)
      refine ab_if_eq (tgt := 67) d_D_takeNumber_41 (by decide) (fun b14 => ?_) (fun b14 => ?_)
      · replace HF := HF.1 b14
        refine ab_iload_n 0 d_D_takeNumber_67 rfl rfl ?_
        exact sa_iretI rfl d_D_takeNumber_68 HF
      · replace HF := HF.2 b14
        refine ab_bipush (v := nI 10) d_D_takeNumber_44 (by decide) ?_
        refine ab_iload_n 0 d_D_takeNumber_46 rfl rfl ?_
        refine ab_imul d_D_takeNumber_47 ?_
        refine ab_aload_n 1 d_D_takeNumber_48 rfl rfl ?_
        refine sa_callVi (As := []) (rest := [.int ((nI 10) * (r7 - (nI 48)))]) kc_D_76 d_D_takeNumber_49 sh_119 rfl rfl rfl (Nat.le_of_ble_eq_true rfl) enI (Nat.le_of_ble_eq_true rfl) ⟨Nat.zero_le _, Nat.zero_le _⟩ HF (fun r16 S15 HF => ?_)
        refine ab_iadd d_D_takeNumber_52 ?_
        refine ab_bipush (v := nI 48) d_D_takeNumber_53 (by decide) ?_
        refine ab_isub d_D_takeNumber_55 ?_
        refine ab_istore_n (lv' := [(1, .int ((((nI 10) * (r7 - (nI 48))) + r16) - (nI 48))), (0, .ref (g.2.1 + 119))]) d_D_takeNumber_56 rfl (Nat.le_of_ble_eq_true rfl) rfl ?_
        refine ab_aload_n 1 d_D_takeNumber_57 rfl rfl ?_
        refine ab_dup d_D_takeNumber_58 rfl ?_
        refine sa_getI kf_D_32 d_D_takeNumber_59 sh_119 rfl ?_
        refine ab_iconst (v := (1 : Int32)) d_D_takeNumber_62 (by decide) ?_
        refine ab_iadd d_D_takeNumber_63 ?_
        refine sa_putIn kp_D_32 d_D_takeNumber_64 sh_119 rfl (fun S17 hS17 => ?_)
        replace HF := HF S17 hS17
        refine ab_iload_n 0 d_D_takeNumber_67 rfl rfl ?_
        exact sa_iretI rfl d_D_takeNumber_68 HF
  · replace HF := HF.2 b5
    refine ab_iconst (v := (-1 : Int32)) d_D_takeNumber_10 (by decide) ?_
    exact sa_iretI rfl d_D_takeNumber_11 HF
set_option maxRecDepth 100000 in
theorem f_D_here {g : lp_G} {d : Nat} {Q : Int32 → SS → Prop} {S : SS} 
    (HF : (S.1 90 1 ≤ S.1 119 1 → Q (-1 : Int32) S) ∧ (¬ S.1 90 1 ≤ S.1 119 1 → (vp_in (S.1 119 1) 900) ∧ (Q (S.2 91 (S.1 119 1).toNatClampNeg) S))) : MtI g um_D_here d [.ref (g.2.1 + 119)] S Q := by
  refine sa_entryI (lv' := [(0, .ref (g.2.1 + 119))]) (by decide +kernel) (Nat.le_of_ble_eq_true rfl) rfl ?_
  refine ab_aload_n 0 d_D_here_0 rfl rfl ?_
  refine sa_getI kf_D_32 d_D_here_1 sh_119 rfl ?_
  refine ab_aload_n 0 d_D_here_4 rfl rfl ?_
  refine sa_getR (r := 90) kf_D_18 d_D_here_5 sh_119 rfl ?_
  refine sa_getI kf_D_36 d_D_here_8 sh_90 rfl ?_
  refine ab_icmp_ge (tgt := 29) d_D_here_11 (by decide) (fun b1 => ?_) (fun b1 => ?_)
  · replace HF := HF.1 b1
    refine ab_iconst (v := (-1 : Int32)) d_D_here_29 (by decide) ?_
    exact sa_iretI rfl d_D_here_30 HF
  · replace HF := HF.2 b1
    refine ab_aload_n 0 d_D_here_14 rfl rfl ?_
    refine sa_getR (r := 90) kf_D_18 d_D_here_15 sh_119 rfl ?_
    refine sa_getR (r := 91) kf_D_85 d_D_here_18 sh_90 rfl ?_
    refine ab_aload_n 0 d_D_here_21 rfl rfl ?_
    refine sa_getI kf_D_32 d_D_here_22 sh_119 rfl ?_
    obtain ⟨c2, HF⟩ := HF
    refine sa_iald d_D_here_25 sh_91 c2 ?_
    refine ab_goto (tgt := 30) d_D_here_26 (by decide) ?_
    exact sa_iretI rfl d_D_here_30 HF
set_option maxRecDepth 100000 in
theorem f_D_isDigit {g : lp_G} {d : Nat} {Q : Int32 → SS → Prop} {S : SS} {x0 : Int32}
    (HF : (x0 < nI 48 → Q (0 : Int32) S) ∧ (¬ x0 < nI 48 → (nI 57 < x0 → Q (0 : Int32) S) ∧ (¬ nI 57 < x0 → Q (1 : Int32) S))) : MtI g um_D_isDigit d [.int x0] S Q := by
  refine sa_entryI (lv' := [(0, .int x0)]) (by decide +kernel) (Nat.le_of_ble_eq_true rfl) rfl ?_
  refine ab_iload_n 0 d_D_isDigit_0 rfl rfl ?_
  refine ab_bipush (v := nI 48) d_D_isDigit_1 (by decide) ?_
  refine ab_icmp_lt (tgt := 16) d_D_isDigit_3 (by decide) (fun b1 => ?_) (fun b1 => ?_)
  · replace HF := HF.1 b1
    refine ab_iconst (v := (0 : Int32)) d_D_isDigit_16 (by decide) ?_
    exact sa_iretZ rfl isB_0.1 d_D_isDigit_17 HF
  · replace HF := HF.2 b1
    refine ab_iload_n 0 d_D_isDigit_6 rfl rfl ?_
    refine ab_bipush (v := nI 57) d_D_isDigit_7 (by decide) ?_
    refine ab_icmp_gt (tgt := 16) d_D_isDigit_9 (by decide) (fun b2 => ?_) (fun b2 => ?_)
    · replace HF := HF.1 b2
      refine ab_iconst (v := (0 : Int32)) d_D_isDigit_16 (by decide) ?_
      exact sa_iretZ rfl isB_0.1 d_D_isDigit_17 HF
    · replace HF := HF.2 b2
      refine ab_iconst (v := (1 : Int32)) d_D_isDigit_12 (by decide) ?_
      refine ab_goto (tgt := 17) d_D_isDigit_13 (by decide) ?_
      exact sa_iretZ rfl isB_1.1 d_D_isDigit_17 HF
set_option maxRecDepth 100000 in
theorem f_F_patch {g : lp_G} {d : Nat} {Q : Int32 → SS → Prop} {S : SS} {k1 : Nat} (hk1 : isT k1)
    (HF : ∀ S1 : SS, S1 = setI S 123 1 (0 : Int32) → MtV g um_D_goToBeginning d [.ref (g.2.1 + 119)] S1 (fun S2 => AtI g um_F_patch (d + 1) Q 25 [(0, .ref (g.2.1 + 122)), (1, .ref (g.2.1 + k1)), (2, .int (0 : Int32)), (3, .int (0 : Int32)), (4, .int (S.1 k1 1))] [] S2)) : MtI g um_F_patch (d + 1) [.ref (g.2.1 + 122), .ref (g.2.1 + k1)] S Q := by
  refine sa_entryI (lv' := [(0, .ref (g.2.1 + 122)), (1, .ref (g.2.1 + k1))]) (by decide +kernel) (Nat.le_of_ble_eq_true rfl) rfl ?_
  refine ab_iconst (v := (0 : Int32)) d_F_patch_0 (by decide) ?_
  refine ab_istore_n (lv' := [(2, .int (0 : Int32)), (0, .ref (g.2.1 + 122)), (1, .ref (g.2.1 + k1))]) d_F_patch_1 rfl (Nat.le_of_ble_eq_true rfl) rfl ?_
  refine ab_iconst (v := (0 : Int32)) d_F_patch_2 (by decide) ?_
  refine ab_istore_n (lv' := [(3, .int (0 : Int32)), (2, .int (0 : Int32)), (0, .ref (g.2.1 + 122)), (1, .ref (g.2.1 + k1))]) d_F_patch_3 rfl (Nat.le_of_ble_eq_true rfl) rfl ?_
  refine ab_aload_n 3 d_F_patch_4 rfl rfl ?_
  refine sa_getI kf_F_22 d_F_patch_5 hk1.1 rfl ?_
  refine ab_istore (lv' := [(4, .int (S.1 k1 1)), (3, .int (0 : Int32)), (2, .int (0 : Int32)), (0, .ref (g.2.1 + 122)), (1, .ref (g.2.1 + k1))]) d_F_patch_8 (Nat.le_of_ble_eq_true rfl) rfl ?_
  refine ab_aload_n 3 d_F_patch_10 rfl rfl ?_
  refine sa_getR (r := 123) kf_F_12 d_F_patch_11 sh_122 rfl ?_
  refine ab_iconst (v := (0 : Int32)) d_F_patch_14 (by decide) ?_
  refine sa_putIn kp_F_22 d_F_patch_15 sh_123 rfl (fun S1 hS1 => ?_)
  replace HF := HF S1 hS1
  refine ab_aload_n 3 d_F_patch_18 rfl rfl ?_
  refine sa_getR (r := 119) kf_F_18 d_F_patch_19 sh_122 rfl ?_
  refine sa_callVv (As := []) (rest := []) kc_F_26 d_F_patch_22 sh_119 rfl rfl rfl (Nat.le_of_ble_eq_true rfl) enI (Nat.le_of_ble_eq_true rfl) ⟨Nat.zero_le _, Nat.zero_le _⟩ HF (fun S2 HF => ?_)
  refine ab_sub (lv' := [(0, .ref (g.2.1 + 122)), (1, .ref (g.2.1 + k1)), (2, .int (0 : Int32)), (3, .int (0 : Int32)), (4, .int (S.1 k1 1))]) [3, 4, 2, 1, 0] rfl ?_
  exact HF
set_option maxRecDepth 100000 in
theorem f_F_patch_25 {g : lp_G} {d : Nat} {Q : Int32 → SS → Prop} {S : SS} {x2 : Int32} {x3 : Int32} {x4 : Int32} {k1 : Nat} (hk1 : isT k1)
    (HF : (nI 900 ≤ x2 → MtV g um_T_appendPart d [.ref (g.2.1 + 123), .ref (g.2.1 + k1), .int x3, .int (S.1 k1 1)] S (fun S5 => MtV g um_T_become d [.ref (g.2.1 + k1), .ref (g.2.1 + 123)] S5 (fun S7 => Q x2 S7))) ∧ (¬ nI 900 ≤ x2 → MtI g um_D_hasMore d [.ref (g.2.1 + 119)] S (fun r10 S9 => (r10 = 0 → MtV g um_T_appendPart d [.ref (g.2.1 + 123), .ref (g.2.1 + k1), .int x3, .int (S9.1 k1 1)] S9 (fun S12 => MtV g um_T_become d [.ref (g.2.1 + k1), .ref (g.2.1 + 123)] S12 (fun S14 => Q x2 S14))) ∧ (¬ r10 = 0 → MtI g um_D_takeHunk d [.ref (g.2.1 + 119)] S9 (fun r17 S16 => (r17 = 0 → MtV g um_T_appendPart d [.ref (g.2.1 + 123), .ref (g.2.1 + k1), .int x3, .int (S16.1 k1 1)] S16 (fun S19 => MtV g um_T_become d [.ref (g.2.1 + k1), .ref (g.2.1 + 123)] S19 (fun S21 => Q x2 S21))) ∧ (¬ r17 = 0 → MtI g um_F_nearestPlace d [.ref (g.2.1 + 122), .ref (g.2.1 + k1), .int x3] S16 (fun r24 S23 => (r24 = (-3 : Int32) → Q ((-3 : Int32) - x2) S23) ∧ (¬ r24 = (-3 : Int32) → (x4 + ((S23.1 119 8) - (S23.1 119 6)) ≤ nI 24 → MtV g um_T_appendPart d [.ref (g.2.1 + 123), .ref (g.2.1 + k1), .int x3, .int r24] S23 (fun S27 => MtV g um_F_appendNewLines d [.ref (g.2.1 + 122)] S27 (fun S29 => AtI g um_F_patch (d + 1) Q 25 [(0, .ref (g.2.1 + 122)), (1, .ref (g.2.1 + k1)), (2, .int (x2 + 1)), (3, .int (r24 + (S29.1 119 6))), (4, .int (x4 + ((S23.1 119 8) - (S23.1 119 6))))] [] S29))) ∧ (¬ x4 + ((S23.1 119 8) - (S23.1 119 6)) ≤ nI 24 → Q ((-3 : Int32) - x2) S23))))))))) : AtI g um_F_patch (d + 1) Q 25 [(0, .ref (g.2.1 + 122)), (1, .ref (g.2.1 + k1)), (2, .int x2), (3, .int x3), (4, .int x4)] [] S := by
  refine ab_iload_n 2 d_F_patch_25 rfl rfl ?_
  refine ab_sipush (v := nI 900) d_F_patch_26 (by decide) ?_
  refine ab_icmp_ge (tgt := 131) d_F_patch_29 (by decide) (fun b4 => ?_) (fun b4 => ?_)
  · replace HF := HF.1 b4
    refine ab_aload_n 0 d_F_patch_131 rfl rfl ?_
    refine sa_getR (r := 123) kf_F_12 d_F_patch_132 sh_122 rfl ?_
    refine ab_aload_n 1 d_F_patch_135 rfl rfl ?_
    refine ab_iload_n 3 d_F_patch_136 rfl rfl ?_
    refine ab_aload_n 1 d_F_patch_137 rfl rfl ?_
    refine sa_getI kf_F_22 d_F_patch_138 hk1.1 rfl ?_
    refine sa_callVv (As := [.ref (g.2.1 + k1), .int x3, .int (S.1 k1 1)]) (rest := []) kc_F_48 d_F_patch_141 sh_123 rfl rfl rfl (Nat.le_of_ble_eq_true rfl) enI (Nat.le_of_ble_eq_true rfl) ⟨Nat.zero_le _, Nat.zero_le _⟩ HF (fun S5 HF => ?_)
    refine ab_aload_n 1 d_F_patch_144 rfl rfl ?_
    refine ab_aload_n 0 d_F_patch_145 rfl rfl ?_
    refine sa_getR (r := 123) kf_F_12 d_F_patch_146 sh_122 rfl ?_
    refine sa_callVv (As := [.ref (g.2.1 + 123)]) (rest := []) kc_F_55 d_F_patch_149 hk1.1 rfl rfl rfl (Nat.le_of_ble_eq_true rfl) enI (Nat.le_of_ble_eq_true rfl) ⟨Nat.zero_le _, Nat.zero_le _⟩ HF (fun S7 HF => ?_)
    refine ab_iload_n 2 d_F_patch_152 rfl rfl ?_
    exact sa_iretI rfl d_F_patch_153 HF
  · replace HF := HF.2 b4
    refine ab_aload_n 0 d_F_patch_32 rfl rfl ?_
    refine sa_getR (r := 119) kf_F_18 d_F_patch_33 sh_122 rfl ?_
    refine sa_callVi (As := []) (rest := []) kc_F_31 d_F_patch_36 sh_119 rfl rfl rfl (Nat.le_of_ble_eq_true rfl) enI (Nat.le_of_ble_eq_true rfl) ⟨Nat.zero_le _, Nat.zero_le _⟩ HF (fun r10 S9 HF => ?_)
    refine ab_if_eq (tgt := 131) d_F_patch_39 (by decide) (fun b11 => ?_) (fun b11 => ?_)
    · replace HF := HF.1 b11
      refine ab_aload_n 0 d_F_patch_131 rfl rfl ?_
      refine sa_getR (r := 123) kf_F_12 d_F_patch_132 sh_122 rfl ?_
      refine ab_aload_n 1 d_F_patch_135 rfl rfl ?_
      refine ab_iload_n 3 d_F_patch_136 rfl rfl ?_
      refine ab_aload_n 1 d_F_patch_137 rfl rfl ?_
      refine sa_getI kf_F_22 d_F_patch_138 hk1.1 rfl ?_
      refine sa_callVv (As := [.ref (g.2.1 + k1), .int x3, .int (S9.1 k1 1)]) (rest := []) kc_F_48 d_F_patch_141 sh_123 rfl rfl rfl (Nat.le_of_ble_eq_true rfl) enI (Nat.le_of_ble_eq_true rfl) ⟨Nat.zero_le _, Nat.zero_le _⟩ HF (fun S12 HF => ?_)
      refine ab_aload_n 1 d_F_patch_144 rfl rfl ?_
      refine ab_aload_n 0 d_F_patch_145 rfl rfl ?_
      refine sa_getR (r := 123) kf_F_12 d_F_patch_146 sh_122 rfl ?_
      refine sa_callVv (As := [.ref (g.2.1 + 123)]) (rest := []) kc_F_55 d_F_patch_149 hk1.1 rfl rfl rfl (Nat.le_of_ble_eq_true rfl) enI (Nat.le_of_ble_eq_true rfl) ⟨Nat.zero_le _, Nat.zero_le _⟩ HF (fun S14 HF => ?_)
      refine ab_iload_n 2 d_F_patch_152 rfl rfl ?_
      exact sa_iretI rfl d_F_patch_153 HF
    · replace HF := HF.2 b11
      refine ab_aload_n 0 d_F_patch_42 rfl rfl ?_
      refine sa_getR (r := 119) kf_F_18 d_F_patch_43 sh_122 rfl ?_
      refine sa_callVi (As := []) (rest := []) kc_F_35 d_F_patch_46 sh_119 rfl rfl rfl (Nat.le_of_ble_eq_true rfl) enI (Nat.le_of_ble_eq_true rfl) ⟨Nat.zero_le _, Nat.zero_le _⟩ HF (fun r17 S16 HF => ?_)
      refine ab_if_eq (tgt := 131) d_F_patch_49 (by decide) (fun b18 => ?_) (fun b18 => ?_)
      · replace HF := HF.1 b18
        refine ab_aload_n 0 d_F_patch_131 rfl rfl ?_
        refine sa_getR (r := 123) kf_F_12 d_F_patch_132 sh_122 rfl ?_
        refine ab_aload_n 1 d_F_patch_135 rfl rfl ?_
        refine ab_iload_n 3 d_F_patch_136 rfl rfl ?_
        refine ab_aload_n 1 d_F_patch_137 rfl rfl ?_
        refine sa_getI kf_F_22 d_F_patch_138 hk1.1 rfl ?_
        refine sa_callVv (As := [.ref (g.2.1 + k1), .int x3, .int (S16.1 k1 1)]) (rest := []) kc_F_48 d_F_patch_141 sh_123 rfl rfl rfl (Nat.le_of_ble_eq_true rfl) enI (Nat.le_of_ble_eq_true rfl) ⟨Nat.zero_le _, Nat.zero_le _⟩ HF (fun S19 HF => ?_)
        refine ab_aload_n 1 d_F_patch_144 rfl rfl ?_
        refine ab_aload_n 0 d_F_patch_145 rfl rfl ?_
        refine sa_getR (r := 123) kf_F_12 d_F_patch_146 sh_122 rfl ?_
        refine sa_callVv (As := [.ref (g.2.1 + 123)]) (rest := []) kc_F_55 d_F_patch_149 hk1.1 rfl rfl rfl (Nat.le_of_ble_eq_true rfl) enI (Nat.le_of_ble_eq_true rfl) ⟨Nat.zero_le _, Nat.zero_le _⟩ HF (fun S21 HF => ?_)
        refine ab_iload_n 2 d_F_patch_152 rfl rfl ?_
        exact sa_iretI rfl d_F_patch_153 HF
      · replace HF := HF.2 b18
        refine ab_aload_n 0 d_F_patch_52 rfl rfl ?_
        refine ab_aload_n 1 d_F_patch_53 rfl rfl ?_
        refine ab_iload_n 3 d_F_patch_54 rfl rfl ?_
        refine sa_callVi (As := [.ref (g.2.1 + k1), .int x3]) (rest := []) kc_F_38 d_F_patch_55 sh_122 rfl rfl rfl (Nat.le_of_ble_eq_true rfl) enI (Nat.le_of_ble_eq_true rfl) ⟨Nat.zero_le _, Nat.zero_le _⟩ HF (fun r24 S23 HF => ?_)
        refine ab_istore (lv' := [(5, .int r24), (0, .ref (g.2.1 + 122)), (1, .ref (g.2.1 + k1)), (2, .int x2), (3, .int x3), (4, .int x4)]) d_F_patch_58 (Nat.le_of_ble_eq_true rfl) rfl ?_
        refine ab_iload 5 d_F_patch_60 rfl ?_
        refine ab_aload_n 1 d_F_patch_62 rfl rfl ?_
        refine sa_getR (r := 119) kf_F_18 d_F_patch_63 sh_122 rfl ?_
        refine sa_getI kf_F_42 d_F_patch_66 sh_119 rfl ?_
        refine ab_aload_n 1 d_F_patch_69 rfl rfl ?_
        refine sa_getR (r := 119) kf_F_18 d_F_patch_70 sh_122 rfl ?_
        refine sa_getI kf_F_45 d_F_patch_73 sh_119 rfl ?_
        refine ab_isub d_F_patch_76 ?_
        refine ab_iadd d_F_patch_77 ?_
        refine ab_istore (lv' := [(4, .int (x4 + ((S23.1 119 8) - (S23.1 119 6)))), (5, .int r24), (0, .ref (g.2.1 + 122)), (1, .ref (g.2.1 + k1)), (2, .int x2), (3, .int x3)]) d_F_patch_78 (Nat.le_of_ble_eq_true rfl) rfl ?_
        refine ab_iload 1 d_F_patch_80 rfl ?_
        refine ab_bipush (v := (-3 : Int32)) d_F_patch_82 (by decide) ?_
        refine ab_icmp_eq (tgt := 94) d_F_patch_84 (by decide) (fun b25 => ?_) (fun b25 => ?_)
        · replace HF := HF.1 b25
          refine ab_bipush (v := (-3 : Int32)) d_F_patch_94 (by decide) ?_
          refine ab_iload_n 4 d_F_patch_96 rfl rfl ?_
          refine ab_isub d_F_patch_97 ?_
          exact sa_iretI rfl d_F_patch_98 HF
        · replace HF := HF.2 b25
          refine ab_iload 0 d_F_patch_87 rfl ?_
          refine ab_bipush (v := nI 24) d_F_patch_89 (by decide) ?_
          refine ab_icmp_le (tgt := 99) d_F_patch_91 (by decide) (fun b26 => ?_) (fun b26 => ?_)
          · replace HF := HF.1 b26
            refine ab_aload_n 2 d_F_patch_99 rfl rfl ?_
            refine sa_getR (r := 123) kf_F_12 d_F_patch_100 sh_122 rfl ?_
            refine ab_aload_n 3 d_F_patch_103 rfl rfl ?_
            refine ab_iload_n 5 d_F_patch_104 rfl rfl ?_
            refine ab_iload 1 d_F_patch_105 rfl ?_
            refine sa_callVv (As := [.ref (g.2.1 + k1), .int x3, .int r24]) (rest := []) kc_F_48 d_F_patch_107 sh_123 rfl rfl rfl (Nat.le_of_ble_eq_true rfl) enI (Nat.le_of_ble_eq_true rfl) ⟨Nat.zero_le _, Nat.zero_le _⟩ HF (fun S27 HF => ?_)
            refine ab_aload_n 2 d_F_patch_110 rfl rfl ?_
            refine sa_callVv (As := []) (rest := []) kc_F_52 d_F_patch_111 sh_122 rfl rfl rfl (Nat.le_of_ble_eq_true rfl) enI (Nat.le_of_ble_eq_true rfl) ⟨Nat.zero_le _, Nat.zero_le _⟩ HF (fun S29 HF => ?_)
            refine ab_iload 1 d_F_patch_114 rfl ?_
            refine ab_aload_n 2 d_F_patch_116 rfl rfl ?_
            refine sa_getR (r := 119) kf_F_18 d_F_patch_117 sh_122 rfl ?_
            refine sa_getI kf_F_45 d_F_patch_120 sh_119 rfl ?_
            refine ab_iadd d_F_patch_123 ?_
            refine ab_istore_n (lv' := [(3, .int (r24 + (S29.1 119 6))), (4, .int (x4 + ((S23.1 119 8) - (S23.1 119 6)))), (5, .int r24), (0, .ref (g.2.1 + 122)), (1, .ref (g.2.1 + k1)), (2, .int x2)]) d_F_patch_124 rfl (Nat.le_of_ble_eq_true rfl) rfl ?_
            refine ab_iinc (v := x2 + 1) (lv' := [(2, .int (x2 + 1)), (3, .int (r24 + (S29.1 119 6))), (4, .int (x4 + ((S23.1 119 8) - (S23.1 119 6)))), (5, .int r24), (0, .ref (g.2.1 + 122)), (1, .ref (g.2.1 + k1))]) 5 d_F_patch_125 rfl (congrArg (fun z => x2 + z) (show Int32.ofInt 1 = (1 : Int32) by decide)) (Nat.le_of_ble_eq_true rfl) rfl ?_
            refine ab_goto (tgt := 25) d_F_patch_128 (by decide) ?_
            refine ab_sub (lv' := [(0, .ref (g.2.1 + 122)), (1, .ref (g.2.1 + k1)), (2, .int (x2 + 1)), (3, .int (r24 + (S29.1 119 6))), (4, .int (x4 + ((S23.1 119 8) - (S23.1 119 6))))]) [4, 5, 0, 1, 2] rfl ?_
            exact HF
          · replace HF := HF.2 b26
            refine ab_bipush (v := (-3 : Int32)) d_F_patch_94 (by decide) ?_
            refine ab_iload_n 4 d_F_patch_96 rfl rfl ?_
            refine ab_isub d_F_patch_97 ?_
            exact sa_iretI rfl d_F_patch_98 HF
set_option maxRecDepth 100000 in
theorem f_F_appendNewLines {g : lp_G} {d : Nat} {Q : SS → Prop} {S : SS} 
    (HF : AtV g um_F_appendNewLines (d + 1) Q 2 [(0, .ref (g.2.1 + 122)), (1, .int (0 : Int32))] [] S) : MtV g um_F_appendNewLines (d + 1) [.ref (g.2.1 + 122)] S Q := by
  refine sa_entryV (lv' := [(0, .ref (g.2.1 + 122))]) (by decide +kernel) (Nat.le_of_ble_eq_true rfl) rfl ?_
  refine ab_iconst (v := (0 : Int32)) d_F_appendNewLines_0 (by decide) ?_
  refine ab_istore_n (lv' := [(1, .int (0 : Int32)), (0, .ref (g.2.1 + 122))]) d_F_appendNewLines_1 rfl (Nat.le_of_ble_eq_true rfl) rfl ?_
  refine ab_sub (lv' := [(0, .ref (g.2.1 + 122)), (1, .int (0 : Int32))]) [1, 0] rfl ?_
  exact HF
set_option maxRecDepth 100000 in
theorem f_F_appendNewLines_2 {g : lp_G} {d : Nat} {Q : SS → Prop} {S : SS} {x1 : Int32}
    (HF : (S.1 119 8 ≤ x1 → Q S) ∧ (¬ S.1 119 8 ≤ x1 → (vp_in x1 99) ∧ (MtV g um_T_append d [.ref (g.2.1 + 123), .int (S.2 121 x1.toNatClampNeg)] S (fun S3 => AtV g um_F_appendNewLines (d + 1) Q 2 [(0, .ref (g.2.1 + 122)), (1, .int (x1 + 1))] [] S3)))) : AtV g um_F_appendNewLines (d + 1) Q 2 [(0, .ref (g.2.1 + 122)), (1, .int x1)] [] S := by
  refine ab_iload_n 1 d_F_appendNewLines_2 rfl rfl ?_
  refine ab_aload_n 0 d_F_appendNewLines_3 rfl rfl ?_
  refine sa_getR (r := 119) kf_F_18 d_F_appendNewLines_4 sh_122 rfl ?_
  refine sa_getI kf_F_42 d_F_appendNewLines_7 sh_119 rfl ?_
  refine ab_icmp_ge (tgt := 35) d_F_appendNewLines_10 (by decide) (fun b1 => ?_) (fun b1 => ?_)
  · replace HF := HF.1 b1
    exact sa_ret rfl d_F_appendNewLines_35 HF
  · replace HF := HF.2 b1
    refine ab_aload_n 0 d_F_appendNewLines_13 rfl rfl ?_
    refine sa_getR (r := 123) kf_F_12 d_F_appendNewLines_14 sh_122 rfl ?_
    refine ab_aload_n 0 d_F_appendNewLines_17 rfl rfl ?_
    refine sa_getR (r := 119) kf_F_18 d_F_appendNewLines_18 sh_122 rfl ?_
    refine sa_getR (r := 121) kf_F_59 d_F_appendNewLines_21 sh_119 rfl ?_
    refine ab_iload_n 1 d_F_appendNewLines_24 rfl rfl ?_
    obtain ⟨c2, HF⟩ := HF
    refine sa_iald d_F_appendNewLines_25 sh_121 c2 ?_
    refine sa_callVv (As := [.int (S.2 121 x1.toNatClampNeg)]) (rest := []) kc_F_63 d_F_appendNewLines_26 sh_123 rfl rfl rfl (Nat.le_of_ble_eq_true rfl) enV (Nat.le_of_ble_eq_true rfl) ⟨Nat.zero_le _, Nat.zero_le _⟩ HF (fun S3 HF => ?_)
    refine ab_iinc (v := x1 + 1) (lv' := [(1, .int (x1 + 1)), (0, .ref (g.2.1 + 122))]) 1 d_F_appendNewLines_29 rfl (congrArg (fun z => x1 + z) (show Int32.ofInt 1 = (1 : Int32) by decide)) (Nat.le_of_ble_eq_true rfl) rfl ?_
    refine ab_goto (tgt := 2) d_F_appendNewLines_32 (by decide) ?_
    refine ab_sub (lv' := [(0, .ref (g.2.1 + 122)), (1, .int (x1 + 1))]) [1, 0] rfl ?_
    exact HF
set_option maxRecDepth 100000 in
theorem f_F_nearestPlace {g : lp_G} {d : Nat} {Q : Int32 → SS → Prop} {S : SS} {k1 : Nat} (hk1 : isT k1) {x2 : Int32}
    (HF : AtI g um_F_nearestPlace (d + 1) Q 6 [(0, .ref (g.2.1 + 122)), (1, .ref (g.2.1 + k1)), (3, .int (-3 : Int32)), (4, .int x2)] [] S) : MtI g um_F_nearestPlace (d + 1) [.ref (g.2.1 + 122), .ref (g.2.1 + k1), .int x2] S Q := by
  refine sa_entryI (lv' := [(0, .ref (g.2.1 + 122)), (1, .ref (g.2.1 + k1)), (2, .int x2)]) (by decide +kernel) (Nat.le_of_ble_eq_true rfl) rfl ?_
  refine ab_bipush (v := (-3 : Int32)) d_F_nearestPlace_0 (by decide) ?_
  refine ab_istore_n (lv' := [(3, .int (-3 : Int32)), (0, .ref (g.2.1 + 122)), (1, .ref (g.2.1 + k1)), (2, .int x2)]) d_F_nearestPlace_2 rfl (Nat.le_of_ble_eq_true rfl) rfl ?_
  refine ab_iload_n 3 d_F_nearestPlace_3 rfl rfl ?_
  refine ab_istore (lv' := [(4, .int x2), (3, .int (-3 : Int32)), (0, .ref (g.2.1 + 122)), (1, .ref (g.2.1 + k1)), (2, .int x2)]) d_F_nearestPlace_4 (Nat.le_of_ble_eq_true rfl) rfl ?_
  refine ab_sub (lv' := [(0, .ref (g.2.1 + 122)), (1, .ref (g.2.1 + k1)), (3, .int (-3 : Int32)), (4, .int x2)]) [2, 3, 1, 0] rfl ?_
  exact HF
set_option maxRecDepth 100000 in
theorem f_F_nearestPlace_6 {g : lp_G} {d : Nat} {Q : Int32 → SS → Prop} {S : SS} {x3 : Int32} {x4 : Int32} {k1 : Nat} (hk1 : isT k1)
    (HF : ((S.1 k1 1) - (S.1 119 6) < x4 → Q x3 S) ∧ (¬ (S.1 k1 1) - (S.1 119 6) < x4 → (x3 = (-3 : Int32) → MtI g um_F_fitsAt d [.ref (g.2.1 + 122), .ref (g.2.1 + k1), .int x4] S (fun r4 S3 => (r4 = 0 → AtI g um_F_nearestPlace (d + 1) Q 6 [(0, .ref (g.2.1 + 122)), (1, .ref (g.2.1 + k1)), (3, .int x3), (4, .int (x4 + 1))] [] S3) ∧ (¬ r4 = 0 → AtI g um_F_nearestPlace (d + 1) Q 6 [(0, .ref (g.2.1 + 122)), (1, .ref (g.2.1 + k1)), (3, .int x4), (4, .int (x4 + 1))] [] S3))) ∧ (¬ x3 = (-3 : Int32) → MtI g um_F_distance d [.ref (g.2.1 + 122), .int x4] S (fun r7 S6 => MtI g um_F_distance d [.ref (g.2.1 + 122), .int x3] S6 (fun r9 S8 => (r9 ≤ r7 → AtI g um_F_nearestPlace (d + 1) Q 6 [(0, .ref (g.2.1 + 122)), (1, .ref (g.2.1 + k1)), (3, .int x3), (4, .int (x4 + 1))] [] S8) ∧ (¬ r9 ≤ r7 → MtI g um_F_fitsAt d [.ref (g.2.1 + 122), .ref (g.2.1 + k1), .int x4] S8 (fun r12 S11 => (r12 = 0 → AtI g um_F_nearestPlace (d + 1) Q 6 [(0, .ref (g.2.1 + 122)), (1, .ref (g.2.1 + k1)), (3, .int x3), (4, .int (x4 + 1))] [] S11) ∧ (¬ r12 = 0 → AtI g um_F_nearestPlace (d + 1) Q 6 [(0, .ref (g.2.1 + 122)), (1, .ref (g.2.1 + k1)), (3, .int x4), (4, .int (x4 + 1))] [] S11)))))))) : AtI g um_F_nearestPlace (d + 1) Q 6 [(0, .ref (g.2.1 + 122)), (1, .ref (g.2.1 + k1)), (3, .int x3), (4, .int x4)] [] S := by
  refine ab_iload 3 d_F_nearestPlace_6 rfl ?_
  refine ab_aload_n 1 d_F_nearestPlace_8 rfl rfl ?_
  refine sa_getI kf_F_22 d_F_nearestPlace_9 hk1.1 rfl ?_
  refine ab_aload_n 0 d_F_nearestPlace_12 rfl rfl ?_
  refine sa_getR (r := 119) kf_F_18 d_F_nearestPlace_13 sh_122 rfl ?_
  refine sa_getI kf_F_45 d_F_nearestPlace_16 sh_119 rfl ?_
  refine ab_isub d_F_nearestPlace_19 ?_
  refine ab_icmp_gt (tgt := 74) d_F_nearestPlace_20 (by decide) (fun b1 => ?_) (fun b1 => ?_)
  · replace HF := HF.1 b1
    refine ab_iload_n 2 d_F_nearestPlace_74 rfl rfl ?_
    exact sa_iretI rfl d_F_nearestPlace_75 HF
  · replace HF := HF.2 b1
    refine ab_iload_n 2 d_F_nearestPlace_23 rfl rfl ?_
    refine ab_bipush (v := (-3 : Int32)) d_F_nearestPlace_24 (by decide) ?_
    refine ab_icmp_eq (tgt := 43) d_F_nearestPlace_26 (by decide) (fun b2 => ?_) (fun b2 => ?_)
    · replace HF := HF.1 b2
      refine ab_iconst (v := (1 : Int32)) d_F_nearestPlace_43 (by decide) ?_
      refine ab_goto (tgt := 48) d_F_nearestPlace_44 (by decide) ?_
      refine ab_istore (lv' := [(5, .int (1 : Int32)), (0, .ref (g.2.1 + 122)), (1, .ref (g.2.1 + k1)), (3, .int x3), (4, .int x4)]) d_F_nearestPlace_48 (Nat.le_of_ble_eq_true rfl) rfl ?_
      refine ab_iload 0 d_F_nearestPlace_50 rfl ?_
      refine ab_if_eq (tgt := 68) d_F_nearestPlace_52 (by decide) (fun h => absurd h (by decide)) (fun _ => ?_)
      refine ab_aload_n 1 d_F_nearestPlace_55 rfl rfl ?_
      refine ab_aload_n 2 d_F_nearestPlace_56 rfl rfl ?_
      refine ab_iload 4 d_F_nearestPlace_57 rfl ?_
      refine sa_callVi (As := [.ref (g.2.1 + k1), .int x4]) (rest := []) kc_F_71 d_F_nearestPlace_59 sh_122 rfl rfl rfl (Nat.le_of_ble_eq_true rfl) enI (Nat.le_of_ble_eq_true rfl) ⟨Nat.zero_le _, Nat.zero_le _⟩ HF (fun r4 S3 HF => ?_)
      refine ab_if_eq (tgt := 68) d_F_nearestPlace_62 (by decide) (fun b5 => ?_) (fun b5 => ?_)
      · replace HF := HF.1 b5
        refine ab_iinc (v := x4 + 1) (lv' := [(4, .int (x4 + 1)), (5, .int (1 : Int32)), (0, .ref (g.2.1 + 122)), (1, .ref (g.2.1 + k1)), (3, .int x3)]) 4 d_F_nearestPlace_68 rfl (congrArg (fun z => x4 + z) (show Int32.ofInt 1 = (1 : Int32) by decide)) (Nat.le_of_ble_eq_true rfl) rfl ?_
        refine ab_goto (tgt := 6) d_F_nearestPlace_71 (by decide) ?_
        refine ab_sub (lv' := [(0, .ref (g.2.1 + 122)), (1, .ref (g.2.1 + k1)), (3, .int x3), (4, .int (x4 + 1))]) [2, 3, 4, 0] rfl ?_
        exact HF
      · replace HF := HF.2 b5
        refine ab_iload 4 d_F_nearestPlace_65 rfl ?_
        refine ab_istore_n (lv' := [(3, .int x4), (5, .int (1 : Int32)), (0, .ref (g.2.1 + 122)), (1, .ref (g.2.1 + k1)), (4, .int x4)]) d_F_nearestPlace_67 rfl (Nat.le_of_ble_eq_true rfl) rfl ?_
        refine ab_iinc (v := x4 + 1) (lv' := [(4, .int (x4 + 1)), (3, .int x4), (5, .int (1 : Int32)), (0, .ref (g.2.1 + 122)), (1, .ref (g.2.1 + k1))]) 4 d_F_nearestPlace_68 rfl (congrArg (fun z => x4 + z) (show Int32.ofInt 1 = (1 : Int32) by decide)) (Nat.le_of_ble_eq_true rfl) rfl ?_
        refine ab_goto (tgt := 6) d_F_nearestPlace_71 (by decide) ?_
        refine ab_sub (lv' := [(0, .ref (g.2.1 + 122)), (1, .ref (g.2.1 + k1)), (3, .int x4), (4, .int (x4 + 1))]) [3, 4, 1, 0] rfl ?_
        exact HF
    · replace HF := HF.2 b2
      refine ab_aload_n 0 d_F_nearestPlace_29 rfl rfl ?_
      refine ab_iload 3 d_F_nearestPlace_30 rfl ?_
      refine sa_callVi (As := [.int x4]) (rest := []) kc_F_67 d_F_nearestPlace_32 sh_122 rfl rfl rfl (Nat.le_of_ble_eq_true rfl) enI (Nat.le_of_ble_eq_true rfl) ⟨Nat.zero_le _, Nat.zero_le _⟩ HF (fun r7 S6 HF => ?_)
      refine ab_aload_n 0 d_F_nearestPlace_35 rfl rfl ?_
      refine ab_iload_n 2 d_F_nearestPlace_36 rfl rfl ?_
      refine sa_callVi (As := [.int x3]) (rest := [.int r7]) kc_F_67 d_F_nearestPlace_37 sh_122 rfl rfl rfl (Nat.le_of_ble_eq_true rfl) enI (Nat.le_of_ble_eq_true rfl) ⟨Nat.zero_le _, Nat.zero_le _⟩ HF (fun r9 S8 HF => ?_)
      refine ab_icmp_ge (tgt := 47) d_F_nearestPlace_40 (by decide) (fun b10 => ?_) (fun b10 => ?_)
      · replace HF := HF.1 b10
        refine ab_iconst (v := (0 : Int32)) d_F_nearestPlace_47 (by decide) ?_
        refine ab_istore (lv' := [(5, .int (0 : Int32)), (0, .ref (g.2.1 + 122)), (1, .ref (g.2.1 + k1)), (3, .int x3), (4, .int x4)]) d_F_nearestPlace_48 (Nat.le_of_ble_eq_true rfl) rfl ?_
        refine ab_iload 0 d_F_nearestPlace_50 rfl ?_
        refine ab_if_eq (tgt := 68) d_F_nearestPlace_52 (by decide) (fun _ => ?_) (fun h => absurd h (by decide))
        refine ab_iinc (v := x4 + 1) (lv' := [(4, .int (x4 + 1)), (5, .int (0 : Int32)), (0, .ref (g.2.1 + 122)), (1, .ref (g.2.1 + k1)), (3, .int x3)]) 4 d_F_nearestPlace_68 rfl (congrArg (fun z => x4 + z) (show Int32.ofInt 1 = (1 : Int32) by decide)) (Nat.le_of_ble_eq_true rfl) rfl ?_
        refine ab_goto (tgt := 6) d_F_nearestPlace_71 (by decide) ?_
        refine ab_sub (lv' := [(0, .ref (g.2.1 + 122)), (1, .ref (g.2.1 + k1)), (3, .int x3), (4, .int (x4 + 1))]) [2, 3, 4, 0] rfl ?_
        exact HF
      · replace HF := HF.2 b10
        refine ab_iconst (v := (1 : Int32)) d_F_nearestPlace_43 (by decide) ?_
        refine ab_goto (tgt := 48) d_F_nearestPlace_44 (by decide) ?_
        refine ab_istore (lv' := [(5, .int (1 : Int32)), (0, .ref (g.2.1 + 122)), (1, .ref (g.2.1 + k1)), (3, .int x3), (4, .int x4)]) d_F_nearestPlace_48 (Nat.le_of_ble_eq_true rfl) rfl ?_
        refine ab_iload 0 d_F_nearestPlace_50 rfl ?_
        refine ab_if_eq (tgt := 68) d_F_nearestPlace_52 (by decide) (fun h => absurd h (by decide)) (fun _ => ?_)
        refine ab_aload_n 1 d_F_nearestPlace_55 rfl rfl ?_
        refine ab_aload_n 2 d_F_nearestPlace_56 rfl rfl ?_
        refine ab_iload 4 d_F_nearestPlace_57 rfl ?_
        refine sa_callVi (As := [.ref (g.2.1 + k1), .int x4]) (rest := []) kc_F_71 d_F_nearestPlace_59 sh_122 rfl rfl rfl (Nat.le_of_ble_eq_true rfl) enI (Nat.le_of_ble_eq_true rfl) ⟨Nat.zero_le _, Nat.zero_le _⟩ HF (fun r12 S11 HF => ?_)
        refine ab_if_eq (tgt := 68) d_F_nearestPlace_62 (by decide) (fun b13 => ?_) (fun b13 => ?_)
        · replace HF := HF.1 b13
          refine ab_iinc (v := x4 + 1) (lv' := [(4, .int (x4 + 1)), (5, .int (1 : Int32)), (0, .ref (g.2.1 + 122)), (1, .ref (g.2.1 + k1)), (3, .int x3)]) 4 d_F_nearestPlace_68 rfl (congrArg (fun z => x4 + z) (show Int32.ofInt 1 = (1 : Int32) by decide)) (Nat.le_of_ble_eq_true rfl) rfl ?_
          refine ab_goto (tgt := 6) d_F_nearestPlace_71 (by decide) ?_
          refine ab_sub (lv' := [(0, .ref (g.2.1 + 122)), (1, .ref (g.2.1 + k1)), (3, .int x3), (4, .int (x4 + 1))]) [2, 3, 4, 0] rfl ?_
          exact HF
        · replace HF := HF.2 b13
          refine ab_iload 4 d_F_nearestPlace_65 rfl ?_
          refine ab_istore_n (lv' := [(3, .int x4), (5, .int (1 : Int32)), (0, .ref (g.2.1 + 122)), (1, .ref (g.2.1 + k1)), (4, .int x4)]) d_F_nearestPlace_67 rfl (Nat.le_of_ble_eq_true rfl) rfl ?_
          refine ab_iinc (v := x4 + 1) (lv' := [(4, .int (x4 + 1)), (3, .int x4), (5, .int (1 : Int32)), (0, .ref (g.2.1 + 122)), (1, .ref (g.2.1 + k1))]) 4 d_F_nearestPlace_68 rfl (congrArg (fun z => x4 + z) (show Int32.ofInt 1 = (1 : Int32) by decide)) (Nat.le_of_ble_eq_true rfl) rfl ?_
          refine ab_goto (tgt := 6) d_F_nearestPlace_71 (by decide) ?_
          refine ab_sub (lv' := [(0, .ref (g.2.1 + 122)), (1, .ref (g.2.1 + k1)), (3, .int x4), (4, .int (x4 + 1))]) [3, 4, 1, 0] rfl ?_
          exact HF
set_option maxRecDepth 100000 in
theorem f_F_distance {g : lp_G} {d : Nat} {Q : Int32 → SS → Prop} {S : SS} {x1 : Int32}
    (HF : Q (if 0 ≤ x1 - (S.1 119 2) then x1 - (S.1 119 2) else 0 - (x1 - (S.1 119 2))) S) : MtI g um_F_distance (d + 1) [.ref (g.2.1 + 122), .int x1] S Q := by
  refine sa_entryI (lv' := [(0, .ref (g.2.1 + 122)), (1, .int x1)]) (by decide +kernel) (Nat.le_of_ble_eq_true rfl) rfl ?_
  refine ab_iload_n 1 d_F_distance_0 rfl rfl ?_
  refine ab_aload_n 0 d_F_distance_1 rfl rfl ?_
  refine sa_getR (r := 119) kf_F_18 d_F_distance_2 sh_122 rfl ?_
  refine sa_getI kf_F_75 d_F_distance_5 sh_119 rfl ?_
  refine ab_isub d_F_distance_8 ?_
  refine sa_mabs km_F_78 d_F_distance_9 enI (Nat.le_of_ble_eq_true rfl) ⟨Nat.zero_le _, Nat.zero_le _⟩ ?_
  exact sa_iretI rfl d_F_distance_12 HF
set_option maxRecDepth 100000 in
theorem f_F_fitsAt {g : lp_G} {d : Nat} {Q : Int32 → SS → Prop} {S : SS} {k1 : Nat} (hk1 : isT k1) {x2 : Int32}
    (HF : AtI g um_F_fitsAt d Q 2 [(0, .ref (g.2.1 + 122)), (1, .ref (g.2.1 + k1)), (2, .int x2), (3, .int (0 : Int32))] [] S) : MtI g um_F_fitsAt d [.ref (g.2.1 + 122), .ref (g.2.1 + k1), .int x2] S Q := by
  refine sa_entryI (lv' := [(0, .ref (g.2.1 + 122)), (1, .ref (g.2.1 + k1)), (2, .int x2)]) (by decide +kernel) (Nat.le_of_ble_eq_true rfl) rfl ?_
  refine ab_iconst (v := (0 : Int32)) d_F_fitsAt_0 (by decide) ?_
  refine ab_istore_n (lv' := [(3, .int (0 : Int32)), (0, .ref (g.2.1 + 122)), (1, .ref (g.2.1 + k1)), (2, .int x2)]) d_F_fitsAt_1 rfl (Nat.le_of_ble_eq_true rfl) rfl ?_
  refine ab_sub (lv' := [(0, .ref (g.2.1 + 122)), (1, .ref (g.2.1 + k1)), (2, .int x2), (3, .int (0 : Int32))]) [1, 2, 3, 0] rfl ?_
  exact HF
set_option maxRecDepth 100000 in
theorem f_F_fitsAt_2 {g : lp_G} {d : Nat} {Q : Int32 → SS → Prop} {S : SS} {x2 : Int32} {x3 : Int32} {k1 : Nat} (hk1 : isT k1)
    (HF : (S.1 119 6 ≤ x3 → Q (1 : Int32) S) ∧ (¬ S.1 119 6 ≤ x3 → (vp_in (x2 + x3) 24) ∧ ((vp_in x3 99) ∧ ((S.2 (k1 + 1) (x2 + x3).toNatClampNeg = S.2 120 x3.toNatClampNeg → AtI g um_F_fitsAt d Q 2 [(0, .ref (g.2.1 + 122)), (1, .ref (g.2.1 + k1)), (2, .int x2), (3, .int (x3 + 1))] [] S) ∧ (¬ S.2 (k1 + 1) (x2 + x3).toNatClampNeg = S.2 120 x3.toNatClampNeg → Q (0 : Int32) S))))) : AtI g um_F_fitsAt d Q 2 [(0, .ref (g.2.1 + 122)), (1, .ref (g.2.1 + k1)), (2, .int x2), (3, .int x3)] [] S := by
  refine ab_iload_n 3 d_F_fitsAt_2 rfl rfl ?_
  refine ab_aload_n 0 d_F_fitsAt_3 rfl rfl ?_
  refine sa_getR (r := 119) kf_F_18 d_F_fitsAt_4 sh_122 rfl ?_
  refine sa_getI kf_F_45 d_F_fitsAt_7 sh_119 rfl ?_
  refine ab_icmp_ge (tgt := 41) d_F_fitsAt_10 (by decide) (fun b1 => ?_) (fun b1 => ?_)
  · replace HF := HF.1 b1
    refine ab_iconst (v := (1 : Int32)) d_F_fitsAt_41 (by decide) ?_
    exact sa_iretZ rfl isB_1.1 d_F_fitsAt_42 HF
  · replace HF := HF.2 b1
    refine ab_aload_n 1 d_F_fitsAt_13 rfl rfl ?_
    refine sa_getR (r := k1 + 1) kf_F_83 d_F_fitsAt_14 hk1.1 rfl ?_
    refine ab_iload_n 2 d_F_fitsAt_17 rfl rfl ?_
    refine ab_iload_n 3 d_F_fitsAt_18 rfl rfl ?_
    refine ab_iadd d_F_fitsAt_19 ?_
    obtain ⟨c2, HF⟩ := HF
    refine sa_iald d_F_fitsAt_20 hk1.2 c2 ?_
    refine ab_aload_n 0 d_F_fitsAt_21 rfl rfl ?_
    refine sa_getR (r := 119) kf_F_18 d_F_fitsAt_22 sh_122 rfl ?_
    refine sa_getR (r := 120) kf_F_86 d_F_fitsAt_25 sh_119 rfl ?_
    refine ab_iload_n 3 d_F_fitsAt_28 rfl rfl ?_
    obtain ⟨c3, HF⟩ := HF
    refine sa_iald d_F_fitsAt_29 sh_120 c3 ?_
    refine ab_icmp_eq (tgt := 35) d_F_fitsAt_30 (by decide) (fun b4 => ?_) (fun b4 => ?_)
    · replace HF := HF.1 b4
      refine ab_iinc (v := x3 + 1) (lv' := [(3, .int (x3 + 1)), (0, .ref (g.2.1 + 122)), (1, .ref (g.2.1 + k1)), (2, .int x2)]) 3 d_F_fitsAt_35 rfl (congrArg (fun z => x3 + z) (show Int32.ofInt 1 = (1 : Int32) by decide)) (Nat.le_of_ble_eq_true rfl) rfl ?_
      refine ab_goto (tgt := 2) d_F_fitsAt_38 (by decide) ?_
      refine ab_sub (lv' := [(0, .ref (g.2.1 + 122)), (1, .ref (g.2.1 + k1)), (2, .int x2), (3, .int (x3 + 1))]) [1, 2, 3, 0] rfl ?_
      exact HF
    · replace HF := HF.2 b4
      refine ab_iconst (v := (0 : Int32)) d_F_fitsAt_33 (by decide) ?_
      exact sa_iretZ rfl isB_0.1 d_F_fitsAt_34 HF
set_option maxRecDepth 100000 in
theorem f_G_bringTogether {g : lp_G} {d : Nat} {Q : Int32 → SS → Prop} {S : SS} {k1 : Nat} (hk1 : isT k1) {k2 : Nat} (hk2 : isT k2) {k3 : Nat} (hk3 : isT k3)
    (HF : MtV g um_C_begin d [.ref (g.2.1 + 126), .ref (g.2.1 + k1), .ref (g.2.1 + k2)] S (fun S1 => MtV g um_S_matchTexts d [.ref (g.2.1 + 8), .ref (g.2.1 + 126)] S1 (fun S3 => MtV g um_C_begin d [.ref (g.2.1 + 132), .ref (g.2.1 + k1), .ref (g.2.1 + k3)] S3 (fun S5 => MtV g um_S_matchTexts d [.ref (g.2.1 + 8), .ref (g.2.1 + 132)] S5 (fun S7 => ∀ S9 : SS, S9 = setI S7 138 1 (0 : Int32) → ∀ S10 : SS, S10 = setI S9 139 1 (0 : Int32) → ∀ S11 : SS, S11 = setI S10 140 1 (0 : Int32) → ∀ S12 : SS, S12 = setI S11 141 1 (0 : Int32) → ∀ S13 : SS, S13 = setI S12 125 7 (0 : Int32) → ∀ S14 : SS, S14 = setI S13 125 8 (0 : Int32) → AtI g um_G_bringTogether (d + 1) Q 85 [(0, .ref (g.2.1 + 125)), (1, .ref (g.2.1 + k1)), (2, .ref (g.2.1 + k2)), (3, .ref (g.2.1 + k3)), (4, .int (0 : Int32))] [] S14))))) : MtI g um_G_bringTogether (d + 1) [.ref (g.2.1 + 125), .ref (g.2.1 + k1), .ref (g.2.1 + k2), .ref (g.2.1 + k3)] S Q := by
  refine sa_entryI (lv' := [(0, .ref (g.2.1 + 125)), (1, .ref (g.2.1 + k1)), (2, .ref (g.2.1 + k2)), (3, .ref (g.2.1 + k3))]) (by decide +kernel) (Nat.le_of_ble_eq_true rfl) rfl ?_
  refine ab_aload_n 0 d_G_bringTogether_0 rfl rfl ?_
  refine sa_getR (r := 126) kf_G_12 d_G_bringTogether_1 sh_125 rfl ?_
  refine ab_aload_n 1 d_G_bringTogether_4 rfl rfl ?_
  refine ab_aload_n 2 d_G_bringTogether_5 rfl rfl ?_
  refine sa_callVv (As := [.ref (g.2.1 + k1), .ref (g.2.1 + k2)]) (rest := []) kc_G_53 d_G_bringTogether_6 sh_126 rfl rfl rfl (Nat.le_of_ble_eq_true rfl) enI (Nat.le_of_ble_eq_true rfl) ⟨Nat.zero_le _, Nat.zero_le _⟩ HF (fun S1 HF => ?_)
  refine ab_aload_n 0 d_G_bringTogether_9 rfl rfl ?_
  refine sa_getR (r := 8) kf_G_49 d_G_bringTogether_10 sh_125 rfl ?_
  refine ab_aload_n 0 d_G_bringTogether_13 rfl rfl ?_
  refine sa_getR (r := 126) kf_G_12 d_G_bringTogether_14 sh_125 rfl ?_
  refine sa_callVv (As := [.ref (g.2.1 + 126)]) (rest := []) kc_G_57 d_G_bringTogether_17 sh_8 rfl rfl rfl (Nat.le_of_ble_eq_true rfl) enI (Nat.le_of_ble_eq_true rfl) ⟨Nat.zero_le _, Nat.zero_le _⟩ HF (fun S3 HF => ?_)
  refine ab_aload_n 0 d_G_bringTogether_20 rfl rfl ?_
  refine sa_getR (r := 132) kf_G_18 d_G_bringTogether_21 sh_125 rfl ?_
  refine ab_aload_n 1 d_G_bringTogether_24 rfl rfl ?_
  refine ab_aload_n 3 d_G_bringTogether_25 rfl rfl ?_
  refine sa_callVv (As := [.ref (g.2.1 + k1), .ref (g.2.1 + k3)]) (rest := []) kc_G_53 d_G_bringTogether_26 sh_132 rfl rfl rfl (Nat.le_of_ble_eq_true rfl) enI (Nat.le_of_ble_eq_true rfl) ⟨Nat.zero_le _, Nat.zero_le _⟩ HF (fun S5 HF => ?_)
  refine ab_aload_n 0 d_G_bringTogether_29 rfl rfl ?_
  refine sa_getR (r := 8) kf_G_49 d_G_bringTogether_30 sh_125 rfl ?_
  refine ab_aload_n 0 d_G_bringTogether_33 rfl rfl ?_
  refine sa_getR (r := 132) kf_G_18 d_G_bringTogether_34 sh_125 rfl ?_
  refine sa_callVv (As := [.ref (g.2.1 + 132)]) (rest := []) kc_G_57 d_G_bringTogether_37 sh_8 rfl rfl rfl (Nat.le_of_ble_eq_true rfl) enI (Nat.le_of_ble_eq_true rfl) ⟨Nat.zero_le _, Nat.zero_le _⟩ HF (fun S7 HF => ?_)
  refine ab_aload_n 0 d_G_bringTogether_40 rfl rfl ?_
  refine sa_getR (r := 138) kf_G_30 d_G_bringTogether_41 sh_125 rfl ?_
  refine ab_iconst (v := (0 : Int32)) d_G_bringTogether_44 (by decide) ?_
  refine sa_putIn kp_G_63 d_G_bringTogether_45 sh_138 rfl (fun S9 hS9 => ?_)
  replace HF := HF S9 hS9
  refine ab_aload_n 0 d_G_bringTogether_48 rfl rfl ?_
  refine sa_getR (r := 139) kf_G_37 d_G_bringTogether_49 sh_125 rfl ?_
  refine ab_iconst (v := (0 : Int32)) d_G_bringTogether_52 (by decide) ?_
  refine sa_putIn kp_G_63 d_G_bringTogether_53 sh_139 rfl (fun S10 hS10 => ?_)
  replace HF := HF S10 hS10
  refine ab_aload_n 0 d_G_bringTogether_56 rfl rfl ?_
  refine sa_getR (r := 140) kf_G_40 d_G_bringTogether_57 sh_125 rfl ?_
  refine ab_iconst (v := (0 : Int32)) d_G_bringTogether_60 (by decide) ?_
  refine sa_putIn kp_G_63 d_G_bringTogether_61 sh_140 rfl (fun S11 hS11 => ?_)
  replace HF := HF S11 hS11
  refine ab_aload_n 0 d_G_bringTogether_64 rfl rfl ?_
  refine sa_getR (r := 141) kf_G_46 d_G_bringTogether_65 sh_125 rfl ?_
  refine ab_iconst (v := (0 : Int32)) d_G_bringTogether_68 (by decide) ?_
  refine sa_putIn kp_G_67 d_G_bringTogether_69 sh_141 rfl (fun S12 hS12 => ?_)
  replace HF := HF S12 hS12
  refine ab_aload_n 0 d_G_bringTogether_72 rfl rfl ?_
  refine ab_iconst (v := (0 : Int32)) d_G_bringTogether_73 (by decide) ?_
  refine sa_putIn kp_G_70 d_G_bringTogether_74 sh_125 rfl (fun S13 hS13 => ?_)
  replace HF := HF S13 hS13
  refine ab_aload_n 0 d_G_bringTogether_77 rfl rfl ?_
  refine ab_iconst (v := (0 : Int32)) d_G_bringTogether_78 (by decide) ?_
  refine sa_putIn kp_G_73 d_G_bringTogether_79 sh_125 rfl (fun S14 hS14 => ?_)
  replace HF := HF S14 hS14
  refine ab_iconst (v := (0 : Int32)) d_G_bringTogether_82 (by decide) ?_
  refine ab_istore (lv' := [(4, .int (0 : Int32)), (0, .ref (g.2.1 + 125)), (1, .ref (g.2.1 + k1)), (2, .ref (g.2.1 + k2)), (3, .ref (g.2.1 + k3))]) d_G_bringTogether_83 (Nat.le_of_ble_eq_true rfl) rfl ?_
  refine ab_sub (lv' := [(0, .ref (g.2.1 + 125)), (1, .ref (g.2.1 + k1)), (2, .ref (g.2.1 + k2)), (3, .ref (g.2.1 + k3)), (4, .int (0 : Int32))]) [1, 2, 3, 4, 0] rfl ?_
  exact HF
set_option maxRecDepth 100000 in
theorem f_G_bringTogether_85 {g : lp_G} {d : Nat} {Q : Int32 → SS → Prop} {S : SS} {x4 : Int32} {k1 : Nat} (hk1 : isT k1) {k2 : Nat} (hk2 : isT k2) {k3 : Nat} (hk3 : isT k3)
    (HF : (S.1 k1 1 ≤ x4 → MtV g um_G_settleParts d [.ref (g.2.1 + 125), .int (S.1 k1 1), .int (S.1 k2 1), .int (S.1 k3 1)] S (fun S16 => Q (S16.1 125 8) S16)) ∧ (¬ S.1 k1 1 ≤ x4 → MtI g um_C_partnerOf d [.ref (g.2.1 + 126), .int x4] S (fun r19 S18 => (r19 = (-3 : Int32) → AtI g um_G_bringTogether (d + 1) Q 85 [(0, .ref (g.2.1 + 125)), (1, .ref (g.2.1 + k1)), (2, .ref (g.2.1 + k2)), (3, .ref (g.2.1 + k3)), (4, .int (x4 + 1))] [] S18) ∧ (¬ r19 = (-3 : Int32) → MtI g um_C_partnerOf d [.ref (g.2.1 + 132), .int x4] S18 (fun r22 S21 => (r22 = (-3 : Int32) → AtI g um_G_bringTogether (d + 1) Q 85 [(0, .ref (g.2.1 + 125)), (1, .ref (g.2.1 + k1)), (2, .ref (g.2.1 + k2)), (3, .ref (g.2.1 + k3)), (4, .int (x4 + 1))] [] S21) ∧ (¬ r22 = (-3 : Int32) → MtI g um_C_partnerOf d [.ref (g.2.1 + 126), .int x4] S21 (fun r25 S24 => MtI g um_C_partnerOf d [.ref (g.2.1 + 132), .int x4] S24 (fun r27 S26 => MtV g um_G_settleParts d [.ref (g.2.1 + 125), .int x4, .int r25, .int r27] S26 (fun S28 => (vp_in x4 24) ∧ (MtV g um_G_put d [.ref (g.2.1 + 125), .int (S28.2 (k1 + 1) x4.toNatClampNeg)] S28 (fun S31 => AtI g um_G_bringTogether (d + 1) Q 85 [(0, .ref (g.2.1 + 125)), (1, .ref (g.2.1 + k1)), (2, .ref (g.2.1 + k2)), (3, .ref (g.2.1 + k3)), (4, .int (x4 + 1))] [] S31))))))))))) : AtI g um_G_bringTogether (d + 1) Q 85 [(0, .ref (g.2.1 + 125)), (1, .ref (g.2.1 + k1)), (2, .ref (g.2.1 + k2)), (3, .ref (g.2.1 + k3)), (4, .int x4)] [] S := by
  refine ab_iload 4 d_G_bringTogether_85 rfl ?_
  refine ab_aload_n 1 d_G_bringTogether_87 rfl rfl ?_
  refine sa_getI kf_G_67 d_G_bringTogether_88 hk1.1 rfl ?_
  refine ab_icmp_ge (tgt := 163) d_G_bringTogether_91 (by decide) (fun b15 => ?_) (fun b15 => ?_)
  · replace HF := HF.1 b15
    refine ab_aload_n 0 d_G_bringTogether_163 rfl rfl ?_
    refine ab_aload_n 1 d_G_bringTogether_164 rfl rfl ?_
    refine sa_getI kf_G_67 d_G_bringTogether_165 hk1.1 rfl ?_
    refine ab_aload_n 2 d_G_bringTogether_168 rfl rfl ?_
    refine sa_getI kf_G_67 d_G_bringTogether_169 hk2.1 rfl ?_
    refine ab_aload_n 3 d_G_bringTogether_172 rfl rfl ?_
    refine sa_getI kf_G_67 d_G_bringTogether_173 hk3.1 rfl ?_
    refine sa_callVv (As := [.int (S.1 k1 1), .int (S.1 k2 1), .int (S.1 k3 1)]) (rest := []) kc_G_80 d_G_bringTogether_176 sh_125 rfl rfl rfl (Nat.le_of_ble_eq_true rfl) enI (Nat.le_of_ble_eq_true rfl) ⟨Nat.zero_le _, Nat.zero_le _⟩ HF (fun S16 HF => ?_)
    refine ab_aload_n 0 d_G_bringTogether_179 rfl rfl ?_
    refine sa_getI kf_G_73 d_G_bringTogether_180 sh_125 rfl ?_
    exact sa_iretI rfl d_G_bringTogether_183 HF
  · replace HF := HF.2 b15
    refine ab_aload_n 0 d_G_bringTogether_94 rfl rfl ?_
    refine sa_getR (r := 126) kf_G_12 d_G_bringTogether_95 sh_125 rfl ?_
    refine ab_iload 4 d_G_bringTogether_98 rfl ?_
    refine sa_callVi (As := [.int x4]) (rest := []) kc_G_76 d_G_bringTogether_100 sh_126 rfl rfl rfl (Nat.le_of_ble_eq_true rfl) enI (Nat.le_of_ble_eq_true rfl) ⟨Nat.zero_le _, Nat.zero_le _⟩ HF (fun r19 S18 HF => ?_)
    refine ab_bipush (v := (-3 : Int32)) d_G_bringTogether_103 (by decide) ?_
    refine ab_icmp_eq (tgt := 157) d_G_bringTogether_105 (by decide) (fun b20 => ?_) (fun b20 => ?_)
    · replace HF := HF.1 b20
      refine ab_iinc (v := x4 + 1) (lv' := [(4, .int (x4 + 1)), (0, .ref (g.2.1 + 125)), (1, .ref (g.2.1 + k1)), (2, .ref (g.2.1 + k2)), (3, .ref (g.2.1 + k3))]) 4 d_G_bringTogether_157 rfl (congrArg (fun z => x4 + z) (show Int32.ofInt 1 = (1 : Int32) by decide)) (Nat.le_of_ble_eq_true rfl) rfl ?_
      refine ab_goto (tgt := 85) d_G_bringTogether_160 (by decide) ?_
      refine ab_sub (lv' := [(0, .ref (g.2.1 + 125)), (1, .ref (g.2.1 + k1)), (2, .ref (g.2.1 + k2)), (3, .ref (g.2.1 + k3)), (4, .int (x4 + 1))]) [1, 2, 3, 4, 0] rfl ?_
      exact HF
    · replace HF := HF.2 b20
      refine ab_aload_n 0 d_G_bringTogether_108 rfl rfl ?_
      refine sa_getR (r := 132) kf_G_18 d_G_bringTogether_109 sh_125 rfl ?_
      refine ab_iload 4 d_G_bringTogether_112 rfl ?_
      refine sa_callVi (As := [.int x4]) (rest := []) kc_G_76 d_G_bringTogether_114 sh_132 rfl rfl rfl (Nat.le_of_ble_eq_true rfl) enI (Nat.le_of_ble_eq_true rfl) ⟨Nat.zero_le _, Nat.zero_le _⟩ HF (fun r22 S21 HF => ?_)
      refine ab_bipush (v := (-3 : Int32)) d_G_bringTogether_117 (by decide) ?_
      refine ab_icmp_eq (tgt := 157) d_G_bringTogether_119 (by decide) (fun b23 => ?_) (fun b23 => ?_)
      · replace HF := HF.1 b23
        refine ab_iinc (v := x4 + 1) (lv' := [(4, .int (x4 + 1)), (0, .ref (g.2.1 + 125)), (1, .ref (g.2.1 + k1)), (2, .ref (g.2.1 + k2)), (3, .ref (g.2.1 + k3))]) 4 d_G_bringTogether_157 rfl (congrArg (fun z => x4 + z) (show Int32.ofInt 1 = (1 : Int32) by decide)) (Nat.le_of_ble_eq_true rfl) rfl ?_
        refine ab_goto (tgt := 85) d_G_bringTogether_160 (by decide) ?_
        refine ab_sub (lv' := [(0, .ref (g.2.1 + 125)), (1, .ref (g.2.1 + k1)), (2, .ref (g.2.1 + k2)), (3, .ref (g.2.1 + k3)), (4, .int (x4 + 1))]) [1, 2, 3, 4, 0] rfl ?_
        exact HF
      · replace HF := HF.2 b23
        refine ab_aload_n 0 d_G_bringTogether_122 rfl rfl ?_
        refine ab_iload 4 d_G_bringTogether_123 rfl ?_
        refine ab_aload_n 0 d_G_bringTogether_125 rfl rfl ?_
        refine sa_getR (r := 126) kf_G_12 d_G_bringTogether_126 sh_125 rfl ?_
        refine ab_iload 4 d_G_bringTogether_129 rfl ?_
        refine sa_callVi (As := [.int x4]) (rest := [.int x4, .ref (g.2.1 + 125)]) kc_G_76 d_G_bringTogether_131 sh_126 rfl rfl rfl (Nat.le_of_ble_eq_true rfl) enI (Nat.le_of_ble_eq_true rfl) ⟨Nat.zero_le _, Nat.zero_le _⟩ HF (fun r25 S24 HF => ?_)
        refine ab_aload_n 0 d_G_bringTogether_134 rfl rfl ?_
        refine sa_getR (r := 132) kf_G_18 d_G_bringTogether_135 sh_125 rfl ?_
        refine ab_iload 4 d_G_bringTogether_138 rfl ?_
        refine sa_callVi (As := [.int x4]) (rest := [.int r25, .int x4, .ref (g.2.1 + 125)]) kc_G_76 d_G_bringTogether_140 sh_132 rfl rfl rfl (Nat.le_of_ble_eq_true rfl) enI (Nat.le_of_ble_eq_true rfl) ⟨Nat.zero_le _, Nat.zero_le _⟩ HF (fun r27 S26 HF => ?_)
        refine sa_callVv (As := [.int x4, .int r25, .int r27]) (rest := []) kc_G_80 d_G_bringTogether_143 sh_125 rfl rfl rfl (Nat.le_of_ble_eq_true rfl) enI (Nat.le_of_ble_eq_true rfl) ⟨Nat.zero_le _, Nat.zero_le _⟩ HF (fun S28 HF => ?_)
        refine ab_aload_n 0 d_G_bringTogether_146 rfl rfl ?_
        refine ab_aload_n 1 d_G_bringTogether_147 rfl rfl ?_
        refine sa_getR (r := k1 + 1) kf_G_84 d_G_bringTogether_148 hk1.1 rfl ?_
        refine ab_iload 4 d_G_bringTogether_151 rfl ?_
        obtain ⟨c30, HF⟩ := HF
        refine sa_iald d_G_bringTogether_153 hk1.2 c30 ?_
        refine sa_callVv (As := [.int (S28.2 (k1 + 1) x4.toNatClampNeg)]) (rest := []) kc_G_88 d_G_bringTogether_154 sh_125 rfl rfl rfl (Nat.le_of_ble_eq_true rfl) enI (Nat.le_of_ble_eq_true rfl) ⟨Nat.zero_le _, Nat.zero_le _⟩ HF (fun S31 HF => ?_)
        refine ab_iinc (v := x4 + 1) (lv' := [(4, .int (x4 + 1)), (0, .ref (g.2.1 + 125)), (1, .ref (g.2.1 + k1)), (2, .ref (g.2.1 + k2)), (3, .ref (g.2.1 + k3))]) 4 d_G_bringTogether_157 rfl (congrArg (fun z => x4 + z) (show Int32.ofInt 1 = (1 : Int32) by decide)) (Nat.le_of_ble_eq_true rfl) rfl ?_
        refine ab_goto (tgt := 85) d_G_bringTogether_160 (by decide) ?_
        refine ab_sub (lv' := [(0, .ref (g.2.1 + 125)), (1, .ref (g.2.1 + k1)), (2, .ref (g.2.1 + k2)), (3, .ref (g.2.1 + k3)), (4, .int (x4 + 1))]) [1, 2, 3, 4, 0] rfl ?_
        exact HF
set_option maxRecDepth 100000 in
theorem f_G_handOver {g : lp_G} {d : Nat} {Q : Int32 → SS → Prop} {S : SS} {k1 : Nat} (hk1 : isT k1)
    (HF : (S.1 125 7 ≤ nI 24 → MtV g um_T_become d [.ref (g.2.1 + k1), .ref (g.2.1 + 141)] S (fun S2 => Q (1 : Int32) S2)) ∧ (¬ S.1 125 7 ≤ nI 24 → Q (0 : Int32) S)) : MtI g um_G_handOver (d + 1) [.ref (g.2.1 + 125), .ref (g.2.1 + k1)] S Q := by
  refine sa_entryI (lv' := [(0, .ref (g.2.1 + 125)), (1, .ref (g.2.1 + k1))]) (by decide +kernel) (Nat.le_of_ble_eq_true rfl) rfl ?_
  refine ab_aload_n 0 d_G_handOver_0 rfl rfl ?_
  refine sa_getI kf_G_70 d_G_handOver_1 sh_125 rfl ?_
  refine ab_bipush (v := nI 24) d_G_handOver_4 (by decide) ?_
  refine ab_icmp_le (tgt := 11) d_G_handOver_6 (by decide) (fun b1 => ?_) (fun b1 => ?_)
  · replace HF := HF.1 b1
    refine ab_aload_n 1 d_G_handOver_11 rfl rfl ?_
    refine ab_aload_n 0 d_G_handOver_12 rfl rfl ?_
    refine sa_getR (r := 141) kf_G_46 d_G_handOver_13 sh_125 rfl ?_
    refine sa_callVv (As := [.ref (g.2.1 + 141)]) (rest := []) kc_G_92 d_G_handOver_16 hk1.1 rfl rfl rfl (Nat.le_of_ble_eq_true rfl) enI (Nat.le_of_ble_eq_true rfl) ⟨Nat.zero_le _, Nat.zero_le _⟩ HF (fun S2 HF => ?_)
    refine ab_iconst (v := (1 : Int32)) d_G_handOver_19 (by decide) ?_
    exact sa_iretZ rfl isB_1.1 d_G_handOver_20 HF
  · replace HF := HF.2 b1
    refine ab_iconst (v := (0 : Int32)) d_G_handOver_9 (by decide) ?_
    exact sa_iretZ rfl isB_0.1 d_G_handOver_10 HF
set_option maxRecDepth 100000 in
theorem f_G_settleParts {g : lp_G} {d : Nat} {Q : SS → Prop} {S : SS} {x1 : Int32} {x2 : Int32} {x3 : Int32}
    (HF : ∀ S1 : SS, S1 = setI S 138 2 x1 → ∀ S2 : SS, S2 = setI S1 139 2 x2 → ∀ S3 : SS, S3 = setI S2 140 2 x3 → MtI g um_Q_isEqualTo d [.ref (g.2.1 + 139), .ref (g.2.1 + 138)] S3 (fun r5 S4 => (r5 = 0 → MtI g um_Q_isEqualTo d [.ref (g.2.1 + 140), .ref (g.2.1 + 138)] S4 (fun r8 S7 => (¬ r8 = 0 → MtV g um_G_putPart d [.ref (g.2.1 + 125), .ref (g.2.1 + 139)] S7 (fun S10 => MtV g um_Q_skipFirmLine d [.ref (g.2.1 + 138)] S10 (fun S12 => MtV g um_Q_skipFirmLine d [.ref (g.2.1 + 139)] S12 (fun S14 => MtV g um_Q_skipFirmLine d [.ref (g.2.1 + 140)] S14 (fun S16 => Q S16))))) ∧ (r8 = 0 → MtI g um_Q_isEqualTo d [.ref (g.2.1 + 140), .ref (g.2.1 + 139)] S7 (fun r19 S18 => (r19 = 0 → MtV g um_G_putConflict d [.ref (g.2.1 + 125)] S18 (fun S21 => MtV g um_Q_skipFirmLine d [.ref (g.2.1 + 138)] S21 (fun S23 => MtV g um_Q_skipFirmLine d [.ref (g.2.1 + 139)] S23 (fun S25 => MtV g um_Q_skipFirmLine d [.ref (g.2.1 + 140)] S25 (fun S27 => Q S27))))) ∧ (¬ r19 = 0 → MtV g um_G_putPart d [.ref (g.2.1 + 125), .ref (g.2.1 + 139)] S18 (fun S29 => MtV g um_Q_skipFirmLine d [.ref (g.2.1 + 138)] S29 (fun S31 => MtV g um_Q_skipFirmLine d [.ref (g.2.1 + 139)] S31 (fun S33 => MtV g um_Q_skipFirmLine d [.ref (g.2.1 + 140)] S33 (fun S35 => Q S35))))))))) ∧ (¬ r5 = 0 → MtV g um_G_putPart d [.ref (g.2.1 + 125), .ref (g.2.1 + 140)] S4 (fun S37 => MtV g um_Q_skipFirmLine d [.ref (g.2.1 + 138)] S37 (fun S39 => MtV g um_Q_skipFirmLine d [.ref (g.2.1 + 139)] S39 (fun S41 => MtV g um_Q_skipFirmLine d [.ref (g.2.1 + 140)] S41 (fun S43 => Q S43))))))) : MtV g um_G_settleParts (d + 1) [.ref (g.2.1 + 125), .int x1, .int x2, .int x3] S Q := by
  refine sa_entryV (lv' := [(0, .ref (g.2.1 + 125)), (1, .int x1), (2, .int x2), (3, .int x3)]) (by decide +kernel) (Nat.le_of_ble_eq_true rfl) rfl ?_
  refine ab_aload_n 0 d_G_settleParts_0 rfl rfl ?_
  refine sa_getR (r := 138) kf_G_30 d_G_settleParts_1 sh_125 rfl ?_
  refine ab_iload_n 1 d_G_settleParts_4 rfl rfl ?_
  refine sa_putIn kp_G_95 d_G_settleParts_5 sh_138 rfl (fun S1 hS1 => ?_)
  replace HF := HF S1 hS1
  refine ab_aload_n 0 d_G_settleParts_8 rfl rfl ?_
  refine sa_getR (r := 139) kf_G_37 d_G_settleParts_9 sh_125 rfl ?_
  refine ab_iload_n 2 d_G_settleParts_12 rfl rfl ?_
  refine sa_putIn kp_G_95 d_G_settleParts_13 sh_139 rfl (fun S2 hS2 => ?_)
  replace HF := HF S2 hS2
  refine ab_aload_n 0 d_G_settleParts_16 rfl rfl ?_
  refine sa_getR (r := 140) kf_G_40 d_G_settleParts_17 sh_125 rfl ?_
  refine ab_iload_n 3 d_G_settleParts_20 rfl rfl ?_
  refine sa_putIn kp_G_95 d_G_settleParts_21 sh_140 rfl (fun S3 hS3 => ?_)
  replace HF := HF S3 hS3
  refine ab_aload_n 0 d_G_settleParts_24 rfl rfl ?_
  refine sa_getR (r := 139) kf_G_37 d_G_settleParts_25 sh_125 rfl ?_
  refine ab_aload_n 0 d_G_settleParts_28 rfl rfl ?_
  refine sa_getR (r := 138) kf_G_30 d_G_settleParts_29 sh_125 rfl ?_
  refine sa_callVi (As := [.ref (g.2.1 + 138)]) (rest := []) kc_G_98 d_G_settleParts_32 sh_139 rfl rfl rfl (Nat.le_of_ble_eq_true rfl) enV (Nat.le_of_ble_eq_true rfl) ⟨Nat.zero_le _, Nat.zero_le _⟩ HF (fun r5 S4 HF => ?_)
  refine ab_if_eq (tgt := 49) d_G_settleParts_35 (by decide) (fun b6 => ?_) (fun b6 => ?_)
  · replace HF := HF.1 b6
    refine ab_aload_n 0 d_G_settleParts_49 rfl rfl ?_
    refine sa_getR (r := 140) kf_G_40 d_G_settleParts_50 sh_125 rfl ?_
    refine ab_aload_n 0 d_G_settleParts_53 rfl rfl ?_
    refine sa_getR (r := 138) kf_G_30 d_G_settleParts_54 sh_125 rfl ?_
    refine sa_callVi (As := [.ref (g.2.1 + 138)]) (rest := []) kc_G_98 d_G_settleParts_57 sh_140 rfl rfl rfl (Nat.le_of_ble_eq_true rfl) enV (Nat.le_of_ble_eq_true rfl) ⟨Nat.zero_le _, Nat.zero_le _⟩ HF (fun r8 S7 HF => ?_)
    refine ab_if_ne (tgt := 77) d_G_settleParts_60 (by decide) (fun b9 => ?_) (fun b9 => ?_)
    · replace HF := HF.1 b9
      refine ab_aload_n 0 d_G_settleParts_77 rfl rfl ?_
      refine ab_aload_n 0 d_G_settleParts_78 rfl rfl ?_
      refine sa_getR (r := 139) kf_G_37 d_G_settleParts_79 sh_125 rfl ?_
      refine sa_callVv (As := [.ref (g.2.1 + 139)]) (rest := []) kc_G_102 d_G_settleParts_82 sh_125 rfl rfl rfl (Nat.le_of_ble_eq_true rfl) enV (Nat.le_of_ble_eq_true rfl) ⟨Nat.zero_le _, Nat.zero_le _⟩ HF (fun S10 HF => ?_)
      refine ab_goto (tgt := 92) d_G_settleParts_85 (by decide) ?_
      refine ab_aload_n 0 d_G_settleParts_92 rfl rfl ?_
      refine sa_getR (r := 138) kf_G_30 d_G_settleParts_93 sh_125 rfl ?_
      refine sa_callVv (As := []) (rest := []) kc_G_109 d_G_settleParts_96 sh_138 rfl rfl rfl (Nat.le_of_ble_eq_true rfl) enV (Nat.le_of_ble_eq_true rfl) ⟨Nat.zero_le _, Nat.zero_le _⟩ HF (fun S12 HF => ?_)
      refine ab_aload_n 0 d_G_settleParts_99 rfl rfl ?_
      refine sa_getR (r := 139) kf_G_37 d_G_settleParts_100 sh_125 rfl ?_
      refine sa_callVv (As := []) (rest := []) kc_G_109 d_G_settleParts_103 sh_139 rfl rfl rfl (Nat.le_of_ble_eq_true rfl) enV (Nat.le_of_ble_eq_true rfl) ⟨Nat.zero_le _, Nat.zero_le _⟩ HF (fun S14 HF => ?_)
      refine ab_aload_n 0 d_G_settleParts_106 rfl rfl ?_
      refine sa_getR (r := 140) kf_G_40 d_G_settleParts_107 sh_125 rfl ?_
      refine sa_callVv (As := []) (rest := []) kc_G_109 d_G_settleParts_110 sh_140 rfl rfl rfl (Nat.le_of_ble_eq_true rfl) enV (Nat.le_of_ble_eq_true rfl) ⟨Nat.zero_le _, Nat.zero_le _⟩ HF (fun S16 HF => ?_)
      exact sa_ret rfl d_G_settleParts_113 HF
    · replace HF := HF.2 b9
      refine ab_aload_n 0 d_G_settleParts_63 rfl rfl ?_
      refine sa_getR (r := 140) kf_G_40 d_G_settleParts_64 sh_125 rfl ?_
      refine ab_aload_n 0 d_G_settleParts_67 rfl rfl ?_
      refine sa_getR (r := 139) kf_G_37 d_G_settleParts_68 sh_125 rfl ?_
      refine sa_callVi (As := [.ref (g.2.1 + 139)]) (rest := []) kc_G_98 d_G_settleParts_71 sh_140 rfl rfl rfl (Nat.le_of_ble_eq_true rfl) enV (Nat.le_of_ble_eq_true rfl) ⟨Nat.zero_le _, Nat.zero_le _⟩ HF (fun r19 S18 HF => ?_)
      refine ab_if_eq (tgt := 88) d_G_settleParts_74 (by decide) (fun b20 => ?_) (fun b20 => ?_)
      · replace HF := HF.1 b20
        refine ab_aload_n 0 d_G_settleParts_88 rfl rfl ?_
        refine sa_callVv (As := []) (rest := []) kc_G_106 d_G_settleParts_89 sh_125 rfl rfl rfl (Nat.le_of_ble_eq_true rfl) enV (Nat.le_of_ble_eq_true rfl) ⟨Nat.zero_le _, Nat.zero_le _⟩ HF (fun S21 HF => ?_)
        refine ab_aload_n 0 d_G_settleParts_92 rfl rfl ?_
        refine sa_getR (r := 138) kf_G_30 d_G_settleParts_93 sh_125 rfl ?_
        refine sa_callVv (As := []) (rest := []) kc_G_109 d_G_settleParts_96 sh_138 rfl rfl rfl (Nat.le_of_ble_eq_true rfl) enV (Nat.le_of_ble_eq_true rfl) ⟨Nat.zero_le _, Nat.zero_le _⟩ HF (fun S23 HF => ?_)
        refine ab_aload_n 0 d_G_settleParts_99 rfl rfl ?_
        refine sa_getR (r := 139) kf_G_37 d_G_settleParts_100 sh_125 rfl ?_
        refine sa_callVv (As := []) (rest := []) kc_G_109 d_G_settleParts_103 sh_139 rfl rfl rfl (Nat.le_of_ble_eq_true rfl) enV (Nat.le_of_ble_eq_true rfl) ⟨Nat.zero_le _, Nat.zero_le _⟩ HF (fun S25 HF => ?_)
        refine ab_aload_n 0 d_G_settleParts_106 rfl rfl ?_
        refine sa_getR (r := 140) kf_G_40 d_G_settleParts_107 sh_125 rfl ?_
        refine sa_callVv (As := []) (rest := []) kc_G_109 d_G_settleParts_110 sh_140 rfl rfl rfl (Nat.le_of_ble_eq_true rfl) enV (Nat.le_of_ble_eq_true rfl) ⟨Nat.zero_le _, Nat.zero_le _⟩ HF (fun S27 HF => ?_)
        exact sa_ret rfl d_G_settleParts_113 HF
      · replace HF := HF.2 b20
        refine ab_aload_n 0 d_G_settleParts_77 rfl rfl ?_
        refine ab_aload_n 0 d_G_settleParts_78 rfl rfl ?_
        refine sa_getR (r := 139) kf_G_37 d_G_settleParts_79 sh_125 rfl ?_
        refine sa_callVv (As := [.ref (g.2.1 + 139)]) (rest := []) kc_G_102 d_G_settleParts_82 sh_125 rfl rfl rfl (Nat.le_of_ble_eq_true rfl) enV (Nat.le_of_ble_eq_true rfl) ⟨Nat.zero_le _, Nat.zero_le _⟩ HF (fun S29 HF => ?_)
        refine ab_goto (tgt := 92) d_G_settleParts_85 (by decide) ?_
        refine ab_aload_n 0 d_G_settleParts_92 rfl rfl ?_
        refine sa_getR (r := 138) kf_G_30 d_G_settleParts_93 sh_125 rfl ?_
        refine sa_callVv (As := []) (rest := []) kc_G_109 d_G_settleParts_96 sh_138 rfl rfl rfl (Nat.le_of_ble_eq_true rfl) enV (Nat.le_of_ble_eq_true rfl) ⟨Nat.zero_le _, Nat.zero_le _⟩ HF (fun S31 HF => ?_)
        refine ab_aload_n 0 d_G_settleParts_99 rfl rfl ?_
        refine sa_getR (r := 139) kf_G_37 d_G_settleParts_100 sh_125 rfl ?_
        refine sa_callVv (As := []) (rest := []) kc_G_109 d_G_settleParts_103 sh_139 rfl rfl rfl (Nat.le_of_ble_eq_true rfl) enV (Nat.le_of_ble_eq_true rfl) ⟨Nat.zero_le _, Nat.zero_le _⟩ HF (fun S33 HF => ?_)
        refine ab_aload_n 0 d_G_settleParts_106 rfl rfl ?_
        refine sa_getR (r := 140) kf_G_40 d_G_settleParts_107 sh_125 rfl ?_
        refine sa_callVv (As := []) (rest := []) kc_G_109 d_G_settleParts_110 sh_140 rfl rfl rfl (Nat.le_of_ble_eq_true rfl) enV (Nat.le_of_ble_eq_true rfl) ⟨Nat.zero_le _, Nat.zero_le _⟩ HF (fun S35 HF => ?_)
        exact sa_ret rfl d_G_settleParts_113 HF
  · replace HF := HF.2 b6
    refine ab_aload_n 0 d_G_settleParts_38 rfl rfl ?_
    refine ab_aload_n 0 d_G_settleParts_39 rfl rfl ?_
    refine sa_getR (r := 140) kf_G_40 d_G_settleParts_40 sh_125 rfl ?_
    refine sa_callVv (As := [.ref (g.2.1 + 140)]) (rest := []) kc_G_102 d_G_settleParts_43 sh_125 rfl rfl rfl (Nat.le_of_ble_eq_true rfl) enV (Nat.le_of_ble_eq_true rfl) ⟨Nat.zero_le _, Nat.zero_le _⟩ HF (fun S37 HF => ?_)
    refine ab_goto (tgt := 92) d_G_settleParts_46 (by decide) ?_
    refine ab_aload_n 0 d_G_settleParts_92 rfl rfl ?_
    refine sa_getR (r := 138) kf_G_30 d_G_settleParts_93 sh_125 rfl ?_
    refine sa_callVv (As := []) (rest := []) kc_G_109 d_G_settleParts_96 sh_138 rfl rfl rfl (Nat.le_of_ble_eq_true rfl) enV (Nat.le_of_ble_eq_true rfl) ⟨Nat.zero_le _, Nat.zero_le _⟩ HF (fun S39 HF => ?_)
    refine ab_aload_n 0 d_G_settleParts_99 rfl rfl ?_
    refine sa_getR (r := 139) kf_G_37 d_G_settleParts_100 sh_125 rfl ?_
    refine sa_callVv (As := []) (rest := []) kc_G_109 d_G_settleParts_103 sh_139 rfl rfl rfl (Nat.le_of_ble_eq_true rfl) enV (Nat.le_of_ble_eq_true rfl) ⟨Nat.zero_le _, Nat.zero_le _⟩ HF (fun S41 HF => ?_)
    refine ab_aload_n 0 d_G_settleParts_106 rfl rfl ?_
    refine sa_getR (r := 140) kf_G_40 d_G_settleParts_107 sh_125 rfl ?_
    refine sa_callVv (As := []) (rest := []) kc_G_109 d_G_settleParts_110 sh_140 rfl rfl rfl (Nat.le_of_ble_eq_true rfl) enV (Nat.le_of_ble_eq_true rfl) ⟨Nat.zero_le _, Nat.zero_le _⟩ HF (fun S43 HF => ?_)
    exact sa_ret rfl d_G_settleParts_113 HF
set_option maxRecDepth 100000 in
theorem f_G_putConflict {g : lp_G} {d : Nat} {Q : SS → Prop} {S : SS} 
    (HF : ∀ S1 : SS, S1 = setI S 125 8 ((S.1 125 8) + (1 : Int32)) → MtV g um_G_put d [.ref (g.2.1 + 125), .int (nI 60)] S1 (fun S2 => MtV g um_G_putPart d [.ref (g.2.1 + 125), .ref (g.2.1 + 139)] S2 (fun S4 => MtV g um_G_put d [.ref (g.2.1 + 125), .int (nI 61)] S4 (fun S6 => MtV g um_G_putPart d [.ref (g.2.1 + 125), .ref (g.2.1 + 140)] S6 (fun S8 => MtV g um_G_put d [.ref (g.2.1 + 125), .int (nI 62)] S8 (fun S10 => Q S10)))))) : MtV g um_G_putConflict (d + 1) [.ref (g.2.1 + 125)] S Q := by
  refine sa_entryV (lv' := [(0, .ref (g.2.1 + 125))]) (by decide +kernel) (Nat.le_of_ble_eq_true rfl) rfl ?_
  refine ab_aload_n 0 d_G_putConflict_0 rfl rfl ?_
  refine ab_dup d_G_putConflict_1 rfl ?_
  refine sa_getI kf_G_73 d_G_putConflict_2 sh_125 rfl ?_
  refine ab_iconst (v := (1 : Int32)) d_G_putConflict_5 (by decide) ?_
  refine ab_iadd d_G_putConflict_6 ?_
  refine sa_putIn kp_G_73 d_G_putConflict_7 sh_125 rfl (fun S1 hS1 => ?_)
  replace HF := HF S1 hS1
  refine ab_aload_n 0 d_G_putConflict_10 rfl rfl ?_
  refine ab_bipush (v := nI 60) d_G_putConflict_11 (by decide) ?_
  refine sa_callVv (As := [.int (nI 60)]) (rest := []) kc_G_88 d_G_putConflict_13 sh_125 rfl rfl rfl (Nat.le_of_ble_eq_true rfl) enV (Nat.le_of_ble_eq_true rfl) ⟨Nat.zero_le _, Nat.zero_le _⟩ HF (fun S2 HF => ?_)
  refine ab_aload_n 0 d_G_putConflict_16 rfl rfl ?_
  refine ab_aload_n 0 d_G_putConflict_17 rfl rfl ?_
  refine sa_getR (r := 139) kf_G_37 d_G_putConflict_18 sh_125 rfl ?_
  refine sa_callVv (As := [.ref (g.2.1 + 139)]) (rest := []) kc_G_102 d_G_putConflict_21 sh_125 rfl rfl rfl (Nat.le_of_ble_eq_true rfl) enV (Nat.le_of_ble_eq_true rfl) ⟨Nat.zero_le _, Nat.zero_le _⟩ HF (fun S4 HF => ?_)
  refine ab_aload_n 0 d_G_putConflict_24 rfl rfl ?_
  refine ab_bipush (v := nI 61) d_G_putConflict_25 (by decide) ?_
  refine sa_callVv (As := [.int (nI 61)]) (rest := []) kc_G_88 d_G_putConflict_27 sh_125 rfl rfl rfl (Nat.le_of_ble_eq_true rfl) enV (Nat.le_of_ble_eq_true rfl) ⟨Nat.zero_le _, Nat.zero_le _⟩ HF (fun S6 HF => ?_)
  refine ab_aload_n 0 d_G_putConflict_30 rfl rfl ?_
  refine ab_aload_n 0 d_G_putConflict_31 rfl rfl ?_
  refine sa_getR (r := 140) kf_G_40 d_G_putConflict_32 sh_125 rfl ?_
  refine sa_callVv (As := [.ref (g.2.1 + 140)]) (rest := []) kc_G_102 d_G_putConflict_35 sh_125 rfl rfl rfl (Nat.le_of_ble_eq_true rfl) enV (Nat.le_of_ble_eq_true rfl) ⟨Nat.zero_le _, Nat.zero_le _⟩ HF (fun S8 HF => ?_)
  refine ab_aload_n 0 d_G_putConflict_38 rfl rfl ?_
  refine ab_bipush (v := nI 62) d_G_putConflict_39 (by decide) ?_
  refine sa_callVv (As := [.int (nI 62)]) (rest := []) kc_G_88 d_G_putConflict_41 sh_125 rfl rfl rfl (Nat.le_of_ble_eq_true rfl) enV (Nat.le_of_ble_eq_true rfl) ⟨Nat.zero_le _, Nat.zero_le _⟩ HF (fun S10 HF => ?_)
  exact sa_ret rfl d_G_putConflict_44 HF
set_option maxRecDepth 100000 in
theorem f_G_putPart {g : lp_G} {d : Nat} {Q : SS → Prop} {S : SS} {k1 t1 : Nat} (hk1 : isQ k1 t1)
    (HF : AtV g um_G_putPart (d + 1) Q 5 [(0, .ref (g.2.1 + 125)), (1, .ref (g.2.1 + k1)), (2, .int (S.1 k1 1))] [] S) : MtV g um_G_putPart (d + 1) [.ref (g.2.1 + 125), .ref (g.2.1 + k1)] S Q := by
  refine sa_entryV (lv' := [(0, .ref (g.2.1 + 125)), (1, .ref (g.2.1 + k1))]) (by decide +kernel) (Nat.le_of_ble_eq_true rfl) rfl ?_
  refine ab_aload_n 1 d_G_putPart_0 rfl rfl ?_
  refine sa_getI kf_G_63 d_G_putPart_1 hk1.1 rfl ?_
  refine ab_istore_n (lv' := [(2, .int (S.1 k1 1)), (0, .ref (g.2.1 + 125)), (1, .ref (g.2.1 + k1))]) d_G_putPart_4 rfl (Nat.le_of_ble_eq_true rfl) rfl ?_
  refine ab_sub (lv' := [(0, .ref (g.2.1 + 125)), (1, .ref (g.2.1 + k1)), (2, .int (S.1 k1 1))]) [1, 2, 0] rfl ?_
  exact HF
set_option maxRecDepth 100000 in
theorem f_G_putPart_5 {g : lp_G} {d : Nat} {Q : SS → Prop} {S : SS} {x2 : Int32} {k1 t1 : Nat} (hk1 : isQ k1 t1)
    (HF : (S.1 k1 2 ≤ x2 → Q S) ∧ (¬ S.1 k1 2 ≤ x2 → (vp_in x2 24) ∧ (MtV g um_G_put d [.ref (g.2.1 + 125), .int (S.2 (t1 + 1) x2.toNatClampNeg)] S (fun S3 => AtV g um_G_putPart (d + 1) Q 5 [(0, .ref (g.2.1 + 125)), (1, .ref (g.2.1 + k1)), (2, .int (x2 + 1))] [] S3)))) : AtV g um_G_putPart (d + 1) Q 5 [(0, .ref (g.2.1 + 125)), (1, .ref (g.2.1 + k1)), (2, .int x2)] [] S := by
  refine ab_iload_n 2 d_G_putPart_5 rfl rfl ?_
  refine ab_aload_n 1 d_G_putPart_6 rfl rfl ?_
  refine sa_getI kf_G_95 d_G_putPart_7 hk1.1 rfl ?_
  refine ab_icmp_ge (tgt := 32) d_G_putPart_10 (by decide) (fun b1 => ?_) (fun b1 => ?_)
  · replace HF := HF.1 b1
    exact sa_ret rfl d_G_putPart_32 HF
  · replace HF := HF.2 b1
    refine ab_aload_n 0 d_G_putPart_13 rfl rfl ?_
    refine ab_aload_n 1 d_G_putPart_14 rfl rfl ?_
    refine sa_getR (r := t1) kf_G_112 d_G_putPart_15 hk1.1 rfl ?_
    refine sa_getR (r := t1 + 1) kf_G_84 d_G_putPart_18 hk1.2.1 rfl ?_
    refine ab_iload_n 2 d_G_putPart_21 rfl rfl ?_
    obtain ⟨c2, HF⟩ := HF
    refine sa_iald d_G_putPart_22 hk1.2.2 c2 ?_
    refine sa_callVv (As := [.int (S.2 (t1 + 1) x2.toNatClampNeg)]) (rest := []) kc_G_88 d_G_putPart_23 sh_125 rfl rfl rfl (Nat.le_of_ble_eq_true rfl) enV (Nat.le_of_ble_eq_true rfl) ⟨Nat.zero_le _, Nat.zero_le _⟩ HF (fun S3 HF => ?_)
    refine ab_iinc (v := x2 + 1) (lv' := [(2, .int (x2 + 1)), (0, .ref (g.2.1 + 125)), (1, .ref (g.2.1 + k1))]) 2 d_G_putPart_26 rfl (congrArg (fun z => x2 + z) (show Int32.ofInt 1 = (1 : Int32) by decide)) (Nat.le_of_ble_eq_true rfl) rfl ?_
    refine ab_goto (tgt := 5) d_G_putPart_29 (by decide) ?_
    refine ab_sub (lv' := [(0, .ref (g.2.1 + 125)), (1, .ref (g.2.1 + k1)), (2, .int (x2 + 1))]) [1, 2, 0] rfl ?_
    exact HF
set_option maxRecDepth 100000 in
theorem f_G_put {g : lp_G} {d : Nat} {Q : SS → Prop} {S : SS} {x1 : Int32}
    (HF : MtV g um_T_append d [.ref (g.2.1 + 141), .int x1] S (fun S1 => ∀ S3 : SS, S3 = setI S1 125 7 ((S1.1 125 7) + (1 : Int32)) → Q S3)) : MtV g um_G_put (d + 1) [.ref (g.2.1 + 125), .int x1] S Q := by
  refine sa_entryV (lv' := [(0, .ref (g.2.1 + 125)), (1, .int x1)]) (by decide +kernel) (Nat.le_of_ble_eq_true rfl) rfl ?_
  refine ab_aload_n 0 d_G_put_0 rfl rfl ?_
  refine sa_getR (r := 141) kf_G_46 d_G_put_1 sh_125 rfl ?_
  refine ab_iload_n 1 d_G_put_4 rfl rfl ?_
  refine sa_callVv (As := [.int x1]) (rest := []) kc_G_115 d_G_put_5 sh_141 rfl rfl rfl (Nat.le_of_ble_eq_true rfl) enV (Nat.le_of_ble_eq_true rfl) ⟨Nat.zero_le _, Nat.zero_le _⟩ HF (fun S1 HF => ?_)
  refine ab_aload_n 0 d_G_put_8 rfl rfl ?_
  refine ab_dup d_G_put_9 rfl ?_
  refine sa_getI kf_G_70 d_G_put_10 sh_125 rfl ?_
  refine ab_iconst (v := (1 : Int32)) d_G_put_13 (by decide) ?_
  refine ab_iadd d_G_put_14 ?_
  refine sa_putIn kp_G_70 d_G_put_15 sh_125 rfl (fun S3 hS3 => ?_)
  replace HF := HF S3 hS3
  exact sa_ret rfl d_G_put_18 HF
set_option maxRecDepth 100000 in
theorem f_P_add {g : lp_G} {d : Nat} {Q : Int32 → SS → Prop} {S : SS} {x1 : Int32} {w2 : Int64} {x4 : Int32}
    (HF : MtI g um_P_isText d [.int x1] S (fun r2 S1 => (r2 = 0 → Q (-1 : Int32) S1) ∧ (¬ r2 = 0 → (x4 < (1 : Int32) → Q (-1 : Int32) S1) ∧ (¬ x4 < (1 : Int32) → (nI 8 < x4 → Q (-1 : Int32) S1) ∧ (¬ nI 8 < x4 → MtI g um_P_areLetters d [.long w2, .int x4] S1 (fun r7 S6 => (¬ r7 = 0 → (vp_in x1 4) ∧ (((S6.1 (143 + 2 * x1.toNatClampNeg) 1) + x4 ≤ nI 24 → AtI g um_P_add (d + 1) Q 57 [(0, .ref (g.2.1 + 0)), (1, .int x1), (2, .long w2), (5, .int (x4 - (1 : Int32)))] [] S6) ∧ (¬ (S6.1 (143 + 2 * x1.toNatClampNeg) 1) + x4 ≤ nI 24 → Q (-2 : Int32) S6))) ∧ (r7 = 0 → Q (-1 : Int32) S6))))))) : MtI g um_P_add (d + 1) [.ref (g.2.1 + 0), .int x1, .long w2, .int x4] S Q := by
  refine sa_entryI (lv' := [(0, .ref (g.2.1 + 0)), (1, .int x1), (2, .long w2), (4, .int x4)]) (by decide +kernel) (Nat.le_of_ble_eq_true rfl) rfl ?_
  refine ab_iload_n 1 d_P_add_0 rfl rfl ?_
  refine sa_callSi (As := [.int x1]) (rest := []) kc_P_80 d_P_add_1 rfl (Nat.le_of_ble_eq_true rfl) enI (Nat.le_of_ble_eq_true rfl) ⟨Nat.zero_le _, Nat.zero_le _⟩ HF (fun r2 S1 HF => ?_)
  refine ab_if_eq (tgt := 29) d_P_add_4 (by decide) (fun b3 => ?_) (fun b3 => ?_)
  · replace HF := HF.1 b3
    refine ab_iconst (v := (-1 : Int32)) d_P_add_29 (by decide) ?_
    exact sa_iretI rfl d_P_add_30 HF
  · replace HF := HF.2 b3
    refine ab_iload 3 d_P_add_7 rfl ?_
    refine ab_iconst (v := (1 : Int32)) d_P_add_9 (by decide) ?_
    refine ab_icmp_lt (tgt := 29) d_P_add_10 (by decide) (fun b4 => ?_) (fun b4 => ?_)
    · replace HF := HF.1 b4
      refine ab_iconst (v := (-1 : Int32)) d_P_add_29 (by decide) ?_
      exact sa_iretI rfl d_P_add_30 HF
    · replace HF := HF.2 b4
      refine ab_iload 3 d_P_add_13 rfl ?_
      refine ab_bipush (v := nI 8) d_P_add_15 (by decide) ?_
      refine ab_icmp_gt (tgt := 29) d_P_add_17 (by decide) (fun b5 => ?_) (fun b5 => ?_)
      · replace HF := HF.1 b5
        refine ab_iconst (v := (-1 : Int32)) d_P_add_29 (by decide) ?_
        exact sa_iretI rfl d_P_add_30 HF
      · replace HF := HF.2 b5
        refine ab_lload_n 2 d_P_add_20 rfl rfl ?_
        refine ab_iload 3 d_P_add_21 rfl ?_
        refine sa_callSi (As := [.long w2, .int x4]) (rest := []) kc_P_84 d_P_add_23 rfl (Nat.le_of_ble_eq_true rfl) enI (Nat.le_of_ble_eq_true rfl) ⟨Nat.zero_le _, Nat.zero_le _⟩ HF (fun r7 S6 HF => ?_)
        refine ab_if_ne (tgt := 31) d_P_add_26 (by decide) (fun b8 => ?_) (fun b8 => ?_)
        · replace HF := HF.1 b8
          refine ab_aload_n 0 d_P_add_31 rfl rfl ?_
          refine sa_getR (r := 1) kf_P_11 d_P_add_32 sh_0 rfl ?_
          refine ab_iload_n 1 d_P_add_35 rfl rfl ?_
          obtain ⟨c9, HF⟩ := HF
          refine sa_aald (ty := .object "LinePatcher$Text") d_P_add_36 sh_1 rfl rfl c9 ?_
          refine sa_getI kf_P_88 d_P_add_37 (sr_1 _ (vp_lt c9)) rfl ?_
          refine ab_iload 3 d_P_add_40 rfl ?_
          refine ab_iadd d_P_add_42 ?_
          refine ab_bipush (v := nI 24) d_P_add_43 (by decide) ?_
          refine ab_icmp_le (tgt := 51) d_P_add_45 (by decide) (fun b10 => ?_) (fun b10 => ?_)
          · replace HF := HF.1 b10
            refine ab_iload 3 d_P_add_51 rfl ?_
            refine ab_iconst (v := (1 : Int32)) d_P_add_53 (by decide) ?_
            refine ab_isub d_P_add_54 ?_
            refine ab_istore (lv' := [(5, .int (x4 - (1 : Int32))), (0, .ref (g.2.1 + 0)), (1, .int x1), (2, .long w2), (4, .int x4)]) d_P_add_55 (Nat.le_of_ble_eq_true rfl) rfl ?_
            refine ab_sub (lv' := [(0, .ref (g.2.1 + 0)), (1, .int x1), (2, .long w2), (5, .int (x4 - (1 : Int32)))]) [1, 2, 3, 0] rfl ?_
            exact HF
          · replace HF := HF.2 b10
            refine ab_bipush (v := (-2 : Int32)) d_P_add_48 (by decide) ?_
            exact sa_iretI rfl d_P_add_50 HF
        · replace HF := HF.2 b8
          refine ab_iconst (v := (-1 : Int32)) d_P_add_29 (by decide) ?_
          exact sa_iretI rfl d_P_add_30 HF
set_option maxRecDepth 100000 in
theorem f_P_add_57 {g : lp_G} {d : Nat} {Q : Int32 → SS → Prop} {S : SS} {x1 : Int32} {w2 : Int64} {x5 : Int32}
    (HF : (x5 < 0 → (vp_in x1 4) ∧ (Q (S.1 (143 + 2 * x1.toNatClampNeg) 1) S)) ∧ (¬ x5 < 0 → (vp_in x1 4) ∧ (MtI g um_P_byteOf d [.long w2, .int x5] S (fun r15 S14 => MtV g um_T_append d [.ref (g.2.1 + (143 + 2 * x1.toNatClampNeg)), .int r15] S14 (fun S16 => AtI g um_P_add (d + 1) Q 57 [(0, .ref (g.2.1 + 0)), (1, .int x1), (2, .long w2), (5, .int (x5 + (-1)))] [] S16))))) : AtI g um_P_add (d + 1) Q 57 [(0, .ref (g.2.1 + 0)), (1, .int x1), (2, .long w2), (5, .int x5)] [] S := by
  refine ab_iload 3 d_P_add_57 rfl ?_
  refine ab_if_lt (tgt := 83) d_P_add_59 (by decide) (fun b11 => ?_) (fun b11 => ?_)
  · replace HF := HF.1 b11
    refine ab_aload_n 0 d_P_add_83 rfl rfl ?_
    refine sa_getR (r := 1) kf_P_11 d_P_add_84 sh_0 rfl ?_
    refine ab_iload_n 1 d_P_add_87 rfl rfl ?_
    obtain ⟨c12, HF⟩ := HF
    refine sa_aald (ty := .object "LinePatcher$Text") d_P_add_88 sh_1 rfl rfl c12 ?_
    refine sa_getI kf_P_88 d_P_add_89 (sr_1 _ (vp_lt c12)) rfl ?_
    exact sa_iretI rfl d_P_add_92 HF
  · replace HF := HF.2 b11
    refine ab_aload_n 0 d_P_add_62 rfl rfl ?_
    refine sa_getR (r := 1) kf_P_11 d_P_add_63 sh_0 rfl ?_
    refine ab_iload_n 1 d_P_add_66 rfl rfl ?_
    obtain ⟨c13, HF⟩ := HF
    refine sa_aald (ty := .object "LinePatcher$Text") d_P_add_67 sh_1 rfl rfl c13 ?_
    refine ab_lload_n 2 d_P_add_68 rfl rfl ?_
    refine ab_iload 3 d_P_add_69 rfl ?_
    refine sa_callSi (As := [.long w2, .int x5]) (rest := [.ref (g.2.1 + (143 + 2 * x1.toNatClampNeg))]) kc_P_92 d_P_add_71 rfl (Nat.le_of_ble_eq_true rfl) enI (Nat.le_of_ble_eq_true rfl) ⟨Nat.zero_le _, Nat.zero_le _⟩ HF (fun r15 S14 HF => ?_)
    refine sa_callVv (As := [.int r15]) (rest := []) kc_P_96 d_P_add_74 (sr_1 _ (vp_lt c13)) rfl rfl rfl (Nat.le_of_ble_eq_true rfl) enI (Nat.le_of_ble_eq_true rfl) ⟨Nat.zero_le _, Nat.zero_le _⟩ HF (fun S16 HF => ?_)
    refine ab_iinc (v := x5 + (-1)) (lv' := [(5, .int (x5 + (-1))), (0, .ref (g.2.1 + 0)), (1, .int x1), (2, .long w2)]) 3 d_P_add_77 rfl (congrArg (fun z => x5 + z) (show Int32.ofInt (-1) = (-1 : Int32) by decide)) (Nat.le_of_ble_eq_true rfl) rfl ?_
    refine ab_goto (tgt := 57) d_P_add_80 (by decide) ?_
    refine ab_sub (lv' := [(0, .ref (g.2.1 + 0)), (1, .int x1), (2, .long w2), (5, .int (x5 + (-1)))]) [1, 2, 3, 0] rfl ?_
    exact HF
set_option maxRecDepth 100000 in
theorem f_P_clear {g : lp_G} {d : Nat} {Q : Int32 → SS → Prop} {S : SS} {x1 : Int32}
    (HF : MtI g um_P_isText d [.int x1] S (fun r2 S1 => (¬ r2 = 0 → (vp_in x1 4) ∧ ((vp_in x1 4) ∧ (∀ S6 : SS, S6 = setI S1 (143 + 2 * x1.toNatClampNeg) 1 (0 : Int32) → Q (S1.1 (143 + 2 * x1.toNatClampNeg) 1) S6))) ∧ (r2 = 0 → Q (-1 : Int32) S1))) : MtI g um_P_clear (d + 1) [.ref (g.2.1 + 0), .int x1] S Q := by
  refine sa_entryI (lv' := [(0, .ref (g.2.1 + 0)), (1, .int x1)]) (by decide +kernel) (Nat.le_of_ble_eq_true rfl) rfl ?_
  refine ab_iload_n 1 d_P_clear_0 rfl rfl ?_
  refine sa_callSi (As := [.int x1]) (rest := []) kc_P_80 d_P_clear_1 rfl (Nat.le_of_ble_eq_true rfl) enI (Nat.le_of_ble_eq_true rfl) ⟨Nat.zero_le _, Nat.zero_le _⟩ HF (fun r2 S1 HF => ?_)
  refine ab_if_ne (tgt := 9) d_P_clear_4 (by decide) (fun b3 => ?_) (fun b3 => ?_)
  · replace HF := HF.1 b3
    refine ab_aload_n 0 d_P_clear_9 rfl rfl ?_
    refine sa_getR (r := 1) kf_P_11 d_P_clear_10 sh_0 rfl ?_
    refine ab_iload_n 1 d_P_clear_13 rfl rfl ?_
    obtain ⟨c4, HF⟩ := HF
    refine sa_aald (ty := .object "LinePatcher$Text") d_P_clear_14 sh_1 rfl rfl c4 ?_
    refine sa_getI kf_P_88 d_P_clear_15 (sr_1 _ (vp_lt c4)) rfl ?_
    refine ab_istore_n (lv' := [(2, .int (S1.1 (143 + 2 * x1.toNatClampNeg) 1)), (0, .ref (g.2.1 + 0)), (1, .int x1)]) d_P_clear_18 rfl (Nat.le_of_ble_eq_true rfl) rfl ?_
    refine ab_aload_n 1 d_P_clear_19 rfl rfl ?_
    refine sa_getR (r := 1) kf_P_11 d_P_clear_20 sh_0 rfl ?_
    refine ab_iload_n 2 d_P_clear_23 rfl rfl ?_
    obtain ⟨c5, HF⟩ := HF
    refine sa_aald (ty := .object "LinePatcher$Text") d_P_clear_24 sh_1 rfl rfl c5 ?_
    refine ab_iconst (v := (0 : Int32)) d_P_clear_25 (by decide) ?_
    refine sa_putIn kp_P_88 d_P_clear_26 (sr_1 _ (vp_lt c5)) rfl (fun S6 hS6 => ?_)
    replace HF := HF S6 hS6
    refine ab_iload_n 0 d_P_clear_29 rfl rfl ?_
    exact sa_iretI rfl d_P_clear_30 HF
  · replace HF := HF.2 b3
    refine ab_iconst (v := (-1 : Int32)) d_P_clear_7 (by decide) ?_
    exact sa_iretI rfl d_P_clear_8 HF
set_option maxRecDepth 100000 in
theorem f_P_size {g : lp_G} {d : Nat} {Q : Int32 → SS → Prop} {S : SS} {x1 : Int32}
    (HF : MtI g um_P_isText d [.int x1] S (fun r2 S1 => (r2 = 0 → Q (-1 : Int32) S1) ∧ (¬ r2 = 0 → (vp_in x1 4) ∧ (Q (S1.1 (143 + 2 * x1.toNatClampNeg) 1) S1)))) : MtI g um_P_size (d + 1) [.ref (g.2.1 + 0), .int x1] S Q := by
  refine sa_entryI (lv' := [(0, .ref (g.2.1 + 0)), (1, .int x1)]) (by decide +kernel) (Nat.le_of_ble_eq_true rfl) rfl ?_
  refine ab_iload_n 1 d_P_size_0 rfl rfl ?_
  refine sa_callSi (As := [.int x1]) (rest := []) kc_P_80 d_P_size_1 rfl (Nat.le_of_ble_eq_true rfl) enI (Nat.le_of_ble_eq_true rfl) ⟨Nat.zero_le _, Nat.zero_le _⟩ HF (fun r2 S1 HF => ?_)
  refine ab_if_eq (tgt := 19) d_P_size_4 (by decide) (fun b3 => ?_) (fun b3 => ?_)
  · replace HF := HF.1 b3
    refine ab_iconst (v := (-1 : Int32)) d_P_size_19 (by decide) ?_
    exact sa_iretI rfl d_P_size_20 HF
  · replace HF := HF.2 b3
    refine ab_aload_n 0 d_P_size_7 rfl rfl ?_
    refine sa_getR (r := 1) kf_P_11 d_P_size_8 sh_0 rfl ?_
    refine ab_iload_n 1 d_P_size_11 rfl rfl ?_
    obtain ⟨c4, HF⟩ := HF
    refine sa_aald (ty := .object "LinePatcher$Text") d_P_size_12 sh_1 rfl rfl c4 ?_
    refine sa_getI kf_P_88 d_P_size_13 (sr_1 _ (vp_lt c4)) rfl ?_
    refine ab_goto (tgt := 20) d_P_size_16 (by decide) ?_
    exact sa_iretI rfl d_P_size_20 HF
set_option maxRecDepth 100000 in
theorem f_P_line {g : lp_G} {d : Nat} {Q : Int32 → SS → Prop} {S : SS} {x1 : Int32} {x2 : Int32}
    (HF : MtI g um_P_isText d [.int x1] S (fun r2 S1 => (¬ r2 = 0 → (x2 < 0 → Q (-3 : Int32) S1) ∧ (¬ x2 < 0 → (vp_in x1 4) ∧ ((S1.1 (143 + 2 * x1.toNatClampNeg) 1 ≤ x2 → Q (-3 : Int32) S1) ∧ (¬ S1.1 (143 + 2 * x1.toNatClampNeg) 1 ≤ x2 → (vp_in x1 4) ∧ ((vp_in x2 24) ∧ (Q (S1.2 (143 + 2 * x1.toNatClampNeg + 1) x2.toNatClampNeg) S1)))))) ∧ (r2 = 0 → Q (-1 : Int32) S1))) : MtI g um_P_line (d + 1) [.ref (g.2.1 + 0), .int x1, .int x2] S Q := by
  refine sa_entryI (lv' := [(0, .ref (g.2.1 + 0)), (1, .int x1), (2, .int x2)]) (by decide +kernel) (Nat.le_of_ble_eq_true rfl) rfl ?_
  refine ab_iload_n 1 d_P_line_0 rfl rfl ?_
  refine sa_callSi (As := [.int x1]) (rest := []) kc_P_80 d_P_line_1 rfl (Nat.le_of_ble_eq_true rfl) enI (Nat.le_of_ble_eq_true rfl) ⟨Nat.zero_le _, Nat.zero_le _⟩ HF (fun r2 S1 HF => ?_)
  refine ab_if_ne (tgt := 9) d_P_line_4 (by decide) (fun b3 => ?_) (fun b3 => ?_)
  · replace HF := HF.1 b3
    refine ab_iload_n 2 d_P_line_9 rfl rfl ?_
    refine ab_if_lt (tgt := 40) d_P_line_10 (by decide) (fun b4 => ?_) (fun b4 => ?_)
    · replace HF := HF.1 b4
      refine ab_bipush (v := (-3 : Int32)) d_P_line_40 (by decide) ?_
      exact sa_iretI rfl d_P_line_42 HF
    · replace HF := HF.2 b4
      refine ab_iload_n 2 d_P_line_13 rfl rfl ?_
      refine ab_aload_n 0 d_P_line_14 rfl rfl ?_
      refine sa_getR (r := 1) kf_P_11 d_P_line_15 sh_0 rfl ?_
      refine ab_iload_n 1 d_P_line_18 rfl rfl ?_
      obtain ⟨c5, HF⟩ := HF
      refine sa_aald (ty := .object "LinePatcher$Text") d_P_line_19 sh_1 rfl rfl c5 ?_
      refine sa_getI kf_P_88 d_P_line_20 (sr_1 _ (vp_lt c5)) rfl ?_
      refine ab_icmp_ge (tgt := 40) d_P_line_23 (by decide) (fun b6 => ?_) (fun b6 => ?_)
      · replace HF := HF.1 b6
        refine ab_bipush (v := (-3 : Int32)) d_P_line_40 (by decide) ?_
        exact sa_iretI rfl d_P_line_42 HF
      · replace HF := HF.2 b6
        refine ab_aload_n 0 d_P_line_26 rfl rfl ?_
        refine sa_getR (r := 1) kf_P_11 d_P_line_27 sh_0 rfl ?_
        refine ab_iload_n 1 d_P_line_30 rfl rfl ?_
        obtain ⟨c7, HF⟩ := HF
        refine sa_aald (ty := .object "LinePatcher$Text") d_P_line_31 sh_1 rfl rfl c7 ?_
        refine sa_getR (r := 143 + 2 * x1.toNatClampNeg + 1) kf_P_100 d_P_line_32 (sr_1 _ (vp_lt c7)) rfl ?_
        refine ab_iload_n 2 d_P_line_35 rfl rfl ?_
        obtain ⟨c8, HF⟩ := HF
        refine sa_iald d_P_line_36 (sr_1_1 _ (vp_lt c7)) c8 ?_
        refine ab_goto (tgt := 42) d_P_line_37 (by decide) ?_
        exact sa_iretI rfl d_P_line_42 HF
  · replace HF := HF.2 b3
    refine ab_iconst (v := (-1 : Int32)) d_P_line_7 (by decide) ?_
    exact sa_iretI rfl d_P_line_8 HF
set_option maxRecDepth 100000 in
theorem f_P_compare {g : lp_G} {d : Nat} {Q : Int32 → SS → Prop} {S : SS} {x1 : Int32} {x2 : Int32} {x3 : Int32}
    (HF : MtI g um_P_isText d [.int x1] S (fun r2 S1 => (r2 = 0 → Q (-1 : Int32) S1) ∧ (¬ r2 = 0 → MtI g um_P_isText d [.int x2] S1 (fun r5 S4 => (r5 = 0 → Q (-1 : Int32) S4) ∧ (¬ r5 = 0 → (x3 = 0 → (vp_in x1 4) ∧ (MtI g um_T_hasOnlyLetters d [.ref (g.2.1 + (143 + 2 * x1.toNatClampNeg))] S4 (fun r10 S9 => (r10 = 0 → Q (-3 : Int32) S9) ∧ (¬ r10 = 0 → (vp_in x2 4) ∧ (MtI g um_T_hasOnlyLetters d [.ref (g.2.1 + (143 + 2 * x2.toNatClampNeg))] S9 (fun r14 S13 => (¬ r14 = 0 → (vp_in x1 4) ∧ ((vp_in x2 4) ∧ (MtV g um_C_begin d [.ref (g.2.1 + 2), .ref (g.2.1 + (143 + 2 * x1.toNatClampNeg)), .ref (g.2.1 + (143 + 2 * x2.toNatClampNeg))] S13 (fun S18 => MtV g um_S_matchTexts d [.ref (g.2.1 + 8), .ref (g.2.1 + 2)] S18 (fun S20 => ∀ S22 : SS, S22 = setI S20 0 2 (1 : Int32) → MtI g um_C_linesChanged d [.ref (g.2.1 + 2)] S22 (fun r24 S23 => Q r24 S23)))))) ∧ (r14 = 0 → Q (-3 : Int32) S13))))))) ∧ (¬ x3 = 0 → (x3 = (1 : Int32) → (vp_in x1 4) ∧ (MtI g um_T_hasOnlyLetters d [.ref (g.2.1 + (143 + 2 * x1.toNatClampNeg))] S4 (fun r28 S27 => (r28 = 0 → Q (-3 : Int32) S27) ∧ (¬ r28 = 0 → (vp_in x2 4) ∧ (MtI g um_T_hasOnlyLetters d [.ref (g.2.1 + (143 + 2 * x2.toNatClampNeg))] S27 (fun r32 S31 => (¬ r32 = 0 → (vp_in x1 4) ∧ ((vp_in x2 4) ∧ (MtV g um_C_begin d [.ref (g.2.1 + 2), .ref (g.2.1 + (143 + 2 * x1.toNatClampNeg)), .ref (g.2.1 + (143 + 2 * x2.toNatClampNeg))] S31 (fun S36 => MtV g um_O_matchTexts d [.ref (g.2.1 + 36), .ref (g.2.1 + 2)] S36 (fun S38 => ∀ S40 : SS, S40 = setI S38 0 2 (1 : Int32) → MtI g um_C_linesChanged d [.ref (g.2.1 + 2)] S40 (fun r42 S41 => Q r42 S41)))))) ∧ (r32 = 0 → Q (-3 : Int32) S31))))))) ∧ (¬ x3 = (1 : Int32) → Q (-1 : Int32) S4))))))) : MtI g um_P_compare (d + 1) [.ref (g.2.1 + 0), .int x1, .int x2, .int x3] S Q := by
  refine sa_entryI (lv' := [(0, .ref (g.2.1 + 0)), (1, .int x1), (2, .int x2), (3, .int x3)]) (by decide +kernel) (Nat.le_of_ble_eq_true rfl) rfl ?_
  refine ab_iload_n 1 d_P_compare_0 rfl rfl ?_
  refine sa_callSi (As := [.int x1]) (rest := []) kc_P_80 d_P_compare_1 rfl (Nat.le_of_ble_eq_true rfl) enI (Nat.le_of_ble_eq_true rfl) ⟨Nat.zero_le _, Nat.zero_le _⟩ HF (fun r2 S1 HF => ?_)
  refine ab_if_eq (tgt := 23) d_P_compare_4 (by decide) (fun b3 => ?_) (fun b3 => ?_)
  · replace HF := HF.1 b3
    refine ab_iconst (v := (-1 : Int32)) d_P_compare_23 (by decide) ?_
    exact sa_iretI rfl d_P_compare_24 HF
  · replace HF := HF.2 b3
    refine ab_iload_n 2 d_P_compare_7 rfl rfl ?_
    refine sa_callSi (As := [.int x2]) (rest := []) kc_P_80 d_P_compare_8 rfl (Nat.le_of_ble_eq_true rfl) enI (Nat.le_of_ble_eq_true rfl) ⟨Nat.zero_le _, Nat.zero_le _⟩ HF (fun r5 S4 HF => ?_)
    refine ab_if_eq (tgt := 23) d_P_compare_11 (by decide) (fun b6 => ?_) (fun b6 => ?_)
    · replace HF := HF.1 b6
      refine ab_iconst (v := (-1 : Int32)) d_P_compare_23 (by decide) ?_
      exact sa_iretI rfl d_P_compare_24 HF
    · replace HF := HF.2 b6
      refine ab_iload_n 3 d_P_compare_14 rfl rfl ?_
      refine ab_if_eq (tgt := 25) d_P_compare_15 (by decide) (fun b7 => ?_) (fun b7 => ?_)
      · replace HF := HF.1 b7
        refine ab_aload_n 0 d_P_compare_25 rfl rfl ?_
        refine sa_getR (r := 1) kf_P_11 d_P_compare_26 sh_0 rfl ?_
        refine ab_iload_n 1 d_P_compare_29 rfl rfl ?_
        obtain ⟨c8, HF⟩ := HF
        refine sa_aald (ty := .object "LinePatcher$Text") d_P_compare_30 sh_1 rfl rfl c8 ?_
        refine sa_callVi (As := []) (rest := []) kc_P_104 d_P_compare_31 (sr_1 _ (vp_lt c8)) rfl rfl rfl (Nat.le_of_ble_eq_true rfl) enI (Nat.le_of_ble_eq_true rfl) ⟨Nat.zero_le _, Nat.zero_le _⟩ HF (fun r10 S9 HF => ?_)
        refine ab_if_eq (tgt := 49) d_P_compare_34 (by decide) (fun b11 => ?_) (fun b11 => ?_)
        · replace HF := HF.1 b11
          refine ab_bipush (v := (-3 : Int32)) d_P_compare_49 (by decide) ?_
          exact sa_iretI rfl d_P_compare_51 HF
        · replace HF := HF.2 b11
          refine ab_aload_n 0 d_P_compare_37 rfl rfl ?_
          refine sa_getR (r := 1) kf_P_11 d_P_compare_38 sh_0 rfl ?_
          refine ab_iload_n 2 d_P_compare_41 rfl rfl ?_
          obtain ⟨c12, HF⟩ := HF
          refine sa_aald (ty := .object "LinePatcher$Text") d_P_compare_42 sh_1 rfl rfl c12 ?_
          refine sa_callVi (As := []) (rest := []) kc_P_104 d_P_compare_43 (sr_1 _ (vp_lt c12)) rfl rfl rfl (Nat.le_of_ble_eq_true rfl) enI (Nat.le_of_ble_eq_true rfl) ⟨Nat.zero_le _, Nat.zero_le _⟩ HF (fun r14 S13 HF => ?_)
          refine ab_if_ne (tgt := 52) d_P_compare_46 (by decide) (fun b15 => ?_) (fun b15 => ?_)
          · replace HF := HF.1 b15
            refine ab_aload_n 0 d_P_compare_52 rfl rfl ?_
            refine sa_getR (r := 2) kf_P_18 d_P_compare_53 sh_0 rfl ?_
            refine ab_aload_n 0 d_P_compare_56 rfl rfl ?_
            refine sa_getR (r := 1) kf_P_11 d_P_compare_57 sh_0 rfl ?_
            refine ab_iload_n 1 d_P_compare_60 rfl rfl ?_
            obtain ⟨c16, HF⟩ := HF
            refine sa_aald (ty := .object "LinePatcher$Text") d_P_compare_61 sh_1 rfl rfl c16 ?_
            refine ab_aload_n 0 d_P_compare_62 rfl rfl ?_
            refine sa_getR (r := 1) kf_P_11 d_P_compare_63 sh_0 rfl ?_
            refine ab_iload_n 2 d_P_compare_66 rfl rfl ?_
            obtain ⟨c17, HF⟩ := HF
            refine sa_aald (ty := .object "LinePatcher$Text") d_P_compare_67 sh_1 rfl rfl c17 ?_
            refine sa_callVv (As := [.ref (g.2.1 + (143 + 2 * x1.toNatClampNeg)), .ref (g.2.1 + (143 + 2 * x2.toNatClampNeg))]) (rest := []) kc_P_108 d_P_compare_68 sh_2 rfl rfl rfl (Nat.le_of_ble_eq_true rfl) enI (Nat.le_of_ble_eq_true rfl) ⟨Nat.zero_le _, Nat.zero_le _⟩ HF (fun S18 HF => ?_)
            refine ab_iload_n 3 d_P_compare_71 rfl rfl ?_
            refine ab_if_ne (tgt := 89) d_P_compare_72 (by decide) (fun h => absurd b7 h) (fun _ => ?_)
            refine ab_aload_n 0 d_P_compare_75 rfl rfl ?_
            refine sa_getR (r := 8) kf_P_25 d_P_compare_76 sh_0 rfl ?_
            refine ab_aload_n 0 d_P_compare_79 rfl rfl ?_
            refine sa_getR (r := 2) kf_P_18 d_P_compare_80 sh_0 rfl ?_
            refine sa_callVv (As := [.ref (g.2.1 + 2)]) (rest := []) kc_P_112 d_P_compare_83 sh_8 rfl rfl rfl (Nat.le_of_ble_eq_true rfl) enI (Nat.le_of_ble_eq_true rfl) ⟨Nat.zero_le _, Nat.zero_le _⟩ HF (fun S20 HF => ?_)
            refine ab_goto (tgt := 100) d_P_compare_86 (by decide) ?_
            refine ab_aload_n 0 d_P_compare_100 rfl rfl ?_
            refine ab_iconst (v := (1 : Int32)) d_P_compare_101 (by decide) ?_
            refine sa_putZn kp_P_117 d_P_compare_102 sh_0 rfl isB_1 (fun S22 hS22 => ?_)
            replace HF := HF S22 hS22
            refine ab_aload_n 0 d_P_compare_105 rfl rfl ?_
            refine sa_getR (r := 2) kf_P_18 d_P_compare_106 sh_0 rfl ?_
            refine sa_callVi (As := []) (rest := []) kc_P_121 d_P_compare_109 sh_2 rfl rfl rfl (Nat.le_of_ble_eq_true rfl) enI (Nat.le_of_ble_eq_true rfl) ⟨Nat.zero_le _, Nat.zero_le _⟩ HF (fun r24 S23 HF => ?_)
            exact sa_iretI rfl d_P_compare_112 HF
          · replace HF := HF.2 b15
            refine ab_bipush (v := (-3 : Int32)) d_P_compare_49 (by decide) ?_
            exact sa_iretI rfl d_P_compare_51 HF
      · replace HF := HF.2 b7
        refine ab_iload_n 3 d_P_compare_18 rfl rfl ?_
        refine ab_iconst (v := (1 : Int32)) d_P_compare_19 (by decide) ?_
        refine ab_icmp_eq (tgt := 25) d_P_compare_20 (by decide) (fun b25 => ?_) (fun b25 => ?_)
        · replace HF := HF.1 b25
          refine ab_aload_n 0 d_P_compare_25 rfl rfl ?_
          refine sa_getR (r := 1) kf_P_11 d_P_compare_26 sh_0 rfl ?_
          refine ab_iload_n 1 d_P_compare_29 rfl rfl ?_
          obtain ⟨c26, HF⟩ := HF
          refine sa_aald (ty := .object "LinePatcher$Text") d_P_compare_30 sh_1 rfl rfl c26 ?_
          refine sa_callVi (As := []) (rest := []) kc_P_104 d_P_compare_31 (sr_1 _ (vp_lt c26)) rfl rfl rfl (Nat.le_of_ble_eq_true rfl) enI (Nat.le_of_ble_eq_true rfl) ⟨Nat.zero_le _, Nat.zero_le _⟩ HF (fun r28 S27 HF => ?_)
          refine ab_if_eq (tgt := 49) d_P_compare_34 (by decide) (fun b29 => ?_) (fun b29 => ?_)
          · replace HF := HF.1 b29
            refine ab_bipush (v := (-3 : Int32)) d_P_compare_49 (by decide) ?_
            exact sa_iretI rfl d_P_compare_51 HF
          · replace HF := HF.2 b29
            refine ab_aload_n 0 d_P_compare_37 rfl rfl ?_
            refine sa_getR (r := 1) kf_P_11 d_P_compare_38 sh_0 rfl ?_
            refine ab_iload_n 2 d_P_compare_41 rfl rfl ?_
            obtain ⟨c30, HF⟩ := HF
            refine sa_aald (ty := .object "LinePatcher$Text") d_P_compare_42 sh_1 rfl rfl c30 ?_
            refine sa_callVi (As := []) (rest := []) kc_P_104 d_P_compare_43 (sr_1 _ (vp_lt c30)) rfl rfl rfl (Nat.le_of_ble_eq_true rfl) enI (Nat.le_of_ble_eq_true rfl) ⟨Nat.zero_le _, Nat.zero_le _⟩ HF (fun r32 S31 HF => ?_)
            refine ab_if_ne (tgt := 52) d_P_compare_46 (by decide) (fun b33 => ?_) (fun b33 => ?_)
            · replace HF := HF.1 b33
              refine ab_aload_n 0 d_P_compare_52 rfl rfl ?_
              refine sa_getR (r := 2) kf_P_18 d_P_compare_53 sh_0 rfl ?_
              refine ab_aload_n 0 d_P_compare_56 rfl rfl ?_
              refine sa_getR (r := 1) kf_P_11 d_P_compare_57 sh_0 rfl ?_
              refine ab_iload_n 1 d_P_compare_60 rfl rfl ?_
              obtain ⟨c34, HF⟩ := HF
              refine sa_aald (ty := .object "LinePatcher$Text") d_P_compare_61 sh_1 rfl rfl c34 ?_
              refine ab_aload_n 0 d_P_compare_62 rfl rfl ?_
              refine sa_getR (r := 1) kf_P_11 d_P_compare_63 sh_0 rfl ?_
              refine ab_iload_n 2 d_P_compare_66 rfl rfl ?_
              obtain ⟨c35, HF⟩ := HF
              refine sa_aald (ty := .object "LinePatcher$Text") d_P_compare_67 sh_1 rfl rfl c35 ?_
              refine sa_callVv (As := [.ref (g.2.1 + (143 + 2 * x1.toNatClampNeg)), .ref (g.2.1 + (143 + 2 * x2.toNatClampNeg))]) (rest := []) kc_P_108 d_P_compare_68 sh_2 rfl rfl rfl (Nat.le_of_ble_eq_true rfl) enI (Nat.le_of_ble_eq_true rfl) ⟨Nat.zero_le _, Nat.zero_le _⟩ HF (fun S36 HF => ?_)
              refine ab_iload_n 3 d_P_compare_71 rfl rfl ?_
              refine ab_if_ne (tgt := 89) d_P_compare_72 (by decide) (fun _ => ?_) (fun h => absurd h b7)
              refine ab_aload_n 0 d_P_compare_89 rfl rfl ?_
              refine sa_getR (r := 36) kf_P_34 d_P_compare_90 sh_0 rfl ?_
              refine ab_aload_n 0 d_P_compare_93 rfl rfl ?_
              refine sa_getR (r := 2) kf_P_18 d_P_compare_94 sh_0 rfl ?_
              refine sa_callVv (As := [.ref (g.2.1 + 2)]) (rest := []) kc_P_116 d_P_compare_97 sh_36 rfl rfl rfl (Nat.le_of_ble_eq_true rfl) enI (Nat.le_of_ble_eq_true rfl) ⟨Nat.zero_le _, Nat.zero_le _⟩ HF (fun S38 HF => ?_)
              refine ab_aload_n 0 d_P_compare_100 rfl rfl ?_
              refine ab_iconst (v := (1 : Int32)) d_P_compare_101 (by decide) ?_
              refine sa_putZn kp_P_117 d_P_compare_102 sh_0 rfl isB_1 (fun S40 hS40 => ?_)
              replace HF := HF S40 hS40
              refine ab_aload_n 0 d_P_compare_105 rfl rfl ?_
              refine sa_getR (r := 2) kf_P_18 d_P_compare_106 sh_0 rfl ?_
              refine sa_callVi (As := []) (rest := []) kc_P_121 d_P_compare_109 sh_2 rfl rfl rfl (Nat.le_of_ble_eq_true rfl) enI (Nat.le_of_ble_eq_true rfl) ⟨Nat.zero_le _, Nat.zero_le _⟩ HF (fun r42 S41 HF => ?_)
              exact sa_iretI rfl d_P_compare_112 HF
            · replace HF := HF.2 b33
              refine ab_bipush (v := (-3 : Int32)) d_P_compare_49 (by decide) ?_
              exact sa_iretI rfl d_P_compare_51 HF
        · replace HF := HF.2 b25
          refine ab_iconst (v := (-1 : Int32)) d_P_compare_23 (by decide) ?_
          exact sa_iretI rfl d_P_compare_24 HF
set_option maxRecDepth 100000 in
theorem f_P_match {g : lp_G} {d : Nat} {Q : Int32 → SS → Prop} {S : SS} {x1 : Int32}
    (HF : (S.1 0 2 = 0 → Q (-3 : Int32) S) ∧ (¬ S.1 0 2 = 0 → MtI g um_C_partnerOf d [.ref (g.2.1 + 2), .int x1] S (fun r3 S2 => Q r3 S2))) : MtI g um_P_match (d + 1) [.ref (g.2.1 + 0), .int x1] S Q := by
  refine sa_entryI (lv' := [(0, .ref (g.2.1 + 0)), (1, .int x1)]) (by decide +kernel) (Nat.le_of_ble_eq_true rfl) rfl ?_
  refine ab_aload_n 0 d_P_match_0 rfl rfl ?_
  refine sa_getI kf_P_117 d_P_match_1 sh_0 rfl ?_
  refine ab_if_eq (tgt := 18) d_P_match_4 (by decide) (fun b1 => ?_) (fun b1 => ?_)
  · replace HF := HF.1 b1
    refine ab_bipush (v := (-3 : Int32)) d_P_match_18 (by decide) ?_
    exact sa_iretI rfl d_P_match_20 HF
  · replace HF := HF.2 b1
    refine ab_aload_n 0 d_P_match_7 rfl rfl ?_
    refine sa_getR (r := 2) kf_P_18 d_P_match_8 sh_0 rfl ?_
    refine ab_iload_n 1 d_P_match_11 rfl rfl ?_
    refine sa_callVi (As := [.int x1]) (rest := []) kc_P_125 d_P_match_12 sh_2 rfl rfl rfl (Nat.le_of_ble_eq_true rfl) enI (Nat.le_of_ble_eq_true rfl) ⟨Nat.zero_le _, Nat.zero_le _⟩ HF (fun r3 S2 HF => ?_)
    refine ab_goto (tgt := 20) d_P_match_15 (by decide) ?_
    exact sa_iretI rfl d_P_match_20 HF
set_option maxRecDepth 100000 in
theorem f_P_write {g : lp_G} {d : Nat} {Q : Int32 → SS → Prop} {S : SS} {x1 : Int32}
    (HF : (x1 < 0 → Q (-1 : Int32) S) ∧ (¬ x1 < 0 → (x1 ≤ nI 3 → (S.1 0 2 = 0 → Q (-3 : Int32) S) ∧ (¬ S.1 0 2 = 0 → MtI g um_W_writePatch d [.ref (g.2.1 + 92), .int x1] S (fun r5 S4 => Q r5 S4))) ∧ (¬ x1 ≤ nI 3 → Q (-1 : Int32) S))) : MtI g um_P_write (d + 1) [.ref (g.2.1 + 0), .int x1] S Q := by
  refine sa_entryI (lv' := [(0, .ref (g.2.1 + 0)), (1, .int x1)]) (by decide +kernel) (Nat.le_of_ble_eq_true rfl) rfl ?_
  refine ab_iload_n 1 d_P_write_0 rfl rfl ?_
  refine ab_if_lt (tgt := 9) d_P_write_1 (by decide) (fun b1 => ?_) (fun b1 => ?_)
  · replace HF := HF.1 b1
    refine ab_iconst (v := (-1 : Int32)) d_P_write_9 (by decide) ?_
    exact sa_iretI rfl d_P_write_10 HF
  · replace HF := HF.2 b1
    refine ab_iload_n 1 d_P_write_4 rfl rfl ?_
    refine ab_iconst (v := nI 3) d_P_write_5 (by decide) ?_
    refine ab_icmp_le (tgt := 11) d_P_write_6 (by decide) (fun b2 => ?_) (fun b2 => ?_)
    · replace HF := HF.1 b2
      refine ab_aload_n 0 d_P_write_11 rfl rfl ?_
      refine sa_getI kf_P_117 d_P_write_12 sh_0 rfl ?_
      refine ab_if_eq (tgt := 29) d_P_write_15 (by decide) (fun b3 => ?_) (fun b3 => ?_)
      · replace HF := HF.1 b3
        refine ab_bipush (v := (-3 : Int32)) d_P_write_29 (by decide) ?_
        exact sa_iretI rfl d_P_write_31 HF
      · replace HF := HF.2 b3
        refine ab_aload_n 0 d_P_write_18 rfl rfl ?_
        refine sa_getR (r := 92) kf_P_50 d_P_write_19 sh_0 rfl ?_
        refine ab_iload_n 1 d_P_write_22 rfl rfl ?_
        refine sa_callVi (As := [.int x1]) (rest := []) kc_P_129 d_P_write_23 sh_92 rfl rfl rfl (Nat.le_of_ble_eq_true rfl) enI (Nat.le_of_ble_eq_true rfl) ⟨Nat.zero_le _, Nat.zero_le _⟩ HF (fun r5 S4 HF => ?_)
        refine ab_goto (tgt := 31) d_P_write_26 (by decide) ?_
        exact sa_iretI rfl d_P_write_31 HF
    · replace HF := HF.2 b2
      refine ab_iconst (v := (-1 : Int32)) d_P_write_9 (by decide) ?_
      exact sa_iretI rfl d_P_write_10 HF
set_option maxRecDepth 100000 in
theorem f_P_type {g : lp_G} {d : Nat} {Q : Int32 → SS → Prop} {S : SS} {w1 : Int64} {x3 : Int32}
    (HF : (x3 < (1 : Int32) → Q (-1 : Int32) S) ∧ (¬ x3 < (1 : Int32) → (x3 ≤ nI 8 → ((S.1 90 1) + x3 ≤ nI 900 → AtI g um_P_type (d + 1) Q 36 [(0, .ref (g.2.1 + 0)), (1, .long w1), (4, .int (x3 - (1 : Int32)))] [] S) ∧ (¬ (S.1 90 1) + x3 ≤ nI 900 → Q (-2 : Int32) S)) ∧ (¬ x3 ≤ nI 8 → Q (-1 : Int32) S))) : MtI g um_P_type (d + 1) [.ref (g.2.1 + 0), .long w1, .int x3] S Q := by
  refine sa_entryI (lv' := [(0, .ref (g.2.1 + 0)), (1, .long w1), (3, .int x3)]) (by decide +kernel) (Nat.le_of_ble_eq_true rfl) rfl ?_
  refine ab_iload_n 2 d_P_type_0 rfl rfl ?_
  refine ab_iconst (v := (1 : Int32)) d_P_type_1 (by decide) ?_
  refine ab_icmp_lt (tgt := 11) d_P_type_2 (by decide) (fun b1 => ?_) (fun b1 => ?_)
  · replace HF := HF.1 b1
    refine ab_iconst (v := (-1 : Int32)) d_P_type_11 (by decide) ?_
    exact sa_iretI rfl d_P_type_12 HF
  · replace HF := HF.2 b1
    refine ab_iload_n 2 d_P_type_5 rfl rfl ?_
    refine ab_bipush (v := nI 8) d_P_type_6 (by decide) ?_
    refine ab_icmp_le (tgt := 13) d_P_type_8 (by decide) (fun b2 => ?_) (fun b2 => ?_)
    · replace HF := HF.1 b2
      refine ab_aload_n 0 d_P_type_13 rfl rfl ?_
      refine sa_getR (r := 90) kf_P_41 d_P_type_14 sh_0 rfl ?_
      refine sa_getI kf_P_132 d_P_type_17 sh_90 rfl ?_
      refine ab_iload_n 2 d_P_type_20 rfl rfl ?_
      refine ab_iadd d_P_type_21 ?_
      refine ab_sipush (v := nI 900) d_P_type_22 (by decide) ?_
      refine ab_icmp_le (tgt := 31) d_P_type_25 (by decide) (fun b3 => ?_) (fun b3 => ?_)
      · replace HF := HF.1 b3
        refine ab_iload_n 2 d_P_type_31 rfl rfl ?_
        refine ab_iconst (v := (1 : Int32)) d_P_type_32 (by decide) ?_
        refine ab_isub d_P_type_33 ?_
        refine ab_istore (lv' := [(4, .int (x3 - (1 : Int32))), (0, .ref (g.2.1 + 0)), (1, .long w1), (3, .int x3)]) d_P_type_34 (Nat.le_of_ble_eq_true rfl) rfl ?_
        refine ab_sub (lv' := [(0, .ref (g.2.1 + 0)), (1, .long w1), (4, .int (x3 - (1 : Int32)))]) [1, 2, 0] rfl ?_
        exact HF
      · replace HF := HF.2 b3
        refine ab_bipush (v := (-2 : Int32)) d_P_type_28 (by decide) ?_
        exact sa_iretI rfl d_P_type_30 HF
    · replace HF := HF.2 b2
      refine ab_iconst (v := (-1 : Int32)) d_P_type_11 (by decide) ?_
      exact sa_iretI rfl d_P_type_12 HF
set_option maxRecDepth 100000 in
theorem f_P_type_36 {g : lp_G} {d : Nat} {Q : Int32 → SS → Prop} {S : SS} {w1 : Int64} {x4 : Int32}
    (HF : (x4 < 0 → Q (S.1 90 1) S) ∧ (¬ x4 < 0 → MtI g um_P_byteOf d [.long w1, .int x4] S (fun r6 S5 => MtV g um_A_append d [.ref (g.2.1 + 90), .int r6] S5 (fun S7 => AtI g um_P_type (d + 1) Q 36 [(0, .ref (g.2.1 + 0)), (1, .long w1), (4, .int (x4 + (-1)))] [] S7)))) : AtI g um_P_type (d + 1) Q 36 [(0, .ref (g.2.1 + 0)), (1, .long w1), (4, .int x4)] [] S := by
  refine ab_iload 2 d_P_type_36 rfl ?_
  refine ab_if_lt (tgt := 60) d_P_type_38 (by decide) (fun b4 => ?_) (fun b4 => ?_)
  · replace HF := HF.1 b4
    refine ab_aload_n 0 d_P_type_60 rfl rfl ?_
    refine sa_getR (r := 90) kf_P_41 d_P_type_61 sh_0 rfl ?_
    refine sa_getI kf_P_132 d_P_type_64 sh_90 rfl ?_
    exact sa_iretI rfl d_P_type_67 HF
  · replace HF := HF.2 b4
    refine ab_aload_n 0 d_P_type_41 rfl rfl ?_
    refine sa_getR (r := 90) kf_P_41 d_P_type_42 sh_0 rfl ?_
    refine ab_lload_n 1 d_P_type_45 rfl rfl ?_
    refine ab_iload 2 d_P_type_46 rfl ?_
    refine sa_callSi (As := [.long w1, .int x4]) (rest := [.ref (g.2.1 + 90)]) kc_P_92 d_P_type_48 rfl (Nat.le_of_ble_eq_true rfl) enI (Nat.le_of_ble_eq_true rfl) ⟨Nat.zero_le _, Nat.zero_le _⟩ HF (fun r6 S5 HF => ?_)
    refine sa_callVv (As := [.int r6]) (rest := []) kc_P_135 d_P_type_51 sh_90 rfl rfl rfl (Nat.le_of_ble_eq_true rfl) enI (Nat.le_of_ble_eq_true rfl) ⟨Nat.zero_le _, Nat.zero_le _⟩ HF (fun S7 HF => ?_)
    refine ab_iinc (v := x4 + (-1)) (lv' := [(4, .int (x4 + (-1))), (0, .ref (g.2.1 + 0)), (1, .long w1)]) 2 d_P_type_54 rfl (congrArg (fun z => x4 + z) (show Int32.ofInt (-1) = (-1 : Int32) by decide)) (Nat.le_of_ble_eq_true rfl) rfl ?_
    refine ab_goto (tgt := 36) d_P_type_57 (by decide) ?_
    refine ab_sub (lv' := [(0, .ref (g.2.1 + 0)), (1, .long w1), (4, .int (x4 + (-1)))]) [1, 2, 0] rfl ?_
    exact HF
set_option maxRecDepth 100000 in
theorem f_P_wipe {g : lp_G} {d : Nat} {Q : Int32 → SS → Prop} {S : SS} 
    (HF : ∀ S1 : SS, S1 = setI S 90 1 (0 : Int32) → Q (S.1 90 1) S1) : MtI g um_P_wipe d [.ref (g.2.1 + 0)] S Q := by
  refine sa_entryI (lv' := [(0, .ref (g.2.1 + 0))]) (by decide +kernel) (Nat.le_of_ble_eq_true rfl) rfl ?_
  refine ab_aload_n 0 d_P_wipe_0 rfl rfl ?_
  refine sa_getR (r := 90) kf_P_41 d_P_wipe_1 sh_0 rfl ?_
  refine sa_getI kf_P_132 d_P_wipe_4 sh_90 rfl ?_
  refine ab_istore_n (lv' := [(1, .int (S.1 90 1)), (0, .ref (g.2.1 + 0))]) d_P_wipe_7 rfl (Nat.le_of_ble_eq_true rfl) rfl ?_
  refine ab_aload_n 1 d_P_wipe_8 rfl rfl ?_
  refine sa_getR (r := 90) kf_P_41 d_P_wipe_9 sh_0 rfl ?_
  refine ab_iconst (v := (0 : Int32)) d_P_wipe_12 (by decide) ?_
  refine sa_putIn kp_P_132 d_P_wipe_13 sh_90 rfl (fun S1 hS1 => ?_)
  replace HF := HF S1 hS1
  refine ab_iload_n 0 d_P_wipe_16 rfl rfl ?_
  exact sa_iretI rfl d_P_wipe_17 HF
set_option maxRecDepth 100000 in
theorem f_P_character {g : lp_G} {d : Nat} {Q : Int32 → SS → Prop} {S : SS} {x1 : Int32}
    (HF : (x1 < 0 → Q (-3 : Int32) S) ∧ (¬ x1 < 0 → (S.1 90 1 ≤ x1 → Q (-3 : Int32) S) ∧ (¬ S.1 90 1 ≤ x1 → (vp_in x1 900) ∧ (Q (S.2 91 x1.toNatClampNeg) S)))) : MtI g um_P_character d [.ref (g.2.1 + 0), .int x1] S Q := by
  refine sa_entryI (lv' := [(0, .ref (g.2.1 + 0)), (1, .int x1)]) (by decide +kernel) (Nat.le_of_ble_eq_true rfl) rfl ?_
  refine ab_iload_n 1 d_P_character_0 rfl rfl ?_
  refine ab_if_lt (tgt := 27) d_P_character_1 (by decide) (fun b1 => ?_) (fun b1 => ?_)
  · replace HF := HF.1 b1
    refine ab_bipush (v := (-3 : Int32)) d_P_character_27 (by decide) ?_
    exact sa_iretI rfl d_P_character_29 HF
  · replace HF := HF.2 b1
    refine ab_iload_n 1 d_P_character_4 rfl rfl ?_
    refine ab_aload_n 0 d_P_character_5 rfl rfl ?_
    refine sa_getR (r := 90) kf_P_41 d_P_character_6 sh_0 rfl ?_
    refine sa_getI kf_P_132 d_P_character_9 sh_90 rfl ?_
    refine ab_icmp_ge (tgt := 27) d_P_character_12 (by decide) (fun b2 => ?_) (fun b2 => ?_)
    · replace HF := HF.1 b2
      refine ab_bipush (v := (-3 : Int32)) d_P_character_27 (by decide) ?_
      exact sa_iretI rfl d_P_character_29 HF
    · replace HF := HF.2 b2
      refine ab_aload_n 0 d_P_character_15 rfl rfl ?_
      refine sa_getR (r := 90) kf_P_41 d_P_character_16 sh_0 rfl ?_
      refine sa_getR (r := 91) kf_P_136 d_P_character_19 sh_90 rfl ?_
      refine ab_iload_n 1 d_P_character_22 rfl rfl ?_
      obtain ⟨c3, HF⟩ := HF
      refine sa_iald d_P_character_23 sh_91 c3 ?_
      refine ab_goto (tgt := 29) d_P_character_24 (by decide) ?_
      exact sa_iretI rfl d_P_character_29 HF
set_option maxRecDepth 100000 in
theorem f_P_read {g : lp_G} {d : Nat} {Q : Int32 → SS → Prop} {S : SS} 
    (HF : MtI g um_D_placeOfFailure d [.ref (g.2.1 + 119)] S (fun r2 S1 => Q r2 S1)) : MtI g um_P_read (d + 1) [.ref (g.2.1 + 0)] S Q := by
  refine sa_entryI (lv' := [(0, .ref (g.2.1 + 0))]) (by decide +kernel) (Nat.le_of_ble_eq_true rfl) rfl ?_
  refine ab_aload_n 0 d_P_read_0 rfl rfl ?_
  refine sa_getR (r := 119) kf_P_59 d_P_read_1 sh_0 rfl ?_
  refine sa_callVi (As := []) (rest := []) kc_P_139 d_P_read_4 sh_119 rfl rfl rfl (Nat.le_of_ble_eq_true rfl) enI (Nat.le_of_ble_eq_true rfl) ⟨Nat.zero_le _, Nat.zero_le _⟩ HF (fun r2 S1 HF => ?_)
  exact sa_iretI rfl d_P_read_7 HF
set_option maxRecDepth 100000 in
theorem f_P_apply {g : lp_G} {d : Nat} {Q : Int32 → SS → Prop} {S : SS} {x1 : Int32}
    (HF : MtI g um_P_isText d [.int x1] S (fun r2 S1 => (r2 = 0 → Q (-1 : Int32) S1) ∧ (¬ r2 = 0 → MtI g um_D_placeOfFailure d [.ref (g.2.1 + 119)] S1 (fun r5 S4 => (r5 = (-1 : Int32) → (vp_in x1 4) ∧ (MtI g um_F_patch d [.ref (g.2.1 + 122), .ref (g.2.1 + (143 + 2 * x1.toNatClampNeg))] S4 (fun r9 S8 => Q r9 S8))) ∧ (¬ r5 = (-1 : Int32) → Q (-1 : Int32) S4))))) : MtI g um_P_apply (d + 1) [.ref (g.2.1 + 0), .int x1] S Q := by
  refine sa_entryI (lv' := [(0, .ref (g.2.1 + 0)), (1, .int x1)]) (by decide +kernel) (Nat.le_of_ble_eq_true rfl) rfl ?_
  refine ab_iload_n 1 d_P_apply_0 rfl rfl ?_
  refine sa_callSi (As := [.int x1]) (rest := []) kc_P_80 d_P_apply_1 rfl (Nat.le_of_ble_eq_true rfl) enI (Nat.le_of_ble_eq_true rfl) ⟨Nat.zero_le _, Nat.zero_le _⟩ HF (fun r2 S1 HF => ?_)
  refine ab_if_eq (tgt := 18) d_P_apply_4 (by decide) (fun b3 => ?_) (fun b3 => ?_)
  · replace HF := HF.1 b3
    refine ab_iconst (v := (-1 : Int32)) d_P_apply_18 (by decide) ?_
    exact sa_iretI rfl d_P_apply_19 HF
  · replace HF := HF.2 b3
    refine ab_aload_n 0 d_P_apply_7 rfl rfl ?_
    refine sa_getR (r := 119) kf_P_59 d_P_apply_8 sh_0 rfl ?_
    refine sa_callVi (As := []) (rest := []) kc_P_139 d_P_apply_11 sh_119 rfl rfl rfl (Nat.le_of_ble_eq_true rfl) enI (Nat.le_of_ble_eq_true rfl) ⟨Nat.zero_le _, Nat.zero_le _⟩ HF (fun r5 S4 HF => ?_)
    refine ab_iconst (v := (-1 : Int32)) d_P_apply_14 (by decide) ?_
    refine ab_icmp_eq (tgt := 20) d_P_apply_15 (by decide) (fun b6 => ?_) (fun b6 => ?_)
    · replace HF := HF.1 b6
      refine ab_aload_n 0 d_P_apply_20 rfl rfl ?_
      refine sa_getR (r := 122) kf_P_68 d_P_apply_21 sh_0 rfl ?_
      refine ab_aload_n 0 d_P_apply_24 rfl rfl ?_
      refine sa_getR (r := 1) kf_P_11 d_P_apply_25 sh_0 rfl ?_
      refine ab_iload_n 1 d_P_apply_28 rfl rfl ?_
      obtain ⟨c7, HF⟩ := HF
      refine sa_aald (ty := .object "LinePatcher$Text") d_P_apply_29 sh_1 rfl rfl c7 ?_
      refine sa_callVi (As := [.ref (g.2.1 + (143 + 2 * x1.toNatClampNeg))]) (rest := []) kc_P_142 d_P_apply_30 sh_122 rfl rfl rfl (Nat.le_of_ble_eq_true rfl) enI (Nat.le_of_ble_eq_true rfl) ⟨Nat.zero_le _, Nat.zero_le _⟩ HF (fun r9 S8 HF => ?_)
      exact sa_iretI rfl d_P_apply_33 HF
    · replace HF := HF.2 b6
      refine ab_iconst (v := (-1 : Int32)) d_P_apply_18 (by decide) ?_
      exact sa_iretI rfl d_P_apply_19 HF
set_option maxRecDepth 100000 in
theorem f_P_merge {g : lp_G} {d : Nat} {Q : Int32 → SS → Prop} {S : SS} 
    (HF : AtI g um_P_merge (d + 1) Q 2 [(0, .ref (g.2.1 + 0)), (1, .int (0 : Int32))] [] S) : MtI g um_P_merge (d + 1) [.ref (g.2.1 + 0)] S Q := by
  refine sa_entryI (lv' := [(0, .ref (g.2.1 + 0))]) (by decide +kernel) (Nat.le_of_ble_eq_true rfl) rfl ?_
  refine ab_iconst (v := (0 : Int32)) d_P_merge_0 (by decide) ?_
  refine ab_istore_n (lv' := [(1, .int (0 : Int32)), (0, .ref (g.2.1 + 0))]) d_P_merge_1 rfl (Nat.le_of_ble_eq_true rfl) rfl ?_
  refine ab_sub (lv' := [(0, .ref (g.2.1 + 0)), (1, .int (0 : Int32))]) [1, 0] rfl ?_
  exact HF
set_option maxRecDepth 100000 in
theorem f_P_merge_2 {g : lp_G} {d : Nat} {Q : Int32 → SS → Prop} {S : SS} {x1 : Int32}
    (HF : (nI 3 ≤ x1 → MtI g um_G_bringTogether d [.ref (g.2.1 + 125), .ref (g.2.1 + (143 + 2 * (0 : Int32).toNatClampNeg)), .ref (g.2.1 + (143 + 2 * (1 : Int32).toNatClampNeg)), .ref (g.2.1 + (143 + 2 * (nI 2).toNatClampNeg))] S (fun r3 S2 => MtI g um_G_handOver d [.ref (g.2.1 + 125), .ref (g.2.1 + (143 + 2 * (nI 3).toNatClampNeg))] S2 (fun r5 S4 => (r5 = 0 → Q (-2 : Int32) S4) ∧ (¬ r5 = 0 → Q r3 S4)))) ∧ (¬ nI 3 ≤ x1 → (vp_in x1 4) ∧ (MtI g um_T_hasOnlyLetters d [.ref (g.2.1 + (143 + 2 * x1.toNatClampNeg))] S (fun r9 S8 => (¬ r9 = 0 → AtI g um_P_merge (d + 1) Q 2 [(0, .ref (g.2.1 + 0)), (1, .int (x1 + 1))] [] S8) ∧ (r9 = 0 → Q (-3 : Int32) S8))))) : AtI g um_P_merge (d + 1) Q 2 [(0, .ref (g.2.1 + 0)), (1, .int x1)] [] S := by
  refine ab_iload_n 1 d_P_merge_2 rfl rfl ?_
  refine ab_iconst (v := nI 3) d_P_merge_3 (by decide) ?_
  refine ab_icmp_ge (tgt := 28) d_P_merge_4 (by decide) (fun b1 => ?_) (fun b1 => ?_)
  · replace HF := HF.1 b1
    refine ab_aload_n 0 d_P_merge_28 rfl rfl ?_
    refine sa_getR (r := 125) kf_P_75 d_P_merge_29 sh_0 rfl ?_
    refine ab_aload_n 0 d_P_merge_32 rfl rfl ?_
    refine sa_getR (r := 1) kf_P_11 d_P_merge_33 sh_0 rfl ?_
    refine ab_iconst (v := (0 : Int32)) d_P_merge_36 (by decide) ?_
    refine sa_aald (ty := .object "LinePatcher$Text") d_P_merge_37 sh_1 rfl rfl (show vp_in 0 4 by unfold vp_in; decide) ?_
    refine ab_aload_n 0 d_P_merge_38 rfl rfl ?_
    refine sa_getR (r := 1) kf_P_11 d_P_merge_39 sh_0 rfl ?_
    refine ab_iconst (v := (1 : Int32)) d_P_merge_42 (by decide) ?_
    refine sa_aald (ty := .object "LinePatcher$Text") d_P_merge_43 sh_1 rfl rfl (show vp_in 1 4 by unfold vp_in; decide) ?_
    refine ab_aload_n 0 d_P_merge_44 rfl rfl ?_
    refine sa_getR (r := 1) kf_P_11 d_P_merge_45 sh_0 rfl ?_
    refine ab_iconst (v := nI 2) d_P_merge_48 (by decide) ?_
    refine sa_aald (ty := .object "LinePatcher$Text") d_P_merge_49 sh_1 rfl rfl (show vp_in 2 4 by unfold vp_in; decide) ?_
    refine sa_callVi (As := [.ref (g.2.1 + (143 + 2 * (0 : Int32).toNatClampNeg)), .ref (g.2.1 + (143 + 2 * (1 : Int32).toNatClampNeg)), .ref (g.2.1 + (143 + 2 * (nI 2).toNatClampNeg))]) (rest := []) kc_P_146 d_P_merge_50 sh_125 rfl rfl rfl (Nat.le_of_ble_eq_true rfl) enI (Nat.le_of_ble_eq_true rfl) ⟨Nat.zero_le _, Nat.zero_le _⟩ HF (fun r3 S2 HF => ?_)
    refine ab_istore_n (lv' := [(1, .int r3), (0, .ref (g.2.1 + 0))]) d_P_merge_53 rfl (Nat.le_of_ble_eq_true rfl) rfl ?_
    refine ab_aload_n 1 d_P_merge_54 rfl rfl ?_
    refine sa_getR (r := 125) kf_P_75 d_P_merge_55 sh_0 rfl ?_
    refine ab_aload_n 1 d_P_merge_58 rfl rfl ?_
    refine sa_getR (r := 1) kf_P_11 d_P_merge_59 sh_0 rfl ?_
    refine ab_iconst (v := nI 3) d_P_merge_62 (by decide) ?_
    refine sa_aald (ty := .object "LinePatcher$Text") d_P_merge_63 sh_1 rfl rfl (show vp_in 3 4 by unfold vp_in; decide) ?_
    refine sa_callVi (As := [.ref (g.2.1 + (143 + 2 * (nI 3).toNatClampNeg))]) (rest := []) kc_P_150 d_P_merge_64 sh_125 rfl rfl rfl (Nat.le_of_ble_eq_true rfl) enI (Nat.le_of_ble_eq_true rfl) ⟨Nat.zero_le _, Nat.zero_le _⟩ HF (fun r5 S4 HF => ?_)
    refine ab_if_eq (tgt := 74) d_P_merge_67 (by decide) (fun b6 => ?_) (fun b6 => ?_)
    · replace HF := HF.1 b6
      refine ab_bipush (v := (-2 : Int32)) d_P_merge_74 (by decide) ?_
      exact sa_iretI rfl d_P_merge_76 HF
    · replace HF := HF.2 b6
      refine ab_iload_n 0 d_P_merge_70 rfl rfl ?_
      refine ab_goto (tgt := 76) d_P_merge_71 (by decide) ?_
      exact sa_iretI rfl d_P_merge_76 HF
  · replace HF := HF.2 b1
    refine ab_aload_n 0 d_P_merge_7 rfl rfl ?_
    refine sa_getR (r := 1) kf_P_11 d_P_merge_8 sh_0 rfl ?_
    refine ab_iload_n 1 d_P_merge_11 rfl rfl ?_
    obtain ⟨c7, HF⟩ := HF
    refine sa_aald (ty := .object "LinePatcher$Text") d_P_merge_12 sh_1 rfl rfl c7 ?_
    refine sa_callVi (As := []) (rest := []) kc_P_104 d_P_merge_13 (sr_1 _ (vp_lt c7)) rfl rfl rfl (Nat.le_of_ble_eq_true rfl) enI (Nat.le_of_ble_eq_true rfl) ⟨Nat.zero_le _, Nat.zero_le _⟩ HF (fun r9 S8 HF => ?_)
    refine ab_if_ne (tgt := 22) d_P_merge_16 (by decide) (fun b10 => ?_) (fun b10 => ?_)
    · replace HF := HF.1 b10
      refine ab_iinc (v := x1 + 1) (lv' := [(1, .int (x1 + 1)), (0, .ref (g.2.1 + 0))]) 1 d_P_merge_22 rfl (congrArg (fun z => x1 + z) (show Int32.ofInt 1 = (1 : Int32) by decide)) (Nat.le_of_ble_eq_true rfl) rfl ?_
      refine ab_goto (tgt := 2) d_P_merge_25 (by decide) ?_
      refine ab_sub (lv' := [(0, .ref (g.2.1 + 0)), (1, .int (x1 + 1))]) [1, 0] rfl ?_
      exact HF
    · replace HF := HF.2 b10
      refine ab_bipush (v := (-3 : Int32)) d_P_merge_19 (by decide) ?_
      exact sa_iretI rfl d_P_merge_21 HF
set_option maxRecDepth 100000 in
theorem f_P_isText {g : lp_G} {d : Nat} {Q : Int32 → SS → Prop} {S : SS} {x0 : Int32}
    (HF : (x0 < 0 → Q (0 : Int32) S) ∧ (¬ x0 < 0 → (nI 4 ≤ x0 → Q (0 : Int32) S) ∧ (¬ nI 4 ≤ x0 → Q (1 : Int32) S))) : MtI g um_P_isText d [.int x0] S Q := by
  refine sa_entryI (lv' := [(0, .int x0)]) (by decide +kernel) (Nat.le_of_ble_eq_true rfl) rfl ?_
  refine ab_iload_n 0 d_P_isText_0 rfl rfl ?_
  refine ab_if_lt (tgt := 13) d_P_isText_1 (by decide) (fun b1 => ?_) (fun b1 => ?_)
  · replace HF := HF.1 b1
    refine ab_iconst (v := (0 : Int32)) d_P_isText_13 (by decide) ?_
    exact sa_iretZ rfl isB_0.1 d_P_isText_14 HF
  · replace HF := HF.2 b1
    refine ab_iload_n 0 d_P_isText_4 rfl rfl ?_
    refine ab_iconst (v := nI 4) d_P_isText_5 (by decide) ?_
    refine ab_icmp_ge (tgt := 13) d_P_isText_6 (by decide) (fun b2 => ?_) (fun b2 => ?_)
    · replace HF := HF.1 b2
      refine ab_iconst (v := (0 : Int32)) d_P_isText_13 (by decide) ?_
      exact sa_iretZ rfl isB_0.1 d_P_isText_14 HF
    · replace HF := HF.2 b2
      refine ab_iconst (v := (1 : Int32)) d_P_isText_9 (by decide) ?_
      refine ab_goto (tgt := 14) d_P_isText_10 (by decide) ?_
      exact sa_iretZ rfl isB_1.1 d_P_isText_14 HF
set_option maxRecDepth 100000 in
theorem f_P_areLetters {g : lp_G} {d : Nat} {Q : Int32 → SS → Prop} {S : SS} {w0 : Int64} {x2 : Int32}
    (HF : AtI g um_P_areLetters (d + 1) Q 2 [(0, .long w0), (2, .int x2), (3, .int (0 : Int32))] [] S) : MtI g um_P_areLetters (d + 1) [.long w0, .int x2] S Q := by
  refine sa_entryI (lv' := [(0, .long w0), (2, .int x2)]) (by decide +kernel) (Nat.le_of_ble_eq_true rfl) rfl ?_
  refine ab_iconst (v := (0 : Int32)) d_P_areLetters_0 (by decide) ?_
  refine ab_istore_n (lv' := [(3, .int (0 : Int32)), (0, .long w0), (2, .int x2)]) d_P_areLetters_1 rfl (Nat.le_of_ble_eq_true rfl) rfl ?_
  refine ab_sub (lv' := [(0, .long w0), (2, .int x2), (3, .int (0 : Int32))]) [1, 2, 0] rfl ?_
  exact HF
set_option maxRecDepth 100000 in
theorem f_P_areLetters_2 {g : lp_G} {d : Nat} {Q : Int32 → SS → Prop} {S : SS} {w0 : Int64} {x2 : Int32} {x3 : Int32}
    (HF : (x2 ≤ x3 → Q (1 : Int32) S) ∧ (¬ x2 ≤ x3 → MtI g um_P_byteOf d [.long w0, .int x3] S (fun r3 S2 => MtI g um_P_isLetter d [.int r3] S2 (fun r5 S4 => (¬ r5 = 0 → AtI g um_P_areLetters (d + 1) Q 2 [(0, .long w0), (2, .int x2), (3, .int (x3 + 1))] [] S4) ∧ (r5 = 0 → Q (0 : Int32) S4))))) : AtI g um_P_areLetters (d + 1) Q 2 [(0, .long w0), (2, .int x2), (3, .int x3)] [] S := by
  refine ab_iload_n 2 d_P_areLetters_2 rfl rfl ?_
  refine ab_iload_n 1 d_P_areLetters_3 rfl rfl ?_
  refine ab_icmp_ge (tgt := 26) d_P_areLetters_4 (by decide) (fun b1 => ?_) (fun b1 => ?_)
  · replace HF := HF.1 b1
    refine ab_iconst (v := (1 : Int32)) d_P_areLetters_26 (by decide) ?_
    exact sa_iretZ rfl isB_1.1 d_P_areLetters_27 HF
  · replace HF := HF.2 b1
    refine ab_lload_n 0 d_P_areLetters_7 rfl rfl ?_
    refine ab_iload_n 2 d_P_areLetters_8 rfl rfl ?_
    refine sa_callSi (As := [.long w0, .int x3]) (rest := []) kc_P_92 d_P_areLetters_9 rfl (Nat.le_of_ble_eq_true rfl) enI (Nat.le_of_ble_eq_true rfl) ⟨Nat.zero_le _, Nat.zero_le _⟩ HF (fun r3 S2 HF => ?_)
    refine sa_callSi (As := [.int r3]) (rest := []) kc_P_154 d_P_areLetters_12 rfl (Nat.le_of_ble_eq_true rfl) enI (Nat.le_of_ble_eq_true rfl) ⟨Nat.zero_le _, Nat.zero_le _⟩ HF (fun r5 S4 HF => ?_)
    refine ab_if_ne (tgt := 20) d_P_areLetters_15 (by decide) (fun b6 => ?_) (fun b6 => ?_)
    · replace HF := HF.1 b6
      refine ab_iinc (v := x3 + 1) (lv' := [(3, .int (x3 + 1)), (0, .long w0), (2, .int x2)]) 2 d_P_areLetters_20 rfl (congrArg (fun z => x3 + z) (show Int32.ofInt 1 = (1 : Int32) by decide)) (Nat.le_of_ble_eq_true rfl) rfl ?_
      refine ab_goto (tgt := 2) d_P_areLetters_23 (by decide) ?_
      refine ab_sub (lv' := [(0, .long w0), (2, .int x2), (3, .int (x3 + 1))]) [1, 2, 0] rfl ?_
      exact HF
    · replace HF := HF.2 b6
      refine ab_iconst (v := (0 : Int32)) d_P_areLetters_18 (by decide) ?_
      exact sa_iretZ rfl isB_0.1 d_P_areLetters_19 HF
set_option maxRecDepth 100000 in
theorem f_P_isLetter {g : lp_G} {d : Nat} {Q : Int32 → SS → Prop} {S : SS} {x0 : Int32}
    (HF : (x0 < nI 97 → Q (0 : Int32) S) ∧ (¬ x0 < nI 97 → (nI 122 < x0 → Q (0 : Int32) S) ∧ (¬ nI 122 < x0 → Q (1 : Int32) S))) : MtI g um_P_isLetter d [.int x0] S Q := by
  refine sa_entryI (lv' := [(0, .int x0)]) (by decide +kernel) (Nat.le_of_ble_eq_true rfl) rfl ?_
  refine ab_iload_n 0 d_P_isLetter_0 rfl rfl ?_
  refine ab_bipush (v := nI 97) d_P_isLetter_1 (by decide) ?_
  refine ab_icmp_lt (tgt := 16) d_P_isLetter_3 (by decide) (fun b1 => ?_) (fun b1 => ?_)
  · replace HF := HF.1 b1
    refine ab_iconst (v := (0 : Int32)) d_P_isLetter_16 (by decide) ?_
    exact sa_iretZ rfl isB_0.1 d_P_isLetter_17 HF
  · replace HF := HF.2 b1
    refine ab_iload_n 0 d_P_isLetter_6 rfl rfl ?_
    refine ab_bipush (v := nI 122) d_P_isLetter_7 (by decide) ?_
    refine ab_icmp_gt (tgt := 16) d_P_isLetter_9 (by decide) (fun b2 => ?_) (fun b2 => ?_)
    · replace HF := HF.1 b2
      refine ab_iconst (v := (0 : Int32)) d_P_isLetter_16 (by decide) ?_
      exact sa_iretZ rfl isB_0.1 d_P_isLetter_17 HF
    · replace HF := HF.2 b2
      refine ab_iconst (v := (1 : Int32)) d_P_isLetter_12 (by decide) ?_
      refine ab_goto (tgt := 17) d_P_isLetter_13 (by decide) ?_
      exact sa_iretZ rfl isB_1.1 d_P_isLetter_17 HF
set_option maxRecDepth 100000 in
theorem f_P_byteOf {g : lp_G} {d : Nat} {Q : Int32 → SS → Prop} {S : SS} {w0 : Int64} {x2 : Int32}
    (HF : Q ((((w0.toUInt64 >>> (((nI 8) * x2).toInt64.toUInt64 &&& Int64.toUInt64 63)).toInt64) &&& (255 : Int64)).toInt32) S) : MtI g um_P_byteOf d [.long w0, .int x2] S Q := by
  refine sa_entryI (lv' := [(0, .long w0), (2, .int x2)]) (by decide +kernel) (Nat.le_of_ble_eq_true rfl) rfl ?_
  refine ab_lload_n 0 d_P_byteOf_0 rfl rfl ?_
  refine ab_bipush (v := nI 8) d_P_byteOf_1 (by decide) ?_
  refine ab_iload_n 1 d_P_byteOf_3 rfl rfl ?_
  refine ab_imul d_P_byteOf_4 ?_
  refine ab_lushr d_P_byteOf_5 rfl ?_
  refine ab_ldc2 d_P_byteOf_6 kl_P_157 ?_
  refine ab_land d_P_byteOf_9 ?_
  refine ab_l2i d_P_byteOf_10 rfl ?_
  exact sa_iretI rfl d_P_byteOf_11 HF

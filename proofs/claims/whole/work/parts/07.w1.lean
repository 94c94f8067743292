set_option maxRecDepth 100000 in
theorem f_T_append {g : lp_G} {d : Nat} {Q : SS → Prop} {S : SS} {k0 : Nat} (hk0 : isT k0) {x1 : Int32}
    (HF : (nI 24 ≤ S.1 k0 1 → Q S) ∧ (¬ nI 24 ≤ S.1 k0 1 → (vp_in (S.1 k0 1) 24) ∧ (∀ S3 : SS, S3 = setA S (k0 + 1) (S.1 k0 1).toNatClampNeg x1 → ∀ S4 : SS, S4 = setI S3 k0 1 ((S3.1 k0 1) + (1 : Int32)) → Q S4))) : MtV g um_T_append d [.ref (g.2.1 + k0), .int x1] S Q := by
  refine sa_entryV (lv' := [(0, .ref (g.2.1 + k0)), (1, .int x1)]) (by decide +kernel) (Nat.le_of_ble_eq_true rfl) rfl ?_
  refine ab_aload_n 0 d_T_append_0 rfl rfl ?_
  refine sa_getI kf_T_15 d_T_append_1 hk0.1 rfl ?_
  refine ab_bipush (v := nI 24) d_T_append_4 (by decide) ?_
  refine ab_icmp_ge (tgt := 29) d_T_append_6 (by decide) (fun b1 => ?_) (fun b1 => ?_)
  · replace HF := HF.1 b1
    exact sa_ret rfl d_T_append_29 HF
  · replace HF := HF.2 b1
    refine ab_aload_n 0 d_T_append_9 rfl rfl ?_
    refine sa_getR (r := k0 + 1) kf_T_9 d_T_append_10 hk0.1 rfl ?_
    refine ab_aload_n 0 d_T_append_13 rfl rfl ?_
    refine sa_getI kf_T_15 d_T_append_14 hk0.1 rfl ?_
    refine ab_iload_n 1 d_T_append_17 rfl rfl ?_
    obtain ⟨c2, HF⟩ := HF
    refine sa_iastn d_T_append_18 hk0.2 c2 (fun S3 hS3 => ?_)
    replace HF := HF S3 hS3
    refine ab_aload_n 0 d_T_append_19 rfl rfl ?_
    refine ab_dup d_T_append_20 rfl ?_
    refine sa_getI kf_T_15 d_T_append_21 hk0.1 rfl ?_
    refine ab_iconst (v := (1 : Int32)) d_T_append_24 (by decide) ?_
    refine ab_iadd d_T_append_25 ?_
    refine sa_putIn kp_T_15 d_T_append_26 hk0.1 rfl (fun S4 hS4 => ?_)
    replace HF := HF S4 hS4
    exact sa_ret rfl d_T_append_29 HF
set_option maxRecDepth 100000 in
theorem f_T_appendPart {g : lp_G} {d : Nat} {Q : SS → Prop} {S : SS} {k0 : Nat} (hk0 : isT k0) {k1 : Nat} (hk1 : isT k1) {x2 : Int32} {x3 : Int32}
    (HF : AtV g um_T_appendPart (d + 1) Q 3 [(0, .ref (g.2.1 + k0)), (1, .ref (g.2.1 + k1)), (3, .int x3), (4, .int x2)] [] S) : MtV g um_T_appendPart (d + 1) [.ref (g.2.1 + k0), .ref (g.2.1 + k1), .int x2, .int x3] S Q := by
  refine sa_entryV (lv' := [(0, .ref (g.2.1 + k0)), (1, .ref (g.2.1 + k1)), (2, .int x2), (3, .int x3)]) (by decide +kernel) (Nat.le_of_ble_eq_true rfl) rfl ?_
  refine ab_iload_n 2 d_T_appendPart_0 rfl rfl ?_
  refine ab_istore (lv' := [(4, .int x2), (0, .ref (g.2.1 + k0)), (1, .ref (g.2.1 + k1)), (2, .int x2), (3, .int x3)]) d_T_appendPart_1 (Nat.le_of_ble_eq_true rfl) rfl ?_
  refine ab_sub (lv' := [(0, .ref (g.2.1 + k0)), (1, .ref (g.2.1 + k1)), (3, .int x3), (4, .int x2)]) [1, 2, 4, 0] rfl ?_
  exact HF
set_option maxRecDepth 100000 in
theorem f_T_appendPart_3 {g : lp_G} {d : Nat} {Q : SS → Prop} {S : SS} {x3 : Int32} {x4 : Int32} {k0 : Nat} (hk0 : isT k0) {k1 : Nat} (hk1 : isT k1)
    (HF : (x3 ≤ x4 → Q S) ∧ (¬ x3 ≤ x4 → (vp_in x4 24) ∧ (MtV g um_T_append d [.ref (g.2.1 + k0), .int (S.2 (k1 + 1) x4.toNatClampNeg)] S (fun S3 => AtV g um_T_appendPart (d + 1) Q 3 [(0, .ref (g.2.1 + k0)), (1, .ref (g.2.1 + k1)), (3, .int x3), (4, .int (x4 + 1))] [] S3)))) : AtV g um_T_appendPart (d + 1) Q 3 [(0, .ref (g.2.1 + k0)), (1, .ref (g.2.1 + k1)), (3, .int x3), (4, .int x4)] [] S := by
  refine ab_iload 3 d_T_appendPart_3 rfl ?_
  refine ab_iload_n 2 d_T_appendPart_5 rfl rfl ?_
  refine ab_icmp_ge (tgt := 26) d_T_appendPart_6 (by decide) (fun b1 => ?_) (fun b1 => ?_)
  · replace HF := HF.1 b1
    exact sa_ret rfl d_T_appendPart_26 HF
  · replace HF := HF.2 b1
    refine ab_aload_n 0 d_T_appendPart_9 rfl rfl ?_
    refine ab_aload_n 1 d_T_appendPart_10 rfl rfl ?_
    refine sa_getR (r := k1 + 1) kf_T_9 d_T_appendPart_11 hk1.1 rfl ?_
    refine ab_iload 3 d_T_appendPart_14 rfl ?_
    obtain ⟨c2, HF⟩ := HF
    refine sa_iald d_T_appendPart_16 hk1.2 c2 ?_
    refine sa_callVv (As := [.int (S.2 (k1 + 1) x4.toNatClampNeg)]) (rest := []) kc_T_19 d_T_appendPart_17 hk0.1 rfl rfl rfl (Nat.le_of_ble_eq_true rfl) enV (Nat.le_of_ble_eq_true rfl) ⟨Nat.zero_le _, Nat.zero_le _⟩ HF (fun S3 HF => ?_)
    refine ab_iinc (v := x4 + 1) (lv' := [(4, .int (x4 + 1)), (0, .ref (g.2.1 + k0)), (1, .ref (g.2.1 + k1)), (3, .int x3)]) 3 d_T_appendPart_20 rfl (congrArg (fun z => x4 + z) (show Int32.ofInt 1 = (1 : Int32) by decide)) (Nat.le_of_ble_eq_true rfl) rfl ?_
    refine ab_goto (tgt := 3) d_T_appendPart_23 (by decide) ?_
    refine ab_sub (lv' := [(0, .ref (g.2.1 + k0)), (1, .ref (g.2.1 + k1)), (3, .int x3), (4, .int (x4 + 1))]) [1, 2, 3, 0] rfl ?_
    exact HF
set_option maxRecDepth 100000 in
theorem f_T_become {g : lp_G} {d : Nat} {Q : SS → Prop} {S : SS} {k0 : Nat} (hk0 : isT k0) {k1 : Nat} (hk1 : isT k1)
    (HF : ∀ S1 : SS, S1 = setI S k0 1 (0 : Int32) → MtV g um_T_appendPart d [.ref (g.2.1 + k0), .ref (g.2.1 + k1), .int (0 : Int32), .int (S1.1 k1 1)] S1 (fun S2 => Q S2)) : MtV g um_T_become (d + 1) [.ref (g.2.1 + k0), .ref (g.2.1 + k1)] S Q := by
  refine sa_entryV (lv' := [(0, .ref (g.2.1 + k0)), (1, .ref (g.2.1 + k1))]) (by decide +kernel) (Nat.le_of_ble_eq_true rfl) rfl ?_
  refine ab_aload_n 0 d_T_become_0 rfl rfl ?_
  refine ab_iconst (v := (0 : Int32)) d_T_become_1 (by decide) ?_
  refine sa_putIn kp_T_15 d_T_become_2 hk0.1 rfl (fun S1 hS1 => ?_)
  replace HF := HF S1 hS1
  refine ab_aload_n 0 d_T_become_5 rfl rfl ?_
  refine ab_aload_n 1 d_T_become_6 rfl rfl ?_
  refine ab_iconst (v := (0 : Int32)) d_T_become_7 (by decide) ?_
  refine ab_aload_n 1 d_T_become_8 rfl rfl ?_
  refine sa_getI kf_T_15 d_T_become_9 hk1.1 rfl ?_
  refine sa_callVv (As := [.ref (g.2.1 + k1), .int (0 : Int32), .int (S1.1 k1 1)]) (rest := []) kc_T_23 d_T_become_12 hk0.1 rfl rfl rfl (Nat.le_of_ble_eq_true rfl) enV (Nat.le_of_ble_eq_true rfl) ⟨Nat.zero_le _, Nat.zero_le _⟩ HF (fun S2 HF => ?_)
  exact sa_ret rfl d_T_become_15 HF
set_option maxRecDepth 100000 in
theorem f_T_hasOnlyLetters {g : lp_G} {d : Nat} {Q : Int32 → SS → Prop} {S : SS} {k0 : Nat} (hk0 : isT k0)
    (HF : AtI g um_T_hasOnlyLetters (d + 1) Q 2 [(0, .ref (g.2.1 + k0)), (1, .int (0 : Int32))] [] S) : MtI g um_T_hasOnlyLetters (d + 1) [.ref (g.2.1 + k0)] S Q := by
  refine sa_entryI (lv' := [(0, .ref (g.2.1 + k0))]) (by decide +kernel) (Nat.le_of_ble_eq_true rfl) rfl ?_
  refine ab_iconst (v := (0 : Int32)) d_T_hasOnlyLetters_0 (by decide) ?_
  refine ab_istore_n (lv' := [(1, .int (0 : Int32)), (0, .ref (g.2.1 + k0))]) d_T_hasOnlyLetters_1 rfl (Nat.le_of_ble_eq_true rfl) rfl ?_
  refine ab_sub (lv' := [(0, .ref (g.2.1 + k0)), (1, .int (0 : Int32))]) [1, 0] rfl ?_
  exact HF
set_option maxRecDepth 100000 in
theorem f_T_hasOnlyLetters_2 {g : lp_G} {d : Nat} {Q : Int32 → SS → Prop} {S : SS} {x1 : Int32} {k0 : Nat} (hk0 : isT k0)
    (HF : (S.1 k0 1 ≤ x1 → Q (1 : Int32) S) ∧ (¬ S.1 k0 1 ≤ x1 → (vp_in x1 24) ∧ (MtI g um_P_isLetter d [.int (S.2 (k0 + 1) x1.toNatClampNeg)] S (fun r4 S3 => (¬ r4 = 0 → AtI g um_T_hasOnlyLetters (d + 1) Q 2 [(0, .ref (g.2.1 + k0)), (1, .int (x1 + 1))] [] S3) ∧ (r4 = 0 → Q (0 : Int32) S3))))) : AtI g um_T_hasOnlyLetters (d + 1) Q 2 [(0, .ref (g.2.1 + k0)), (1, .int x1)] [] S := by
  refine ab_iload_n 1 d_T_hasOnlyLetters_2 rfl rfl ?_
  refine ab_aload_n 0 d_T_hasOnlyLetters_3 rfl rfl ?_
  refine sa_getI kf_T_15 d_T_hasOnlyLetters_4 hk0.1 rfl ?_
  refine ab_icmp_ge (tgt := 30) d_T_hasOnlyLetters_7 (by decide) (fun b1 => ?_) (fun b1 => ?_)
  · replace HF := HF.1 b1
    refine ab_iconst (v := (1 : Int32)) d_T_hasOnlyLetters_30 (by decide) ?_
    exact sa_iretZ rfl isB_1.1 d_T_hasOnlyLetters_31 HF
  · replace HF := HF.2 b1
    refine ab_aload_n 0 d_T_hasOnlyLetters_10 rfl rfl ?_
    refine sa_getR (r := k0 + 1) kf_T_9 d_T_hasOnlyLetters_11 hk0.1 rfl ?_
    refine ab_iload_n 1 d_T_hasOnlyLetters_14 rfl rfl ?_
    obtain ⟨c2, HF⟩ := HF
    refine sa_iald d_T_hasOnlyLetters_15 hk0.2 c2 ?_
    refine sa_callSNi (As := [.int (S.2 (k0 + 1) x1.toNatClampNeg)]) (rest := []) kc_T_27 d_T_hasOnlyLetters_16 rfl (Nat.le_of_ble_eq_true rfl) enI (Nat.le_of_ble_eq_true rfl) ⟨Nat.zero_le _, Nat.zero_le _⟩ HF (fun r4 S3 HF => ?_)
    refine ab_if_ne (tgt := 24) d_T_hasOnlyLetters_19 (by decide) (fun b5 => ?_) (fun b5 => ?_)
    · replace HF := HF.1 b5
      refine ab_iinc (v := x1 + 1) (lv' := [(1, .int (x1 + 1)), (0, .ref (g.2.1 + k0))]) 1 d_T_hasOnlyLetters_24 rfl (congrArg (fun z => x1 + z) (show Int32.ofInt 1 = (1 : Int32) by decide)) (Nat.le_of_ble_eq_true rfl) rfl ?_
      refine ab_goto (tgt := 2) d_T_hasOnlyLetters_27 (by decide) ?_
      refine ab_sub (lv' := [(0, .ref (g.2.1 + k0)), (1, .int (x1 + 1))]) [1, 0] rfl ?_
      exact HF
    · replace HF := HF.2 b5
      refine ab_iconst (v := (0 : Int32)) d_T_hasOnlyLetters_22 (by decide) ?_
      exact sa_iretZ rfl isB_0.1 d_T_hasOnlyLetters_23 HF
set_option maxRecDepth 100000 in
theorem f_T_onlyPlace {g : lp_G} {d : Nat} {Q : Int32 → SS → Prop} {S : SS} {k0 : Nat} (hk0 : isT k0) {x1 : Int32} {x2 : Int32} {x3 : Int32}
    (HF : AtI g um_T_onlyPlace d Q 7 [(0, .ref (g.2.1 + k0)), (1, .int x1), (3, .int x3), (4, .int (-3 : Int32)), (5, .int x2)] [] S) : MtI g um_T_onlyPlace d [.ref (g.2.1 + k0), .int x1, .int x2, .int x3] S Q := by
  refine sa_entryI (lv' := [(0, .ref (g.2.1 + k0)), (1, .int x1), (2, .int x2), (3, .int x3)]) (by decide +kernel) (Nat.le_of_ble_eq_true rfl) rfl ?_
  refine ab_bipush (v := (-3 : Int32)) d_T_onlyPlace_0 (by decide) ?_
  refine ab_istore (lv' := [(4, .int (-3 : Int32)), (0, .ref (g.2.1 + k0)), (1, .int x1), (2, .int x2), (3, .int x3)]) d_T_onlyPlace_2 (Nat.le_of_ble_eq_true rfl) rfl ?_
  refine ab_iload_n 3 d_T_onlyPlace_4 rfl rfl ?_
  refine ab_istore (lv' := [(5, .int x2), (4, .int (-3 : Int32)), (0, .ref (g.2.1 + k0)), (1, .int x1), (2, .int x2), (3, .int x3)]) d_T_onlyPlace_5 (Nat.le_of_ble_eq_true rfl) rfl ?_
  refine ab_sub (lv' := [(0, .ref (g.2.1 + k0)), (1, .int x1), (3, .int x3), (4, .int (-3 : Int32)), (5, .int x2)]) [2, 3, 5, 1, 0] rfl ?_
  exact HF
set_option maxRecDepth 100000 in
theorem f_T_onlyPlace_7 {g : lp_G} {d : Nat} {Q : Int32 → SS → Prop} {S : SS} {x1 : Int32} {x3 : Int32} {x4 : Int32} {x5 : Int32} {k0 : Nat} (hk0 : isT k0)
    (HF : (x3 ≤ x5 → Q x4 S) ∧ (¬ x3 ≤ x5 → (vp_in x5 24) ∧ ((¬ S.2 (k0 + 1) x5.toNatClampNeg = x1 → AtI g um_T_onlyPlace d Q 7 [(0, .ref (g.2.1 + k0)), (1, .int x1), (3, .int x3), (4, .int x4), (5, .int (x5 + 1))] [] S) ∧ (S.2 (k0 + 1) x5.toNatClampNeg = x1 → (x4 = (-3 : Int32) → AtI g um_T_onlyPlace d Q 7 [(0, .ref (g.2.1 + k0)), (1, .int x1), (3, .int x3), (4, .int x5), (5, .int (x5 + 1))] [] S) ∧ (¬ x4 = (-3 : Int32) → Q (-3 : Int32) S))))) : AtI g um_T_onlyPlace d Q 7 [(0, .ref (g.2.1 + k0)), (1, .int x1), (3, .int x3), (4, .int x4), (5, .int x5)] [] S := by
  refine ab_iload 4 d_T_onlyPlace_7 rfl ?_
  refine ab_iload_n 2 d_T_onlyPlace_9 rfl rfl ?_
  refine ab_icmp_ge (tgt := 44) d_T_onlyPlace_10 (by decide) (fun b1 => ?_) (fun b1 => ?_)
  · replace HF := HF.1 b1
    refine ab_iload 3 d_T_onlyPlace_44 rfl ?_
    exact sa_iretI rfl d_T_onlyPlace_46 HF
  · replace HF := HF.2 b1
    refine ab_aload_n 0 d_T_onlyPlace_13 rfl rfl ?_
    refine sa_getR (r := k0 + 1) kf_T_9 d_T_onlyPlace_14 hk0.1 rfl ?_
    refine ab_iload 4 d_T_onlyPlace_17 rfl ?_
    obtain ⟨c2, HF⟩ := HF
    refine sa_iald d_T_onlyPlace_19 hk0.2 c2 ?_
    refine ab_iload_n 1 d_T_onlyPlace_20 rfl rfl ?_
    refine ab_icmp_ne (tgt := 38) d_T_onlyPlace_21 (by decide) (fun b3 => ?_) (fun b3 => ?_)
    · replace HF := HF.1 b3
      refine ab_iinc (v := x5 + 1) (lv' := [(5, .int (x5 + 1)), (0, .ref (g.2.1 + k0)), (1, .int x1), (3, .int x3), (4, .int x4)]) 4 d_T_onlyPlace_38 rfl (congrArg (fun z => x5 + z) (show Int32.ofInt 1 = (1 : Int32) by decide)) (Nat.le_of_ble_eq_true rfl) rfl ?_
      refine ab_goto (tgt := 7) d_T_onlyPlace_41 (by decide) ?_
      refine ab_sub (lv' := [(0, .ref (g.2.1 + k0)), (1, .int x1), (3, .int x3), (4, .int x4), (5, .int (x5 + 1))]) [1, 2, 3, 4, 0] rfl ?_
      exact HF
    · replace HF := HF.2 b3
      refine ab_iload 3 d_T_onlyPlace_24 rfl ?_
      refine ab_bipush (v := (-3 : Int32)) d_T_onlyPlace_26 (by decide) ?_
      refine ab_icmp_eq (tgt := 34) d_T_onlyPlace_28 (by decide) (fun b4 => ?_) (fun b4 => ?_)
      · replace HF := HF.1 b4
        refine ab_iload 4 d_T_onlyPlace_34 rfl ?_
        refine ab_istore (lv' := [(4, .int x5), (0, .ref (g.2.1 + k0)), (1, .int x1), (3, .int x3), (5, .int x5)]) d_T_onlyPlace_36 (Nat.le_of_ble_eq_true rfl) rfl ?_
        refine ab_iinc (v := x5 + 1) (lv' := [(5, .int (x5 + 1)), (4, .int x5), (0, .ref (g.2.1 + k0)), (1, .int x1), (3, .int x3)]) 4 d_T_onlyPlace_38 rfl (congrArg (fun z => x5 + z) (show Int32.ofInt 1 = (1 : Int32) by decide)) (Nat.le_of_ble_eq_true rfl) rfl ?_
        refine ab_goto (tgt := 7) d_T_onlyPlace_41 (by decide) ?_
        refine ab_sub (lv' := [(0, .ref (g.2.1 + k0)), (1, .int x1), (3, .int x3), (4, .int x5), (5, .int (x5 + 1))]) [2, 3, 4, 1, 0] rfl ?_
        exact HF
      · replace HF := HF.2 b4
        refine ab_bipush (v := (-3 : Int32)) d_T_onlyPlace_31 (by decide) ?_
        exact sa_iretI rfl d_T_onlyPlace_33 HF
set_option maxRecDepth 100000 in
theorem f_C_begin {g : lp_G} {d : Nat} {Q : SS → Prop} {S : SS} {k0 : Nat} (hk0 : isC k0) {k1 : Nat} (hk1 : isT k1) {k2 : Nat} (hk2 : isT k2)
    (HF : MtV g um_T_become d [.ref (g.2.1 + (k0 + 1)), .ref (g.2.1 + k1)] S (fun S1 => MtV g um_T_become d [.ref (g.2.1 + (k0 + 3)), .ref (g.2.1 + k2)] S1 (fun S3 => ∀ S5 : SS, S5 = setI S3 k0 3 (0 : Int32) → AtV g um_C_begin (d + 1) Q 23 [(0, .ref (g.2.1 + k0)), (3, .int (0 : Int32))] [] S5))) : MtV g um_C_begin (d + 1) [.ref (g.2.1 + k0), .ref (g.2.1 + k1), .ref (g.2.1 + k2)] S Q := by
  refine sa_entryV (lv' := [(0, .ref (g.2.1 + k0)), (1, .ref (g.2.1 + k1)), (2, .ref (g.2.1 + k2))]) (by decide +kernel) (Nat.le_of_ble_eq_true rfl) rfl ?_
  refine ab_aload_n 0 d_C_begin_0 rfl rfl ?_
  refine sa_getR (r := k0 + 1) kf_C_12 d_C_begin_1 hk0.1 rfl ?_
  refine ab_aload_n 1 d_C_begin_4 rfl rfl ?_
  refine sa_callVv (As := [.ref (g.2.1 + k1)]) (rest := []) kc_C_25 d_C_begin_5 hk0.2.1 rfl rfl rfl (Nat.le_of_ble_eq_true rfl) enV (Nat.le_of_ble_eq_true rfl) ⟨Nat.zero_le _, Nat.zero_le _⟩ HF (fun S1 HF => ?_)
  refine ab_aload_n 0 d_C_begin_8 rfl rfl ?_
  refine sa_getR (r := k0 + 3) kf_C_18 d_C_begin_9 hk0.1 rfl ?_
  refine ab_aload_n 2 d_C_begin_12 rfl rfl ?_
  refine sa_callVv (As := [.ref (g.2.1 + k2)]) (rest := []) kc_C_25 d_C_begin_13 hk0.2.2.2.1 rfl rfl rfl (Nat.le_of_ble_eq_true rfl) enV (Nat.le_of_ble_eq_true rfl) ⟨Nat.zero_le _, Nat.zero_le _⟩ HF (fun S3 HF => ?_)
  refine ab_aload_n 0 d_C_begin_16 rfl rfl ?_
  refine ab_iconst (v := (0 : Int32)) d_C_begin_17 (by decide) ?_
  refine sa_putIn kp_C_29 d_C_begin_18 hk0.1 rfl (fun S5 hS5 => ?_)
  replace HF := HF S5 hS5
  refine ab_iconst (v := (0 : Int32)) d_C_begin_21 (by decide) ?_
  refine ab_istore_n (lv' := [(3, .int (0 : Int32)), (0, .ref (g.2.1 + k0)), (1, .ref (g.2.1 + k1)), (2, .ref (g.2.1 + k2))]) d_C_begin_22 rfl (Nat.le_of_ble_eq_true rfl) rfl ?_
  refine ab_sub (lv' := [(0, .ref (g.2.1 + k0)), (3, .int (0 : Int32))]) [1, 0] rfl ?_
  exact HF
set_option maxRecDepth 100000 in
theorem f_C_begin_23 {g : lp_G} {d : Nat} {Q : SS → Prop} {S : SS} {x3 : Int32} {k0 : Nat} (hk0 : isC k0)
    (HF : (nI 24 ≤ x3 → Q S) ∧ (¬ nI 24 ≤ x3 → (vp_in x3 24) ∧ (∀ S8 : SS, S8 = setA S (k0 + 5) x3.toNatClampNeg (-3 : Int32) → AtV g um_C_begin (d + 1) Q 23 [(0, .ref (g.2.1 + k0)), (3, .int (x3 + 1))] [] S8))) : AtV g um_C_begin (d + 1) Q 23 [(0, .ref (g.2.1 + k0)), (3, .int x3)] [] S := by
  refine ab_iload_n 1 d_C_begin_23 rfl rfl ?_
  refine ab_bipush (v := nI 24) d_C_begin_24 (by decide) ?_
  refine ab_icmp_ge (tgt := 43) d_C_begin_26 (by decide) (fun b6 => ?_) (fun b6 => ?_)
  · replace HF := HF.1 b6
    exact sa_ret rfl d_C_begin_43 HF
  · replace HF := HF.2 b6
    refine ab_aload_n 0 d_C_begin_29 rfl rfl ?_
    refine sa_getR (r := k0 + 5) kf_C_21 d_C_begin_30 hk0.1 rfl ?_
    refine ab_iload_n 1 d_C_begin_33 rfl rfl ?_
    refine ab_bipush (v := (-3 : Int32)) d_C_begin_34 (by decide) ?_
    obtain ⟨c7, HF⟩ := HF
    refine sa_iastn d_C_begin_36 hk0.2.2.2.2.2 c7 (fun S8 hS8 => ?_)
    replace HF := HF S8 hS8
    refine ab_iinc (v := x3 + 1) (lv' := [(3, .int (x3 + 1)), (0, .ref (g.2.1 + k0))]) 1 d_C_begin_37 rfl (congrArg (fun z => x3 + z) (show Int32.ofInt 1 = (1 : Int32) by decide)) (Nat.le_of_ble_eq_true rfl) rfl ?_
    refine ab_goto (tgt := 23) d_C_begin_40 (by decide) ?_
    refine ab_sub (lv' := [(0, .ref (g.2.1 + k0)), (3, .int (x3 + 1))]) [1, 0] rfl ?_
    exact HF
set_option maxRecDepth 100000 in
theorem f_C_pair {g : lp_G} {d : Nat} {Q : SS → Prop} {S : SS} {k0 : Nat} (hk0 : isC k0) {x1 : Int32} {x2 : Int32}
    (HF : (vp_in x1 24) ∧ (∀ S2 : SS, S2 = setA S (k0 + 5) x1.toNatClampNeg x2 → ∀ S3 : SS, S3 = setI S2 k0 3 ((S2.1 k0 3) + (1 : Int32)) → Q S3)) : MtV g um_C_pair d [.ref (g.2.1 + k0), .int x1, .int x2] S Q := by
  refine sa_entryV (lv' := [(0, .ref (g.2.1 + k0)), (1, .int x1), (2, .int x2)]) (by decide +kernel) (Nat.le_of_ble_eq_true rfl) rfl ?_
  refine ab_aload_n 0 d_C_pair_0 rfl rfl ?_
  refine sa_getR (r := k0 + 5) kf_C_21 d_C_pair_1 hk0.1 rfl ?_
  refine ab_iload_n 1 d_C_pair_4 rfl rfl ?_
  refine ab_iload_n 2 d_C_pair_5 rfl rfl ?_
  obtain ⟨c1, HF⟩ := HF
  refine sa_iastn d_C_pair_6 hk0.2.2.2.2.2 c1 (fun S2 hS2 => ?_)
  replace HF := HF S2 hS2
  refine ab_aload_n 0 d_C_pair_7 rfl rfl ?_
  refine ab_dup d_C_pair_8 rfl ?_
  refine sa_getI kf_C_29 d_C_pair_9 hk0.1 rfl ?_
  refine ab_iconst (v := (1 : Int32)) d_C_pair_12 (by decide) ?_
  refine ab_iadd d_C_pair_13 ?_
  refine sa_putIn kp_C_29 d_C_pair_14 hk0.1 rfl (fun S3 hS3 => ?_)
  replace HF := HF S3 hS3
  exact sa_ret rfl d_C_pair_17 HF
set_option maxRecDepth 100000 in
theorem f_C_areEqual {g : lp_G} {d : Nat} {Q : Int32 → SS → Prop} {S : SS} {k0 : Nat} (hk0 : isC k0) {x1 : Int32} {x2 : Int32}
    (HF : (vp_in x1 24) ∧ ((vp_in x2 24) ∧ ((¬ S.2 (k0 + 2) x1.toNatClampNeg = S.2 (k0 + 4) x2.toNatClampNeg → Q (0 : Int32) S) ∧ (S.2 (k0 + 2) x1.toNatClampNeg = S.2 (k0 + 4) x2.toNatClampNeg → Q (1 : Int32) S)))) : MtI g um_C_areEqual d [.ref (g.2.1 + k0), .int x1, .int x2] S Q := by
  refine sa_entryI (lv' := [(0, .ref (g.2.1 + k0)), (1, .int x1), (2, .int x2)]) (by decide +kernel) (Nat.le_of_ble_eq_true rfl) rfl ?_
  refine ab_aload_n 0 d_C_areEqual_0 rfl rfl ?_
  refine sa_getR (r := k0 + 1) kf_C_12 d_C_areEqual_1 hk0.1 rfl ?_
  refine sa_getR (r := k0 + 2) kf_C_33 d_C_areEqual_4 hk0.2.1 rfl ?_
  refine ab_iload_n 1 d_C_areEqual_7 rfl rfl ?_
  obtain ⟨c1, HF⟩ := HF
  refine sa_iald d_C_areEqual_8 hk0.2.2.1 c1 ?_
  refine ab_aload_n 0 d_C_areEqual_9 rfl rfl ?_
  refine sa_getR (r := k0 + 3) kf_C_18 d_C_areEqual_10 hk0.1 rfl ?_
  refine sa_getR (r := k0 + 4) kf_C_33 d_C_areEqual_13 hk0.2.2.2.1 rfl ?_
  refine ab_iload_n 2 d_C_areEqual_16 rfl rfl ?_
  obtain ⟨c2, HF⟩ := HF
  refine sa_iald d_C_areEqual_17 hk0.2.2.2.2.1 c2 ?_
  refine ab_icmp_ne (tgt := 25) d_C_areEqual_18 (by decide) (fun b3 => ?_) (fun b3 => ?_)
  · replace HF := HF.1 b3
    refine ab_iconst (v := (0 : Int32)) d_C_areEqual_25 (by decide) ?_
    exact sa_iretZ rfl isB_0.1 d_C_areEqual_26 HF
  · replace HF := HF.2 b3
    refine ab_iconst (v := (1 : Int32)) d_C_areEqual_21 (by decide) ?_
    refine ab_goto (tgt := 26) d_C_areEqual_22 (by decide) ?_
    exact sa_iretZ rfl isB_1.1 d_C_areEqual_26 HF
set_option maxRecDepth 100000 in
theorem f_C_partnerOf {g : lp_G} {d : Nat} {Q : Int32 → SS → Prop} {S : SS} {k0 : Nat} (hk0 : isC k0) {x1 : Int32}
    (HF : (x1 < 0 → Q (-3 : Int32) S) ∧ (¬ x1 < 0 → (S.1 (k0 + 1) 1 ≤ x1 → Q (-3 : Int32) S) ∧ (¬ S.1 (k0 + 1) 1 ≤ x1 → (vp_in x1 24) ∧ (Q (S.2 (k0 + 5) x1.toNatClampNeg) S)))) : MtI g um_C_partnerOf d [.ref (g.2.1 + k0), .int x1] S Q := by
  refine sa_entryI (lv' := [(0, .ref (g.2.1 + k0)), (1, .int x1)]) (by decide +kernel) (Nat.le_of_ble_eq_true rfl) rfl ?_
  refine ab_iload_n 1 d_C_partnerOf_0 rfl rfl ?_
  refine ab_if_lt (tgt := 24) d_C_partnerOf_1 (by decide) (fun b1 => ?_) (fun b1 => ?_)
  · replace HF := HF.1 b1
    refine ab_bipush (v := (-3 : Int32)) d_C_partnerOf_24 (by decide) ?_
    exact sa_iretI rfl d_C_partnerOf_26 HF
  · replace HF := HF.2 b1
    refine ab_iload_n 1 d_C_partnerOf_4 rfl rfl ?_
    refine ab_aload_n 0 d_C_partnerOf_5 rfl rfl ?_
    refine sa_getR (r := k0 + 1) kf_C_12 d_C_partnerOf_6 hk0.1 rfl ?_
    refine sa_getI kf_C_36 d_C_partnerOf_9 hk0.2.1 rfl ?_
    refine ab_icmp_ge (tgt := 24) d_C_partnerOf_12 (by decide) (fun b2 => ?_) (fun b2 => ?_)
    · replace HF := HF.1 b2
      refine ab_bipush (v := (-3 : Int32)) d_C_partnerOf_24 (by decide) ?_
      exact sa_iretI rfl d_C_partnerOf_26 HF
    · replace HF := HF.2 b2
      refine ab_aload_n 0 d_C_partnerOf_15 rfl rfl ?_
      refine sa_getR (r := k0 + 5) kf_C_21 d_C_partnerOf_16 hk0.1 rfl ?_
      refine ab_iload_n 1 d_C_partnerOf_19 rfl rfl ?_
      obtain ⟨c3, HF⟩ := HF
      refine sa_iald d_C_partnerOf_20 hk0.2.2.2.2.2 c3 ?_
      refine ab_goto (tgt := 26) d_C_partnerOf_21 (by decide) ?_
      exact sa_iretI rfl d_C_partnerOf_26 HF
set_option maxRecDepth 100000 in
theorem f_C_linesChanged {g : lp_G} {d : Nat} {Q : Int32 → SS → Prop} {S : SS} {k0 : Nat} (hk0 : isC k0)
    (HF : Q (((S.1 (k0 + 1) 1) + (S.1 (k0 + 3) 1)) - ((nI 2) * (S.1 k0 3))) S) : MtI g um_C_linesChanged d [.ref (g.2.1 + k0)] S Q := by
  refine sa_entryI (lv' := [(0, .ref (g.2.1 + k0))]) (by decide +kernel) (Nat.le_of_ble_eq_true rfl) rfl ?_
  refine ab_aload_n 0 d_C_linesChanged_0 rfl rfl ?_
  refine sa_getR (r := k0 + 1) kf_C_12 d_C_linesChanged_1 hk0.1 rfl ?_
  refine sa_getI kf_C_36 d_C_linesChanged_4 hk0.2.1 rfl ?_
  refine ab_aload_n 0 d_C_linesChanged_7 rfl rfl ?_
  refine sa_getR (r := k0 + 3) kf_C_18 d_C_linesChanged_8 hk0.1 rfl ?_
  refine sa_getI kf_C_36 d_C_linesChanged_11 hk0.2.2.2.1 rfl ?_
  refine ab_iadd d_C_linesChanged_14 ?_
  refine ab_iconst (v := nI 2) d_C_linesChanged_15 (by decide) ?_
  refine ab_aload_n 0 d_C_linesChanged_16 rfl rfl ?_
  refine sa_getI kf_C_29 d_C_linesChanged_17 hk0.1 rfl ?_
  refine ab_imul d_C_linesChanged_20 ?_
  refine ab_isub d_C_linesChanged_21 ?_
  exact sa_iretI rfl d_C_linesChanged_22 HF
set_option maxRecDepth 100000 in
theorem f_R_span {g : lp_G} {d : Nat} {Q : SS → Prop} {S : SS} {k0 : Nat} (hk0 : isR k0) {x1 : Int32} {x2 : Int32} {x3 : Int32} {x4 : Int32}
    (HF : ∀ S1 : SS, S1 = setI S k0 0 x1 → ∀ S2 : SS, S2 = setI S1 k0 1 x2 → ∀ S3 : SS, S3 = setI S2 k0 2 x3 → ∀ S4 : SS, S4 = setI S3 k0 3 x4 → Q S4) : MtV g um_R_span d [.ref (g.2.1 + k0), .int x1, .int x2, .int x3, .int x4] S Q := by
  refine sa_entryV (lv' := [(0, .ref (g.2.1 + k0)), (1, .int x1), (2, .int x2), (3, .int x3), (4, .int x4)]) (by decide +kernel) (Nat.le_of_ble_eq_true rfl) rfl ?_
  refine ab_aload_n 0 d_R_span_0 rfl rfl ?_
  refine ab_iload_n 1 d_R_span_1 rfl rfl ?_
  refine sa_putIn kp_R_7 d_R_span_2 hk0 rfl (fun S1 hS1 => ?_)
  replace HF := HF S1 hS1
  refine ab_aload_n 0 d_R_span_5 rfl rfl ?_
  refine ab_iload_n 2 d_R_span_6 rfl rfl ?_
  refine sa_putIn kp_R_13 d_R_span_7 hk0 rfl (fun S2 hS2 => ?_)
  replace HF := HF S2 hS2
  refine ab_aload_n 0 d_R_span_10 rfl rfl ?_
  refine ab_iload_n 3 d_R_span_11 rfl rfl ?_
  refine sa_putIn kp_R_16 d_R_span_12 hk0 rfl (fun S3 hS3 => ?_)
  replace HF := HF S3 hS3
  refine ab_aload_n 0 d_R_span_15 rfl rfl ?_
  refine ab_iload 4 d_R_span_16 rfl ?_
  refine sa_putIn kp_R_19 d_R_span_18 hk0 rfl (fun S4 hS4 => ?_)
  replace HF := HF S4 hS4
  exact sa_ret rfl d_R_span_21 HF
set_option maxRecDepth 100000 in
theorem f_A_append {g : lp_G} {d : Nat} {Q : SS → Prop} {S : SS} {x1 : Int32}
    (HF : (nI 900 ≤ S.1 90 1 → Q S) ∧ (¬ nI 900 ≤ S.1 90 1 → (vp_in (S.1 90 1) 900) ∧ (∀ S3 : SS, S3 = setA S 91 (S.1 90 1).toNatClampNeg x1 → ∀ S4 : SS, S4 = setI S3 90 1 ((S3.1 90 1) + (1 : Int32)) → Q S4))) : MtV g um_A_append d [.ref (g.2.1 + 90), .int x1] S Q := by
  refine sa_entryV (lv' := [(0, .ref (g.2.1 + 90)), (1, .int x1)]) (by decide +kernel) (Nat.le_of_ble_eq_true rfl) rfl ?_
  refine ab_aload_n 0 d_A_append_0 rfl rfl ?_
  refine sa_getI kf_A_15 d_A_append_1 sh_90 rfl ?_
  refine ab_sipush (v := nI 900) d_A_append_4 (by decide) ?_
  refine ab_icmp_ge (tgt := 30) d_A_append_7 (by decide) (fun b1 => ?_) (fun b1 => ?_)
  · replace HF := HF.1 b1
    exact sa_ret rfl d_A_append_30 HF
  · replace HF := HF.2 b1
    refine ab_aload_n 0 d_A_append_10 rfl rfl ?_
    refine sa_getR (r := 91) kf_A_9 d_A_append_11 sh_90 rfl ?_
    refine ab_aload_n 0 d_A_append_14 rfl rfl ?_
    refine sa_getI kf_A_15 d_A_append_15 sh_90 rfl ?_
    refine ab_iload_n 1 d_A_append_18 rfl rfl ?_
    obtain ⟨c2, HF⟩ := HF
    refine sa_iastn d_A_append_19 sh_91 c2 (fun S3 hS3 => ?_)
    replace HF := HF S3 hS3
    refine ab_aload_n 0 d_A_append_20 rfl rfl ?_
    refine ab_dup d_A_append_21 rfl ?_
    refine sa_getI kf_A_15 d_A_append_22 sh_90 rfl ?_
    refine ab_iconst (v := (1 : Int32)) d_A_append_25 (by decide) ?_
    refine ab_iadd d_A_append_26 ?_
    refine sa_putIn kp_A_15 d_A_append_27 sh_90 rfl (fun S4 hS4 => ?_)
    replace HF := HF S4 hS4
    exact sa_ret rfl d_A_append_30 HF
set_option maxRecDepth 100000 in
theorem f_A_appendNumber {g : lp_G} {d : Nat} {Q : SS → Prop} {S : SS} {x1 : Int32}
    (HF : (x1 < nI 10 → MtV g um_A_append d [.ref (g.2.1 + 90), .int ((nI 48) + (x1 - x1 / (nI 10) * (nI 10)))] S (fun S2 => Q S2)) ∧ (¬ x1 < nI 10 → MtV g um_A_append d [.ref (g.2.1 + 90), .int ((nI 48) + ((x1 / (nI 10)) - (x1 / (nI 10)) / (nI 10) * (nI 10)))] S (fun S4 => MtV g um_A_append d [.ref (g.2.1 + 90), .int ((nI 48) + (x1 - x1 / (nI 10) * (nI 10)))] S4 (fun S6 => Q S6)))) : MtV g um_A_appendNumber (d + 1) [.ref (g.2.1 + 90), .int x1] S Q := by
  refine sa_entryV (lv' := [(0, .ref (g.2.1 + 90)), (1, .int x1)]) (by decide +kernel) (Nat.le_of_ble_eq_true rfl) rfl ?_
  refine ab_iload_n 1 d_A_appendNumber_0 rfl rfl ?_
  refine ab_bipush (v := nI 10) d_A_appendNumber_1 (by decide) ?_
  refine ab_icmp_lt (tgt := 20) d_A_appendNumber_3 (by decide) (fun b1 => ?_) (fun b1 => ?_)
  · replace HF := HF.1 b1
    refine ab_aload_n 0 d_A_appendNumber_20 rfl rfl ?_
    refine ab_bipush (v := nI 48) d_A_appendNumber_21 (by decide) ?_
    refine ab_iload_n 1 d_A_appendNumber_23 rfl rfl ?_
    refine ab_bipush (v := nI 10) d_A_appendNumber_24 (by decide) ?_
    refine ab_irem d_A_appendNumber_26 (by decide) ?_
    refine ab_iadd d_A_appendNumber_27 ?_
    refine sa_callVv (As := [.int ((nI 48) + (x1 - x1 / (nI 10) * (nI 10)))]) (rest := []) kc_A_19 d_A_appendNumber_28 sh_90 rfl rfl rfl (Nat.le_of_ble_eq_true rfl) enV (Nat.le_of_ble_eq_true rfl) ⟨Nat.zero_le _, Nat.zero_le _⟩ HF (fun S2 HF => ?_)
    exact sa_ret rfl d_A_appendNumber_31 HF
  · replace HF := HF.2 b1
    refine ab_aload_n 0 d_A_appendNumber_6 rfl rfl ?_
    refine ab_bipush (v := nI 48) d_A_appendNumber_7 (by decide) ?_
    refine ab_iload_n 1 d_A_appendNumber_9 rfl rfl ?_
    refine ab_bipush (v := nI 10) d_A_appendNumber_10 (by decide) ?_
    refine ab_idiv d_A_appendNumber_12 (by decide) ?_
    refine ab_bipush (v := nI 10) d_A_appendNumber_13 (by decide) ?_
    refine ab_irem d_A_appendNumber_15 (by decide) ?_
    refine ab_iadd d_A_appendNumber_16 ?_
    refine sa_callVv (As := [.int ((nI 48) + ((x1 / (nI 10)) - (x1 / (nI 10)) / (nI 10) * (nI 10)))]) (rest := []) kc_A_19 d_A_appendNumber_17 sh_90 rfl rfl rfl (Nat.le_of_ble_eq_true rfl) enV (Nat.le_of_ble_eq_true rfl) ⟨Nat.zero_le _, Nat.zero_le _⟩ HF (fun S4 HF => ?_)
    refine ab_aload_n 0 d_A_appendNumber_20 rfl rfl ?_
    refine ab_bipush (v := nI 48) d_A_appendNumber_21 (by decide) ?_
    refine ab_iload_n 1 d_A_appendNumber_23 rfl rfl ?_
    refine ab_bipush (v := nI 10) d_A_appendNumber_24 (by decide) ?_
    refine ab_irem d_A_appendNumber_26 (by decide) ?_
    refine ab_iadd d_A_appendNumber_27 ?_
    refine sa_callVv (As := [.int ((nI 48) + (x1 - x1 / (nI 10) * (nI 10)))]) (rest := []) kc_A_19 d_A_appendNumber_28 sh_90 rfl rfl rfl (Nat.le_of_ble_eq_true rfl) enV (Nat.le_of_ble_eq_true rfl) ⟨Nat.zero_le _, Nat.zero_le _⟩ HF (fun S6 HF => ?_)
    exact sa_ret rfl d_A_appendNumber_31 HF
set_option maxRecDepth 100000 in
theorem f_A_appendLine {g : lp_G} {d : Nat} {Q : SS → Prop} {S : SS} {x1 : Int32} {x2 : Int32}
    (HF : MtV g um_A_append d [.ref (g.2.1 + 90), .int x1] S (fun S1 => MtV g um_A_append d [.ref (g.2.1 + 90), .int x2] S1 (fun S3 => MtV g um_A_append d [.ref (g.2.1 + 90), .int (nI 10)] S3 (fun S5 => Q S5)))) : MtV g um_A_appendLine (d + 1) [.ref (g.2.1 + 90), .int x1, .int x2] S Q := by
  refine sa_entryV (lv' := [(0, .ref (g.2.1 + 90)), (1, .int x1), (2, .int x2)]) (by decide +kernel) (Nat.le_of_ble_eq_true rfl) rfl ?_
  refine ab_aload_n 0 d_A_appendLine_0 rfl rfl ?_
  refine ab_iload_n 1 d_A_appendLine_1 rfl rfl ?_
  refine sa_callVv (As := [.int x1]) (rest := []) kc_A_19 d_A_appendLine_2 sh_90 rfl rfl rfl (Nat.le_of_ble_eq_true rfl) enV (Nat.le_of_ble_eq_true rfl) ⟨Nat.zero_le _, Nat.zero_le _⟩ HF (fun S1 HF => ?_)
  refine ab_aload_n 0 d_A_appendLine_5 rfl rfl ?_
  refine ab_iload_n 2 d_A_appendLine_6 rfl rfl ?_
  refine sa_callVv (As := [.int x2]) (rest := []) kc_A_19 d_A_appendLine_7 sh_90 rfl rfl rfl (Nat.le_of_ble_eq_true rfl) enV (Nat.le_of_ble_eq_true rfl) ⟨Nat.zero_le _, Nat.zero_le _⟩ HF (fun S3 HF => ?_)
  refine ab_aload_n 0 d_A_appendLine_10 rfl rfl ?_
  refine ab_bipush (v := nI 10) d_A_appendLine_11 (by decide) ?_
  refine sa_callVv (As := [.int (nI 10)]) (rest := []) kc_A_19 d_A_appendLine_13 sh_90 rfl rfl rfl (Nat.le_of_ble_eq_true rfl) enV (Nat.le_of_ble_eq_true rfl) ⟨Nat.zero_le _, Nat.zero_le _⟩ HF (fun S5 HF => ?_)
  exact sa_ret rfl d_A_appendLine_16 HF
set_option maxRecDepth 100000 in
theorem f_Q_skipFirmLine {g : lp_G} {d : Nat} {Q : SS → Prop} {S : SS} {k0 t0 : Nat} (hk0 : isQ k0 t0)
    (HF : ∀ S1 : SS, S1 = setI S k0 1 ((S.1 k0 2) + (1 : Int32)) → Q S1) : MtV g um_Q_skipFirmLine d [.ref (g.2.1 + k0)] S Q := by
  refine sa_entryV (lv' := [(0, .ref (g.2.1 + k0))]) (by decide +kernel) (Nat.le_of_ble_eq_true rfl) rfl ?_
  refine ab_aload_n 0 d_Q_skipFirmLine_0 rfl rfl ?_
  refine ab_aload_n 0 d_Q_skipFirmLine_1 rfl rfl ?_
  refine sa_getI kf_Q_13 d_Q_skipFirmLine_2 hk0.1 rfl ?_
  refine ab_iconst (v := (1 : Int32)) d_Q_skipFirmLine_5 (by decide) ?_
  refine ab_iadd d_Q_skipFirmLine_6 ?_
  refine sa_putIn kp_Q_17 d_Q_skipFirmLine_7 hk0.1 rfl (fun S1 hS1 => ?_)
  replace HF := HF S1 hS1
  exact sa_ret rfl d_Q_skipFirmLine_10 HF
set_option maxRecDepth 100000 in
theorem f_Q_isEqualTo {g : lp_G} {d : Nat} {Q : Int32 → SS → Prop} {S : SS} {k0 t0 : Nat} (hk0 : isQ k0 t0) {k1 t1 : Nat} (hk1 : isQ k1 t1)
    (HF : ((S.1 k0 2) - (S.1 k0 1) = (S.1 k1 2) - (S.1 k1 1) → AtI g um_Q_isEqualTo d Q 28 [(0, .ref (g.2.1 + k0)), (1, .ref (g.2.1 + k1)), (2, .int (S.1 k0 1))] [] S) ∧ (¬ (S.1 k0 2) - (S.1 k0 1) = (S.1 k1 2) - (S.1 k1 1) → Q (0 : Int32) S)) : MtI g um_Q_isEqualTo d [.ref (g.2.1 + k0), .ref (g.2.1 + k1)] S Q := by
  refine sa_entryI (lv' := [(0, .ref (g.2.1 + k0)), (1, .ref (g.2.1 + k1))]) (by decide +kernel) (Nat.le_of_ble_eq_true rfl) rfl ?_
  refine ab_aload_n 0 d_Q_isEqualTo_0 rfl rfl ?_
  refine sa_getI kf_Q_13 d_Q_isEqualTo_1 hk0.1 rfl ?_
  refine ab_aload_n 0 d_Q_isEqualTo_4 rfl rfl ?_
  refine sa_getI kf_Q_17 d_Q_isEqualTo_5 hk0.1 rfl ?_
  refine ab_isub d_Q_isEqualTo_8 ?_
  refine ab_aload_n 1 d_Q_isEqualTo_9 rfl rfl ?_
  refine sa_getI kf_Q_13 d_Q_isEqualTo_10 hk1.1 rfl ?_
  refine ab_aload_n 1 d_Q_isEqualTo_13 rfl rfl ?_
  refine sa_getI kf_Q_17 d_Q_isEqualTo_14 hk1.1 rfl ?_
  refine ab_isub d_Q_isEqualTo_17 ?_
  refine ab_icmp_eq (tgt := 23) d_Q_isEqualTo_18 (by decide) (fun b1 => ?_) (fun b1 => ?_)
  · replace HF := HF.1 b1
    refine ab_aload_n 0 d_Q_isEqualTo_23 rfl rfl ?_
    refine sa_getI kf_Q_17 d_Q_isEqualTo_24 hk0.1 rfl ?_
    refine ab_istore_n (lv' := [(2, .int (S.1 k0 1)), (0, .ref (g.2.1 + k0)), (1, .ref (g.2.1 + k1))]) d_Q_isEqualTo_27 rfl (Nat.le_of_ble_eq_true rfl) rfl ?_
    refine ab_sub (lv' := [(0, .ref (g.2.1 + k0)), (1, .ref (g.2.1 + k1)), (2, .int (S.1 k0 1))]) [1, 2, 0] rfl ?_
    exact HF
  · replace HF := HF.2 b1
    refine ab_iconst (v := (0 : Int32)) d_Q_isEqualTo_21 (by decide) ?_
    exact sa_iretZ rfl isB_0.1 d_Q_isEqualTo_22 HF
set_option maxRecDepth 100000 in
theorem f_Q_isEqualTo_28 {g : lp_G} {d : Nat} {Q : Int32 → SS → Prop} {S : SS} {x2 : Int32} {k0 t0 : Nat} (hk0 : isQ k0 t0) {k1 t1 : Nat} (hk1 : isQ k1 t1)
    (HF : (S.1 k0 2 ≤ x2 → Q (1 : Int32) S) ∧ (¬ S.1 k0 2 ≤ x2 → (vp_in x2 24) ∧ ((vp_in (((S.1 k1 1) + x2) - (S.1 k0 1)) 24) ∧ ((S.2 (t0 + 1) x2.toNatClampNeg = S.2 (t1 + 1) (((S.1 k1 1) + x2) - (S.1 k0 1)).toNatClampNeg → AtI g um_Q_isEqualTo d Q 28 [(0, .ref (g.2.1 + k0)), (1, .ref (g.2.1 + k1)), (2, .int (x2 + 1))] [] S) ∧ (¬ S.2 (t0 + 1) x2.toNatClampNeg = S.2 (t1 + 1) (((S.1 k1 1) + x2) - (S.1 k0 1)).toNatClampNeg → Q (0 : Int32) S))))) : AtI g um_Q_isEqualTo d Q 28 [(0, .ref (g.2.1 + k0)), (1, .ref (g.2.1 + k1)), (2, .int x2)] [] S := by
  refine ab_iload_n 2 d_Q_isEqualTo_28 rfl rfl ?_
  refine ab_aload_n 0 d_Q_isEqualTo_29 rfl rfl ?_
  refine sa_getI kf_Q_13 d_Q_isEqualTo_30 hk0.1 rfl ?_
  refine ab_icmp_ge (tgt := 75) d_Q_isEqualTo_33 (by decide) (fun b2 => ?_) (fun b2 => ?_)
  · replace HF := HF.1 b2
    refine ab_iconst (v := (1 : Int32)) d_Q_isEqualTo_75 (by decide) ?_
    exact sa_iretZ rfl isB_1.1 d_Q_isEqualTo_76 HF
  · replace HF := HF.2 b2
    refine ab_aload_n 0 d_Q_isEqualTo_36 rfl rfl ?_
    refine sa_getR (r := t0) kf_Q_7 d_Q_isEqualTo_37 hk0.1 rfl ?_
    refine sa_getR (r := t0 + 1) kf_Q_20 d_Q_isEqualTo_40 hk0.2.1 rfl ?_
    refine ab_iload_n 2 d_Q_isEqualTo_43 rfl rfl ?_
    obtain ⟨c3, HF⟩ := HF
    refine sa_iald d_Q_isEqualTo_44 hk0.2.2 c3 ?_
    refine ab_aload_n 1 d_Q_isEqualTo_45 rfl rfl ?_
    refine sa_getR (r := t1) kf_Q_7 d_Q_isEqualTo_46 hk1.1 rfl ?_
    refine sa_getR (r := t1 + 1) kf_Q_20 d_Q_isEqualTo_49 hk1.2.1 rfl ?_
    refine ab_aload_n 1 d_Q_isEqualTo_52 rfl rfl ?_
    refine sa_getI kf_Q_17 d_Q_isEqualTo_53 hk1.1 rfl ?_
    refine ab_iload_n 2 d_Q_isEqualTo_56 rfl rfl ?_
    refine ab_iadd d_Q_isEqualTo_57 ?_
    refine ab_aload_n 0 d_Q_isEqualTo_58 rfl rfl ?_
    refine sa_getI kf_Q_17 d_Q_isEqualTo_59 hk0.1 rfl ?_
    refine ab_isub d_Q_isEqualTo_62 ?_
    obtain ⟨c4, HF⟩ := HF
    refine sa_iald d_Q_isEqualTo_63 hk1.2.2 c4 ?_
    refine ab_icmp_eq (tgt := 69) d_Q_isEqualTo_64 (by decide) (fun b5 => ?_) (fun b5 => ?_)
    · replace HF := HF.1 b5
      refine ab_iinc (v := x2 + 1) (lv' := [(2, .int (x2 + 1)), (0, .ref (g.2.1 + k0)), (1, .ref (g.2.1 + k1))]) 2 d_Q_isEqualTo_69 rfl (congrArg (fun z => x2 + z) (show Int32.ofInt 1 = (1 : Int32) by decide)) (Nat.le_of_ble_eq_true rfl) rfl ?_
      refine ab_goto (tgt := 28) d_Q_isEqualTo_72 (by decide) ?_
      refine ab_sub (lv' := [(0, .ref (g.2.1 + k0)), (1, .ref (g.2.1 + k1)), (2, .int (x2 + 1))]) [1, 2, 0] rfl ?_
      exact HF
    · replace HF := HF.2 b5
      refine ab_iconst (v := (0 : Int32)) d_Q_isEqualTo_67 (by decide) ?_
      exact sa_iretZ rfl isB_0.1 d_Q_isEqualTo_68 HF
set_option maxRecDepth 100000 in
theorem f_S_matchTexts {g : lp_G} {d : Nat} {Q : SS → Prop} {S : SS} {k1 : Nat} (hk1 : isC k1)
    (HF : MtV g um_R_span d [.ref (g.2.1 + 35), .int (0 : Int32), .int (S.1 (k1 + 1) 1), .int (0 : Int32), .int (S.1 (k1 + 3) 1)] S (fun S1 => MtV g um_S_matchRange d [.ref (g.2.1 + 8), .ref (g.2.1 + k1), .ref (g.2.1 + 35)] S1 (fun S3 => Q S3))) : MtV g um_S_matchTexts (d + 1) [.ref (g.2.1 + 8), .ref (g.2.1 + k1)] S Q := by
  refine sa_entryV (lv' := [(0, .ref (g.2.1 + 8)), (1, .ref (g.2.1 + k1))]) (by decide +kernel) (Nat.le_of_ble_eq_true rfl) rfl ?_
  refine ab_aload_n 0 d_S_matchTexts_0 rfl rfl ?_
  refine sa_getR (r := 35) kf_S_19 d_S_matchTexts_1 sh_8 rfl ?_
  refine ab_iconst (v := (0 : Int32)) d_S_matchTexts_4 (by decide) ?_
  refine ab_aload_n 1 d_S_matchTexts_5 rfl rfl ?_
  refine sa_getR (r := k1 + 1) kf_S_23 d_S_matchTexts_6 hk1.1 rfl ?_
  refine sa_getI kf_S_29 d_S_matchTexts_9 hk1.2.1 rfl ?_
  refine ab_iconst (v := (0 : Int32)) d_S_matchTexts_12 (by decide) ?_
  refine ab_aload_n 1 d_S_matchTexts_13 rfl rfl ?_
  refine sa_getR (r := k1 + 3) kf_S_35 d_S_matchTexts_14 hk1.1 rfl ?_
  refine sa_getI kf_S_29 d_S_matchTexts_17 hk1.2.2.2.1 rfl ?_
  refine sa_callVv (As := [.int (0 : Int32), .int (S.1 (k1 + 1) 1), .int (0 : Int32), .int (S.1 (k1 + 3) 1)]) (rest := []) kc_S_38 d_S_matchTexts_20 sh_35 rfl rfl rfl (Nat.le_of_ble_eq_true rfl) enV (Nat.le_of_ble_eq_true rfl) ⟨Nat.zero_le _, Nat.zero_le _⟩ HF (fun S1 HF => ?_)
  refine ab_aload_n 0 d_S_matchTexts_23 rfl rfl ?_
  refine ab_aload_n 1 d_S_matchTexts_24 rfl rfl ?_
  refine ab_aload_n 0 d_S_matchTexts_25 rfl rfl ?_
  refine sa_getR (r := 35) kf_S_19 d_S_matchTexts_26 sh_8 rfl ?_
  refine sa_callVv (As := [.ref (g.2.1 + k1), .ref (g.2.1 + 35)]) (rest := []) kc_S_42 d_S_matchTexts_29 sh_8 rfl rfl rfl (Nat.le_of_ble_eq_true rfl) enV (Nat.le_of_ble_eq_true rfl) ⟨Nat.zero_le _, Nat.zero_le _⟩ HF (fun S3 HF => ?_)
  exact sa_ret rfl d_S_matchTexts_32 HF
set_option maxRecDepth 100000 in
theorem f_S_matchRange {g : lp_G} {d : Nat} {Q : SS → Prop} {S : SS} {k1 : Nat} (hk1 : isC k1) {k2 : Nat} (hk2 : isR k2)
    (HF : MtV g um_S_countMost d [.ref (g.2.1 + 8), .ref (g.2.1 + k1), .ref (g.2.1 + k2)] S (fun S1 => AtV g um_S_matchRange (d + 1) Q 17 [(0, .ref (g.2.1 + 8)), (1, .ref (g.2.1 + k1)), (2, .ref (g.2.1 + k2)), (3, .int (S1.1 k2 0)), (4, .int (S1.1 k2 2))] [] S1)) : MtV g um_S_matchRange (d + 1) [.ref (g.2.1 + 8), .ref (g.2.1 + k1), .ref (g.2.1 + k2)] S Q := by
  refine sa_entryV (lv' := [(0, .ref (g.2.1 + 8)), (1, .ref (g.2.1 + k1)), (2, .ref (g.2.1 + k2))]) (by decide +kernel) (Nat.le_of_ble_eq_true rfl) rfl ?_
  refine ab_aload_n 0 d_S_matchRange_0 rfl rfl ?_
  refine ab_aload_n 1 d_S_matchRange_1 rfl rfl ?_
  refine ab_aload_n 2 d_S_matchRange_2 rfl rfl ?_
  refine sa_callVv (As := [.ref (g.2.1 + k1), .ref (g.2.1 + k2)]) (rest := []) kc_S_46 d_S_matchRange_3 sh_8 rfl rfl rfl (Nat.le_of_ble_eq_true rfl) enV (Nat.le_of_ble_eq_true rfl) ⟨Nat.zero_le _, Nat.zero_le _⟩ HF (fun S1 HF => ?_)
  refine ab_aload_n 2 d_S_matchRange_6 rfl rfl ?_
  refine sa_getI kf_S_49 d_S_matchRange_7 hk2 rfl ?_
  refine ab_istore_n (lv' := [(3, .int (S1.1 k2 0)), (0, .ref (g.2.1 + 8)), (1, .ref (g.2.1 + k1)), (2, .ref (g.2.1 + k2))]) d_S_matchRange_10 rfl (Nat.le_of_ble_eq_true rfl) rfl ?_
  refine ab_aload_n 3 d_S_matchRange_11 rfl rfl ?_
  refine sa_getI kf_S_51 d_S_matchRange_12 hk2 rfl ?_
  refine ab_istore (lv' := [(4, .int (S1.1 k2 2)), (3, .int (S1.1 k2 0)), (0, .ref (g.2.1 + 8)), (1, .ref (g.2.1 + k1)), (2, .ref (g.2.1 + k2))]) d_S_matchRange_15 (Nat.le_of_ble_eq_true rfl) rfl ?_
  refine ab_sub (lv' := [(0, .ref (g.2.1 + 8)), (1, .ref (g.2.1 + k1)), (2, .ref (g.2.1 + k2)), (3, .int (S1.1 k2 0)), (4, .int (S1.1 k2 2))]) [2, 3, 4, 1, 0] rfl ?_
  exact HF
set_option maxRecDepth 100000 in
theorem f_S_matchRange_17 {g : lp_G} {d : Nat} {Q : SS → Prop} {S : SS} {x3 : Int32} {x4 : Int32} {k1 : Nat} (hk1 : isC k1) {k2 : Nat} (hk2 : isR k2)
    (HF : (S.1 k2 1 ≤ x3 → Q S) ∧ (¬ S.1 k2 1 ≤ x3 → (S.1 k2 3 ≤ x4 → Q S) ∧ (¬ S.1 k2 3 ≤ x4 → MtI g um_C_areEqual d [.ref (g.2.1 + k1), .int x3, .int x4] S (fun r6 S5 => (r6 = 0 → (vp_in (x3 + (1 : Int32)) 25) ∧ ((vp_in x4 25) ∧ ((vp_in x3 25) ∧ ((vp_in (x4 + (1 : Int32)) 25) ∧ ((S5.2 (10 + 1 * (x3 + (1 : Int32)).toNatClampNeg) x4.toNatClampNeg < S5.2 (10 + 1 * x3.toNatClampNeg) (x4 + (1 : Int32)).toNatClampNeg → AtV g um_S_matchRange (d + 1) Q 17 [(0, .ref (g.2.1 + 8)), (1, .ref (g.2.1 + k1)), (2, .ref (g.2.1 + k2)), (3, .int x3), (4, .int (x4 + 1))] [] S5) ∧ (¬ S5.2 (10 + 1 * (x3 + (1 : Int32)).toNatClampNeg) x4.toNatClampNeg < S5.2 (10 + 1 * x3.toNatClampNeg) (x4 + (1 : Int32)).toNatClampNeg → AtV g um_S_matchRange (d + 1) Q 17 [(0, .ref (g.2.1 + 8)), (1, .ref (g.2.1 + k1)), (2, .ref (g.2.1 + k2)), (3, .int (x3 + 1)), (4, .int x4)] [] S5)))))) ∧ (¬ r6 = 0 → MtV g um_C_pair d [.ref (g.2.1 + k1), .int x3, .int x4] S5 (fun S13 => AtV g um_S_matchRange (d + 1) Q 17 [(0, .ref (g.2.1 + 8)), (1, .ref (g.2.1 + k1)), (2, .ref (g.2.1 + k2)), (3, .int (x3 + 1)), (4, .int (x4 + 1))] [] S13)))))) : AtV g um_S_matchRange (d + 1) Q 17 [(0, .ref (g.2.1 + 8)), (1, .ref (g.2.1 + k1)), (2, .ref (g.2.1 + k2)), (3, .int x3), (4, .int x4)] [] S := by
  refine ab_iload_n 3 d_S_matchRange_17 rfl rfl ?_
  refine ab_aload_n 2 d_S_matchRange_18 rfl rfl ?_
  refine sa_getI kf_S_53 d_S_matchRange_19 hk2 rfl ?_
  refine ab_icmp_ge (tgt := 97) d_S_matchRange_22 (by decide) (fun b3 => ?_) (fun b3 => ?_)
  · replace HF := HF.1 b3
    exact sa_ret rfl d_S_matchRange_97 HF
  · replace HF := HF.2 b3
    refine ab_iload 4 d_S_matchRange_25 rfl ?_
    refine ab_aload_n 2 d_S_matchRange_27 rfl rfl ?_
    refine sa_getI kf_S_56 d_S_matchRange_28 hk2 rfl ?_
    refine ab_icmp_ge (tgt := 97) d_S_matchRange_31 (by decide) (fun b4 => ?_) (fun b4 => ?_)
    · replace HF := HF.1 b4
      exact sa_ret rfl d_S_matchRange_97 HF
    · replace HF := HF.2 b4
      refine ab_aload_n 1 d_S_matchRange_34 rfl rfl ?_
      refine ab_iload_n 3 d_S_matchRange_35 rfl rfl ?_
      refine ab_iload 4 d_S_matchRange_36 rfl ?_
      refine sa_callVi (As := [.int x3, .int x4]) (rest := []) kc_S_59 d_S_matchRange_38 hk1.1 rfl rfl rfl (Nat.le_of_ble_eq_true rfl) enV (Nat.le_of_ble_eq_true rfl) ⟨Nat.zero_le _, Nat.zero_le _⟩ HF (fun r6 S5 HF => ?_)
      refine ab_if_eq (tgt := 60) d_S_matchRange_41 (by decide) (fun b7 => ?_) (fun b7 => ?_)
      · replace HF := HF.1 b7
        refine ab_aload_n 0 d_S_matchRange_60 rfl rfl ?_
        refine sa_getR (r := 9) kf_S_11 d_S_matchRange_61 sh_8 rfl ?_
        refine ab_iload_n 3 d_S_matchRange_64 rfl rfl ?_
        refine ab_iconst (v := (1 : Int32)) d_S_matchRange_65 (by decide) ?_
        refine ab_iadd d_S_matchRange_66 ?_
        obtain ⟨c8, HF⟩ := HF
        refine sa_aald (ty := .array .int) d_S_matchRange_67 sh_9 rfl rfl c8 ?_
        refine ab_iload 4 d_S_matchRange_68 rfl ?_
        obtain ⟨c9, HF⟩ := HF
        refine sa_iald d_S_matchRange_70 (sr_9 _ (vp_lt c8)) c9 ?_
        refine ab_aload_n 0 d_S_matchRange_71 rfl rfl ?_
        refine sa_getR (r := 9) kf_S_11 d_S_matchRange_72 sh_8 rfl ?_
        refine ab_iload_n 3 d_S_matchRange_75 rfl rfl ?_
        obtain ⟨c10, HF⟩ := HF
        refine sa_aald (ty := .array .int) d_S_matchRange_76 sh_9 rfl rfl c10 ?_
        refine ab_iload 4 d_S_matchRange_77 rfl ?_
        refine ab_iconst (v := (1 : Int32)) d_S_matchRange_79 (by decide) ?_
        refine ab_iadd d_S_matchRange_80 ?_
        obtain ⟨c11, HF⟩ := HF
        refine sa_iald d_S_matchRange_81 (sr_9 _ (vp_lt c10)) c11 ?_
        refine ab_icmp_lt (tgt := 91) d_S_matchRange_82 (by decide) (fun b12 => ?_) (fun b12 => ?_)
        · replace HF := HF.1 b12
          refine ab_iinc (v := x4 + 1) (lv' := [(4, .int (x4 + 1)), (0, .ref (g.2.1 + 8)), (1, .ref (g.2.1 + k1)), (2, .ref (g.2.1 + k2)), (3, .int x3)]) 4 d_S_matchRange_91 rfl (congrArg (fun z => x4 + z) (show Int32.ofInt 1 = (1 : Int32) by decide)) (Nat.le_of_ble_eq_true rfl) rfl ?_
          refine ab_goto (tgt := 17) d_S_matchRange_94 (by decide) ?_
          refine ab_sub (lv' := [(0, .ref (g.2.1 + 8)), (1, .ref (g.2.1 + k1)), (2, .ref (g.2.1 + k2)), (3, .int x3), (4, .int (x4 + 1))]) [1, 2, 3, 4, 0] rfl ?_
          exact HF
        · replace HF := HF.2 b12
          refine ab_iinc (v := x3 + 1) (lv' := [(3, .int (x3 + 1)), (0, .ref (g.2.1 + 8)), (1, .ref (g.2.1 + k1)), (2, .ref (g.2.1 + k2)), (4, .int x4)]) 3 d_S_matchRange_85 rfl (congrArg (fun z => x3 + z) (show Int32.ofInt 1 = (1 : Int32) by decide)) (Nat.le_of_ble_eq_true rfl) rfl ?_
          refine ab_goto (tgt := 17) d_S_matchRange_88 (by decide) ?_
          refine ab_sub (lv' := [(0, .ref (g.2.1 + 8)), (1, .ref (g.2.1 + k1)), (2, .ref (g.2.1 + k2)), (3, .int (x3 + 1)), (4, .int x4)]) [1, 2, 3, 0, 4] rfl ?_
          exact HF
      · replace HF := HF.2 b7
        refine ab_aload_n 1 d_S_matchRange_44 rfl rfl ?_
        refine ab_iload_n 3 d_S_matchRange_45 rfl rfl ?_
        refine ab_iload 4 d_S_matchRange_46 rfl ?_
        refine sa_callVv (As := [.int x3, .int x4]) (rest := []) kc_S_63 d_S_matchRange_48 hk1.1 rfl rfl rfl (Nat.le_of_ble_eq_true rfl) enV (Nat.le_of_ble_eq_true rfl) ⟨Nat.zero_le _, Nat.zero_le _⟩ HF (fun S13 HF => ?_)
        refine ab_iinc (v := x3 + 1) (lv' := [(3, .int (x3 + 1)), (0, .ref (g.2.1 + 8)), (1, .ref (g.2.1 + k1)), (2, .ref (g.2.1 + k2)), (4, .int x4)]) 3 d_S_matchRange_51 rfl (congrArg (fun z => x3 + z) (show Int32.ofInt 1 = (1 : Int32) by decide)) (Nat.le_of_ble_eq_true rfl) rfl ?_
        refine ab_iinc (v := x4 + 1) (lv' := [(4, .int (x4 + 1)), (3, .int (x3 + 1)), (0, .ref (g.2.1 + 8)), (1, .ref (g.2.1 + k1)), (2, .ref (g.2.1 + k2))]) 4 d_S_matchRange_54 rfl (congrArg (fun z => x4 + z) (show Int32.ofInt 1 = (1 : Int32) by decide)) (Nat.le_of_ble_eq_true rfl) rfl ?_
        refine ab_goto (tgt := 17) d_S_matchRange_57 (by decide) ?_
        refine ab_sub (lv' := [(0, .ref (g.2.1 + 8)), (1, .ref (g.2.1 + k1)), (2, .ref (g.2.1 + k2)), (3, .int (x3 + 1)), (4, .int (x4 + 1))]) [2, 3, 4, 1, 0] rfl ?_
        exact HF
set_option maxRecDepth 100000 in
theorem f_S_countMost {g : lp_G} {d : Nat} {Q : SS → Prop} {S : SS} {k1 : Nat} (hk1 : isC k1) {k2 : Nat} (hk2 : isR k2)
    (HF : AtV g um_S_countMost (d + 1) Q 5 [(0, .ref (g.2.1 + 8)), (1, .ref (g.2.1 + k1)), (2, .ref (g.2.1 + k2)), (3, .int (S.1 k2 1))] [] S) : MtV g um_S_countMost (d + 1) [.ref (g.2.1 + 8), .ref (g.2.1 + k1), .ref (g.2.1 + k2)] S Q := by
  refine sa_entryV (lv' := [(0, .ref (g.2.1 + 8)), (1, .ref (g.2.1 + k1)), (2, .ref (g.2.1 + k2))]) (by decide +kernel) (Nat.le_of_ble_eq_true rfl) rfl ?_
  refine ab_aload_n 2 d_S_countMost_0 rfl rfl ?_
  refine sa_getI kf_S_53 d_S_countMost_1 hk2 rfl ?_
  refine ab_istore_n (lv' := [(3, .int (S.1 k2 1)), (0, .ref (g.2.1 + 8)), (1, .ref (g.2.1 + k1)), (2, .ref (g.2.1 + k2))]) d_S_countMost_4 rfl (Nat.le_of_ble_eq_true rfl) rfl ?_
  refine ab_sub (lv' := [(0, .ref (g.2.1 + 8)), (1, .ref (g.2.1 + k1)), (2, .ref (g.2.1 + k2)), (3, .int (S.1 k2 1))]) [1, 2, 3, 0] rfl ?_
  exact HF
set_option maxRecDepth 100000 in
theorem f_S_countMost_5 {g : lp_G} {d : Nat} {Q : SS → Prop} {S : SS} {x3 : Int32} {k1 : Nat} (hk1 : isC k1) {k2 : Nat} (hk2 : isR k2)
    (HF : (x3 < S.1 k2 0 → Q S) ∧ (¬ x3 < S.1 k2 0 → AtV g um_S_countMost (d + 1) Q 19 [(0, .ref (g.2.1 + 8)), (1, .ref (g.2.1 + k1)), (2, .ref (g.2.1 + k2)), (3, .int x3), (4, .int (S.1 k2 3))] [] S)) : AtV g um_S_countMost (d + 1) Q 5 [(0, .ref (g.2.1 + 8)), (1, .ref (g.2.1 + k1)), (2, .ref (g.2.1 + k2)), (3, .int x3)] [] S := by
  refine ab_iload_n 3 d_S_countMost_5 rfl rfl ?_
  refine ab_aload_n 2 d_S_countMost_6 rfl rfl ?_
  refine sa_getI kf_S_49 d_S_countMost_7 hk2 rfl ?_
  refine ab_icmp_lt (tgt := 141) d_S_countMost_10 (by decide) (fun b1 => ?_) (fun b1 => ?_)
  · replace HF := HF.1 b1
    exact sa_ret rfl d_S_countMost_141 HF
  · replace HF := HF.2 b1
    refine ab_aload_n 2 d_S_countMost_13 rfl rfl ?_
    refine sa_getI kf_S_56 d_S_countMost_14 hk2 rfl ?_
    refine ab_istore (lv' := [(4, .int (S.1 k2 3)), (0, .ref (g.2.1 + 8)), (1, .ref (g.2.1 + k1)), (2, .ref (g.2.1 + k2)), (3, .int x3)]) d_S_countMost_17 (Nat.le_of_ble_eq_true rfl) rfl ?_
    refine ab_sub (lv' := [(0, .ref (g.2.1 + 8)), (1, .ref (g.2.1 + k1)), (2, .ref (g.2.1 + k2)), (3, .int x3), (4, .int (S.1 k2 3))]) [1, 2, 3, 4, 0] rfl ?_
    exact HF
set_option maxRecDepth 100000 in
theorem f_S_countMost_19 {g : lp_G} {d : Nat} {Q : SS → Prop} {S : SS} {x3 : Int32} {x4 : Int32} {k1 : Nat} (hk1 : isC k1) {k2 : Nat} (hk2 : isR k2)
    (HF : (x4 < S.1 k2 2 → AtV g um_S_countMost (d + 1) Q 5 [(0, .ref (g.2.1 + 8)), (1, .ref (g.2.1 + k1)), (2, .ref (g.2.1 + k2)), (3, .int (x3 + (-1)))] [] S) ∧ (¬ x4 < S.1 k2 2 → (x3 = S.1 k2 1 → (vp_in x3 25) ∧ ((vp_in x4 25) ∧ (∀ S6 : SS, S6 = setA S (10 + 1 * x3.toNatClampNeg) x4.toNatClampNeg (0 : Int32) → AtV g um_S_countMost (d + 1) Q 19 [(0, .ref (g.2.1 + 8)), (1, .ref (g.2.1 + k1)), (2, .ref (g.2.1 + k2)), (3, .int x3), (4, .int (x4 + (-1)))] [] S6))) ∧ (¬ x3 = S.1 k2 1 → (¬ x4 = S.1 k2 3 → MtI g um_C_areEqual d [.ref (g.2.1 + k1), .int x3, .int x4] S (fun r9 S8 => (r9 = 0 → (vp_in x3 25) ∧ ((vp_in (x3 + (1 : Int32)) 25) ∧ ((vp_in x4 25) ∧ ((vp_in x3 25) ∧ ((vp_in (x4 + (1 : Int32)) 25) ∧ ((vp_in x4 25) ∧ (∀ S17 : SS, S17 = setA S8 (10 + 1 * x3.toNatClampNeg) x4.toNatClampNeg (if S8.2 (10 + 1 * (x3 + (1 : Int32)).toNatClampNeg) x4.toNatClampNeg < S8.2 (10 + 1 * x3.toNatClampNeg) (x4 + (1 : Int32)).toNatClampNeg then S8.2 (10 + 1 * x3.toNatClampNeg) (x4 + (1 : Int32)).toNatClampNeg else S8.2 (10 + 1 * (x3 + (1 : Int32)).toNatClampNeg) x4.toNatClampNeg) → AtV g um_S_countMost (d + 1) Q 19 [(0, .ref (g.2.1 + 8)), (1, .ref (g.2.1 + k1)), (2, .ref (g.2.1 + k2)), (3, .int x3), (4, .int (x4 + (-1)))] [] S17))))))) ∧ (¬ r9 = 0 → (vp_in x3 25) ∧ ((vp_in (x3 + (1 : Int32)) 25) ∧ ((vp_in (x4 + (1 : Int32)) 25) ∧ ((vp_in x4 25) ∧ (∀ S22 : SS, S22 = setA S8 (10 + 1 * x3.toNatClampNeg) x4.toNatClampNeg ((S8.2 (10 + 1 * (x3 + (1 : Int32)).toNatClampNeg) (x4 + (1 : Int32)).toNatClampNeg) + (1 : Int32)) → AtV g um_S_countMost (d + 1) Q 19 [(0, .ref (g.2.1 + 8)), (1, .ref (g.2.1 + k1)), (2, .ref (g.2.1 + k2)), (3, .int x3), (4, .int (x4 + (-1)))] [] S22))))))) ∧ (x4 = S.1 k2 3 → (vp_in x3 25) ∧ ((vp_in x4 25) ∧ (∀ S25 : SS, S25 = setA S (10 + 1 * x3.toNatClampNeg) x4.toNatClampNeg (0 : Int32) → AtV g um_S_countMost (d + 1) Q 19 [(0, .ref (g.2.1 + 8)), (1, .ref (g.2.1 + k1)), (2, .ref (g.2.1 + k2)), (3, .int x3), (4, .int (x4 + (-1)))] [] S25)))))) : AtV g um_S_countMost (d + 1) Q 19 [(0, .ref (g.2.1 + 8)), (1, .ref (g.2.1 + k1)), (2, .ref (g.2.1 + k2)), (3, .int x3), (4, .int x4)] [] S := by
  refine ab_iload 4 d_S_countMost_19 rfl ?_
  refine ab_aload_n 2 d_S_countMost_21 rfl rfl ?_
  refine sa_getI kf_S_51 d_S_countMost_22 hk2 rfl ?_
  refine ab_icmp_lt (tgt := 135) d_S_countMost_25 (by decide) (fun b2 => ?_) (fun b2 => ?_)
  · replace HF := HF.1 b2
    refine ab_iinc (v := x3 + (-1)) (lv' := [(3, .int (x3 + (-1))), (0, .ref (g.2.1 + 8)), (1, .ref (g.2.1 + k1)), (2, .ref (g.2.1 + k2)), (4, .int x4)]) 3 d_S_countMost_135 rfl (congrArg (fun z => x3 + z) (show Int32.ofInt (-1) = (-1 : Int32) by decide)) (Nat.le_of_ble_eq_true rfl) rfl ?_
    refine ab_goto (tgt := 5) d_S_countMost_138 (by decide) ?_
    refine ab_sub (lv' := [(0, .ref (g.2.1 + 8)), (1, .ref (g.2.1 + k1)), (2, .ref (g.2.1 + k2)), (3, .int (x3 + (-1)))]) [1, 2, 3, 0] rfl ?_
    exact HF
  · replace HF := HF.2 b2
    refine ab_iload_n 3 d_S_countMost_28 rfl rfl ?_
    refine ab_aload_n 2 d_S_countMost_29 rfl rfl ?_
    refine sa_getI kf_S_53 d_S_countMost_30 hk2 rfl ?_
    refine ab_icmp_eq (tgt := 45) d_S_countMost_33 (by decide) (fun b3 => ?_) (fun b3 => ?_)
    · replace HF := HF.1 b3
      refine ab_aload_n 0 d_S_countMost_45 rfl rfl ?_
      refine sa_getR (r := 9) kf_S_11 d_S_countMost_46 sh_8 rfl ?_
      refine ab_iload_n 3 d_S_countMost_49 rfl rfl ?_
      obtain ⟨c4, HF⟩ := HF
      refine sa_aald (ty := .array .int) d_S_countMost_50 sh_9 rfl rfl c4 ?_
      refine ab_iload 4 d_S_countMost_51 rfl ?_
      refine ab_iconst (v := (0 : Int32)) d_S_countMost_53 (by decide) ?_
      obtain ⟨c5, HF⟩ := HF
      refine sa_iastn d_S_countMost_54 (sr_9 _ (vp_lt c4)) c5 (fun S6 hS6 => ?_)
      replace HF := HF S6 hS6
      refine ab_goto (tgt := 129) d_S_countMost_55 (by decide) ?_
      refine ab_iinc (v := x4 + (-1)) (lv' := [(4, .int (x4 + (-1))), (0, .ref (g.2.1 + 8)), (1, .ref (g.2.1 + k1)), (2, .ref (g.2.1 + k2)), (3, .int x3)]) 4 d_S_countMost_129 rfl (congrArg (fun z => x4 + z) (show Int32.ofInt (-1) = (-1 : Int32) by decide)) (Nat.le_of_ble_eq_true rfl) rfl ?_
      refine ab_goto (tgt := 19) d_S_countMost_132 (by decide) ?_
      refine ab_sub (lv' := [(0, .ref (g.2.1 + 8)), (1, .ref (g.2.1 + k1)), (2, .ref (g.2.1 + k2)), (3, .int x3), (4, .int (x4 + (-1)))]) [1, 2, 3, 4, 0] rfl ?_
      exact HF
    · replace HF := HF.2 b3
      refine ab_iload 4 d_S_countMost_36 rfl ?_
      refine ab_aload_n 2 d_S_countMost_38 rfl rfl ?_
      refine sa_getI kf_S_56 d_S_countMost_39 hk2 rfl ?_
      refine ab_icmp_ne (tgt := 58) d_S_countMost_42 (by decide) (fun b7 => ?_) (fun b7 => ?_)
      · replace HF := HF.1 b7
        refine ab_aload_n 1 d_S_countMost_58 rfl rfl ?_
        refine ab_iload_n 3 d_S_countMost_59 rfl rfl ?_
        refine ab_iload 4 d_S_countMost_60 rfl ?_
        refine sa_callVi (As := [.int x3, .int x4]) (rest := []) kc_S_59 d_S_countMost_62 hk1.1 rfl rfl rfl (Nat.le_of_ble_eq_true rfl) enV (Nat.le_of_ble_eq_true rfl) ⟨Nat.zero_le _, Nat.zero_le _⟩ HF (fun r9 S8 HF => ?_)
        refine ab_if_eq (tgt := 95) d_S_countMost_65 (by decide) (fun b10 => ?_) (fun b10 => ?_)
        · replace HF := HF.1 b10
          refine ab_aload_n 0 d_S_countMost_95 rfl rfl ?_
          refine sa_getR (r := 9) kf_S_11 d_S_countMost_96 sh_8 rfl ?_
          refine ab_iload_n 3 d_S_countMost_99 rfl rfl ?_
          obtain ⟨c11, HF⟩ := HF
          refine sa_aald (ty := .array .int) d_S_countMost_100 sh_9 rfl rfl c11 ?_
          refine ab_iload 4 d_S_countMost_101 rfl ?_
          refine ab_aload_n 0 d_S_countMost_103 rfl rfl ?_
          refine sa_getR (r := 9) kf_S_11 d_S_countMost_104 sh_8 rfl ?_
          refine ab_iload_n 3 d_S_countMost_107 rfl rfl ?_
          refine ab_iconst (v := (1 : Int32)) d_S_countMost_108 (by decide) ?_
          refine ab_iadd d_S_countMost_109 ?_
          obtain ⟨c12, HF⟩ := HF
          refine sa_aald (ty := .array .int) d_S_countMost_110 sh_9 rfl rfl c12 ?_
          refine ab_iload 4 d_S_countMost_111 rfl ?_
          obtain ⟨c13, HF⟩ := HF
          refine sa_iald d_S_countMost_113 (sr_9 _ (vp_lt c12)) c13 ?_
          refine ab_aload_n 0 d_S_countMost_114 rfl rfl ?_
          refine sa_getR (r := 9) kf_S_11 d_S_countMost_115 sh_8 rfl ?_
          refine ab_iload_n 3 d_S_countMost_118 rfl rfl ?_
          obtain ⟨c14, HF⟩ := HF
          refine sa_aald (ty := .array .int) d_S_countMost_119 sh_9 rfl rfl c14 ?_
          refine ab_iload 4 d_S_countMost_120 rfl ?_
          refine ab_iconst (v := (1 : Int32)) d_S_countMost_122 (by decide) ?_
          refine ab_iadd d_S_countMost_123 ?_
          obtain ⟨c15, HF⟩ := HF
          refine sa_iald d_S_countMost_124 (sr_9 _ (vp_lt c14)) c15 ?_
          refine sa_mmax km_S_67 d_S_countMost_125 enV (Nat.le_of_ble_eq_true rfl) ⟨Nat.zero_le _, Nat.zero_le _⟩ ?_
          obtain ⟨c16, HF⟩ := HF
          refine sa_iastn d_S_countMost_128 (sr_9 _ (vp_lt c14)) c16 (fun S17 hS17 => ?_)
          replace HF := HF S17 hS17
          refine ab_iinc (v := x4 + (-1)) (lv' := [(4, .int (x4 + (-1))), (0, .ref (g.2.1 + 8)), (1, .ref (g.2.1 + k1)), (2, .ref (g.2.1 + k2)), (3, .int x3)]) 4 d_S_countMost_129 rfl (congrArg (fun z => x4 + z) (show Int32.ofInt (-1) = (-1 : Int32) by decide)) (Nat.le_of_ble_eq_true rfl) rfl ?_
          refine ab_goto (tgt := 19) d_S_countMost_132 (by decide) ?_
          refine ab_sub (lv' := [(0, .ref (g.2.1 + 8)), (1, .ref (g.2.1 + k1)), (2, .ref (g.2.1 + k2)), (3, .int x3), (4, .int (x4 + (-1)))]) [1, 2, 3, 4, 0] rfl ?_
          exact HF
        · replace HF := HF.2 b10
          refine ab_aload_n 0 d_S_countMost_68 rfl rfl ?_
          refine sa_getR (r := 9) kf_S_11 d_S_countMost_69 sh_8 rfl ?_
          refine ab_iload_n 3 d_S_countMost_72 rfl rfl ?_
          obtain ⟨c18, HF⟩ := HF
          refine sa_aald (ty := .array .int) d_S_countMost_73 sh_9 rfl rfl c18 ?_
          refine ab_iload 4 d_S_countMost_74 rfl ?_
          refine ab_aload_n 0 d_S_countMost_76 rfl rfl ?_
          refine sa_getR (r := 9) kf_S_11 d_S_countMost_77 sh_8 rfl ?_
          refine ab_iload_n 3 d_S_countMost_80 rfl rfl ?_
          refine ab_iconst (v := (1 : Int32)) d_S_countMost_81 (by decide) ?_
          refine ab_iadd d_S_countMost_82 ?_
          obtain ⟨c19, HF⟩ := HF
          refine sa_aald (ty := .array .int) d_S_countMost_83 sh_9 rfl rfl c19 ?_
          refine ab_iload 4 d_S_countMost_84 rfl ?_
          refine ab_iconst (v := (1 : Int32)) d_S_countMost_86 (by decide) ?_
          refine ab_iadd d_S_countMost_87 ?_
          obtain ⟨c20, HF⟩ := HF
          refine sa_iald d_S_countMost_88 (sr_9 _ (vp_lt c19)) c20 ?_
          refine ab_iconst (v := (1 : Int32)) d_S_countMost_89 (by decide) ?_
          refine ab_iadd d_S_countMost_90 ?_
          obtain ⟨c21, HF⟩ := HF
          refine sa_iastn d_S_countMost_91 (sr_9 _ (vp_lt c18)) c21 (fun S22 hS22 => ?_)
          replace HF := HF S22 hS22
          refine ab_goto (tgt := 129) d_S_countMost_92 (by decide) ?_
          refine ab_iinc (v := x4 + (-1)) (lv' := [(4, .int (x4 + (-1))), (0, .ref (g.2.1 + 8)), (1, .ref (g.2.1 + k1)), (2, .ref (g.2.1 + k2)), (3, .int x3)]) 4 d_S_countMost_129 rfl (congrArg (fun z => x4 + z) (show Int32.ofInt (-1) = (-1 : Int32) by decide)) (Nat.le_of_ble_eq_true rfl) rfl ?_
          refine ab_goto (tgt := 19) d_S_countMost_132 (by decide) ?_
          refine ab_sub (lv' := [(0, .ref (g.2.1 + 8)), (1, .ref (g.2.1 + k1)), (2, .ref (g.2.1 + k2)), (3, .int x3), (4, .int (x4 + (-1)))]) [1, 2, 3, 4, 0] rfl ?_
          exact HF
      · replace HF := HF.2 b7
        refine ab_aload_n 0 d_S_countMost_45 rfl rfl ?_
        refine sa_getR (r := 9) kf_S_11 d_S_countMost_46 sh_8 rfl ?_
        refine ab_iload_n 3 d_S_countMost_49 rfl rfl ?_
        obtain ⟨c23, HF⟩ := HF
        refine sa_aald (ty := .array .int) d_S_countMost_50 sh_9 rfl rfl c23 ?_
        refine ab_iload 4 d_S_countMost_51 rfl ?_
        refine ab_iconst (v := (0 : Int32)) d_S_countMost_53 (by decide) ?_
        obtain ⟨c24, HF⟩ := HF
        refine sa_iastn d_S_countMost_54 (sr_9 _ (vp_lt c23)) c24 (fun S25 hS25 => ?_)
        replace HF := HF S25 hS25
        refine ab_goto (tgt := 129) d_S_countMost_55 (by decide) ?_
        refine ab_iinc (v := x4 + (-1)) (lv' := [(4, .int (x4 + (-1))), (0, .ref (g.2.1 + 8)), (1, .ref (g.2.1 + k1)), (2, .ref (g.2.1 + k2)), (3, .int x3)]) 4 d_S_countMost_129 rfl (congrArg (fun z => x4 + z) (show Int32.ofInt (-1) = (-1 : Int32) by decide)) (Nat.le_of_ble_eq_true rfl) rfl ?_
        refine ab_goto (tgt := 19) d_S_countMost_132 (by decide) ?_
        refine ab_sub (lv' := [(0, .ref (g.2.1 + 8)), (1, .ref (g.2.1 + k1)), (2, .ref (g.2.1 + k2)), (3, .int x3), (4, .int (x4 + (-1)))]) [1, 2, 3, 4, 0] rfl ?_
        exact HF
set_option maxRecDepth 100000 in
theorem f_O_matchTexts {g : lp_G} {d : Nat} {Q : SS → Prop} {S : SS} {k1 : Nat} (hk1 : isC k1)
    (HF : ∀ S1 : SS, S1 = setI S 36 2 (0 : Int32) → MtV g um_O_keepForLater d [.ref (g.2.1 + 36), .int (0 : Int32), .int (S1.1 (k1 + 1) 1), .int (0 : Int32), .int (S1.1 (k1 + 3) 1)] S1 (fun S2 => AtV g um_O_matchTexts (d + 1) Q 27 [(0, .ref (g.2.1 + 36)), (1, .ref (g.2.1 + k1)), (2, .int (0 : Int32))] [] S2)) : MtV g um_O_matchTexts (d + 1) [.ref (g.2.1 + 36), .ref (g.2.1 + k1)] S Q := by
  refine sa_entryV (lv' := [(0, .ref (g.2.1 + 36)), (1, .ref (g.2.1 + k1))]) (by decide +kernel) (Nat.le_of_ble_eq_true rfl) rfl ?_
  refine ab_aload_n 0 d_O_matchTexts_0 rfl rfl ?_
  refine ab_iconst (v := (0 : Int32)) d_O_matchTexts_1 (by decide) ?_
  refine sa_putIn kp_O_32 d_O_matchTexts_2 sh_36 rfl (fun S1 hS1 => ?_)
  replace HF := HF S1 hS1
  refine ab_aload_n 0 d_O_matchTexts_5 rfl rfl ?_
  refine ab_iconst (v := (0 : Int32)) d_O_matchTexts_6 (by decide) ?_
  refine ab_aload_n 1 d_O_matchTexts_7 rfl rfl ?_
  refine sa_getR (r := k1 + 1) kf_O_36 d_O_matchTexts_8 hk1.1 rfl ?_
  refine sa_getI kf_O_42 d_O_matchTexts_11 hk1.2.1 rfl ?_
  refine ab_iconst (v := (0 : Int32)) d_O_matchTexts_14 (by decide) ?_
  refine ab_aload_n 1 d_O_matchTexts_15 rfl rfl ?_
  refine sa_getR (r := k1 + 3) kf_O_47 d_O_matchTexts_16 hk1.1 rfl ?_
  refine sa_getI kf_O_42 d_O_matchTexts_19 hk1.2.2.2.1 rfl ?_
  refine sa_callVv (As := [.int (0 : Int32), .int (S1.1 (k1 + 1) 1), .int (0 : Int32), .int (S1.1 (k1 + 3) 1)]) (rest := []) kc_O_50 d_O_matchTexts_22 sh_36 rfl rfl rfl (Nat.le_of_ble_eq_true rfl) enV (Nat.le_of_ble_eq_true rfl) ⟨Nat.zero_le _, Nat.zero_le _⟩ HF (fun S2 HF => ?_)
  refine ab_iconst (v := (0 : Int32)) d_O_matchTexts_25 (by decide) ?_
  refine ab_istore_n (lv' := [(2, .int (0 : Int32)), (0, .ref (g.2.1 + 36)), (1, .ref (g.2.1 + k1))]) d_O_matchTexts_26 rfl (Nat.le_of_ble_eq_true rfl) rfl ?_
  refine ab_sub (lv' := [(0, .ref (g.2.1 + 36)), (1, .ref (g.2.1 + k1)), (2, .int (0 : Int32))]) [1, 2, 0] rfl ?_
  exact HF
set_option maxRecDepth 100000 in
theorem f_O_matchTexts_27 {g : lp_G} {d : Nat} {Q : SS → Prop} {S : SS} {x2 : Int32} {k1 : Nat} (hk1 : isC k1)
    (HF : (S.1 36 2 ≤ x2 → Q S) ∧ (¬ S.1 36 2 ≤ x2 → (nI 49 ≤ x2 → Q S) ∧ (¬ nI 49 ≤ x2 → (vp_in x2 49) ∧ (MtV g um_O_matchRange d [.ref (g.2.1 + 36), .ref (g.2.1 + k1), .ref (g.2.1 + (41 + 1 * x2.toNatClampNeg))] S (fun S7 => AtV g um_O_matchTexts (d + 1) Q 27 [(0, .ref (g.2.1 + 36)), (1, .ref (g.2.1 + k1)), (2, .int (x2 + 1))] [] S7))))) : AtV g um_O_matchTexts (d + 1) Q 27 [(0, .ref (g.2.1 + 36)), (1, .ref (g.2.1 + k1)), (2, .int x2)] [] S := by
  refine ab_iload_n 2 d_O_matchTexts_27 rfl rfl ?_
  refine ab_aload_n 0 d_O_matchTexts_28 rfl rfl ?_
  refine sa_getI kf_O_32 d_O_matchTexts_29 sh_36 rfl ?_
  refine ab_icmp_ge (tgt := 58) d_O_matchTexts_32 (by decide) (fun b4 => ?_) (fun b4 => ?_)
  · replace HF := HF.1 b4
    exact sa_ret rfl d_O_matchTexts_58 HF
  · replace HF := HF.2 b4
    refine ab_iload_n 2 d_O_matchTexts_35 rfl rfl ?_
    refine ab_bipush (v := nI 49) d_O_matchTexts_36 (by decide) ?_
    refine ab_icmp_ge (tgt := 58) d_O_matchTexts_38 (by decide) (fun b5 => ?_) (fun b5 => ?_)
    · replace HF := HF.1 b5
      exact sa_ret rfl d_O_matchTexts_58 HF
    · replace HF := HF.2 b5
      refine ab_aload_n 0 d_O_matchTexts_41 rfl rfl ?_
      refine ab_aload_n 1 d_O_matchTexts_42 rfl rfl ?_
      refine ab_aload_n 0 d_O_matchTexts_43 rfl rfl ?_
      refine sa_getR (r := 37) kf_O_13 d_O_matchTexts_44 sh_36 rfl ?_
      refine ab_iload_n 2 d_O_matchTexts_47 rfl rfl ?_
      obtain ⟨c6, HF⟩ := HF
      refine sa_aald (ty := .object "LinePatcher$Range") d_O_matchTexts_48 sh_37 rfl rfl c6 ?_
      refine sa_callVv (As := [.ref (g.2.1 + k1), .ref (g.2.1 + (41 + 1 * x2.toNatClampNeg))]) (rest := []) kc_O_54 d_O_matchTexts_49 sh_36 rfl rfl rfl (Nat.le_of_ble_eq_true rfl) enV (Nat.le_of_ble_eq_true rfl) ⟨Nat.zero_le _, Nat.zero_le _⟩ HF (fun S7 HF => ?_)
      refine ab_iinc (v := x2 + 1) (lv' := [(2, .int (x2 + 1)), (0, .ref (g.2.1 + 36)), (1, .ref (g.2.1 + k1))]) 2 d_O_matchTexts_52 rfl (congrArg (fun z => x2 + z) (show Int32.ofInt 1 = (1 : Int32) by decide)) (Nat.le_of_ble_eq_true rfl) rfl ?_
      refine ab_goto (tgt := 27) d_O_matchTexts_55 (by decide) ?_
      refine ab_sub (lv' := [(0, .ref (g.2.1 + 36)), (1, .ref (g.2.1 + k1)), (2, .int (x2 + 1))]) [1, 2, 0] rfl ?_
      exact HF
set_option maxRecDepth 100000 in
theorem f_O_keepForLater {g : lp_G} {d : Nat} {Q : SS → Prop} {S : SS} {x1 : Int32} {x2 : Int32} {x3 : Int32} {x4 : Int32}
    (HF : (x2 ≤ x1 → Q S) ∧ (¬ x2 ≤ x1 → (x4 ≤ x3 → Q S) ∧ (¬ x4 ≤ x3 → (nI 49 ≤ S.1 36 2 → Q S) ∧ (¬ nI 49 ≤ S.1 36 2 → (vp_in (S.1 36 2) 49) ∧ (MtV g um_R_span d [.ref (g.2.1 + (41 + 1 * (S.1 36 2).toNatClampNeg)), .int x1, .int x2, .int x3, .int x4] S (fun S5 => ∀ S7 : SS, S7 = setI S5 36 2 ((S5.1 36 2) + (1 : Int32)) → Q S7)))))) : MtV g um_O_keepForLater (d + 1) [.ref (g.2.1 + 36), .int x1, .int x2, .int x3, .int x4] S Q := by
  refine sa_entryV (lv' := [(0, .ref (g.2.1 + 36)), (1, .int x1), (2, .int x2), (3, .int x3), (4, .int x4)]) (by decide +kernel) (Nat.le_of_ble_eq_true rfl) rfl ?_
  refine ab_iload_n 1 d_O_keepForLater_0 rfl rfl ?_
  refine ab_iload_n 2 d_O_keepForLater_1 rfl rfl ?_
  refine ab_icmp_ge (tgt := 47) d_O_keepForLater_2 (by decide) (fun b1 => ?_) (fun b1 => ?_)
  · replace HF := HF.1 b1
    exact sa_ret rfl d_O_keepForLater_47 HF
  · replace HF := HF.2 b1
    refine ab_iload_n 3 d_O_keepForLater_5 rfl rfl ?_
    refine ab_iload 4 d_O_keepForLater_6 rfl ?_
    refine ab_icmp_ge (tgt := 47) d_O_keepForLater_8 (by decide) (fun b2 => ?_) (fun b2 => ?_)
    · replace HF := HF.1 b2
      exact sa_ret rfl d_O_keepForLater_47 HF
    · replace HF := HF.2 b2
      refine ab_aload_n 0 d_O_keepForLater_11 rfl rfl ?_
      refine sa_getI kf_O_32 d_O_keepForLater_12 sh_36 rfl ?_
      refine ab_bipush (v := nI 49) d_O_keepForLater_15 (by decide) ?_
      refine ab_icmp_ge (tgt := 47) d_O_keepForLater_17 (by decide) (fun b3 => ?_) (fun b3 => ?_)
      · replace HF := HF.1 b3
        exact sa_ret rfl d_O_keepForLater_47 HF
      · replace HF := HF.2 b3
        refine ab_aload_n 0 d_O_keepForLater_20 rfl rfl ?_
        refine sa_getR (r := 37) kf_O_13 d_O_keepForLater_21 sh_36 rfl ?_
        refine ab_aload_n 0 d_O_keepForLater_24 rfl rfl ?_
        refine sa_getI kf_O_32 d_O_keepForLater_25 sh_36 rfl ?_
        obtain ⟨c4, HF⟩ := HF
        refine sa_aald (ty := .object "LinePatcher$Range") d_O_keepForLater_28 sh_37 rfl rfl c4 ?_
        refine ab_iload_n 1 d_O_keepForLater_29 rfl rfl ?_
        refine ab_iload_n 2 d_O_keepForLater_30 rfl rfl ?_
        refine ab_iload_n 3 d_O_keepForLater_31 rfl rfl ?_
        refine ab_iload 4 d_O_keepForLater_32 rfl ?_
        refine sa_callVv (As := [.int x1, .int x2, .int x3, .int x4]) (rest := []) kc_O_58 d_O_keepForLater_34 (sr_37 _ (vp_lt c4)) rfl rfl rfl (Nat.le_of_ble_eq_true rfl) enV (Nat.le_of_ble_eq_true rfl) ⟨Nat.zero_le _, Nat.zero_le _⟩ HF (fun S5 HF => ?_)
        refine ab_aload_n 0 d_O_keepForLater_37 rfl rfl ?_
        refine ab_dup d_O_keepForLater_38 rfl ?_
        refine sa_getI kf_O_32 d_O_keepForLater_39 sh_36 rfl ?_
        refine ab_iconst (v := (1 : Int32)) d_O_keepForLater_42 (by decide) ?_
        refine ab_iadd d_O_keepForLater_43 ?_
        refine sa_putIn kp_O_32 d_O_keepForLater_44 sh_36 rfl (fun S7 hS7 => ?_)
        replace HF := HF S7 hS7
        exact sa_ret rfl d_O_keepForLater_47 HF
set_option maxRecDepth 100000 in
theorem f_O_matchRange {g : lp_G} {d : Nat} {Q : SS → Prop} {S : SS} {k1 : Nat} (hk1 : isC k1) {k2 : Nat} (hk2 : isR k2)
    (HF : MtV g um_O_matchBeginning d [.ref (g.2.1 + 36), .ref (g.2.1 + k1), .ref (g.2.1 + k2)] S (fun S1 => MtV g um_O_matchEnd d [.ref (g.2.1 + 36), .ref (g.2.1 + k1), .ref (g.2.1 + k2)] S1 (fun S3 => MtV g um_O_findPairs d [.ref (g.2.1 + 36), .ref (g.2.1 + k1), .ref (g.2.1 + k2)] S3 (fun S5 => (¬ S5.1 36 6 = 0 → MtI g um_O_rankPairs d [.ref (g.2.1 + 36)] S5 (fun r9 S8 => MtV g um_O_matchAnchors d [.ref (g.2.1 + 36), .ref (g.2.1 + k1), .ref (g.2.1 + k2), .int r9] S8 (fun S10 => Q S10))) ∧ (S5.1 36 6 = 0 → MtV g um_S_matchRange d [.ref (g.2.1 + 8), .ref (g.2.1 + k1), .ref (g.2.1 + k2)] S5 (fun S12 => Q S12)))))) : MtV g um_O_matchRange (d + 1) [.ref (g.2.1 + 36), .ref (g.2.1 + k1), .ref (g.2.1 + k2)] S Q := by
  refine sa_entryV (lv' := [(0, .ref (g.2.1 + 36)), (1, .ref (g.2.1 + k1)), (2, .ref (g.2.1 + k2))]) (by decide +kernel) (Nat.le_of_ble_eq_true rfl) rfl ?_
  refine ab_aload_n 0 d_O_matchRange_0 rfl rfl ?_
  refine ab_aload_n 1 d_O_matchRange_1 rfl rfl ?_
  refine ab_aload_n 2 d_O_matchRange_2 rfl rfl ?_
  refine sa_callVv (As := [.ref (g.2.1 + k1), .ref (g.2.1 + k2)]) (rest := []) kc_O_61 d_O_matchRange_3 sh_36 rfl rfl rfl (Nat.le_of_ble_eq_true rfl) enV (Nat.le_of_ble_eq_true rfl) ⟨Nat.zero_le _, Nat.zero_le _⟩ HF (fun S1 HF => ?_)
  refine ab_aload_n 0 d_O_matchRange_6 rfl rfl ?_
  refine ab_aload_n 1 d_O_matchRange_7 rfl rfl ?_
  refine ab_aload_n 2 d_O_matchRange_8 rfl rfl ?_
  refine sa_callVv (As := [.ref (g.2.1 + k1), .ref (g.2.1 + k2)]) (rest := []) kc_O_64 d_O_matchRange_9 sh_36 rfl rfl rfl (Nat.le_of_ble_eq_true rfl) enV (Nat.le_of_ble_eq_true rfl) ⟨Nat.zero_le _, Nat.zero_le _⟩ HF (fun S3 HF => ?_)
  refine ab_aload_n 0 d_O_matchRange_12 rfl rfl ?_
  refine ab_aload_n 1 d_O_matchRange_13 rfl rfl ?_
  refine ab_aload_n 2 d_O_matchRange_14 rfl rfl ?_
  refine sa_callVv (As := [.ref (g.2.1 + k1), .ref (g.2.1 + k2)]) (rest := []) kc_O_67 d_O_matchRange_15 sh_36 rfl rfl rfl (Nat.le_of_ble_eq_true rfl) enV (Nat.le_of_ble_eq_true rfl) ⟨Nat.zero_le _, Nat.zero_le _⟩ HF (fun S5 HF => ?_)
  refine ab_aload_n 0 d_O_matchRange_18 rfl rfl ?_
  refine sa_getI kf_O_70 d_O_matchRange_19 sh_36 rfl ?_
  refine ab_if_ne (tgt := 37) d_O_matchRange_22 (by decide) (fun b7 => ?_) (fun b7 => ?_)
  · replace HF := HF.1 b7
    refine ab_aload_n 0 d_O_matchRange_37 rfl rfl ?_
    refine ab_aload_n 1 d_O_matchRange_38 rfl rfl ?_
    refine ab_aload_n 2 d_O_matchRange_39 rfl rfl ?_
    refine ab_aload_n 0 d_O_matchRange_40 rfl rfl ?_
    refine sa_callVi (As := []) (rest := [.ref (g.2.1 + k2), .ref (g.2.1 + k1), .ref (g.2.1 + 36)]) kc_O_76 d_O_matchRange_41 sh_36 rfl rfl rfl (Nat.le_of_ble_eq_true rfl) enV (Nat.le_of_ble_eq_true rfl) ⟨Nat.zero_le _, Nat.zero_le _⟩ HF (fun r9 S8 HF => ?_)
    refine sa_callVv (As := [.ref (g.2.1 + k1), .ref (g.2.1 + k2), .int r9]) (rest := []) kc_O_80 d_O_matchRange_44 sh_36 rfl rfl rfl (Nat.le_of_ble_eq_true rfl) enV (Nat.le_of_ble_eq_true rfl) ⟨Nat.zero_le _, Nat.zero_le _⟩ HF (fun S10 HF => ?_)
    exact sa_ret rfl d_O_matchRange_47 HF
  · replace HF := HF.2 b7
    refine ab_aload_n 0 d_O_matchRange_25 rfl rfl ?_
    refine sa_getR (r := 8) kf_O_27 d_O_matchRange_26 sh_36 rfl ?_
    refine ab_aload_n 1 d_O_matchRange_29 rfl rfl ?_
    refine ab_aload_n 2 d_O_matchRange_30 rfl rfl ?_
    refine sa_callVv (As := [.ref (g.2.1 + k1), .ref (g.2.1 + k2)]) (rest := []) kc_O_73 d_O_matchRange_31 sh_8 rfl rfl rfl (Nat.le_of_ble_eq_true rfl) enV (Nat.le_of_ble_eq_true rfl) ⟨Nat.zero_le _, Nat.zero_le _⟩ HF (fun S12 HF => ?_)
    refine ab_goto (tgt := 47) d_O_matchRange_34 (by decide) ?_
    exact sa_ret rfl d_O_matchRange_47 HF
set_option maxRecDepth 100000 in
theorem f_O_matchBeginning {g : lp_G} {d : Nat} {Q : SS → Prop} {S : SS} {k1 : Nat} (hk1 : isC k1) {k2 : Nat} (hk2 : isR k2)
    (HF : AtV g um_O_matchBeginning (d + 1) Q 0 [(1, .ref (g.2.1 + k1)), (2, .ref (g.2.1 + k2))] [] S) : MtV g um_O_matchBeginning (d + 1) [.ref (g.2.1 + 36), .ref (g.2.1 + k1), .ref (g.2.1 + k2)] S Q := by
  refine sa_entryV (lv' := [(0, .ref (g.2.1 + 36)), (1, .ref (g.2.1 + k1)), (2, .ref (g.2.1 + k2))]) (by decide +kernel) (Nat.le_of_ble_eq_true rfl) rfl ?_
  refine ab_sub (lv' := [(1, .ref (g.2.1 + k1)), (2, .ref (g.2.1 + k2))]) [1, 2] rfl ?_
  exact HF
set_option maxRecDepth 100000 in
theorem f_O_matchBeginning_0 {g : lp_G} {d : Nat} {Q : SS → Prop} {S : SS} {k1 : Nat} (hk1 : isC k1) {k2 : Nat} (hk2 : isR k2)
    (HF : (S.1 k2 1 ≤ S.1 k2 0 → Q S) ∧ (¬ S.1 k2 1 ≤ S.1 k2 0 → (S.1 k2 3 ≤ S.1 k2 2 → Q S) ∧ (¬ S.1 k2 3 ≤ S.1 k2 2 → MtI g um_C_areEqual d [.ref (g.2.1 + k1), .int (S.1 k2 0), .int (S.1 k2 2)] S (fun r4 S3 => (r4 = 0 → Q S3) ∧ (¬ r4 = 0 → MtV g um_C_pair d [.ref (g.2.1 + k1), .int (S3.1 k2 0), .int (S3.1 k2 2)] S3 (fun S6 => ∀ S8 : SS, S8 = setI S6 k2 0 ((S6.1 k2 0) + (1 : Int32)) → ∀ S9 : SS, S9 = setI S8 k2 2 ((S8.1 k2 2) + (1 : Int32)) → AtV g um_O_matchBeginning (d + 1) Q 0 [(1, .ref (g.2.1 + k1)), (2, .ref (g.2.1 + k2))] [] S9)))))) : AtV g um_O_matchBeginning (d + 1) Q 0 [(1, .ref (g.2.1 + k1)), (2, .ref (g.2.1 + k2))] [] S := by
  refine ab_aload_n 1 d_O_matchBeginning_0 rfl rfl ?_
  refine sa_getI kf_O_84 d_O_matchBeginning_1 hk2 rfl ?_
  refine ab_aload_n 1 d_O_matchBeginning_4 rfl rfl ?_
  refine sa_getI kf_O_86 d_O_matchBeginning_5 hk2 rfl ?_
  refine ab_icmp_ge (tgt := 72) d_O_matchBeginning_8 (by decide) (fun b1 => ?_) (fun b1 => ?_)
  · replace HF := HF.1 b1
    exact sa_ret rfl d_O_matchBeginning_72 HF
  · replace HF := HF.2 b1
    refine ab_aload_n 1 d_O_matchBeginning_11 rfl rfl ?_
    refine sa_getI kf_O_89 d_O_matchBeginning_12 hk2 rfl ?_
    refine ab_aload_n 1 d_O_matchBeginning_15 rfl rfl ?_
    refine sa_getI kf_O_91 d_O_matchBeginning_16 hk2 rfl ?_
    refine ab_icmp_ge (tgt := 72) d_O_matchBeginning_19 (by decide) (fun b2 => ?_) (fun b2 => ?_)
    · replace HF := HF.1 b2
      exact sa_ret rfl d_O_matchBeginning_72 HF
    · replace HF := HF.2 b2
      refine ab_aload_n 0 d_O_matchBeginning_22 rfl rfl ?_
      refine ab_aload_n 1 d_O_matchBeginning_23 rfl rfl ?_
      refine sa_getI kf_O_84 d_O_matchBeginning_24 hk2 rfl ?_
      refine ab_aload_n 1 d_O_matchBeginning_27 rfl rfl ?_
      refine sa_getI kf_O_89 d_O_matchBeginning_28 hk2 rfl ?_
      refine sa_callVi (As := [.int (S.1 k2 0), .int (S.1 k2 2)]) (rest := []) kc_O_94 d_O_matchBeginning_31 hk1.1 rfl rfl rfl (Nat.le_of_ble_eq_true rfl) enV (Nat.le_of_ble_eq_true rfl) ⟨Nat.zero_le _, Nat.zero_le _⟩ HF (fun r4 S3 HF => ?_)
      refine ab_if_eq (tgt := 72) d_O_matchBeginning_34 (by decide) (fun b5 => ?_) (fun b5 => ?_)
      · replace HF := HF.1 b5
        exact sa_ret rfl d_O_matchBeginning_72 HF
      · replace HF := HF.2 b5
        refine ab_aload_n 0 d_O_matchBeginning_37 rfl rfl ?_
        refine ab_aload_n 1 d_O_matchBeginning_38 rfl rfl ?_
        refine sa_getI kf_O_84 d_O_matchBeginning_39 hk2 rfl ?_
        refine ab_aload_n 1 d_O_matchBeginning_42 rfl rfl ?_
        refine sa_getI kf_O_89 d_O_matchBeginning_43 hk2 rfl ?_
        refine sa_callVv (As := [.int (S3.1 k2 0), .int (S3.1 k2 2)]) (rest := []) kc_O_98 d_O_matchBeginning_46 hk1.1 rfl rfl rfl (Nat.le_of_ble_eq_true rfl) enV (Nat.le_of_ble_eq_true rfl) ⟨Nat.zero_le _, Nat.zero_le _⟩ HF (fun S6 HF => ?_)
        refine ab_aload_n 1 d_O_matchBeginning_49 rfl rfl ?_
        refine ab_dup d_O_matchBeginning_50 rfl ?_
        refine sa_getI kf_O_84 d_O_matchBeginning_51 hk2 rfl ?_
        refine ab_iconst (v := (1 : Int32)) d_O_matchBeginning_54 (by decide) ?_
        refine ab_iadd d_O_matchBeginning_55 ?_
        refine sa_putIn kp_O_84 d_O_matchBeginning_56 hk2 rfl (fun S8 hS8 => ?_)
        replace HF := HF S8 hS8
        refine ab_aload_n 1 d_O_matchBeginning_59 rfl rfl ?_
        refine ab_dup d_O_matchBeginning_60 rfl ?_
        refine sa_getI kf_O_89 d_O_matchBeginning_61 hk2 rfl ?_
        refine ab_iconst (v := (1 : Int32)) d_O_matchBeginning_64 (by decide) ?_
        refine ab_iadd d_O_matchBeginning_65 ?_
        refine sa_putIn kp_O_89 d_O_matchBeginning_66 hk2 rfl (fun S9 hS9 => ?_)
        replace HF := HF S9 hS9
        refine ab_goto (tgt := 0) d_O_matchBeginning_69 (by decide) ?_
        exact HF
set_option maxRecDepth 100000 in
theorem f_O_matchEnd {g : lp_G} {d : Nat} {Q : SS → Prop} {S : SS} {k1 : Nat} (hk1 : isC k1) {k2 : Nat} (hk2 : isR k2)
    (HF : AtV g um_O_matchEnd (d + 1) Q 0 [(1, .ref (g.2.1 + k1)), (2, .ref (g.2.1 + k2))] [] S) : MtV g um_O_matchEnd (d + 1) [.ref (g.2.1 + 36), .ref (g.2.1 + k1), .ref (g.2.1 + k2)] S Q := by
  refine sa_entryV (lv' := [(0, .ref (g.2.1 + 36)), (1, .ref (g.2.1 + k1)), (2, .ref (g.2.1 + k2))]) (by decide +kernel) (Nat.le_of_ble_eq_true rfl) rfl ?_
  refine ab_sub (lv' := [(1, .ref (g.2.1 + k1)), (2, .ref (g.2.1 + k2))]) [1, 2] rfl ?_
  exact HF
set_option maxRecDepth 100000 in
theorem f_O_matchEnd_0 {g : lp_G} {d : Nat} {Q : SS → Prop} {S : SS} {k1 : Nat} (hk1 : isC k1) {k2 : Nat} (hk2 : isR k2)
    (HF : (S.1 k2 1 ≤ S.1 k2 0 → Q S) ∧ (¬ S.1 k2 1 ≤ S.1 k2 0 → (S.1 k2 3 ≤ S.1 k2 2 → Q S) ∧ (¬ S.1 k2 3 ≤ S.1 k2 2 → MtI g um_C_areEqual d [.ref (g.2.1 + k1), .int ((S.1 k2 1) - (1 : Int32)), .int ((S.1 k2 3) - (1 : Int32))] S (fun r4 S3 => (r4 = 0 → Q S3) ∧ (¬ r4 = 0 → ∀ S6 : SS, S6 = setI S3 k2 1 ((S3.1 k2 1) - (1 : Int32)) → ∀ S7 : SS, S7 = setI S6 k2 3 ((S6.1 k2 3) - (1 : Int32)) → MtV g um_C_pair d [.ref (g.2.1 + k1), .int (S7.1 k2 1), .int (S7.1 k2 3)] S7 (fun S8 => AtV g um_O_matchEnd (d + 1) Q 0 [(1, .ref (g.2.1 + k1)), (2, .ref (g.2.1 + k2))] [] S8)))))) : AtV g um_O_matchEnd (d + 1) Q 0 [(1, .ref (g.2.1 + k1)), (2, .ref (g.2.1 + k2))] [] S := by
  refine ab_aload_n 1 d_O_matchEnd_0 rfl rfl ?_
  refine sa_getI kf_O_84 d_O_matchEnd_1 hk2 rfl ?_
  refine ab_aload_n 1 d_O_matchEnd_4 rfl rfl ?_
  refine sa_getI kf_O_86 d_O_matchEnd_5 hk2 rfl ?_
  refine ab_icmp_ge (tgt := 76) d_O_matchEnd_8 (by decide) (fun b1 => ?_) (fun b1 => ?_)
  · replace HF := HF.1 b1
    exact sa_ret rfl d_O_matchEnd_76 HF
  · replace HF := HF.2 b1
    refine ab_aload_n 1 d_O_matchEnd_11 rfl rfl ?_
    refine sa_getI kf_O_89 d_O_matchEnd_12 hk2 rfl ?_
    refine ab_aload_n 1 d_O_matchEnd_15 rfl rfl ?_
    refine sa_getI kf_O_91 d_O_matchEnd_16 hk2 rfl ?_
    refine ab_icmp_ge (tgt := 76) d_O_matchEnd_19 (by decide) (fun b2 => ?_) (fun b2 => ?_)
    · replace HF := HF.1 b2
      exact sa_ret rfl d_O_matchEnd_76 HF
    · replace HF := HF.2 b2
      refine ab_aload_n 0 d_O_matchEnd_22 rfl rfl ?_
      refine ab_aload_n 1 d_O_matchEnd_23 rfl rfl ?_
      refine sa_getI kf_O_86 d_O_matchEnd_24 hk2 rfl ?_
      refine ab_iconst (v := (1 : Int32)) d_O_matchEnd_27 (by decide) ?_
      refine ab_isub d_O_matchEnd_28 ?_
      refine ab_aload_n 1 d_O_matchEnd_29 rfl rfl ?_
      refine sa_getI kf_O_91 d_O_matchEnd_30 hk2 rfl ?_
      refine ab_iconst (v := (1 : Int32)) d_O_matchEnd_33 (by decide) ?_
      refine ab_isub d_O_matchEnd_34 ?_
      refine sa_callVi (As := [.int ((S.1 k2 1) - (1 : Int32)), .int ((S.1 k2 3) - (1 : Int32))]) (rest := []) kc_O_94 d_O_matchEnd_35 hk1.1 rfl rfl rfl (Nat.le_of_ble_eq_true rfl) enV (Nat.le_of_ble_eq_true rfl) ⟨Nat.zero_le _, Nat.zero_le _⟩ HF (fun r4 S3 HF => ?_)
      refine ab_if_eq (tgt := 76) d_O_matchEnd_38 (by decide) (fun b5 => ?_) (fun b5 => ?_)
      · replace HF := HF.1 b5
        exact sa_ret rfl d_O_matchEnd_76 HF
      · replace HF := HF.2 b5
        refine ab_aload_n 1 d_O_matchEnd_41 rfl rfl ?_
        refine ab_dup d_O_matchEnd_42 rfl ?_
        refine sa_getI kf_O_86 d_O_matchEnd_43 hk2 rfl ?_
        refine ab_iconst (v := (1 : Int32)) d_O_matchEnd_46 (by decide) ?_
        refine ab_isub d_O_matchEnd_47 ?_
        refine sa_putIn kp_O_86 d_O_matchEnd_48 hk2 rfl (fun S6 hS6 => ?_)
        replace HF := HF S6 hS6
        refine ab_aload_n 1 d_O_matchEnd_51 rfl rfl ?_
        refine ab_dup d_O_matchEnd_52 rfl ?_
        refine sa_getI kf_O_91 d_O_matchEnd_53 hk2 rfl ?_
        refine ab_iconst (v := (1 : Int32)) d_O_matchEnd_56 (by decide) ?_
        refine ab_isub d_O_matchEnd_57 ?_
        refine sa_putIn kp_O_91 d_O_matchEnd_58 hk2 rfl (fun S7 hS7 => ?_)
        replace HF := HF S7 hS7
        refine ab_aload_n 0 d_O_matchEnd_61 rfl rfl ?_
        refine ab_aload_n 1 d_O_matchEnd_62 rfl rfl ?_
        refine sa_getI kf_O_86 d_O_matchEnd_63 hk2 rfl ?_
        refine ab_aload_n 1 d_O_matchEnd_66 rfl rfl ?_
        refine sa_getI kf_O_91 d_O_matchEnd_67 hk2 rfl ?_
        refine sa_callVv (As := [.int (S7.1 k2 1), .int (S7.1 k2 3)]) (rest := []) kc_O_98 d_O_matchEnd_70 hk1.1 rfl rfl rfl (Nat.le_of_ble_eq_true rfl) enV (Nat.le_of_ble_eq_true rfl) ⟨Nat.zero_le _, Nat.zero_le _⟩ HF (fun S8 HF => ?_)
        refine ab_goto (tgt := 0) d_O_matchEnd_73 (by decide) ?_
        exact HF
set_option maxRecDepth 100000 in
theorem f_O_findPairs {g : lp_G} {d : Nat} {Q : SS → Prop} {S : SS} {k1 : Nat} (hk1 : isC k1) {k2 : Nat} (hk2 : isR k2)
    (HF : ∀ S1 : SS, S1 = setI S 36 6 (0 : Int32) → AtV g um_O_findPairs (d + 1) Q 10 [(0, .ref (g.2.1 + 36)), (1, .ref (g.2.1 + k1)), (2, .ref (g.2.1 + k2)), (3, .int (S1.1 k2 0))] [] S1) : MtV g um_O_findPairs (d + 1) [.ref (g.2.1 + 36), .ref (g.2.1 + k1), .ref (g.2.1 + k2)] S Q := by
  refine sa_entryV (lv' := [(0, .ref (g.2.1 + 36)), (1, .ref (g.2.1 + k1)), (2, .ref (g.2.1 + k2))]) (by decide +kernel) (Nat.le_of_ble_eq_true rfl) rfl ?_
  refine ab_aload_n 0 d_O_findPairs_0 rfl rfl ?_
  refine ab_iconst (v := (0 : Int32)) d_O_findPairs_1 (by decide) ?_
  refine sa_putIn kp_O_70 d_O_findPairs_2 sh_36 rfl (fun S1 hS1 => ?_)
  replace HF := HF S1 hS1
  refine ab_aload_n 2 d_O_findPairs_5 rfl rfl ?_
  refine sa_getI kf_O_84 d_O_findPairs_6 hk2 rfl ?_
  refine ab_istore_n (lv' := [(3, .int (S1.1 k2 0)), (0, .ref (g.2.1 + 36)), (1, .ref (g.2.1 + k1)), (2, .ref (g.2.1 + k2))]) d_O_findPairs_9 rfl (Nat.le_of_ble_eq_true rfl) rfl ?_
  refine ab_sub (lv' := [(0, .ref (g.2.1 + 36)), (1, .ref (g.2.1 + k1)), (2, .ref (g.2.1 + k2)), (3, .int (S1.1 k2 0))]) [1, 2, 3, 0] rfl ?_
  exact HF
set_option maxRecDepth 100000 in
theorem f_O_findPairs_10 {g : lp_G} {d : Nat} {Q : SS → Prop} {S : SS} {x3 : Int32} {k1 : Nat} (hk1 : isC k1) {k2 : Nat} (hk2 : isR k2)
    (HF : (S.1 k2 1 ≤ x3 → Q S) ∧ (¬ S.1 k2 1 ≤ x3 → (vp_in x3 24) ∧ (MtI g um_T_onlyPlace d [.ref (g.2.1 + (k1 + 3)), .int (S.2 (k1 + 2) x3.toNatClampNeg), .int (S.1 k2 2), .int (S.1 k2 3)] S (fun r5 S4 => (r5 = (-3 : Int32) → AtV g um_O_findPairs (d + 1) Q 10 [(0, .ref (g.2.1 + 36)), (1, .ref (g.2.1 + k1)), (2, .ref (g.2.1 + k2)), (3, .int (x3 + 1))] [] S4) ∧ (¬ r5 = (-3 : Int32) → MtI g um_T_onlyPlace d [.ref (g.2.1 + (k1 + 1)), .int (S.2 (k1 + 2) x3.toNatClampNeg), .int (S4.1 k2 0), .int (S4.1 k2 1)] S4 (fun r8 S7 => (¬ r8 = x3 → AtV g um_O_findPairs (d + 1) Q 10 [(0, .ref (g.2.1 + 36)), (1, .ref (g.2.1 + k1)), (2, .ref (g.2.1 + k2)), (3, .int (x3 + 1))] [] S7) ∧ (r8 = x3 → (vp_in (S7.1 36 6) 24) ∧ (∀ S11 : SS, S11 = setA S7 38 (S7.1 36 6).toNatClampNeg x3 → (vp_in (S11.1 36 6) 24) ∧ (∀ S13 : SS, S13 = setA S11 39 (S11.1 36 6).toNatClampNeg r5 → ∀ S14 : SS, S14 = setI S13 36 6 ((S13.1 36 6) + (1 : Int32)) → AtV g um_O_findPairs (d + 1) Q 10 [(0, .ref (g.2.1 + 36)), (1, .ref (g.2.1 + k1)), (2, .ref (g.2.1 + k2)), (3, .int (x3 + 1))] [] S14))))))))) : AtV g um_O_findPairs (d + 1) Q 10 [(0, .ref (g.2.1 + 36)), (1, .ref (g.2.1 + k1)), (2, .ref (g.2.1 + k2)), (3, .int x3)] [] S := by
  refine ab_iload_n 3 d_O_findPairs_10 rfl rfl ?_
  refine ab_aload_n 2 d_O_findPairs_11 rfl rfl ?_
  refine sa_getI kf_O_86 d_O_findPairs_12 hk2 rfl ?_
  refine ab_icmp_ge (tgt := 113) d_O_findPairs_15 (by decide) (fun b2 => ?_) (fun b2 => ?_)
  · replace HF := HF.1 b2
    exact sa_ret rfl d_O_findPairs_113 HF
  · replace HF := HF.2 b2
    refine ab_aload_n 1 d_O_findPairs_18 rfl rfl ?_
    refine sa_getR (r := k1 + 1) kf_O_36 d_O_findPairs_19 hk1.1 rfl ?_
    refine sa_getR (r := k1 + 2) kf_O_102 d_O_findPairs_22 hk1.2.1 rfl ?_
    refine ab_iload_n 3 d_O_findPairs_25 rfl rfl ?_
    obtain ⟨c3, HF⟩ := HF
    refine sa_iald d_O_findPairs_26 hk1.2.2.1 c3 ?_
    refine ab_istore (lv' := [(4, .int (S.2 (k1 + 2) x3.toNatClampNeg)), (0, .ref (g.2.1 + 36)), (1, .ref (g.2.1 + k1)), (2, .ref (g.2.1 + k2)), (3, .int x3)]) d_O_findPairs_27 (Nat.le_of_ble_eq_true rfl) rfl ?_
    refine ab_aload_n 2 d_O_findPairs_29 rfl rfl ?_
    refine sa_getR (r := k1 + 3) kf_O_47 d_O_findPairs_30 hk1.1 rfl ?_
    refine ab_iload 0 d_O_findPairs_33 rfl ?_
    refine ab_aload_n 3 d_O_findPairs_35 rfl rfl ?_
    refine sa_getI kf_O_89 d_O_findPairs_36 hk2 rfl ?_
    refine ab_aload_n 3 d_O_findPairs_39 rfl rfl ?_
    refine sa_getI kf_O_91 d_O_findPairs_40 hk2 rfl ?_
    refine sa_callVi (As := [.int (S.2 (k1 + 2) x3.toNatClampNeg), .int (S.1 k2 2), .int (S.1 k2 3)]) (rest := []) kc_O_105 d_O_findPairs_43 hk1.2.2.2.1 rfl rfl rfl (Nat.le_of_ble_eq_true rfl) enV (Nat.le_of_ble_eq_true rfl) ⟨Nat.zero_le _, Nat.zero_le _⟩ HF (fun r5 S4 HF => ?_)
    refine ab_istore (lv' := [(5, .int r5), (4, .int (S.2 (k1 + 2) x3.toNatClampNeg)), (0, .ref (g.2.1 + 36)), (1, .ref (g.2.1 + k1)), (2, .ref (g.2.1 + k2)), (3, .int x3)]) d_O_findPairs_46 (Nat.le_of_ble_eq_true rfl) rfl ?_
    refine ab_iload 0 d_O_findPairs_48 rfl ?_
    refine ab_bipush (v := (-3 : Int32)) d_O_findPairs_50 (by decide) ?_
    refine ab_icmp_eq (tgt := 107) d_O_findPairs_52 (by decide) (fun b6 => ?_) (fun b6 => ?_)
    · replace HF := HF.1 b6
      refine ab_iinc (v := x3 + 1) (lv' := [(3, .int (x3 + 1)), (5, .int r5), (4, .int (S.2 (k1 + 2) x3.toNatClampNeg)), (0, .ref (g.2.1 + 36)), (1, .ref (g.2.1 + k1)), (2, .ref (g.2.1 + k2))]) 5 d_O_findPairs_107 rfl (congrArg (fun z => x3 + z) (show Int32.ofInt 1 = (1 : Int32) by decide)) (Nat.le_of_ble_eq_true rfl) rfl ?_
      refine ab_goto (tgt := 10) d_O_findPairs_110 (by decide) ?_
      refine ab_sub (lv' := [(0, .ref (g.2.1 + 36)), (1, .ref (g.2.1 + k1)), (2, .ref (g.2.1 + k2)), (3, .int (x3 + 1))]) [3, 4, 5, 0] rfl ?_
      exact HF
    · replace HF := HF.2 b6
      refine ab_aload_n 3 d_O_findPairs_55 rfl rfl ?_
      refine sa_getR (r := k1 + 1) kf_O_36 d_O_findPairs_56 hk1.1 rfl ?_
      refine ab_iload 1 d_O_findPairs_59 rfl ?_
      refine ab_aload_n 4 d_O_findPairs_61 rfl rfl ?_
      refine sa_getI kf_O_84 d_O_findPairs_62 hk2 rfl ?_
      refine ab_aload_n 4 d_O_findPairs_65 rfl rfl ?_
      refine sa_getI kf_O_86 d_O_findPairs_66 hk2 rfl ?_
      refine sa_callVi (As := [.int (S.2 (k1 + 2) x3.toNatClampNeg), .int (S4.1 k2 0), .int (S4.1 k2 1)]) (rest := []) kc_O_105 d_O_findPairs_69 hk1.2.1 rfl rfl rfl (Nat.le_of_ble_eq_true rfl) enV (Nat.le_of_ble_eq_true rfl) ⟨Nat.zero_le _, Nat.zero_le _⟩ HF (fun r8 S7 HF => ?_)
      refine ab_iload_n 5 d_O_findPairs_72 rfl rfl ?_
      refine ab_icmp_ne (tgt := 107) d_O_findPairs_73 (by decide) (fun b9 => ?_) (fun b9 => ?_)
      · replace HF := HF.1 b9
        refine ab_iinc (v := x3 + 1) (lv' := [(3, .int (x3 + 1)), (5, .int r5), (4, .int (S.2 (k1 + 2) x3.toNatClampNeg)), (0, .ref (g.2.1 + 36)), (1, .ref (g.2.1 + k1)), (2, .ref (g.2.1 + k2))]) 5 d_O_findPairs_107 rfl (congrArg (fun z => x3 + z) (show Int32.ofInt 1 = (1 : Int32) by decide)) (Nat.le_of_ble_eq_true rfl) rfl ?_
        refine ab_goto (tgt := 10) d_O_findPairs_110 (by decide) ?_
        refine ab_sub (lv' := [(0, .ref (g.2.1 + 36)), (1, .ref (g.2.1 + k1)), (2, .ref (g.2.1 + k2)), (3, .int (x3 + 1))]) [3, 4, 5, 0] rfl ?_
        exact HF
      · replace HF := HF.2 b9
        refine ab_aload_n 2 d_O_findPairs_76 rfl rfl ?_
        refine sa_getR (r := 38) kf_O_17 d_O_findPairs_77 sh_36 rfl ?_
        refine ab_aload_n 2 d_O_findPairs_80 rfl rfl ?_
        refine sa_getI kf_O_70 d_O_findPairs_81 sh_36 rfl ?_
        refine ab_iload_n 5 d_O_findPairs_84 rfl rfl ?_
        obtain ⟨c10, HF⟩ := HF
        refine sa_iastn d_O_findPairs_85 sh_38 c10 (fun S11 hS11 => ?_)
        replace HF := HF S11 hS11
        refine ab_aload_n 2 d_O_findPairs_86 rfl rfl ?_
        refine sa_getR (r := 39) kf_O_21 d_O_findPairs_87 sh_36 rfl ?_
        refine ab_aload_n 2 d_O_findPairs_90 rfl rfl ?_
        refine sa_getI kf_O_70 d_O_findPairs_91 sh_36 rfl ?_
        refine ab_iload 0 d_O_findPairs_94 rfl ?_
        obtain ⟨c12, HF⟩ := HF
        refine sa_iastn d_O_findPairs_96 sh_39 c12 (fun S13 hS13 => ?_)
        replace HF := HF S13 hS13
        refine ab_aload_n 2 d_O_findPairs_97 rfl rfl ?_
        refine ab_dup d_O_findPairs_98 rfl ?_
        refine sa_getI kf_O_70 d_O_findPairs_99 sh_36 rfl ?_
        refine ab_iconst (v := (1 : Int32)) d_O_findPairs_102 (by decide) ?_
        refine ab_iadd d_O_findPairs_103 ?_
        refine sa_putIn kp_O_70 d_O_findPairs_104 sh_36 rfl (fun S14 hS14 => ?_)
        replace HF := HF S14 hS14
        refine ab_iinc (v := x3 + 1) (lv' := [(3, .int (x3 + 1)), (5, .int r5), (4, .int (S.2 (k1 + 2) x3.toNatClampNeg)), (0, .ref (g.2.1 + 36)), (1, .ref (g.2.1 + k1)), (2, .ref (g.2.1 + k2))]) 5 d_O_findPairs_107 rfl (congrArg (fun z => x3 + z) (show Int32.ofInt 1 = (1 : Int32) by decide)) (Nat.le_of_ble_eq_true rfl) rfl ?_
        refine ab_goto (tgt := 10) d_O_findPairs_110 (by decide) ?_
        refine ab_sub (lv' := [(0, .ref (g.2.1 + 36)), (1, .ref (g.2.1 + k1)), (2, .ref (g.2.1 + k2)), (3, .int (x3 + 1))]) [3, 4, 5, 0] rfl ?_
        exact HF
set_option maxRecDepth 100000 in
theorem f_O_rankPairs {g : lp_G} {d : Nat} {Q : Int32 → SS → Prop} {S : SS} 
    (HF : AtI g um_O_rankPairs (d + 1) Q 4 [(0, .ref (g.2.1 + 36)), (1, .int (0 : Int32)), (2, .int (0 : Int32))] [] S) : MtI g um_O_rankPairs (d + 1) [.ref (g.2.1 + 36)] S Q := by
  refine sa_entryI (lv' := [(0, .ref (g.2.1 + 36))]) (by decide +kernel) (Nat.le_of_ble_eq_true rfl) rfl ?_
  refine ab_iconst (v := (0 : Int32)) d_O_rankPairs_0 (by decide) ?_
  refine ab_istore_n (lv' := [(1, .int (0 : Int32)), (0, .ref (g.2.1 + 36))]) d_O_rankPairs_1 rfl (Nat.le_of_ble_eq_true rfl) rfl ?_
  refine ab_iconst (v := (0 : Int32)) d_O_rankPairs_2 (by decide) ?_
  refine ab_istore_n (lv' := [(2, .int (0 : Int32)), (1, .int (0 : Int32)), (0, .ref (g.2.1 + 36))]) d_O_rankPairs_3 rfl (Nat.le_of_ble_eq_true rfl) rfl ?_
  refine ab_sub (lv' := [(0, .ref (g.2.1 + 36)), (1, .int (0 : Int32)), (2, .int (0 : Int32))]) [2, 1, 0] rfl ?_
  exact HF
set_option maxRecDepth 100000 in
theorem f_O_rankPairs_4 {g : lp_G} {d : Nat} {Q : Int32 → SS → Prop} {S : SS} {x1 : Int32} {x2 : Int32}
    (HF : (S.1 36 6 ≤ x2 → Q x1 S) ∧ (¬ S.1 36 6 ≤ x2 → AtI g um_O_rankPairs (d + 1) Q 17 [(0, .ref (g.2.1 + 36)), (1, .int x1), (2, .int x2), (3, .int (0 : Int32)), (4, .int (0 : Int32))] [] S)) : AtI g um_O_rankPairs (d + 1) Q 4 [(0, .ref (g.2.1 + 36)), (1, .int x1), (2, .int x2)] [] S := by
  refine ab_iload_n 2 d_O_rankPairs_4 rfl rfl ?_
  refine ab_aload_n 0 d_O_rankPairs_5 rfl rfl ?_
  refine sa_getI kf_O_70 d_O_rankPairs_6 sh_36 rfl ?_
  refine ab_icmp_ge (tgt := 83) d_O_rankPairs_9 (by decide) (fun b1 => ?_) (fun b1 => ?_)
  · replace HF := HF.1 b1
    refine ab_iload_n 1 d_O_rankPairs_83 rfl rfl ?_
    exact sa_iretI rfl d_O_rankPairs_84 HF
  · replace HF := HF.2 b1
    refine ab_iconst (v := (0 : Int32)) d_O_rankPairs_12 (by decide) ?_
    refine ab_istore_n (lv' := [(3, .int (0 : Int32)), (0, .ref (g.2.1 + 36)), (1, .int x1), (2, .int x2)]) d_O_rankPairs_13 rfl (Nat.le_of_ble_eq_true rfl) rfl ?_
    refine ab_iconst (v := (0 : Int32)) d_O_rankPairs_14 (by decide) ?_
    refine ab_istore (lv' := [(4, .int (0 : Int32)), (3, .int (0 : Int32)), (0, .ref (g.2.1 + 36)), (1, .int x1), (2, .int x2)]) d_O_rankPairs_15 (Nat.le_of_ble_eq_true rfl) rfl ?_
    refine ab_sub (lv' := [(0, .ref (g.2.1 + 36)), (1, .int x1), (2, .int x2), (3, .int (0 : Int32)), (4, .int (0 : Int32))]) [2, 3, 4, 1, 0] rfl ?_
    exact HF
set_option maxRecDepth 100000 in
theorem f_O_rankPairs_17 {g : lp_G} {d : Nat} {Q : Int32 → SS → Prop} {S : SS} {x1 : Int32} {x2 : Int32} {x3 : Int32} {x4 : Int32}
    (HF : (x2 ≤ x4 → (vp_in x2 24) ∧ (∀ S4 : SS, S4 = setA S 40 x2.toNatClampNeg (x3 + (1 : Int32)) → (vp_in x2 24) ∧ (AtI g um_O_rankPairs (d + 1) Q 4 [(0, .ref (g.2.1 + 36)), (1, .int (if x1 < S4.2 40 x2.toNatClampNeg then S4.2 40 x2.toNatClampNeg else x1)), (2, .int (x2 + 1))] [] S4))) ∧ (¬ x2 ≤ x4 → (vp_in x4 24) ∧ ((vp_in x2 24) ∧ ((S.2 39 x2.toNatClampNeg ≤ S.2 39 x4.toNatClampNeg → AtI g um_O_rankPairs (d + 1) Q 17 [(0, .ref (g.2.1 + 36)), (1, .int x1), (2, .int x2), (3, .int x3), (4, .int (x4 + 1))] [] S) ∧ (¬ S.2 39 x2.toNatClampNeg ≤ S.2 39 x4.toNatClampNeg → (vp_in x4 24) ∧ (AtI g um_O_rankPairs (d + 1) Q 17 [(0, .ref (g.2.1 + 36)), (1, .int x1), (2, .int x2), (3, .int (if x3 < S.2 40 x4.toNatClampNeg then S.2 40 x4.toNatClampNeg else x3)), (4, .int (x4 + 1))] [] S)))))) : AtI g um_O_rankPairs (d + 1) Q 17 [(0, .ref (g.2.1 + 36)), (1, .int x1), (2, .int x2), (3, .int x3), (4, .int x4)] [] S := by
  refine ab_iload 4 d_O_rankPairs_17 rfl ?_
  refine ab_iload_n 2 d_O_rankPairs_19 rfl rfl ?_
  refine ab_icmp_ge (tgt := 57) d_O_rankPairs_20 (by decide) (fun b2 => ?_) (fun b2 => ?_)
  · replace HF := HF.1 b2
    refine ab_aload_n 0 d_O_rankPairs_57 rfl rfl ?_
    refine sa_getR (r := 40) kf_O_24 d_O_rankPairs_58 sh_36 rfl ?_
    refine ab_iload_n 2 d_O_rankPairs_61 rfl rfl ?_
    refine ab_iload_n 3 d_O_rankPairs_62 rfl rfl ?_
    refine ab_iconst (v := (1 : Int32)) d_O_rankPairs_63 (by decide) ?_
    refine ab_iadd d_O_rankPairs_64 ?_
    obtain ⟨c3, HF⟩ := HF
    refine sa_iastn d_O_rankPairs_65 sh_40 c3 (fun S4 hS4 => ?_)
    replace HF := HF S4 hS4
    refine ab_iload_n 1 d_O_rankPairs_66 rfl rfl ?_
    refine ab_aload_n 0 d_O_rankPairs_67 rfl rfl ?_
    refine sa_getR (r := 40) kf_O_24 d_O_rankPairs_68 sh_36 rfl ?_
    refine ab_iload_n 2 d_O_rankPairs_71 rfl rfl ?_
    obtain ⟨c5, HF⟩ := HF
    refine sa_iald d_O_rankPairs_72 sh_40 c5 ?_
    refine sa_mmax km_O_109 d_O_rankPairs_73 enI (Nat.le_of_ble_eq_true rfl) ⟨Nat.zero_le _, Nat.zero_le _⟩ ?_
    refine ab_istore_n (lv' := [(1, .int (if x1 < S4.2 40 x2.toNatClampNeg then S4.2 40 x2.toNatClampNeg else x1)), (0, .ref (g.2.1 + 36)), (2, .int x2), (3, .int x3), (4, .int x4)]) d_O_rankPairs_76 rfl (Nat.le_of_ble_eq_true rfl) rfl ?_
    refine ab_iinc (v := x2 + 1) (lv' := [(2, .int (x2 + 1)), (1, .int (if x1 < S4.2 40 x2.toNatClampNeg then S4.2 40 x2.toNatClampNeg else x1)), (0, .ref (g.2.1 + 36)), (3, .int x3), (4, .int x4)]) 2 d_O_rankPairs_77 rfl (congrArg (fun z => x2 + z) (show Int32.ofInt 1 = (1 : Int32) by decide)) (Nat.le_of_ble_eq_true rfl) rfl ?_
    refine ab_goto (tgt := 4) d_O_rankPairs_80 (by decide) ?_
    refine ab_sub (lv' := [(0, .ref (g.2.1 + 36)), (1, .int (if x1 < S4.2 40 x2.toNatClampNeg then S4.2 40 x2.toNatClampNeg else x1)), (2, .int (x2 + 1))]) [2, 1, 0] rfl ?_
    exact HF
  · replace HF := HF.2 b2
    refine ab_aload_n 0 d_O_rankPairs_23 rfl rfl ?_
    refine sa_getR (r := 39) kf_O_21 d_O_rankPairs_24 sh_36 rfl ?_
    refine ab_iload 4 d_O_rankPairs_27 rfl ?_
    obtain ⟨c6, HF⟩ := HF
    refine sa_iald d_O_rankPairs_29 sh_39 c6 ?_
    refine ab_aload_n 0 d_O_rankPairs_30 rfl rfl ?_
    refine sa_getR (r := 39) kf_O_21 d_O_rankPairs_31 sh_36 rfl ?_
    refine ab_iload_n 2 d_O_rankPairs_34 rfl rfl ?_
    obtain ⟨c7, HF⟩ := HF
    refine sa_iald d_O_rankPairs_35 sh_39 c7 ?_
    refine ab_icmp_ge (tgt := 51) d_O_rankPairs_36 (by decide) (fun b8 => ?_) (fun b8 => ?_)
    · replace HF := HF.1 b8
      refine ab_iinc (v := x4 + 1) (lv' := [(4, .int (x4 + 1)), (0, .ref (g.2.1 + 36)), (1, .int x1), (2, .int x2), (3, .int x3)]) 4 d_O_rankPairs_51 rfl (congrArg (fun z => x4 + z) (show Int32.ofInt 1 = (1 : Int32) by decide)) (Nat.le_of_ble_eq_true rfl) rfl ?_
      refine ab_goto (tgt := 17) d_O_rankPairs_54 (by decide) ?_
      refine ab_sub (lv' := [(0, .ref (g.2.1 + 36)), (1, .int x1), (2, .int x2), (3, .int x3), (4, .int (x4 + 1))]) [1, 2, 3, 4, 0] rfl ?_
      exact HF
    · replace HF := HF.2 b8
      refine ab_iload_n 3 d_O_rankPairs_39 rfl rfl ?_
      refine ab_aload_n 0 d_O_rankPairs_40 rfl rfl ?_
      refine sa_getR (r := 40) kf_O_24 d_O_rankPairs_41 sh_36 rfl ?_
      refine ab_iload 4 d_O_rankPairs_44 rfl ?_
      obtain ⟨c9, HF⟩ := HF
      refine sa_iald d_O_rankPairs_46 sh_40 c9 ?_
      refine sa_mmax km_O_109 d_O_rankPairs_47 enI (Nat.le_of_ble_eq_true rfl) ⟨Nat.zero_le _, Nat.zero_le _⟩ ?_
      refine ab_istore_n (lv' := [(3, .int (if x3 < S.2 40 x4.toNatClampNeg then S.2 40 x4.toNatClampNeg else x3)), (0, .ref (g.2.1 + 36)), (1, .int x1), (2, .int x2), (4, .int x4)]) d_O_rankPairs_50 rfl (Nat.le_of_ble_eq_true rfl) rfl ?_
      refine ab_iinc (v := x4 + 1) (lv' := [(4, .int (x4 + 1)), (3, .int (if x3 < S.2 40 x4.toNatClampNeg then S.2 40 x4.toNatClampNeg else x3)), (0, .ref (g.2.1 + 36)), (1, .int x1), (2, .int x2)]) 4 d_O_rankPairs_51 rfl (congrArg (fun z => x4 + z) (show Int32.ofInt 1 = (1 : Int32) by decide)) (Nat.le_of_ble_eq_true rfl) rfl ?_
      refine ab_goto (tgt := 17) d_O_rankPairs_54 (by decide) ?_
      refine ab_sub (lv' := [(0, .ref (g.2.1 + 36)), (1, .int x1), (2, .int x2), (3, .int (if x3 < S.2 40 x4.toNatClampNeg then S.2 40 x4.toNatClampNeg else x3)), (4, .int (x4 + 1))]) [2, 3, 4, 1, 0] rfl ?_
      exact HF
set_option maxRecDepth 100000 in
theorem f_O_matchAnchors {g : lp_G} {d : Nat} {Q : SS → Prop} {S : SS} {k1 : Nat} (hk1 : isC k1) {k2 : Nat} (hk2 : isR k2) {x3 : Int32}
    (HF : AtV g um_O_matchAnchors (d + 1) Q 23 [(0, .ref (g.2.1 + 36)), (1, .ref (g.2.1 + k1)), (2, .ref (g.2.1 + k2)), (4, .int x3), (5, .int (S.1 k2 1)), (6, .int (S.1 k2 3)), (7, .int ((S.1 36 6) - (1 : Int32)))] [] S) : MtV g um_O_matchAnchors (d + 1) [.ref (g.2.1 + 36), .ref (g.2.1 + k1), .ref (g.2.1 + k2), .int x3] S Q := by
  refine sa_entryV (lv' := [(0, .ref (g.2.1 + 36)), (1, .ref (g.2.1 + k1)), (2, .ref (g.2.1 + k2)), (3, .int x3)]) (by decide +kernel) (Nat.le_of_ble_eq_true rfl) rfl ?_
  refine ab_iload_n 3 d_O_matchAnchors_0 rfl rfl ?_
  refine ab_istore (lv' := [(4, .int x3), (0, .ref (g.2.1 + 36)), (1, .ref (g.2.1 + k1)), (2, .ref (g.2.1 + k2)), (3, .int x3)]) d_O_matchAnchors_1 (Nat.le_of_ble_eq_true rfl) rfl ?_
  refine ab_aload_n 3 d_O_matchAnchors_3 rfl rfl ?_
  refine sa_getI kf_O_86 d_O_matchAnchors_4 hk2 rfl ?_
  refine ab_istore (lv' := [(5, .int (S.1 k2 1)), (4, .int x3), (0, .ref (g.2.1 + 36)), (1, .ref (g.2.1 + k1)), (2, .ref (g.2.1 + k2)), (3, .int x3)]) d_O_matchAnchors_7 (Nat.le_of_ble_eq_true rfl) rfl ?_
  refine ab_aload_n 4 d_O_matchAnchors_9 rfl rfl ?_
  refine sa_getI kf_O_91 d_O_matchAnchors_10 hk2 rfl ?_
  refine ab_istore (lv' := [(6, .int (S.1 k2 3)), (5, .int (S.1 k2 1)), (4, .int x3), (0, .ref (g.2.1 + 36)), (1, .ref (g.2.1 + k1)), (2, .ref (g.2.1 + k2)), (3, .int x3)]) d_O_matchAnchors_13 (Nat.le_of_ble_eq_true rfl) rfl ?_
  refine ab_aload_n 3 d_O_matchAnchors_15 rfl rfl ?_
  refine sa_getI kf_O_70 d_O_matchAnchors_16 sh_36 rfl ?_
  refine ab_iconst (v := (1 : Int32)) d_O_matchAnchors_19 (by decide) ?_
  refine ab_isub d_O_matchAnchors_20 ?_
  refine ab_istore (lv' := [(7, .int ((S.1 36 6) - (1 : Int32))), (6, .int (S.1 k2 3)), (5, .int (S.1 k2 1)), (4, .int x3), (0, .ref (g.2.1 + 36)), (1, .ref (g.2.1 + k1)), (2, .ref (g.2.1 + k2)), (3, .int x3)]) d_O_matchAnchors_21 (Nat.le_of_ble_eq_true rfl) rfl ?_
  refine ab_sub (lv' := [(0, .ref (g.2.1 + 36)), (1, .ref (g.2.1 + k1)), (2, .ref (g.2.1 + k2)), (4, .int x3), (5, .int (S.1 k2 1)), (6, .int (S.1 k2 3)), (7, .int ((S.1 36 6) - (1 : Int32)))]) [4, 5, 6, 3, 2, 1, 0] rfl ?_
  exact HF
set_option maxRecDepth 100000 in
theorem f_O_matchAnchors_23 {g : lp_G} {d : Nat} {Q : SS → Prop} {S : SS} {x4 : Int32} {x5 : Int32} {x6 : Int32} {x7 : Int32} {k1 : Nat} (hk1 : isC k1) {k2 : Nat} (hk2 : isR k2)
    (HF : (x7 < 0 → MtV g um_O_keepForLater d [.ref (g.2.1 + 36), .int (S.1 k2 0), .int x5, .int (S.1 k2 2), .int x6] S (fun S2 => Q S2)) ∧ (¬ x7 < 0 → (vp_in x7 24) ∧ ((¬ S.2 40 x7.toNatClampNeg = x4 → AtV g um_O_matchAnchors (d + 1) Q 23 [(0, .ref (g.2.1 + 36)), (1, .ref (g.2.1 + k1)), (2, .ref (g.2.1 + k2)), (4, .int x4), (5, .int x5), (6, .int x6), (7, .int (x7 + (-1)))] [] S) ∧ (S.2 40 x7.toNatClampNeg = x4 → (vp_in x7 24) ∧ ((vp_in x7 24) ∧ (MtV g um_C_pair d [.ref (g.2.1 + k1), .int (S.2 38 x7.toNatClampNeg), .int (S.2 39 x7.toNatClampNeg)] S (fun S8 => (vp_in x7 24) ∧ ((vp_in x7 24) ∧ (MtV g um_O_keepForLater d [.ref (g.2.1 + 36), .int ((S8.2 38 x7.toNatClampNeg) + (1 : Int32)), .int x5, .int ((S8.2 39 x7.toNatClampNeg) + (1 : Int32)), .int x6] S8 (fun S12 => (vp_in x7 24) ∧ ((vp_in x7 24) ∧ (AtV g um_O_matchAnchors (d + 1) Q 23 [(0, .ref (g.2.1 + 36)), (1, .ref (g.2.1 + k1)), (2, .ref (g.2.1 + k2)), (4, .int (x4 + (-1))), (5, .int (S12.2 38 x7.toNatClampNeg)), (6, .int (S12.2 39 x7.toNatClampNeg)), (7, .int (x7 + (-1)))] [] S12)))))))))))) : AtV g um_O_matchAnchors (d + 1) Q 23 [(0, .ref (g.2.1 + 36)), (1, .ref (g.2.1 + k1)), (2, .ref (g.2.1 + k2)), (4, .int x4), (5, .int x5), (6, .int x6), (7, .int x7)] [] S := by
  refine ab_iload 6 d_O_matchAnchors_23 rfl ?_
  refine ab_if_lt (tgt := 111) d_O_matchAnchors_25 (by decide) (fun b1 => ?_) (fun b1 => ?_)
  · replace HF := HF.1 b1
    refine ab_aload_n 0 d_O_matchAnchors_111 rfl rfl ?_
    refine ab_aload_n 2 d_O_matchAnchors_112 rfl rfl ?_
    refine sa_getI kf_O_84 d_O_matchAnchors_113 hk2 rfl ?_
    refine ab_iload 4 d_O_matchAnchors_116 rfl ?_
    refine ab_aload_n 2 d_O_matchAnchors_118 rfl rfl ?_
    refine sa_getI kf_O_89 d_O_matchAnchors_119 hk2 rfl ?_
    refine ab_iload 5 d_O_matchAnchors_122 rfl ?_
    refine sa_callVv (As := [.int (S.1 k2 0), .int x5, .int (S.1 k2 2), .int x6]) (rest := []) kc_O_50 d_O_matchAnchors_124 sh_36 rfl rfl rfl (Nat.le_of_ble_eq_true rfl) enV (Nat.le_of_ble_eq_true rfl) ⟨Nat.zero_le _, Nat.zero_le _⟩ HF (fun S2 HF => ?_)
    exact sa_ret rfl d_O_matchAnchors_127 HF
  · replace HF := HF.2 b1
    refine ab_aload_n 0 d_O_matchAnchors_28 rfl rfl ?_
    refine sa_getR (r := 40) kf_O_24 d_O_matchAnchors_29 sh_36 rfl ?_
    refine ab_iload 6 d_O_matchAnchors_32 rfl ?_
    obtain ⟨c4, HF⟩ := HF
    refine sa_iald d_O_matchAnchors_34 sh_40 c4 ?_
    refine ab_iload 3 d_O_matchAnchors_35 rfl ?_
    refine ab_icmp_ne (tgt := 105) d_O_matchAnchors_37 (by decide) (fun b5 => ?_) (fun b5 => ?_)
    · replace HF := HF.1 b5
      refine ab_iinc (v := x7 + (-1)) (lv' := [(7, .int (x7 + (-1))), (0, .ref (g.2.1 + 36)), (1, .ref (g.2.1 + k1)), (2, .ref (g.2.1 + k2)), (4, .int x4), (5, .int x5), (6, .int x6)]) 6 d_O_matchAnchors_105 rfl (congrArg (fun z => x7 + z) (show Int32.ofInt (-1) = (-1 : Int32) by decide)) (Nat.le_of_ble_eq_true rfl) rfl ?_
      refine ab_goto (tgt := 23) d_O_matchAnchors_108 (by decide) ?_
      refine ab_sub (lv' := [(0, .ref (g.2.1 + 36)), (1, .ref (g.2.1 + k1)), (2, .ref (g.2.1 + k2)), (4, .int x4), (5, .int x5), (6, .int x6), (7, .int (x7 + (-1)))]) [1, 2, 3, 4, 5, 6, 0] rfl ?_
      exact HF
    · replace HF := HF.2 b5
      refine ab_aload_n 1 d_O_matchAnchors_40 rfl rfl ?_
      refine ab_aload_n 0 d_O_matchAnchors_41 rfl rfl ?_
      refine sa_getR (r := 38) kf_O_17 d_O_matchAnchors_42 sh_36 rfl ?_
      refine ab_iload 6 d_O_matchAnchors_45 rfl ?_
      obtain ⟨c6, HF⟩ := HF
      refine sa_iald d_O_matchAnchors_47 sh_38 c6 ?_
      refine ab_aload_n 0 d_O_matchAnchors_48 rfl rfl ?_
      refine sa_getR (r := 39) kf_O_21 d_O_matchAnchors_49 sh_36 rfl ?_
      refine ab_iload 6 d_O_matchAnchors_52 rfl ?_
      obtain ⟨c7, HF⟩ := HF
      refine sa_iald d_O_matchAnchors_54 sh_39 c7 ?_
      refine sa_callVv (As := [.int (S.2 38 x7.toNatClampNeg), .int (S.2 39 x7.toNatClampNeg)]) (rest := []) kc_O_98 d_O_matchAnchors_55 hk1.1 rfl rfl rfl (Nat.le_of_ble_eq_true rfl) enV (Nat.le_of_ble_eq_true rfl) ⟨Nat.zero_le _, Nat.zero_le _⟩ HF (fun S8 HF => ?_)
      refine ab_aload_n 0 d_O_matchAnchors_58 rfl rfl ?_
      refine ab_aload_n 0 d_O_matchAnchors_59 rfl rfl ?_
      refine sa_getR (r := 38) kf_O_17 d_O_matchAnchors_60 sh_36 rfl ?_
      refine ab_iload 6 d_O_matchAnchors_63 rfl ?_
      obtain ⟨c10, HF⟩ := HF
      refine sa_iald d_O_matchAnchors_65 sh_38 c10 ?_
      refine ab_iconst (v := (1 : Int32)) d_O_matchAnchors_66 (by decide) ?_
      refine ab_iadd d_O_matchAnchors_67 ?_
      refine ab_iload 4 d_O_matchAnchors_68 rfl ?_
      refine ab_aload_n 0 d_O_matchAnchors_70 rfl rfl ?_
      refine sa_getR (r := 39) kf_O_21 d_O_matchAnchors_71 sh_36 rfl ?_
      refine ab_iload 6 d_O_matchAnchors_74 rfl ?_
      obtain ⟨c11, HF⟩ := HF
      refine sa_iald d_O_matchAnchors_76 sh_39 c11 ?_
      refine ab_iconst (v := (1 : Int32)) d_O_matchAnchors_77 (by decide) ?_
      refine ab_iadd d_O_matchAnchors_78 ?_
      refine ab_iload 5 d_O_matchAnchors_79 rfl ?_
      refine sa_callVv (As := [.int ((S8.2 38 x7.toNatClampNeg) + (1 : Int32)), .int x5, .int ((S8.2 39 x7.toNatClampNeg) + (1 : Int32)), .int x6]) (rest := []) kc_O_50 d_O_matchAnchors_81 sh_36 rfl rfl rfl (Nat.le_of_ble_eq_true rfl) enV (Nat.le_of_ble_eq_true rfl) ⟨Nat.zero_le _, Nat.zero_le _⟩ HF (fun S12 HF => ?_)
      refine ab_aload_n 0 d_O_matchAnchors_84 rfl rfl ?_
      refine sa_getR (r := 38) kf_O_17 d_O_matchAnchors_85 sh_36 rfl ?_
      refine ab_iload 6 d_O_matchAnchors_88 rfl ?_
      obtain ⟨c14, HF⟩ := HF
      refine sa_iald d_O_matchAnchors_90 sh_38 c14 ?_
      refine ab_istore (lv' := [(5, .int (S12.2 38 x7.toNatClampNeg)), (0, .ref (g.2.1 + 36)), (1, .ref (g.2.1 + k1)), (2, .ref (g.2.1 + k2)), (4, .int x4), (6, .int x6), (7, .int x7)]) d_O_matchAnchors_91 (Nat.le_of_ble_eq_true rfl) rfl ?_
      refine ab_aload_n 1 d_O_matchAnchors_93 rfl rfl ?_
      refine sa_getR (r := 39) kf_O_21 d_O_matchAnchors_94 sh_36 rfl ?_
      refine ab_iload 6 d_O_matchAnchors_97 rfl ?_
      obtain ⟨c15, HF⟩ := HF
      refine sa_iald d_O_matchAnchors_99 sh_39 c15 ?_
      refine ab_istore (lv' := [(6, .int (S12.2 39 x7.toNatClampNeg)), (5, .int (S12.2 38 x7.toNatClampNeg)), (0, .ref (g.2.1 + 36)), (1, .ref (g.2.1 + k1)), (2, .ref (g.2.1 + k2)), (4, .int x4), (7, .int x7)]) d_O_matchAnchors_100 (Nat.le_of_ble_eq_true rfl) rfl ?_
      refine ab_iinc (v := x4 + (-1)) (lv' := [(4, .int (x4 + (-1))), (6, .int (S12.2 39 x7.toNatClampNeg)), (5, .int (S12.2 38 x7.toNatClampNeg)), (0, .ref (g.2.1 + 36)), (1, .ref (g.2.1 + k1)), (2, .ref (g.2.1 + k2)), (7, .int x7)]) 5 d_O_matchAnchors_102 rfl (congrArg (fun z => x4 + z) (show Int32.ofInt (-1) = (-1 : Int32) by decide)) (Nat.le_of_ble_eq_true rfl) rfl ?_
      refine ab_iinc (v := x7 + (-1)) (lv' := [(7, .int (x7 + (-1))), (4, .int (x4 + (-1))), (6, .int (S12.2 39 x7.toNatClampNeg)), (5, .int (S12.2 38 x7.toNatClampNeg)), (0, .ref (g.2.1 + 36)), (1, .ref (g.2.1 + k1)), (2, .ref (g.2.1 + k2))]) 6 d_O_matchAnchors_105 rfl (congrArg (fun z => x7 + z) (show Int32.ofInt (-1) = (-1 : Int32) by decide)) (Nat.le_of_ble_eq_true rfl) rfl ?_
      refine ab_goto (tgt := 23) d_O_matchAnchors_108 (by decide) ?_
      refine ab_sub (lv' := [(0, .ref (g.2.1 + 36)), (1, .ref (g.2.1 + k1)), (2, .ref (g.2.1 + k2)), (4, .int (x4 + (-1))), (5, .int (S12.2 38 x7.toNatClampNeg)), (6, .int (S12.2 39 x7.toNatClampNeg)), (7, .int (x7 + (-1)))]) [4, 5, 6, 1, 3, 2, 0] rfl ?_
      exact HF

/-! constructors: what each makes, and its contract -/
def ia (g : lp_G) (n : Nat) : va_E := .inl (g.2.2.1 0, n, .inl (fun _ => 0))
def ra (g : lp_G) (t n : Nat) : va_E := .inl (g.2.2.1 t, n, .inr (.inr (.inr (.inr (fun _ => none)))))
def rf (g : lp_G) (t n i b w : Nat) : va_E := .inl (g.2.2.1 t, n, .inr (.inr (.inr (.inr (fun j => if j < i then some (g.2.1 + (b + w * j)) else none)))))
def mo (g : lp_G) (n b : Nat) : va_E := .inl (g.2.2.1 3, n, .inr (.inr (.inr (.inr (fun j => if j < n then some (g.2.1 + (b + 1 + 1 * j)) else none)))))
theorem df_P : ∀ j, j < 10 → defaultValue (tf_P j) = vp_V [.null, .null, .int 0, .null, .null, .null, .null, .null, .null, .null] j := fun j hj => match j, hj with
  | 0, _ => rfl
  | 1, _ => rfl
  | 2, _ => rfl
  | 3, _ => rfl
  | 4, _ => rfl
  | 5, _ => rfl
  | 6, _ => rfl
  | 7, _ => rfl
  | 8, _ => rfl
  | 9, _ => rfl
  | j + 10, hj => absurd hj (by omega)
theorem df_T : ∀ j, j < 2 → defaultValue (tf_T j) = vp_V [.null, .int 0] j := fun j hj => match j, hj with
  | 0, _ => rfl
  | 1, _ => rfl
  | j + 2, hj => absurd hj (by omega)
theorem df_C : ∀ j, j < 4 → defaultValue (tf_C j) = vp_V [.null, .null, .null, .int 0] j := fun j hj => match j, hj with
  | 0, _ => rfl
  | 1, _ => rfl
  | 2, _ => rfl
  | 3, _ => rfl
  | j + 4, hj => absurd hj (by omega)
theorem df_R : ∀ j, j < 4 → defaultValue (tf_R j) = vp_V [.int 0, .int 0, .int 0, .int 0] j := fun j hj => match j, hj with
  | 0, _ => rfl
  | 1, _ => rfl
  | 2, _ => rfl
  | 3, _ => rfl
  | j + 4, hj => absurd hj (by omega)
theorem df_S : ∀ j, j < 2 → defaultValue (tf_S j) = vp_V [.null, .null] j := fun j hj => match j, hj with
  | 0, _ => rfl
  | 1, _ => rfl
  | j + 2, hj => absurd hj (by omega)
theorem df_O : ∀ j, j < 7 → defaultValue (tf_O j) = vp_V [.null, .null, .int 0, .null, .null, .null, .int 0] j := fun j hj => match j, hj with
  | 0, _ => rfl
  | 1, _ => rfl
  | 2, _ => rfl
  | 3, _ => rfl
  | 4, _ => rfl
  | 5, _ => rfl
  | 6, _ => rfl
  | j + 7, hj => absurd hj (by omega)
theorem df_A : ∀ j, j < 2 → defaultValue (tf_A j) = vp_V [.null, .int 0] j := fun j hj => match j, hj with
  | 0, _ => rfl
  | 1, _ => rfl
  | j + 2, hj => absurd hj (by omega)
theorem df_W : ∀ j, j < 4 → defaultValue (tf_W j) = vp_V [.null, .null, .null, .int 0] j := fun j hj => match j, hj with
  | 0, _ => rfl
  | 1, _ => rfl
  | 2, _ => rfl
  | 3, _ => rfl
  | j + 4, hj => absurd hj (by omega)
theorem df_D : ∀ j, j < 9 → defaultValue (tf_D j) = vp_V [.null, .int 0, .int 0, .int 0, .int 0, .null, .int 0, .null, .int 0] j := fun j hj => match j, hj with
  | 0, _ => rfl
  | 1, _ => rfl
  | 2, _ => rfl
  | 3, _ => rfl
  | 4, _ => rfl
  | 5, _ => rfl
  | 6, _ => rfl
  | 7, _ => rfl
  | 8, _ => rfl
  | j + 9, hj => absurd hj (by omega)
theorem df_F : ∀ j, j < 2 → defaultValue (tf_F j) = vp_V [.null, .null] j := fun j hj => match j, hj with
  | 0, _ => rfl
  | 1, _ => rfl
  | j + 2, hj => absurd hj (by omega)
theorem df_Q : ∀ j, j < 3 → defaultValue (tf_Q j) = vp_V [.null, .int 0, .int 0] j := fun j hj => match j, hj with
  | 0, _ => rfl
  | 1, _ => rfl
  | 2, _ => rfl
  | j + 3, hj => absurd hj (by omega)
theorem df_G : ∀ j, j < 9 → defaultValue (tf_G j) = vp_V [.null, .null, .null, .null, .null, .null, .null, .int 0, .int 0] j := fun j hj => match j, hj with
  | 0, _ => rfl
  | 1, _ => rfl
  | 2, _ => rfl
  | 3, _ => rfl
  | 4, _ => rfl
  | 5, _ => rfl
  | 6, _ => rfl
  | 7, _ => rfl
  | 8, _ => rfl
  | j + 9, hj => absurd hj (by omega)
theorem df_M : ∀ j, j < 38 → defaultValue (tf_M j) = vp_V [.null, .null, .int 0, .int 0, .null, .null, .null, .null, .int 0, .null, .null, .null, .null, .null, .null, .int 0, .int 0, .int 0, .null, .null, .null, .int 0, .null, .null, .int 0, .null, .int 0, .null, .null, .null, .null, .null, .null, .int 0, .int 0, .int 0, .null, .null] j := fun j hj => match j, hj with
  | 0, _ => rfl
  | 1, _ => rfl
  | 2, _ => rfl
  | 3, _ => rfl
  | 4, _ => rfl
  | 5, _ => rfl
  | 6, _ => rfl
  | 7, _ => rfl
  | 8, _ => rfl
  | 9, _ => rfl
  | 10, _ => rfl
  | 11, _ => rfl
  | 12, _ => rfl
  | 13, _ => rfl
  | 14, _ => rfl
  | 15, _ => rfl
  | 16, _ => rfl
  | 17, _ => rfl
  | 18, _ => rfl
  | 19, _ => rfl
  | 20, _ => rfl
  | 21, _ => rfl
  | 22, _ => rfl
  | 23, _ => rfl
  | 24, _ => rfl
  | 25, _ => rfl
  | 26, _ => rfl
  | 27, _ => rfl
  | 28, _ => rfl
  | 29, _ => rfl
  | 30, _ => rfl
  | 31, _ => rfl
  | 32, _ => rfl
  | 33, _ => rfl
  | 34, _ => rfl
  | 35, _ => rfl
  | 36, _ => rfl
  | 37, _ => rfl
  | j + 38, hj => absurd hj (by omega)
def oT (g : lp_G) (b : Nat) : va_E := .inr (1, [.ref (g.2.1 + (b + 0)), .int 0])
def eT (g : lp_G) (b : Nat) : List va_E := [ia g 24]
set_option maxRecDepth 100000 in
theorem c_T {g : lp_G} {d : Nat} : Cn g um_T_init (d + 1) 1 24 [] (.inr (1, [.null, .int 0])) (oT g) (eT g) := by
  intro cs k b hb h0
  have hk := (List.getElem?_eq_some_iff.mp h0).1
  refine ab_entry (by decide +kernel) (Nat.le_of_ble_eq_true rfl) ?_
  suffices h : Ab g um_T_init (lp_md g (d + 1) 1 24 (fun v c => v = none ∧ c = cw cs k (oT g b) (eT g b))) 0 0 0 [(0, .ref (g.2.1 + k))] [] (cw cs k (.inr (1, [.null, .int 0])) []) by rw [← cw_0 h0] at h; exact h
  refine ab_aload_n 0 d_T_init_0 rfl rfl ?_
  refine cn_obj ko_T_3 d_T_init_1 en_md (Nat.le_of_ble_eq_true rfl) ?_
  refine ab_aload_n 0 d_T_init_4 rfl rfl ?_
  refine ab_bipush (v := 24) d_T_init_5 (by decide) ?_
  refine cn_newa (N := 24) (z := 0) (L' := [ia g 24]) hb rfl rfl (by decide) (by decide) (by decide) (Nat.le_of_ble_eq_true rfl) (Nat.le_of_ble_eq_true rfl) d_T_init_7 ?_
  refine cn_putF (fs' := [.ref (g.2.1 + (b + 0)), .int 0]) hk kp_T_9 rfl d_T_init_9 (Nat.le_of_ble_eq_true rfl) rfl rfl rfl ?_
  exact ab_vret rfl d_T_init_12 ⟨rfl, rfl⟩
def oR (g : lp_G) (b : Nat) : va_E := .inr (3, [.int 0, .int 0, .int 0, .int 0])
def eR (g : lp_G) (b : Nat) : List va_E := []
set_option maxRecDepth 100000 in
theorem c_R {g : lp_G} {d : Nat} : Cn g um_R_init (d + 1) 0 0 [] (.inr (3, [.int 0, .int 0, .int 0, .int 0])) (oR g) (eR g) := by
  intro cs k b hb h0
  have hk := (List.getElem?_eq_some_iff.mp h0).1
  refine ab_entry (by decide +kernel) (Nat.le_of_ble_eq_true rfl) ?_
  suffices h : Ab g um_R_init (lp_md g (d + 1) 0 0 (fun v c => v = none ∧ c = cw cs k (oR g b) (eR g b))) 0 0 0 [(0, .ref (g.2.1 + k))] [] (cw cs k (.inr (3, [.int 0, .int 0, .int 0, .int 0])) []) by rw [← cw_0 h0] at h; exact h
  refine ab_aload_n 0 d_R_init_0 rfl rfl ?_
  refine cn_obj ko_R_1 d_R_init_1 en_md (Nat.le_of_ble_eq_true rfl) ?_
  exact ab_vret rfl d_R_init_4 ⟨rfl, rfl⟩
def oQ (g : lp_G) (a1 : Nat) (b : Nat) : va_E := .inr (10, [.ref a1, .int 0, .int 0])
def eQ (g : lp_G) (a1 : Nat) (b : Nat) : List va_E := []
set_option maxRecDepth 100000 in
theorem c_Q {g : lp_G} {d : Nat} {a1 : Nat} : Cn g um_Q_init (d + 1) 0 0 [.ref a1] (.inr (10, [.null, .int 0, .int 0])) (oQ g a1) (eQ g a1) := by
  intro cs k b hb h0
  have hk := (List.getElem?_eq_some_iff.mp h0).1
  refine ab_entry (by decide +kernel) (Nat.le_of_ble_eq_true rfl) ?_
  suffices h : Ab g um_Q_init (lp_md g (d + 1) 0 0 (fun v c => v = none ∧ c = cw cs k (oQ g a1 b) (eQ g a1 b))) 0 0 0 [(0, .ref (g.2.1 + k)), (1, .ref a1)] [] (cw cs k (.inr (10, [.null, .int 0, .int 0])) []) by rw [← cw_0 h0] at h; exact h
  refine ab_aload_n 0 d_Q_init_0 rfl rfl ?_
  refine cn_obj ko_Q_1 d_Q_init_1 en_md (Nat.le_of_ble_eq_true rfl) ?_
  refine ab_aload_n 0 d_Q_init_4 rfl rfl ?_
  refine ab_aload_n 1 d_Q_init_5 rfl rfl ?_
  refine cn_putF (fs' := [.ref a1, .int 0, .int 0]) hk kp_Q_7 rfl d_Q_init_6 (Nat.le_of_ble_eq_true rfl) rfl rfl rfl ?_
  exact ab_vret rfl d_Q_init_9 ⟨rfl, rfl⟩
def oC (g : lp_G) (b : Nat) : va_E := .inr (2, [.ref (g.2.1 + (b + 0)), .ref (g.2.1 + (b + 2)), .ref (g.2.1 + (b + 4)), .int 0])
def eC (g : lp_G) (b : Nat) : List va_E := [oT g (b + 1), ia g 24, oT g (b + 3), ia g 24, ia g 24]
set_option maxRecDepth 100000 in
theorem c_C {g : lp_G} {d : Nat} : Cn g um_C_init (d + 2) 5 76 [] (.inr (2, [.null, .null, .null, .int 0])) (oC g) (eC g) := by
  intro cs k b hb h0
  have hk := (List.getElem?_eq_some_iff.mp h0).1
  refine ab_entry (by decide +kernel) (Nat.le_of_ble_eq_true rfl) ?_
  suffices h : Ab g um_C_init (lp_md g (d + 2) 5 76 (fun v c => v = none ∧ c = cw cs k (oC g b) (eC g b))) 0 0 0 [(0, .ref (g.2.1 + k))] [] (cw cs k (.inr (2, [.null, .null, .null, .int 0])) []) by rw [← cw_0 h0] at h; exact h
  refine ab_aload_n 0 d_C_init_0 rfl rfl ?_
  refine cn_obj ko_C_3 d_C_init_1 en_md (Nat.le_of_ble_eq_true rfl) ?_
  refine ab_aload_n 0 d_C_init_4 rfl rfl ?_
  refine cn_new (n := 0) (L' := [.inr (1, [.null, .int 0])]) hb rfl rfl ok_T kk_C_9 ki_T kn_T tf_T (by decide +kernel) df_T (Nat.le_of_ble_eq_true rfl) (Nat.le_of_ble_eq_true rfl) d_C_init_5 ?_
  refine ab_dup d_C_init_8 rfl ?_
  refine cn_callIN (i := 0) (n := 1) (As := []) (rest := [.ref (g.2.1 + (b + 0)), .ref (g.2.1 + k)]) (L' := [oT g (b + 1), ia g 24]) hb rfl rfl rfl c_T kc_C_11 d_C_init_9 rfl (Nat.le_of_ble_eq_true rfl) en_md (Nat.le_of_ble_eq_true rfl) ⟨(Nat.le_of_ble_eq_true rfl), (Nat.le_of_ble_eq_true rfl)⟩ ?_
  refine cn_putF (fs' := [.ref (g.2.1 + (b + 0)), .null, .null, .int 0]) hk kp_C_12 rfl d_C_init_12 (Nat.le_of_ble_eq_true rfl) rfl rfl rfl ?_
  refine ab_aload_n 0 d_C_init_15 rfl rfl ?_
  refine cn_new (n := 2) (L' := [oT g (b + 1), ia g 24, .inr (1, [.null, .int 0])]) hb rfl rfl ok_T kk_C_9 ki_T kn_T tf_T (by decide +kernel) df_T (Nat.le_of_ble_eq_true rfl) (Nat.le_of_ble_eq_true rfl) d_C_init_16 ?_
  refine ab_dup d_C_init_19 rfl ?_
  refine cn_callIN (i := 2) (n := 3) (As := []) (rest := [.ref (g.2.1 + (b + 2)), .ref (g.2.1 + k)]) (L' := [oT g (b + 1), ia g 24, oT g (b + 3), ia g 24]) hb rfl rfl rfl c_T kc_C_11 d_C_init_20 rfl (Nat.le_of_ble_eq_true rfl) en_md (Nat.le_of_ble_eq_true rfl) ⟨(Nat.le_of_ble_eq_true rfl), (Nat.le_of_ble_eq_true rfl)⟩ ?_
  refine cn_putF (fs' := [.ref (g.2.1 + (b + 0)), .ref (g.2.1 + (b + 2)), .null, .int 0]) hk kp_C_18 rfl d_C_init_23 (Nat.le_of_ble_eq_true rfl) rfl rfl rfl ?_
  refine ab_aload_n 0 d_C_init_26 rfl rfl ?_
  refine ab_bipush (v := 24) d_C_init_27 (by decide) ?_
  refine cn_newa (N := 24) (z := 4) (L' := [oT g (b + 1), ia g 24, oT g (b + 3), ia g 24, ia g 24]) hb rfl rfl (by decide) (by decide) (by decide) (Nat.le_of_ble_eq_true rfl) (Nat.le_of_ble_eq_true rfl) d_C_init_29 ?_
  refine cn_putF (fs' := [.ref (g.2.1 + (b + 0)), .ref (g.2.1 + (b + 2)), .ref (g.2.1 + (b + 4)), .int 0]) hk kp_C_21 rfl d_C_init_31 (Nat.le_of_ble_eq_true rfl) rfl rfl rfl ?_
  exact ab_vret rfl d_C_init_34 ⟨rfl, rfl⟩
def oS (g : lp_G) (b : Nat) : va_E := .inr (4, [.ref (g.2.1 + (b + 0)), .ref (g.2.1 + (b + 26))])
def eS (g : lp_G) (b : Nat) : List va_E := [mo g 25 (b + 0), ia g 25, ia g 25, ia g 25, ia g 25, ia g 25, ia g 25, ia g 25, ia g 25, ia g 25, ia g 25, ia g 25, ia g 25, ia g 25, ia g 25, ia g 25, ia g 25, ia g 25, ia g 25, ia g 25, ia g 25, ia g 25, ia g 25, ia g 25, ia g 25, ia g 25, oR g (b + 27)]
set_option maxRecDepth 100000 in
theorem c_S {g : lp_G} {d : Nat} : Cn g um_S_init (d + 2) 27 654 [] (.inr (4, [.null, .null])) (oS g) (eS g) := by
  intro cs k b hb h0
  have hk := (List.getElem?_eq_some_iff.mp h0).1
  refine ab_entry (by decide +kernel) (Nat.le_of_ble_eq_true rfl) ?_
  suffices h : Ab g um_S_init (lp_md g (d + 2) 27 654 (fun v c => v = none ∧ c = cw cs k (oS g b) (eS g b))) 0 0 0 [(0, .ref (g.2.1 + k))] [] (cw cs k (.inr (4, [.null, .null])) []) by rw [← cw_0 h0] at h; exact h
  refine ab_aload_n 0 d_S_init_0 rfl rfl ?_
  refine cn_obj ko_S_3 d_S_init_1 en_md (Nat.le_of_ble_eq_true rfl) ?_
  refine ab_aload_n 0 d_S_init_4 rfl rfl ?_
  refine ab_bipush (v := 25) d_S_init_5 (by decide) ?_
  refine ab_bipush (v := 25) d_S_init_7 (by decide) ?_
  refine cn_mna (N := 25) (K := 25) (z := 0) (L' := [mo g 25 (b + 0), ia g 25, ia g 25, ia g 25, ia g 25, ia g 25, ia g 25, ia g 25, ia g 25, ia g 25, ia g 25, ia g 25, ia g 25, ia g 25, ia g 25, ia g 25, ia g 25, ia g 25, ia g 25, ia g 25, ia g 25, ia g 25, ia g 25, ia g 25, ia g 25, ia g 25]) hb rfl rfl kk_S_9 (by decide) (by decide) (by decide) (by decide) (by decide) (by decide) (Nat.le_of_ble_eq_true rfl) (Nat.le_of_ble_eq_true rfl) d_S_init_9 ?_
  refine cn_putF (fs' := [.ref (g.2.1 + (b + 0)), .null]) hk kp_S_11 rfl d_S_init_13 (Nat.le_of_ble_eq_true rfl) rfl rfl rfl ?_
  refine ab_aload_n 0 d_S_init_16 rfl rfl ?_
  refine cn_new (n := 26) (L' := [mo g 25 (b + 0), ia g 25, ia g 25, ia g 25, ia g 25, ia g 25, ia g 25, ia g 25, ia g 25, ia g 25, ia g 25, ia g 25, ia g 25, ia g 25, ia g 25, ia g 25, ia g 25, ia g 25, ia g 25, ia g 25, ia g 25, ia g 25, ia g 25, ia g 25, ia g 25, ia g 25, .inr (3, [.int 0, .int 0, .int 0, .int 0])]) hb rfl rfl ok_R kk_S_16 ki_R kn_R tf_R (by decide +kernel) df_R (Nat.le_of_ble_eq_true rfl) (Nat.le_of_ble_eq_true rfl) d_S_init_17 ?_
  refine ab_dup d_S_init_20 rfl ?_
  refine cn_callIN (i := 26) (n := 27) (As := []) (rest := [.ref (g.2.1 + (b + 26)), .ref (g.2.1 + k)]) (L' := [mo g 25 (b + 0), ia g 25, ia g 25, ia g 25, ia g 25, ia g 25, ia g 25, ia g 25, ia g 25, ia g 25, ia g 25, ia g 25, ia g 25, ia g 25, ia g 25, ia g 25, ia g 25, ia g 25, ia g 25, ia g 25, ia g 25, ia g 25, ia g 25, ia g 25, ia g 25, ia g 25, oR g (b + 27)]) hb rfl rfl rfl c_R kc_S_18 d_S_init_21 rfl (Nat.le_of_ble_eq_true rfl) en_md (Nat.le_of_ble_eq_true rfl) ⟨(Nat.le_of_ble_eq_true rfl), (Nat.le_of_ble_eq_true rfl)⟩ ?_
  refine cn_putF (fs' := [.ref (g.2.1 + (b + 0)), .ref (g.2.1 + (b + 26))]) hk kp_S_19 rfl d_S_init_24 (Nat.le_of_ble_eq_true rfl) rfl rfl rfl ?_
  exact ab_vret rfl d_S_init_27 ⟨rfl, rfl⟩
def oA (g : lp_G) (b : Nat) : va_E := .inr (6, [.ref (g.2.1 + (b + 0)), .int 0])
def eA (g : lp_G) (b : Nat) : List va_E := [ia g 900]
set_option maxRecDepth 100000 in
theorem c_A {g : lp_G} {d : Nat} : Cn g um_A_init (d + 1) 1 900 [] (.inr (6, [.null, .int 0])) (oA g) (eA g) := by
  intro cs k b hb h0
  have hk := (List.getElem?_eq_some_iff.mp h0).1
  refine ab_entry (by decide +kernel) (Nat.le_of_ble_eq_true rfl) ?_
  suffices h : Ab g um_A_init (lp_md g (d + 1) 1 900 (fun v c => v = none ∧ c = cw cs k (oA g b) (eA g b))) 0 0 0 [(0, .ref (g.2.1 + k))] [] (cw cs k (.inr (6, [.null, .int 0])) []) by rw [← cw_0 h0] at h; exact h
  refine ab_aload_n 0 d_A_init_0 rfl rfl ?_
  refine cn_obj ko_A_3 d_A_init_1 en_md (Nat.le_of_ble_eq_true rfl) ?_
  refine ab_aload_n 0 d_A_init_4 rfl rfl ?_
  refine ab_sipush (v := 900) d_A_init_5 (by decide) ?_
  refine cn_newa (N := 900) (z := 0) (L' := [ia g 900]) hb rfl rfl (by decide) (by decide) (by decide) (Nat.le_of_ble_eq_true rfl) (Nat.le_of_ble_eq_true rfl) d_A_init_8 ?_
  refine cn_putF (fs' := [.ref (g.2.1 + (b + 0)), .int 0]) hk kp_A_9 rfl d_A_init_10 (Nat.le_of_ble_eq_true rfl) rfl rfl rfl ?_
  exact ab_vret rfl d_A_init_13 ⟨rfl, rfl⟩
def oD (g : lp_G) (a1 : Nat) (b : Nat) : va_E := .inr (8, [.ref a1, .int 0, .int 0, .int 0, .int 0, .ref (g.2.1 + (b + 0)), .int 0, .ref (g.2.1 + (b + 1)), .int 0])
def eD (g : lp_G) (a1 : Nat) (b : Nat) : List va_E := [ia g 99, ia g 99]
set_option maxRecDepth 100000 in
theorem c_D {g : lp_G} {d : Nat} {a1 : Nat} : Cn g um_D_init (d + 1) 2 198 [.ref a1] (.inr (8, [.null, .int 0, .int 0, .int 0, .int 0, .null, .int 0, .null, .int 0])) (oD g a1) (eD g a1) := by
  intro cs k b hb h0
  have hk := (List.getElem?_eq_some_iff.mp h0).1
  refine ab_entry (by decide +kernel) (Nat.le_of_ble_eq_true rfl) ?_
  suffices h : Ab g um_D_init (lp_md g (d + 1) 2 198 (fun v c => v = none ∧ c = cw cs k (oD g a1 b) (eD g a1 b))) 0 0 0 [(0, .ref (g.2.1 + k)), (1, .ref a1)] [] (cw cs k (.inr (8, [.null, .int 0, .int 0, .int 0, .int 0, .null, .int 0, .null, .int 0])) []) by rw [← cw_0 h0] at h; exact h
  refine ab_aload_n 0 d_D_init_0 rfl rfl ?_
  refine cn_obj ko_D_3 d_D_init_1 en_md (Nat.le_of_ble_eq_true rfl) ?_
  refine ab_aload_n 0 d_D_init_4 rfl rfl ?_
  refine ab_bipush (v := 99) d_D_init_5 (by decide) ?_
  refine cn_newa (N := 99) (z := 0) (L' := [ia g 99]) hb rfl rfl (by decide) (by decide) (by decide) (Nat.le_of_ble_eq_true rfl) (Nat.le_of_ble_eq_true rfl) d_D_init_7 ?_
  refine cn_putF (fs' := [.null, .int 0, .int 0, .int 0, .int 0, .ref (g.2.1 + (b + 0)), .int 0, .null, .int 0]) hk kp_D_11 rfl d_D_init_9 (Nat.le_of_ble_eq_true rfl) rfl rfl rfl ?_
  refine ab_aload_n 0 d_D_init_12 rfl rfl ?_
  refine ab_bipush (v := 99) d_D_init_13 (by decide) ?_
  refine cn_newa (N := 99) (z := 1) (L' := [ia g 99, ia g 99]) hb rfl rfl (by decide) (by decide) (by decide) (Nat.le_of_ble_eq_true rfl) (Nat.le_of_ble_eq_true rfl) d_D_init_15 ?_
  refine cn_putF (fs' := [.null, .int 0, .int 0, .int 0, .int 0, .ref (g.2.1 + (b + 0)), .int 0, .ref (g.2.1 + (b + 1)), .int 0]) hk kp_D_15 rfl d_D_init_17 (Nat.le_of_ble_eq_true rfl) rfl rfl rfl ?_
  refine ab_aload_n 0 d_D_init_20 rfl rfl ?_
  refine ab_aload_n 1 d_D_init_21 rfl rfl ?_
  refine cn_putF (fs' := [.ref a1, .int 0, .int 0, .int 0, .int 0, .ref (g.2.1 + (b + 0)), .int 0, .ref (g.2.1 + (b + 1)), .int 0]) hk kp_D_18 rfl d_D_init_22 (Nat.le_of_ble_eq_true rfl) rfl rfl rfl ?_
  exact ab_vret rfl d_D_init_25 ⟨rfl, rfl⟩
def oF (g : lp_G) (a1 : Nat) (b : Nat) : va_E := .inr (9, [.ref a1, .ref (g.2.1 + (b + 0))])
def eF (g : lp_G) (a1 : Nat) (b : Nat) : List va_E := [oT g (b + 1), ia g 24]
set_option maxRecDepth 100000 in
theorem c_F {g : lp_G} {d : Nat} {a1 : Nat} : Cn g um_F_init (d + 2) 2 26 [.ref a1] (.inr (9, [.null, .null])) (oF g a1) (eF g a1) := by
  intro cs k b hb h0
  have hk := (List.getElem?_eq_some_iff.mp h0).1
  refine ab_entry (by decide +kernel) (Nat.le_of_ble_eq_true rfl) ?_
  suffices h : Ab g um_F_init (lp_md g (d + 2) 2 26 (fun v c => v = none ∧ c = cw cs k (oF g a1 b) (eF g a1 b))) 0 0 0 [(0, .ref (g.2.1 + k)), (1, .ref a1)] [] (cw cs k (.inr (9, [.null, .null])) []) by rw [← cw_0 h0] at h; exact h
  refine ab_aload_n 0 d_F_init_0 rfl rfl ?_
  refine cn_obj ko_F_3 d_F_init_1 en_md (Nat.le_of_ble_eq_true rfl) ?_
  refine ab_aload_n 0 d_F_init_4 rfl rfl ?_
  refine cn_new (n := 0) (L' := [.inr (1, [.null, .int 0])]) hb rfl rfl ok_T kk_F_9 ki_T kn_T tf_T (by decide +kernel) df_T (Nat.le_of_ble_eq_true rfl) (Nat.le_of_ble_eq_true rfl) d_F_init_5 ?_
  refine ab_dup d_F_init_8 rfl ?_
  refine cn_callIN (i := 0) (n := 1) (As := []) (rest := [.ref (g.2.1 + (b + 0)), .ref (g.2.1 + k)]) (L' := [oT g (b + 1), ia g 24]) hb rfl rfl rfl c_T kc_F_11 d_F_init_9 rfl (Nat.le_of_ble_eq_true rfl) en_md (Nat.le_of_ble_eq_true rfl) ⟨(Nat.le_of_ble_eq_true rfl), (Nat.le_of_ble_eq_true rfl)⟩ ?_
  refine cn_putF (fs' := [.null, .ref (g.2.1 + (b + 0))]) hk kp_F_12 rfl d_F_init_12 (Nat.le_of_ble_eq_true rfl) rfl rfl rfl ?_
  refine ab_aload_n 0 d_F_init_15 rfl rfl ?_
  refine ab_aload_n 1 d_F_init_16 rfl rfl ?_
  refine cn_putF (fs' := [.ref a1, .ref (g.2.1 + (b + 0))]) hk kp_F_18 rfl d_F_init_17 (Nat.le_of_ble_eq_true rfl) rfl rfl rfl ?_
  exact ab_vret rfl d_F_init_20 ⟨rfl, rfl⟩
def oG (g : lp_G) (a1 : Nat) (b : Nat) : va_E := .inr (11, [.ref a1, .ref (g.2.1 + (b + 0)), .ref (g.2.1 + (b + 6)), .ref (g.2.1 + (b + 12)), .ref (g.2.1 + (b + 13)), .ref (g.2.1 + (b + 14)), .ref (g.2.1 + (b + 15)), .int 0, .int 0])
def eG (g : lp_G) (a1 : Nat) (b : Nat) : List va_E := [oC g (b + 1), oT g (b + 2), ia g 24, oT g (b + 4), ia g 24, ia g 24, oC g (b + 7), oT g (b + 8), ia g 24, oT g (b + 10), ia g 24, ia g 24, oQ g (g.2.1 + (b + 1)) (b + 13), oQ g (g.2.1 + (b + 3)) (b + 14), oQ g (g.2.1 + (b + 9)) (b + 15), oT g (b + 16), ia g 24]
set_option maxRecDepth 100000 in
theorem c_G {g : lp_G} {d : Nat} {a1 : Nat} : Cn g um_G_init (d + 3) 17 195 [.ref a1] (.inr (11, [.null, .null, .null, .null, .null, .null, .null, .int 0, .int 0])) (oG g a1) (eG g a1) := by
  intro cs k b hb h0
  have hk := (List.getElem?_eq_some_iff.mp h0).1
  refine ab_entry (by decide +kernel) (Nat.le_of_ble_eq_true rfl) ?_
  suffices h : Ab g um_G_init (lp_md g (d + 3) 17 195 (fun v c => v = none ∧ c = cw cs k (oG g a1 b) (eG g a1 b))) 0 0 0 [(0, .ref (g.2.1 + k)), (1, .ref a1)] [] (cw cs k (.inr (11, [.null, .null, .null, .null, .null, .null, .null, .int 0, .int 0])) []) by rw [← cw_0 h0] at h; exact h
  refine ab_aload_n 0 d_G_init_0 rfl rfl ?_
  refine cn_obj ko_G_3 d_G_init_1 en_md (Nat.le_of_ble_eq_true rfl) ?_
  refine ab_aload_n 0 d_G_init_4 rfl rfl ?_
  refine cn_new (n := 0) (L' := [.inr (2, [.null, .null, .null, .int 0])]) hb rfl rfl ok_C kk_G_9 ki_C kn_C tf_C (by decide +kernel) df_C (Nat.le_of_ble_eq_true rfl) (Nat.le_of_ble_eq_true rfl) d_G_init_5 ?_
  refine ab_dup d_G_init_8 rfl ?_
  refine cn_callIN (i := 0) (n := 1) (As := []) (rest := [.ref (g.2.1 + (b + 0)), .ref (g.2.1 + k)]) (L' := [oC g (b + 1), oT g (b + 2), ia g 24, oT g (b + 4), ia g 24, ia g 24]) hb rfl rfl rfl c_C kc_G_11 d_G_init_9 rfl (Nat.le_of_ble_eq_true rfl) en_md (Nat.le_of_ble_eq_true rfl) ⟨(Nat.le_of_ble_eq_true rfl), (Nat.le_of_ble_eq_true rfl)⟩ ?_
  refine cn_putF (fs' := [.null, .ref (g.2.1 + (b + 0)), .null, .null, .null, .null, .null, .int 0, .int 0]) hk kp_G_12 rfl d_G_init_12 (Nat.le_of_ble_eq_true rfl) rfl rfl rfl ?_
  refine ab_aload_n 0 d_G_init_15 rfl rfl ?_
  refine cn_new (n := 6) (L' := [oC g (b + 1), oT g (b + 2), ia g 24, oT g (b + 4), ia g 24, ia g 24, .inr (2, [.null, .null, .null, .int 0])]) hb rfl rfl ok_C kk_G_9 ki_C kn_C tf_C (by decide +kernel) df_C (Nat.le_of_ble_eq_true rfl) (Nat.le_of_ble_eq_true rfl) d_G_init_16 ?_
  refine ab_dup d_G_init_19 rfl ?_
  refine cn_callIN (i := 6) (n := 7) (As := []) (rest := [.ref (g.2.1 + (b + 6)), .ref (g.2.1 + k)]) (L' := [oC g (b + 1), oT g (b + 2), ia g 24, oT g (b + 4), ia g 24, ia g 24, oC g (b + 7), oT g (b + 8), ia g 24, oT g (b + 10), ia g 24, ia g 24]) hb rfl rfl rfl c_C kc_G_11 d_G_init_20 rfl (Nat.le_of_ble_eq_true rfl) en_md (Nat.le_of_ble_eq_true rfl) ⟨(Nat.le_of_ble_eq_true rfl), (Nat.le_of_ble_eq_true rfl)⟩ ?_
  refine cn_putF (fs' := [.null, .ref (g.2.1 + (b + 0)), .ref (g.2.1 + (b + 6)), .null, .null, .null, .null, .int 0, .int 0]) hk kp_G_18 rfl d_G_init_23 (Nat.le_of_ble_eq_true rfl) rfl rfl rfl ?_
  refine ab_aload_n 0 d_G_init_26 rfl rfl ?_
  refine cn_new (n := 12) (L' := [oC g (b + 1), oT g (b + 2), ia g 24, oT g (b + 4), ia g 24, ia g 24, oC g (b + 7), oT g (b + 8), ia g 24, oT g (b + 10), ia g 24, ia g 24, .inr (10, [.null, .int 0, .int 0])]) hb rfl rfl ok_Q kk_G_21 ki_Q kn_Q tf_Q (by decide +kernel) df_Q (Nat.le_of_ble_eq_true rfl) (Nat.le_of_ble_eq_true rfl) d_G_init_27 ?_
  refine ab_dup d_G_init_30 rfl ?_
  refine ab_aload_n 0 d_G_init_31 rfl rfl ?_
  refine cn_get hk kf_G_12 d_G_init_32 rfl ?_
  refine cn_getL (i := 0) hb kf_G_23 d_G_init_35 rfl rfl ?_
  refine cn_callI (i := 12) (n := 13) (As := [.ref (g.2.1 + (b + 1))]) (rest := [.ref (g.2.1 + (b + 12)), .ref (g.2.1 + k)]) (L' := [oC g (b + 1), oT g (b + 2), ia g 24, oT g (b + 4), ia g 24, ia g 24, oC g (b + 7), oT g (b + 8), ia g 24, oT g (b + 10), ia g 24, ia g 24, oQ g (g.2.1 + (b + 1)) (b + 13)]) hb rfl rfl rfl c_Q kc_G_27 d_G_init_38 rfl (Nat.le_of_ble_eq_true rfl) en_md (Nat.le_of_ble_eq_true rfl) ⟨(Nat.le_of_ble_eq_true rfl), (Nat.le_of_ble_eq_true rfl)⟩ ?_
  refine cn_putF (fs' := [.null, .ref (g.2.1 + (b + 0)), .ref (g.2.1 + (b + 6)), .ref (g.2.1 + (b + 12)), .null, .null, .null, .int 0, .int 0]) hk kp_G_30 rfl d_G_init_41 (Nat.le_of_ble_eq_true rfl) rfl rfl rfl ?_
  refine ab_aload_n 0 d_G_init_44 rfl rfl ?_
  refine cn_new (n := 13) (L' := [oC g (b + 1), oT g (b + 2), ia g 24, oT g (b + 4), ia g 24, ia g 24, oC g (b + 7), oT g (b + 8), ia g 24, oT g (b + 10), ia g 24, ia g 24, oQ g (g.2.1 + (b + 1)) (b + 13), .inr (10, [.null, .int 0, .int 0])]) hb rfl rfl ok_Q kk_G_21 ki_Q kn_Q tf_Q (by decide +kernel) df_Q (Nat.le_of_ble_eq_true rfl) (Nat.le_of_ble_eq_true rfl) d_G_init_45 ?_
  refine ab_dup d_G_init_48 rfl ?_
  refine ab_aload_n 0 d_G_init_49 rfl rfl ?_
  refine cn_get hk kf_G_12 d_G_init_50 rfl ?_
  refine cn_getL (i := 0) hb kf_G_34 d_G_init_53 rfl rfl ?_
  refine cn_callI (i := 13) (n := 14) (As := [.ref (g.2.1 + (b + 3))]) (rest := [.ref (g.2.1 + (b + 13)), .ref (g.2.1 + k)]) (L' := [oC g (b + 1), oT g (b + 2), ia g 24, oT g (b + 4), ia g 24, ia g 24, oC g (b + 7), oT g (b + 8), ia g 24, oT g (b + 10), ia g 24, ia g 24, oQ g (g.2.1 + (b + 1)) (b + 13), oQ g (g.2.1 + (b + 3)) (b + 14)]) hb rfl rfl rfl c_Q kc_G_27 d_G_init_56 rfl (Nat.le_of_ble_eq_true rfl) en_md (Nat.le_of_ble_eq_true rfl) ⟨(Nat.le_of_ble_eq_true rfl), (Nat.le_of_ble_eq_true rfl)⟩ ?_
  refine cn_putF (fs' := [.null, .ref (g.2.1 + (b + 0)), .ref (g.2.1 + (b + 6)), .ref (g.2.1 + (b + 12)), .ref (g.2.1 + (b + 13)), .null, .null, .int 0, .int 0]) hk kp_G_37 rfl d_G_init_59 (Nat.le_of_ble_eq_true rfl) rfl rfl rfl ?_
  refine ab_aload_n 0 d_G_init_62 rfl rfl ?_
  refine cn_new (n := 14) (L' := [oC g (b + 1), oT g (b + 2), ia g 24, oT g (b + 4), ia g 24, ia g 24, oC g (b + 7), oT g (b + 8), ia g 24, oT g (b + 10), ia g 24, ia g 24, oQ g (g.2.1 + (b + 1)) (b + 13), oQ g (g.2.1 + (b + 3)) (b + 14), .inr (10, [.null, .int 0, .int 0])]) hb rfl rfl ok_Q kk_G_21 ki_Q kn_Q tf_Q (by decide +kernel) df_Q (Nat.le_of_ble_eq_true rfl) (Nat.le_of_ble_eq_true rfl) d_G_init_63 ?_
  refine ab_dup d_G_init_66 rfl ?_
  refine ab_aload_n 0 d_G_init_67 rfl rfl ?_
  refine cn_get hk kf_G_18 d_G_init_68 rfl ?_
  refine cn_getL (i := 6) hb kf_G_34 d_G_init_71 rfl rfl ?_
  refine cn_callI (i := 14) (n := 15) (As := [.ref (g.2.1 + (b + 9))]) (rest := [.ref (g.2.1 + (b + 14)), .ref (g.2.1 + k)]) (L' := [oC g (b + 1), oT g (b + 2), ia g 24, oT g (b + 4), ia g 24, ia g 24, oC g (b + 7), oT g (b + 8), ia g 24, oT g (b + 10), ia g 24, ia g 24, oQ g (g.2.1 + (b + 1)) (b + 13), oQ g (g.2.1 + (b + 3)) (b + 14), oQ g (g.2.1 + (b + 9)) (b + 15)]) hb rfl rfl rfl c_Q kc_G_27 d_G_init_74 rfl (Nat.le_of_ble_eq_true rfl) en_md (Nat.le_of_ble_eq_true rfl) ⟨(Nat.le_of_ble_eq_true rfl), (Nat.le_of_ble_eq_true rfl)⟩ ?_
  refine cn_putF (fs' := [.null, .ref (g.2.1 + (b + 0)), .ref (g.2.1 + (b + 6)), .ref (g.2.1 + (b + 12)), .ref (g.2.1 + (b + 13)), .ref (g.2.1 + (b + 14)), .null, .int 0, .int 0]) hk kp_G_40 rfl d_G_init_77 (Nat.le_of_ble_eq_true rfl) rfl rfl rfl ?_
  refine ab_aload_n 0 d_G_init_80 rfl rfl ?_
  refine cn_new (n := 15) (L' := [oC g (b + 1), oT g (b + 2), ia g 24, oT g (b + 4), ia g 24, ia g 24, oC g (b + 7), oT g (b + 8), ia g 24, oT g (b + 10), ia g 24, ia g 24, oQ g (g.2.1 + (b + 1)) (b + 13), oQ g (g.2.1 + (b + 3)) (b + 14), oQ g (g.2.1 + (b + 9)) (b + 15), .inr (1, [.null, .int 0])]) hb rfl rfl ok_T kk_G_43 ki_T kn_T tf_T (by decide +kernel) df_T (Nat.le_of_ble_eq_true rfl) (Nat.le_of_ble_eq_true rfl) d_G_init_81 ?_
  refine ab_dup d_G_init_84 rfl ?_
  refine cn_callIN (i := 15) (n := 16) (As := []) (rest := [.ref (g.2.1 + (b + 15)), .ref (g.2.1 + k)]) (L' := [oC g (b + 1), oT g (b + 2), ia g 24, oT g (b + 4), ia g 24, ia g 24, oC g (b + 7), oT g (b + 8), ia g 24, oT g (b + 10), ia g 24, ia g 24, oQ g (g.2.1 + (b + 1)) (b + 13), oQ g (g.2.1 + (b + 3)) (b + 14), oQ g (g.2.1 + (b + 9)) (b + 15), oT g (b + 16), ia g 24]) hb rfl rfl rfl c_T kc_G_45 d_G_init_85 rfl (Nat.le_of_ble_eq_true rfl) en_md (Nat.le_of_ble_eq_true rfl) ⟨(Nat.le_of_ble_eq_true rfl), (Nat.le_of_ble_eq_true rfl)⟩ ?_
  refine cn_putF (fs' := [.null, .ref (g.2.1 + (b + 0)), .ref (g.2.1 + (b + 6)), .ref (g.2.1 + (b + 12)), .ref (g.2.1 + (b + 13)), .ref (g.2.1 + (b + 14)), .ref (g.2.1 + (b + 15)), .int 0, .int 0]) hk kp_G_46 rfl d_G_init_88 (Nat.le_of_ble_eq_true rfl) rfl rfl rfl ?_
  refine ab_aload_n 0 d_G_init_91 rfl rfl ?_
  refine ab_aload_n 1 d_G_init_92 rfl rfl ?_
  refine cn_putF (fs' := [.ref a1, .ref (g.2.1 + (b + 0)), .ref (g.2.1 + (b + 6)), .ref (g.2.1 + (b + 12)), .ref (g.2.1 + (b + 13)), .ref (g.2.1 + (b + 14)), .ref (g.2.1 + (b + 15)), .int 0, .int 0]) hk kp_G_49 rfl d_G_init_93 (Nat.le_of_ble_eq_true rfl) rfl rfl rfl ?_
  exact ab_vret rfl d_G_init_96 ⟨rfl, rfl⟩
def oM (g : lp_G) (b : Nat) : va_E := .inr (12, [.ref (g.2.1 + (b + 0)), .ref (g.2.1 + (b + 1)), .int 0, .int 0, .ref (g.2.1 + (b + 2)), .ref (g.2.1 + (b + 3)), .ref (g.2.1 + (b + 4)), .ref (g.2.1 + (b + 5)), .int 0, .ref (g.2.1 + (b + 6)), .ref (g.2.1 + (b + 7)), .ref (g.2.1 + (b + 8)), .ref (g.2.1 + (b + 9)), .ref (g.2.1 + (b + 10)), .ref (g.2.1 + (b + 11)), .int 0, .int 0, .int 0, .ref (g.2.1 + (b + 12)), .ref (g.2.1 + (b + 13)), .ref (g.2.1 + (b + 14)), .int 0, .ref (g.2.1 + (b + 15)), .ref (g.2.1 + (b + 16)), .int 0, .ref (g.2.1 + (b + 17)), .int 0, .ref (g.2.1 + (b + 18)), .ref (g.2.1 + (b + 19)), .ref (g.2.1 + (b + 20)), .ref (g.2.1 + (b + 21)), .ref (g.2.1 + (b + 22)), .ref (g.2.1 + (b + 23)), .int 0, .int 0, .int 0, .ref (g.2.1 + (b + 24)), .ref (g.2.1 + (b + 25))])
def eM (g : lp_G) (b : Nat) : List va_E := [ia g 96, ia g 4, ia g 24, ia g 24, ia g 24, ia g 625, ia g 60, ia g 60, ia g 60, ia g 60, ia g 24, ia g 24, ia g 24, ia g 24, ia g 24, ia g 48, ia g 48, ia g 900, ia g 80, ia g 80, ia g 80, ia g 80, ia g 80, ia g 80, ia g 24, ia g 24]
set_option maxRecDepth 100000 in
theorem c_M {g : lp_G} {d : Nat} : Cn g um_M_init (d + 1) 26 2681 [] (.inr (12, [.null, .null, .int 0, .int 0, .null, .null, .null, .null, .int 0, .null, .null, .null, .null, .null, .null, .int 0, .int 0, .int 0, .null, .null, .null, .int 0, .null, .null, .int 0, .null, .int 0, .null, .null, .null, .null, .null, .null, .int 0, .int 0, .int 0, .null, .null])) (oM g) (eM g) := by
  intro cs k b hb h0
  have hk := (List.getElem?_eq_some_iff.mp h0).1
  refine ab_entry (by decide +kernel) (Nat.le_of_ble_eq_true rfl) ?_
  suffices h : Ab g um_M_init (lp_md g (d + 1) 26 2681 (fun v c => v = none ∧ c = cw cs k (oM g b) (eM g b))) 0 0 0 [(0, .ref (g.2.1 + k))] [] (cw cs k (.inr (12, [.null, .null, .int 0, .int 0, .null, .null, .null, .null, .int 0, .null, .null, .null, .null, .null, .null, .int 0, .int 0, .int 0, .null, .null, .null, .int 0, .null, .null, .int 0, .null, .int 0, .null, .null, .null, .null, .null, .null, .int 0, .int 0, .int 0, .null, .null])) []) by rw [← cw_0 h0] at h; exact h
  refine ab_aload_n 0 d_M_init_0 rfl rfl ?_
  refine cn_obj ko_M_1 d_M_init_1 en_md (Nat.le_of_ble_eq_true rfl) ?_
  refine ab_aload_n 0 d_M_init_4 rfl rfl ?_
  refine ab_bipush (v := 96) d_M_init_5 (by decide) ?_
  refine cn_newa (N := 96) (z := 0) (L' := [ia g 96]) hb rfl rfl (by decide) (by decide) (by decide) (Nat.le_of_ble_eq_true rfl) (Nat.le_of_ble_eq_true rfl) d_M_init_7 ?_
  refine cn_put (fs' := [.ref (g.2.1 + (b + 0)), .null, .int 0, .int 0, .null, .null, .null, .null, .int 0, .null, .null, .null, .null, .null, .null, .int 0, .int 0, .int 0, .null, .null, .null, .int 0, .null, .null, .int 0, .null, .int 0, .null, .null, .null, .null, .null, .null, .int 0, .int 0, .int 0, .null, .null]) hk kp_M_7 d_M_init_9 (Nat.le_of_ble_eq_true rfl) rfl rfl rfl ?_
  refine ab_aload_n 0 d_M_init_12 rfl rfl ?_
  refine ab_iconst (v := 4) d_M_init_13 (by decide) ?_
  refine cn_newa (N := 4) (z := 1) (L' := [ia g 96, ia g 4]) hb rfl rfl (by decide) (by decide) (by decide) (Nat.le_of_ble_eq_true rfl) (Nat.le_of_ble_eq_true rfl) d_M_init_14 ?_
  refine cn_put (fs' := [.ref (g.2.1 + (b + 0)), .ref (g.2.1 + (b + 1)), .int 0, .int 0, .null, .null, .null, .null, .int 0, .null, .null, .null, .null, .null, .null, .int 0, .int 0, .int 0, .null, .null, .null, .int 0, .null, .null, .int 0, .null, .int 0, .null, .null, .null, .null, .null, .null, .int 0, .int 0, .int 0, .null, .null]) hk kp_M_13 d_M_init_16 (Nat.le_of_ble_eq_true rfl) rfl rfl rfl ?_
  refine ab_aload_n 0 d_M_init_19 rfl rfl ?_
  refine ab_bipush (v := 24) d_M_init_20 (by decide) ?_
  refine cn_newa (N := 24) (z := 2) (L' := [ia g 96, ia g 4, ia g 24]) hb rfl rfl (by decide) (by decide) (by decide) (Nat.le_of_ble_eq_true rfl) (Nat.le_of_ble_eq_true rfl) d_M_init_22 ?_
  refine cn_put (fs' := [.ref (g.2.1 + (b + 0)), .ref (g.2.1 + (b + 1)), .int 0, .int 0, .ref (g.2.1 + (b + 2)), .null, .null, .null, .int 0, .null, .null, .null, .null, .null, .null, .int 0, .int 0, .int 0, .null, .null, .null, .int 0, .null, .null, .int 0, .null, .int 0, .null, .null, .null, .null, .null, .null, .int 0, .int 0, .int 0, .null, .null]) hk kp_M_16 d_M_init_24 (Nat.le_of_ble_eq_true rfl) rfl rfl rfl ?_
  refine ab_aload_n 0 d_M_init_27 rfl rfl ?_
  refine ab_bipush (v := 24) d_M_init_28 (by decide) ?_
  refine cn_newa (N := 24) (z := 3) (L' := [ia g 96, ia g 4, ia g 24, ia g 24]) hb rfl rfl (by decide) (by decide) (by decide) (Nat.le_of_ble_eq_true rfl) (Nat.le_of_ble_eq_true rfl) d_M_init_30 ?_
  refine cn_put (fs' := [.ref (g.2.1 + (b + 0)), .ref (g.2.1 + (b + 1)), .int 0, .int 0, .ref (g.2.1 + (b + 2)), .ref (g.2.1 + (b + 3)), .null, .null, .int 0, .null, .null, .null, .null, .null, .null, .int 0, .int 0, .int 0, .null, .null, .null, .int 0, .null, .null, .int 0, .null, .int 0, .null, .null, .null, .null, .null, .null, .int 0, .int 0, .int 0, .null, .null]) hk kp_M_19 d_M_init_32 (Nat.le_of_ble_eq_true rfl) rfl rfl rfl ?_
  refine ab_aload_n 0 d_M_init_35 rfl rfl ?_
  refine ab_bipush (v := 24) d_M_init_36 (by decide) ?_
  refine cn_newa (N := 24) (z := 4) (L' := [ia g 96, ia g 4, ia g 24, ia g 24, ia g 24]) hb rfl rfl (by decide) (by decide) (by decide) (Nat.le_of_ble_eq_true rfl) (Nat.le_of_ble_eq_true rfl) d_M_init_38 ?_
  refine cn_put (fs' := [.ref (g.2.1 + (b + 0)), .ref (g.2.1 + (b + 1)), .int 0, .int 0, .ref (g.2.1 + (b + 2)), .ref (g.2.1 + (b + 3)), .ref (g.2.1 + (b + 4)), .null, .int 0, .null, .null, .null, .null, .null, .null, .int 0, .int 0, .int 0, .null, .null, .null, .int 0, .null, .null, .int 0, .null, .int 0, .null, .null, .null, .null, .null, .null, .int 0, .int 0, .int 0, .null, .null]) hk kp_M_22 d_M_init_40 (Nat.le_of_ble_eq_true rfl) rfl rfl rfl ?_
  refine ab_aload_n 0 d_M_init_43 rfl rfl ?_
  refine ab_sipush (v := 625) d_M_init_44 (by decide) ?_
  refine cn_newa (N := 625) (z := 5) (L' := [ia g 96, ia g 4, ia g 24, ia g 24, ia g 24, ia g 625]) hb rfl rfl (by decide) (by decide) (by decide) (Nat.le_of_ble_eq_true rfl) (Nat.le_of_ble_eq_true rfl) d_M_init_47 ?_
  refine cn_put (fs' := [.ref (g.2.1 + (b + 0)), .ref (g.2.1 + (b + 1)), .int 0, .int 0, .ref (g.2.1 + (b + 2)), .ref (g.2.1 + (b + 3)), .ref (g.2.1 + (b + 4)), .ref (g.2.1 + (b + 5)), .int 0, .null, .null, .null, .null, .null, .null, .int 0, .int 0, .int 0, .null, .null, .null, .int 0, .null, .null, .int 0, .null, .int 0, .null, .null, .null, .null, .null, .null, .int 0, .int 0, .int 0, .null, .null]) hk kp_M_25 d_M_init_49 (Nat.le_of_ble_eq_true rfl) rfl rfl rfl ?_
  refine ab_aload_n 0 d_M_init_52 rfl rfl ?_
  refine ab_bipush (v := 60) d_M_init_53 (by decide) ?_
  refine cn_newa (N := 60) (z := 6) (L' := [ia g 96, ia g 4, ia g 24, ia g 24, ia g 24, ia g 625, ia g 60]) hb rfl rfl (by decide) (by decide) (by decide) (Nat.le_of_ble_eq_true rfl) (Nat.le_of_ble_eq_true rfl) d_M_init_55 ?_
  refine cn_put (fs' := [.ref (g.2.1 + (b + 0)), .ref (g.2.1 + (b + 1)), .int 0, .int 0, .ref (g.2.1 + (b + 2)), .ref (g.2.1 + (b + 3)), .ref (g.2.1 + (b + 4)), .ref (g.2.1 + (b + 5)), .int 0, .ref (g.2.1 + (b + 6)), .null, .null, .null, .null, .null, .int 0, .int 0, .int 0, .null, .null, .null, .int 0, .null, .null, .int 0, .null, .int 0, .null, .null, .null, .null, .null, .null, .int 0, .int 0, .int 0, .null, .null]) hk kp_M_28 d_M_init_57 (Nat.le_of_ble_eq_true rfl) rfl rfl rfl ?_
  refine ab_aload_n 0 d_M_init_60 rfl rfl ?_
  refine ab_bipush (v := 60) d_M_init_61 (by decide) ?_
  refine cn_newa (N := 60) (z := 7) (L' := [ia g 96, ia g 4, ia g 24, ia g 24, ia g 24, ia g 625, ia g 60, ia g 60]) hb rfl rfl (by decide) (by decide) (by decide) (Nat.le_of_ble_eq_true rfl) (Nat.le_of_ble_eq_true rfl) d_M_init_63 ?_
  refine cn_put (fs' := [.ref (g.2.1 + (b + 0)), .ref (g.2.1 + (b + 1)), .int 0, .int 0, .ref (g.2.1 + (b + 2)), .ref (g.2.1 + (b + 3)), .ref (g.2.1 + (b + 4)), .ref (g.2.1 + (b + 5)), .int 0, .ref (g.2.1 + (b + 6)), .ref (g.2.1 + (b + 7)), .null, .null, .null, .null, .int 0, .int 0, .int 0, .null, .null, .null, .int 0, .null, .null, .int 0, .null, .int 0, .null, .null, .null, .null, .null, .null, .int 0, .int 0, .int 0, .null, .null]) hk kp_M_31 d_M_init_65 (Nat.le_of_ble_eq_true rfl) rfl rfl rfl ?_
  refine ab_aload_n 0 d_M_init_68 rfl rfl ?_
  refine ab_bipush (v := 60) d_M_init_69 (by decide) ?_
  refine cn_newa (N := 60) (z := 8) (L' := [ia g 96, ia g 4, ia g 24, ia g 24, ia g 24, ia g 625, ia g 60, ia g 60, ia g 60]) hb rfl rfl (by decide) (by decide) (by decide) (Nat.le_of_ble_eq_true rfl) (Nat.le_of_ble_eq_true rfl) d_M_init_71 ?_
  refine cn_put (fs' := [.ref (g.2.1 + (b + 0)), .ref (g.2.1 + (b + 1)), .int 0, .int 0, .ref (g.2.1 + (b + 2)), .ref (g.2.1 + (b + 3)), .ref (g.2.1 + (b + 4)), .ref (g.2.1 + (b + 5)), .int 0, .ref (g.2.1 + (b + 6)), .ref (g.2.1 + (b + 7)), .ref (g.2.1 + (b + 8)), .null, .null, .null, .int 0, .int 0, .int 0, .null, .null, .null, .int 0, .null, .null, .int 0, .null, .int 0, .null, .null, .null, .null, .null, .null, .int 0, .int 0, .int 0, .null, .null]) hk kp_M_34 d_M_init_73 (Nat.le_of_ble_eq_true rfl) rfl rfl rfl ?_
  refine ab_aload_n 0 d_M_init_76 rfl rfl ?_
  refine ab_bipush (v := 60) d_M_init_77 (by decide) ?_
  refine cn_newa (N := 60) (z := 9) (L' := [ia g 96, ia g 4, ia g 24, ia g 24, ia g 24, ia g 625, ia g 60, ia g 60, ia g 60, ia g 60]) hb rfl rfl (by decide) (by decide) (by decide) (Nat.le_of_ble_eq_true rfl) (Nat.le_of_ble_eq_true rfl) d_M_init_79 ?_
  refine cn_put (fs' := [.ref (g.2.1 + (b + 0)), .ref (g.2.1 + (b + 1)), .int 0, .int 0, .ref (g.2.1 + (b + 2)), .ref (g.2.1 + (b + 3)), .ref (g.2.1 + (b + 4)), .ref (g.2.1 + (b + 5)), .int 0, .ref (g.2.1 + (b + 6)), .ref (g.2.1 + (b + 7)), .ref (g.2.1 + (b + 8)), .ref (g.2.1 + (b + 9)), .null, .null, .int 0, .int 0, .int 0, .null, .null, .null, .int 0, .null, .null, .int 0, .null, .int 0, .null, .null, .null, .null, .null, .null, .int 0, .int 0, .int 0, .null, .null]) hk kp_M_37 d_M_init_81 (Nat.le_of_ble_eq_true rfl) rfl rfl rfl ?_
  refine ab_aload_n 0 d_M_init_84 rfl rfl ?_
  refine ab_bipush (v := 24) d_M_init_85 (by decide) ?_
  refine cn_newa (N := 24) (z := 10) (L' := [ia g 96, ia g 4, ia g 24, ia g 24, ia g 24, ia g 625, ia g 60, ia g 60, ia g 60, ia g 60, ia g 24]) hb rfl rfl (by decide) (by decide) (by decide) (Nat.le_of_ble_eq_true rfl) (Nat.le_of_ble_eq_true rfl) d_M_init_87 ?_
  refine cn_put (fs' := [.ref (g.2.1 + (b + 0)), .ref (g.2.1 + (b + 1)), .int 0, .int 0, .ref (g.2.1 + (b + 2)), .ref (g.2.1 + (b + 3)), .ref (g.2.1 + (b + 4)), .ref (g.2.1 + (b + 5)), .int 0, .ref (g.2.1 + (b + 6)), .ref (g.2.1 + (b + 7)), .ref (g.2.1 + (b + 8)), .ref (g.2.1 + (b + 9)), .ref (g.2.1 + (b + 10)), .null, .int 0, .int 0, .int 0, .null, .null, .null, .int 0, .null, .null, .int 0, .null, .int 0, .null, .null, .null, .null, .null, .null, .int 0, .int 0, .int 0, .null, .null]) hk kp_M_40 d_M_init_89 (Nat.le_of_ble_eq_true rfl) rfl rfl rfl ?_
  refine ab_aload_n 0 d_M_init_92 rfl rfl ?_
  refine ab_bipush (v := 24) d_M_init_93 (by decide) ?_
  refine cn_newa (N := 24) (z := 11) (L' := [ia g 96, ia g 4, ia g 24, ia g 24, ia g 24, ia g 625, ia g 60, ia g 60, ia g 60, ia g 60, ia g 24, ia g 24]) hb rfl rfl (by decide) (by decide) (by decide) (Nat.le_of_ble_eq_true rfl) (Nat.le_of_ble_eq_true rfl) d_M_init_95 ?_
  refine cn_put (fs' := [.ref (g.2.1 + (b + 0)), .ref (g.2.1 + (b + 1)), .int 0, .int 0, .ref (g.2.1 + (b + 2)), .ref (g.2.1 + (b + 3)), .ref (g.2.1 + (b + 4)), .ref (g.2.1 + (b + 5)), .int 0, .ref (g.2.1 + (b + 6)), .ref (g.2.1 + (b + 7)), .ref (g.2.1 + (b + 8)), .ref (g.2.1 + (b + 9)), .ref (g.2.1 + (b + 10)), .ref (g.2.1 + (b + 11)), .int 0, .int 0, .int 0, .null, .null, .null, .int 0, .null, .null, .int 0, .null, .int 0, .null, .null, .null, .null, .null, .null, .int 0, .int 0, .int 0, .null, .null]) hk kp_M_43 d_M_init_97 (Nat.le_of_ble_eq_true rfl) rfl rfl rfl ?_
  refine ab_aload_n 0 d_M_init_100 rfl rfl ?_
  refine ab_bipush (v := 24) d_M_init_101 (by decide) ?_
  refine cn_newa (N := 24) (z := 12) (L' := [ia g 96, ia g 4, ia g 24, ia g 24, ia g 24, ia g 625, ia g 60, ia g 60, ia g 60, ia g 60, ia g 24, ia g 24, ia g 24]) hb rfl rfl (by decide) (by decide) (by decide) (Nat.le_of_ble_eq_true rfl) (Nat.le_of_ble_eq_true rfl) d_M_init_103 ?_
  refine cn_put (fs' := [.ref (g.2.1 + (b + 0)), .ref (g.2.1 + (b + 1)), .int 0, .int 0, .ref (g.2.1 + (b + 2)), .ref (g.2.1 + (b + 3)), .ref (g.2.1 + (b + 4)), .ref (g.2.1 + (b + 5)), .int 0, .ref (g.2.1 + (b + 6)), .ref (g.2.1 + (b + 7)), .ref (g.2.1 + (b + 8)), .ref (g.2.1 + (b + 9)), .ref (g.2.1 + (b + 10)), .ref (g.2.1 + (b + 11)), .int 0, .int 0, .int 0, .ref (g.2.1 + (b + 12)), .null, .null, .int 0, .null, .null, .int 0, .null, .int 0, .null, .null, .null, .null, .null, .null, .int 0, .int 0, .int 0, .null, .null]) hk kp_M_46 d_M_init_105 (Nat.le_of_ble_eq_true rfl) rfl rfl rfl ?_
  refine ab_aload_n 0 d_M_init_108 rfl rfl ?_
  refine ab_bipush (v := 24) d_M_init_109 (by decide) ?_
  refine cn_newa (N := 24) (z := 13) (L' := [ia g 96, ia g 4, ia g 24, ia g 24, ia g 24, ia g 625, ia g 60, ia g 60, ia g 60, ia g 60, ia g 24, ia g 24, ia g 24, ia g 24]) hb rfl rfl (by decide) (by decide) (by decide) (Nat.le_of_ble_eq_true rfl) (Nat.le_of_ble_eq_true rfl) d_M_init_111 ?_
  refine cn_put (fs' := [.ref (g.2.1 + (b + 0)), .ref (g.2.1 + (b + 1)), .int 0, .int 0, .ref (g.2.1 + (b + 2)), .ref (g.2.1 + (b + 3)), .ref (g.2.1 + (b + 4)), .ref (g.2.1 + (b + 5)), .int 0, .ref (g.2.1 + (b + 6)), .ref (g.2.1 + (b + 7)), .ref (g.2.1 + (b + 8)), .ref (g.2.1 + (b + 9)), .ref (g.2.1 + (b + 10)), .ref (g.2.1 + (b + 11)), .int 0, .int 0, .int 0, .ref (g.2.1 + (b + 12)), .ref (g.2.1 + (b + 13)), .null, .int 0, .null, .null, .int 0, .null, .int 0, .null, .null, .null, .null, .null, .null, .int 0, .int 0, .int 0, .null, .null]) hk kp_M_49 d_M_init_113 (Nat.le_of_ble_eq_true rfl) rfl rfl rfl ?_
  refine ab_aload_n 0 d_M_init_116 rfl rfl ?_
  refine ab_bipush (v := 24) d_M_init_117 (by decide) ?_
  refine cn_newa (N := 24) (z := 14) (L' := [ia g 96, ia g 4, ia g 24, ia g 24, ia g 24, ia g 625, ia g 60, ia g 60, ia g 60, ia g 60, ia g 24, ia g 24, ia g 24, ia g 24, ia g 24]) hb rfl rfl (by decide) (by decide) (by decide) (Nat.le_of_ble_eq_true rfl) (Nat.le_of_ble_eq_true rfl) d_M_init_119 ?_
  refine cn_put (fs' := [.ref (g.2.1 + (b + 0)), .ref (g.2.1 + (b + 1)), .int 0, .int 0, .ref (g.2.1 + (b + 2)), .ref (g.2.1 + (b + 3)), .ref (g.2.1 + (b + 4)), .ref (g.2.1 + (b + 5)), .int 0, .ref (g.2.1 + (b + 6)), .ref (g.2.1 + (b + 7)), .ref (g.2.1 + (b + 8)), .ref (g.2.1 + (b + 9)), .ref (g.2.1 + (b + 10)), .ref (g.2.1 + (b + 11)), .int 0, .int 0, .int 0, .ref (g.2.1 + (b + 12)), .ref (g.2.1 + (b + 13)), .ref (g.2.1 + (b + 14)), .int 0, .null, .null, .int 0, .null, .int 0, .null, .null, .null, .null, .null, .null, .int 0, .int 0, .int 0, .null, .null]) hk kp_M_52 d_M_init_121 (Nat.le_of_ble_eq_true rfl) rfl rfl rfl ?_
  refine ab_aload_n 0 d_M_init_124 rfl rfl ?_
  refine ab_bipush (v := 48) d_M_init_125 (by decide) ?_
  refine cn_newa (N := 48) (z := 15) (L' := [ia g 96, ia g 4, ia g 24, ia g 24, ia g 24, ia g 625, ia g 60, ia g 60, ia g 60, ia g 60, ia g 24, ia g 24, ia g 24, ia g 24, ia g 24, ia g 48]) hb rfl rfl (by decide) (by decide) (by decide) (Nat.le_of_ble_eq_true rfl) (Nat.le_of_ble_eq_true rfl) d_M_init_127 ?_
  refine cn_put (fs' := [.ref (g.2.1 + (b + 0)), .ref (g.2.1 + (b + 1)), .int 0, .int 0, .ref (g.2.1 + (b + 2)), .ref (g.2.1 + (b + 3)), .ref (g.2.1 + (b + 4)), .ref (g.2.1 + (b + 5)), .int 0, .ref (g.2.1 + (b + 6)), .ref (g.2.1 + (b + 7)), .ref (g.2.1 + (b + 8)), .ref (g.2.1 + (b + 9)), .ref (g.2.1 + (b + 10)), .ref (g.2.1 + (b + 11)), .int 0, .int 0, .int 0, .ref (g.2.1 + (b + 12)), .ref (g.2.1 + (b + 13)), .ref (g.2.1 + (b + 14)), .int 0, .ref (g.2.1 + (b + 15)), .null, .int 0, .null, .int 0, .null, .null, .null, .null, .null, .null, .int 0, .int 0, .int 0, .null, .null]) hk kp_M_55 d_M_init_129 (Nat.le_of_ble_eq_true rfl) rfl rfl rfl ?_
  refine ab_aload_n 0 d_M_init_132 rfl rfl ?_
  refine ab_bipush (v := 48) d_M_init_133 (by decide) ?_
  refine cn_newa (N := 48) (z := 16) (L' := [ia g 96, ia g 4, ia g 24, ia g 24, ia g 24, ia g 625, ia g 60, ia g 60, ia g 60, ia g 60, ia g 24, ia g 24, ia g 24, ia g 24, ia g 24, ia g 48, ia g 48]) hb rfl rfl (by decide) (by decide) (by decide) (Nat.le_of_ble_eq_true rfl) (Nat.le_of_ble_eq_true rfl) d_M_init_135 ?_
  refine cn_put (fs' := [.ref (g.2.1 + (b + 0)), .ref (g.2.1 + (b + 1)), .int 0, .int 0, .ref (g.2.1 + (b + 2)), .ref (g.2.1 + (b + 3)), .ref (g.2.1 + (b + 4)), .ref (g.2.1 + (b + 5)), .int 0, .ref (g.2.1 + (b + 6)), .ref (g.2.1 + (b + 7)), .ref (g.2.1 + (b + 8)), .ref (g.2.1 + (b + 9)), .ref (g.2.1 + (b + 10)), .ref (g.2.1 + (b + 11)), .int 0, .int 0, .int 0, .ref (g.2.1 + (b + 12)), .ref (g.2.1 + (b + 13)), .ref (g.2.1 + (b + 14)), .int 0, .ref (g.2.1 + (b + 15)), .ref (g.2.1 + (b + 16)), .int 0, .null, .int 0, .null, .null, .null, .null, .null, .null, .int 0, .int 0, .int 0, .null, .null]) hk kp_M_58 d_M_init_137 (Nat.le_of_ble_eq_true rfl) rfl rfl rfl ?_
  refine ab_aload_n 0 d_M_init_140 rfl rfl ?_
  refine ab_sipush (v := 900) d_M_init_141 (by decide) ?_
  refine cn_newa (N := 900) (z := 17) (L' := [ia g 96, ia g 4, ia g 24, ia g 24, ia g 24, ia g 625, ia g 60, ia g 60, ia g 60, ia g 60, ia g 24, ia g 24, ia g 24, ia g 24, ia g 24, ia g 48, ia g 48, ia g 900]) hb rfl rfl (by decide) (by decide) (by decide) (Nat.le_of_ble_eq_true rfl) (Nat.le_of_ble_eq_true rfl) d_M_init_144 ?_
  refine cn_put (fs' := [.ref (g.2.1 + (b + 0)), .ref (g.2.1 + (b + 1)), .int 0, .int 0, .ref (g.2.1 + (b + 2)), .ref (g.2.1 + (b + 3)), .ref (g.2.1 + (b + 4)), .ref (g.2.1 + (b + 5)), .int 0, .ref (g.2.1 + (b + 6)), .ref (g.2.1 + (b + 7)), .ref (g.2.1 + (b + 8)), .ref (g.2.1 + (b + 9)), .ref (g.2.1 + (b + 10)), .ref (g.2.1 + (b + 11)), .int 0, .int 0, .int 0, .ref (g.2.1 + (b + 12)), .ref (g.2.1 + (b + 13)), .ref (g.2.1 + (b + 14)), .int 0, .ref (g.2.1 + (b + 15)), .ref (g.2.1 + (b + 16)), .int 0, .ref (g.2.1 + (b + 17)), .int 0, .null, .null, .null, .null, .null, .null, .int 0, .int 0, .int 0, .null, .null]) hk kp_M_61 d_M_init_146 (Nat.le_of_ble_eq_true rfl) rfl rfl rfl ?_
  refine ab_aload_n 0 d_M_init_149 rfl rfl ?_
  refine ab_bipush (v := 80) d_M_init_150 (by decide) ?_
  refine cn_newa (N := 80) (z := 18) (L' := [ia g 96, ia g 4, ia g 24, ia g 24, ia g 24, ia g 625, ia g 60, ia g 60, ia g 60, ia g 60, ia g 24, ia g 24, ia g 24, ia g 24, ia g 24, ia g 48, ia g 48, ia g 900, ia g 80]) hb rfl rfl (by decide) (by decide) (by decide) (Nat.le_of_ble_eq_true rfl) (Nat.le_of_ble_eq_true rfl) d_M_init_152 ?_
  refine cn_put (fs' := [.ref (g.2.1 + (b + 0)), .ref (g.2.1 + (b + 1)), .int 0, .int 0, .ref (g.2.1 + (b + 2)), .ref (g.2.1 + (b + 3)), .ref (g.2.1 + (b + 4)), .ref (g.2.1 + (b + 5)), .int 0, .ref (g.2.1 + (b + 6)), .ref (g.2.1 + (b + 7)), .ref (g.2.1 + (b + 8)), .ref (g.2.1 + (b + 9)), .ref (g.2.1 + (b + 10)), .ref (g.2.1 + (b + 11)), .int 0, .int 0, .int 0, .ref (g.2.1 + (b + 12)), .ref (g.2.1 + (b + 13)), .ref (g.2.1 + (b + 14)), .int 0, .ref (g.2.1 + (b + 15)), .ref (g.2.1 + (b + 16)), .int 0, .ref (g.2.1 + (b + 17)), .int 0, .ref (g.2.1 + (b + 18)), .null, .null, .null, .null, .null, .int 0, .int 0, .int 0, .null, .null]) hk kp_M_64 d_M_init_154 (Nat.le_of_ble_eq_true rfl) rfl rfl rfl ?_
  refine ab_aload_n 0 d_M_init_157 rfl rfl ?_
  refine ab_bipush (v := 80) d_M_init_158 (by decide) ?_
  refine cn_newa (N := 80) (z := 19) (L' := [ia g 96, ia g 4, ia g 24, ia g 24, ia g 24, ia g 625, ia g 60, ia g 60, ia g 60, ia g 60, ia g 24, ia g 24, ia g 24, ia g 24, ia g 24, ia g 48, ia g 48, ia g 900, ia g 80, ia g 80]) hb rfl rfl (by decide) (by decide) (by decide) (Nat.le_of_ble_eq_true rfl) (Nat.le_of_ble_eq_true rfl) d_M_init_160 ?_
  refine cn_put (fs' := [.ref (g.2.1 + (b + 0)), .ref (g.2.1 + (b + 1)), .int 0, .int 0, .ref (g.2.1 + (b + 2)), .ref (g.2.1 + (b + 3)), .ref (g.2.1 + (b + 4)), .ref (g.2.1 + (b + 5)), .int 0, .ref (g.2.1 + (b + 6)), .ref (g.2.1 + (b + 7)), .ref (g.2.1 + (b + 8)), .ref (g.2.1 + (b + 9)), .ref (g.2.1 + (b + 10)), .ref (g.2.1 + (b + 11)), .int 0, .int 0, .int 0, .ref (g.2.1 + (b + 12)), .ref (g.2.1 + (b + 13)), .ref (g.2.1 + (b + 14)), .int 0, .ref (g.2.1 + (b + 15)), .ref (g.2.1 + (b + 16)), .int 0, .ref (g.2.1 + (b + 17)), .int 0, .ref (g.2.1 + (b + 18)), .ref (g.2.1 + (b + 19)), .null, .null, .null, .null, .int 0, .int 0, .int 0, .null, .null]) hk kp_M_67 d_M_init_162 (Nat.le_of_ble_eq_true rfl) rfl rfl rfl ?_
  refine ab_aload_n 0 d_M_init_165 rfl rfl ?_
  refine ab_bipush (v := 80) d_M_init_166 (by decide) ?_
  refine cn_newa (N := 80) (z := 20) (L' := [ia g 96, ia g 4, ia g 24, ia g 24, ia g 24, ia g 625, ia g 60, ia g 60, ia g 60, ia g 60, ia g 24, ia g 24, ia g 24, ia g 24, ia g 24, ia g 48, ia g 48, ia g 900, ia g 80, ia g 80, ia g 80]) hb rfl rfl (by decide) (by decide) (by decide) (Nat.le_of_ble_eq_true rfl) (Nat.le_of_ble_eq_true rfl) d_M_init_168 ?_
  refine cn_put (fs' := [.ref (g.2.1 + (b + 0)), .ref (g.2.1 + (b + 1)), .int 0, .int 0, .ref (g.2.1 + (b + 2)), .ref (g.2.1 + (b + 3)), .ref (g.2.1 + (b + 4)), .ref (g.2.1 + (b + 5)), .int 0, .ref (g.2.1 + (b + 6)), .ref (g.2.1 + (b + 7)), .ref (g.2.1 + (b + 8)), .ref (g.2.1 + (b + 9)), .ref (g.2.1 + (b + 10)), .ref (g.2.1 + (b + 11)), .int 0, .int 0, .int 0, .ref (g.2.1 + (b + 12)), .ref (g.2.1 + (b + 13)), .ref (g.2.1 + (b + 14)), .int 0, .ref (g.2.1 + (b + 15)), .ref (g.2.1 + (b + 16)), .int 0, .ref (g.2.1 + (b + 17)), .int 0, .ref (g.2.1 + (b + 18)), .ref (g.2.1 + (b + 19)), .ref (g.2.1 + (b + 20)), .null, .null, .null, .int 0, .int 0, .int 0, .null, .null]) hk kp_M_70 d_M_init_170 (Nat.le_of_ble_eq_true rfl) rfl rfl rfl ?_
  refine ab_aload_n 0 d_M_init_173 rfl rfl ?_
  refine ab_bipush (v := 80) d_M_init_174 (by decide) ?_
  refine cn_newa (N := 80) (z := 21) (L' := [ia g 96, ia g 4, ia g 24, ia g 24, ia g 24, ia g 625, ia g 60, ia g 60, ia g 60, ia g 60, ia g 24, ia g 24, ia g 24, ia g 24, ia g 24, ia g 48, ia g 48, ia g 900, ia g 80, ia g 80, ia g 80, ia g 80]) hb rfl rfl (by decide) (by decide) (by decide) (Nat.le_of_ble_eq_true rfl) (Nat.le_of_ble_eq_true rfl) d_M_init_176 ?_
  refine cn_put (fs' := [.ref (g.2.1 + (b + 0)), .ref (g.2.1 + (b + 1)), .int 0, .int 0, .ref (g.2.1 + (b + 2)), .ref (g.2.1 + (b + 3)), .ref (g.2.1 + (b + 4)), .ref (g.2.1 + (b + 5)), .int 0, .ref (g.2.1 + (b + 6)), .ref (g.2.1 + (b + 7)), .ref (g.2.1 + (b + 8)), .ref (g.2.1 + (b + 9)), .ref (g.2.1 + (b + 10)), .ref (g.2.1 + (b + 11)), .int 0, .int 0, .int 0, .ref (g.2.1 + (b + 12)), .ref (g.2.1 + (b + 13)), .ref (g.2.1 + (b + 14)), .int 0, .ref (g.2.1 + (b + 15)), .ref (g.2.1 + (b + 16)), .int 0, .ref (g.2.1 + (b + 17)), .int 0, .ref (g.2.1 + (b + 18)), .ref (g.2.1 + (b + 19)), .ref (g.2.1 + (b + 20)), .ref (g.2.1 + (b + 21)), .null, .null, .int 0, .int 0, .int 0, .null, .null]) hk kp_M_73 d_M_init_178 (Nat.le_of_ble_eq_true rfl) rfl rfl rfl ?_
  refine ab_aload_n 0 d_M_init_181 rfl rfl ?_
  refine ab_bipush (v := 80) d_M_init_182 (by decide) ?_
  refine cn_newa (N := 80) (z := 22) (L' := [ia g 96, ia g 4, ia g 24, ia g 24, ia g 24, ia g 625, ia g 60, ia g 60, ia g 60, ia g 60, ia g 24, ia g 24, ia g 24, ia g 24, ia g 24, ia g 48, ia g 48, ia g 900, ia g 80, ia g 80, ia g 80, ia g 80, ia g 80]) hb rfl rfl (by decide) (by decide) (by decide) (Nat.le_of_ble_eq_true rfl) (Nat.le_of_ble_eq_true rfl) d_M_init_184 ?_
  refine cn_put (fs' := [.ref (g.2.1 + (b + 0)), .ref (g.2.1 + (b + 1)), .int 0, .int 0, .ref (g.2.1 + (b + 2)), .ref (g.2.1 + (b + 3)), .ref (g.2.1 + (b + 4)), .ref (g.2.1 + (b + 5)), .int 0, .ref (g.2.1 + (b + 6)), .ref (g.2.1 + (b + 7)), .ref (g.2.1 + (b + 8)), .ref (g.2.1 + (b + 9)), .ref (g.2.1 + (b + 10)), .ref (g.2.1 + (b + 11)), .int 0, .int 0, .int 0, .ref (g.2.1 + (b + 12)), .ref (g.2.1 + (b + 13)), .ref (g.2.1 + (b + 14)), .int 0, .ref (g.2.1 + (b + 15)), .ref (g.2.1 + (b + 16)), .int 0, .ref (g.2.1 + (b + 17)), .int 0, .ref (g.2.1 + (b + 18)), .ref (g.2.1 + (b + 19)), .ref (g.2.1 + (b + 20)), .ref (g.2.1 + (b + 21)), .ref (g.2.1 + (b + 22)), .null, .int 0, .int 0, .int 0, .null, .null]) hk kp_M_76 d_M_init_186 (Nat.le_of_ble_eq_true rfl) rfl rfl rfl ?_
  refine ab_aload_n 0 d_M_init_189 rfl rfl ?_
  refine ab_bipush (v := 80) d_M_init_190 (by decide) ?_
  refine cn_newa (N := 80) (z := 23) (L' := [ia g 96, ia g 4, ia g 24, ia g 24, ia g 24, ia g 625, ia g 60, ia g 60, ia g 60, ia g 60, ia g 24, ia g 24, ia g 24, ia g 24, ia g 24, ia g 48, ia g 48, ia g 900, ia g 80, ia g 80, ia g 80, ia g 80, ia g 80, ia g 80]) hb rfl rfl (by decide) (by decide) (by decide) (Nat.le_of_ble_eq_true rfl) (Nat.le_of_ble_eq_true rfl) d_M_init_192 ?_
  refine cn_put (fs' := [.ref (g.2.1 + (b + 0)), .ref (g.2.1 + (b + 1)), .int 0, .int 0, .ref (g.2.1 + (b + 2)), .ref (g.2.1 + (b + 3)), .ref (g.2.1 + (b + 4)), .ref (g.2.1 + (b + 5)), .int 0, .ref (g.2.1 + (b + 6)), .ref (g.2.1 + (b + 7)), .ref (g.2.1 + (b + 8)), .ref (g.2.1 + (b + 9)), .ref (g.2.1 + (b + 10)), .ref (g.2.1 + (b + 11)), .int 0, .int 0, .int 0, .ref (g.2.1 + (b + 12)), .ref (g.2.1 + (b + 13)), .ref (g.2.1 + (b + 14)), .int 0, .ref (g.2.1 + (b + 15)), .ref (g.2.1 + (b + 16)), .int 0, .ref (g.2.1 + (b + 17)), .int 0, .ref (g.2.1 + (b + 18)), .ref (g.2.1 + (b + 19)), .ref (g.2.1 + (b + 20)), .ref (g.2.1 + (b + 21)), .ref (g.2.1 + (b + 22)), .ref (g.2.1 + (b + 23)), .int 0, .int 0, .int 0, .null, .null]) hk kp_M_79 d_M_init_194 (Nat.le_of_ble_eq_true rfl) rfl rfl rfl ?_
  refine ab_aload_n 0 d_M_init_197 rfl rfl ?_
  refine ab_bipush (v := 24) d_M_init_198 (by decide) ?_
  refine cn_newa (N := 24) (z := 24) (L' := [ia g 96, ia g 4, ia g 24, ia g 24, ia g 24, ia g 625, ia g 60, ia g 60, ia g 60, ia g 60, ia g 24, ia g 24, ia g 24, ia g 24, ia g 24, ia g 48, ia g 48, ia g 900, ia g 80, ia g 80, ia g 80, ia g 80, ia g 80, ia g 80, ia g 24]) hb rfl rfl (by decide) (by decide) (by decide) (Nat.le_of_ble_eq_true rfl) (Nat.le_of_ble_eq_true rfl) d_M_init_200 ?_
  refine cn_put (fs' := [.ref (g.2.1 + (b + 0)), .ref (g.2.1 + (b + 1)), .int 0, .int 0, .ref (g.2.1 + (b + 2)), .ref (g.2.1 + (b + 3)), .ref (g.2.1 + (b + 4)), .ref (g.2.1 + (b + 5)), .int 0, .ref (g.2.1 + (b + 6)), .ref (g.2.1 + (b + 7)), .ref (g.2.1 + (b + 8)), .ref (g.2.1 + (b + 9)), .ref (g.2.1 + (b + 10)), .ref (g.2.1 + (b + 11)), .int 0, .int 0, .int 0, .ref (g.2.1 + (b + 12)), .ref (g.2.1 + (b + 13)), .ref (g.2.1 + (b + 14)), .int 0, .ref (g.2.1 + (b + 15)), .ref (g.2.1 + (b + 16)), .int 0, .ref (g.2.1 + (b + 17)), .int 0, .ref (g.2.1 + (b + 18)), .ref (g.2.1 + (b + 19)), .ref (g.2.1 + (b + 20)), .ref (g.2.1 + (b + 21)), .ref (g.2.1 + (b + 22)), .ref (g.2.1 + (b + 23)), .int 0, .int 0, .int 0, .ref (g.2.1 + (b + 24)), .null]) hk kp_M_82 d_M_init_202 (Nat.le_of_ble_eq_true rfl) rfl rfl rfl ?_
  refine ab_aload_n 0 d_M_init_205 rfl rfl ?_
  refine ab_bipush (v := 24) d_M_init_206 (by decide) ?_
  refine cn_newa (N := 24) (z := 25) (L' := [ia g 96, ia g 4, ia g 24, ia g 24, ia g 24, ia g 625, ia g 60, ia g 60, ia g 60, ia g 60, ia g 24, ia g 24, ia g 24, ia g 24, ia g 24, ia g 48, ia g 48, ia g 900, ia g 80, ia g 80, ia g 80, ia g 80, ia g 80, ia g 80, ia g 24, ia g 24]) hb rfl rfl (by decide) (by decide) (by decide) (Nat.le_of_ble_eq_true rfl) (Nat.le_of_ble_eq_true rfl) d_M_init_208 ?_
  refine cn_put (fs' := [.ref (g.2.1 + (b + 0)), .ref (g.2.1 + (b + 1)), .int 0, .int 0, .ref (g.2.1 + (b + 2)), .ref (g.2.1 + (b + 3)), .ref (g.2.1 + (b + 4)), .ref (g.2.1 + (b + 5)), .int 0, .ref (g.2.1 + (b + 6)), .ref (g.2.1 + (b + 7)), .ref (g.2.1 + (b + 8)), .ref (g.2.1 + (b + 9)), .ref (g.2.1 + (b + 10)), .ref (g.2.1 + (b + 11)), .int 0, .int 0, .int 0, .ref (g.2.1 + (b + 12)), .ref (g.2.1 + (b + 13)), .ref (g.2.1 + (b + 14)), .int 0, .ref (g.2.1 + (b + 15)), .ref (g.2.1 + (b + 16)), .int 0, .ref (g.2.1 + (b + 17)), .int 0, .ref (g.2.1 + (b + 18)), .ref (g.2.1 + (b + 19)), .ref (g.2.1 + (b + 20)), .ref (g.2.1 + (b + 21)), .ref (g.2.1 + (b + 22)), .ref (g.2.1 + (b + 23)), .int 0, .int 0, .int 0, .ref (g.2.1 + (b + 24)), .ref (g.2.1 + (b + 25))]) hk kp_M_85 d_M_init_210 (Nat.le_of_ble_eq_true rfl) rfl rfl rfl ?_
  exact ab_vret rfl d_M_init_213 ⟨rfl, rfl⟩

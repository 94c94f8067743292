/-! the constructors that fill an array of objects -/
theorem ra_rf {g : lp_G} {t n b w : Nat} : ra g t n = rf g t n 0 b w := by
  unfold ra rf
  congr 6
theorem rf_up {g : lp_G} {t n i b w r : Nat} (h : r = b + w * i) : (.inl (g.2.2.1 t, n, .inr (.inr (.inr (.inr (va_up (fun j => if j < i then some (g.2.1 + (b + w * j)) else none) i (some (g.2.1 + r))))))) : va_E) = rf g t n (i + 1) b w := by
  unfold rf
  have e : va_up (fun j => if j < i then some (g.2.1 + (b + w * j)) else none) i (some (g.2.1 + r)) = fun j => if j < i + 1 then some (g.2.1 + (b + w * j)) else none := by
    funext j
    unfold va_up
    by_cases e : j = i
    · subst e
      rw [if_pos rfl, if_pos (by omega), h]
    · rw [if_neg e]
      dsimp only
      by_cases h2 : j < i
      · rw [if_pos h2, if_pos (by omega)]
      · rw [if_neg h2, if_neg (by omega)]
  rw [e]
theorem cn_aast {g : lp_G} {u : lp_M} {M : lp_O} {cells slots pc : Nat} {lv : List (Nat × Value)} {st : List Value} {cs : List va_E} {k b : Nat} {o : va_E} {L L' : List va_E} {t n i B w ja jr ci : Nat} {fs : List Value} {q0 : vw_C} (hb : cs.length = b) (hi : L[ja]? = some (rf g t n i B w)) (hr : L[jr]? = some (.inr (ci, fs))) (hB : b + jr = B + w * i) (hin : i < n) (hn : n < 2 ^ 31) (ht : (lp_tys g.2.2.1)[t]? = some (g.2.2.1 t, .object q0.1)) (hc : vwCl[ci]? = some q0) (hL : L.set ja (rf g t n (i + 1) B w) = L') (hd : decode u.2.1 pc = .ok (.aastore, 1))
    (kk : Ab g u M cells slots (pc + 1) lv st (cw cs k o L')) : Ab g u M cells slots pc lv (.ref (g.2.1 + (b + jr)) :: .int (nI i) :: .ref (g.2.1 + (b + ja)) :: st) (cw cs k o L) := by
  refine ab_aast hd (cw_L hb hi) ht (cw_L hb hr) hc (vp_in_nI hin hn) ?_
  rw [nI_clamp (by omega), rf_up hB, cw_setL hb, hL]
  exact kk
theorem set_same {L : List va_E} {i : Nat} {x : va_E} (h : L[i]? = some x) : L.set i x = L := by
  obtain ⟨hk, he⟩ := List.getElem?_eq_some_iff.mp h
  rw [← he, List.set_getElem_self]
abbrev r0 : va_E := .inr (3, [.int 0, .int 0, .int 0, .int 0])
def oO (g : lp_G) (a1 : Nat) (b : Nat) : va_E := .inr (5, [.ref a1, .ref (g.2.1 + (b + 0)), .int 0, .ref (g.2.1 + (b + 1)), .ref (g.2.1 + (b + 2)), .ref (g.2.1 + (b + 3)), .int 0])
def lO (g : lp_G) (i b : Nat) : List va_E := rf g 2 49 i (b + 4) 1 :: ia g 24 :: ia g 24 :: ia g 24 :: List.replicate i r0
def eO (g : lp_G) (a1 : Nat) (b : Nat) : List va_E := lO g 49 b
theorem lO_len {g : lp_G} {i b : Nat} : (lO g i b).length = 4 + i := by
  unfold lO
  simp
  omega
theorem lO_snoc {g : lp_G} {i b : Nat} : (lO g i b ++ [r0])[4 + i]? = some r0 := by
  rw [List.getElem?_append_right (by rw [lO_len]; omega), lO_len, Nat.sub_self]
  rfl
theorem lO_next {g : lp_G} {i b : Nat} : (lO g i b ++ [r0]).set 0 (rf g 2 49 (i + 1) (b + 4) 1) = lO g (i + 1) b := by
  unfold lO
  rw [List.replicate_succ']
  rfl
set_option maxRecDepth 100000 in
theorem c_O_loop {g : lp_G} {d : Nat} {a1 : Nat} {cs : List va_E} {k b : Nat} (hb : cs.length = b) (hk : k < cs.length) : ∀ (n i : Nat), 49 - i = n → i ≤ 49 → Ab g um_O_init (lp_md g (d + 2) 53 317 (fun v c => v = none ∧ c = cw cs k (oO g a1 b) (eO g a1 b))) (4 + i) (121 + 4 * i) 44 [(0, .ref (g.2.1 + k)), (2, .int (nI i))] [] (cw cs k (oO g a1 b) (lO g i b)) := by
  intro n
  induction n with
  | zero =>
    intro i hn hi
    have e : i = 49 := by omega
    subst e
    refine ab_iload_n 1 d_O_init_44 rfl rfl ?_
    refine ab_bipush (v := nI 49) d_O_init_45 (by decide) ?_
    refine ab_icmp_ge (tgt := 69) d_O_init_47 (by decide) (fun _ => ?_) (fun h => absurd (nI_le (Nat.le_refl _) (by omega)) h)
    exact ab_vret rfl d_O_init_69 ⟨rfl, rfl⟩
  | succ n ih =>
    intro i hn hi
    refine ab_iload_n 1 d_O_init_44 rfl rfl ?_
    refine ab_bipush (v := nI 49) d_O_init_45 (by decide) ?_
    refine ab_icmp_ge (tgt := 69) d_O_init_47 (by decide) (fun h => absurd h (nI_ge (by omega) (by omega))) (fun _ => ?_)
    refine ab_aload_n 0 d_O_init_50 rfl rfl ?_
    refine cn_get (v := .ref (g.2.1 + (b + 0))) hk kf_O_13 d_O_init_51 rfl ?_
    refine ab_iload_n 1 d_O_init_54 rfl rfl ?_
    refine cn_new (n := 4 + i) (L' := lO g i b ++ [r0]) hb lO_len rfl ok_R kk_O_11 ki_R kn_R tf_R (by decide +kernel) df_R (by show _ ≤ 53; omega) (by show _ ≤ 317; omega) d_O_init_55 ?_
    refine ab_dup d_O_init_58 rfl ?_
    refine cn_callIN (i := 4 + i) (n := 4 + i + 1) (As := []) (rest := [.ref (g.2.1 + (b + (4 + i))), .int (nI i), .ref (g.2.1 + (b + 0))]) (L' := lO g i b ++ [r0]) hb lO_snoc (by rw [List.length_append, lO_len]; rfl) (by rw [show eR g (b + (4 + i + 1)) = [] from rfl, List.append_nil]; exact set_same lO_snoc) c_R kc_O_31 d_O_init_59 rfl (Nat.le_of_ble_eq_true rfl) en_md (Nat.le_of_ble_eq_true rfl) ⟨by show _ ≤ 53; omega, by show _ ≤ 317; omega⟩ ?_
    refine cn_aast (ja := 0) (jr := 4 + i) (t := 2) (n := 49) (i := i) (B := b + 4) (w := 1) hb (by rw [List.getElem?_append_left (by rw [lO_len]; omega)]; rfl) lO_snoc (by omega) (by omega) (by omega) rfl rfl lO_next d_O_init_62 ?_
    refine ab_iinc (v := nI (i + 1)) (lv' := [(2, .int (nI (i + 1))), (0, .ref (g.2.1 + k))]) 1 d_O_init_63 rfl ((congrArg (fun z => nI i + z) (show Int32.ofInt 1 = (1 : Int32) by decide)).trans (nI_1 i)) (Nat.le_of_ble_eq_true rfl) rfl ?_
    refine ab_goto (tgt := 44) d_O_init_66 (by decide) ?_
    refine ab_sub (lv' := [(0, .ref (g.2.1 + k)), (2, .int (nI (i + 1)))]) [1, 0] rfl ?_
    refine ab_widen (k := 4 + (i + 1)) (n := 121 + 4 * (i + 1)) (by omega) (by omega) ?_
    exact ih (i + 1) (by omega) (by omega)
set_option maxRecDepth 100000 in
theorem c_O {g : lp_G} {d : Nat} {a1 : Nat} : Cn g um_O_init (d + 2) 53 317 [.ref a1] (.inr (5, [.null, .null, .int 0, .null, .null, .null, .int 0])) (oO g a1) (eO g a1) := by
  intro cs k b hb h0
  have hk := (List.getElem?_eq_some_iff.mp h0).1
  refine ab_entry (by decide +kernel) (Nat.le_of_ble_eq_true rfl) ?_
  suffices h : Ab g um_O_init (lp_md g (d + 2) 53 317 (fun v c => v = none ∧ c = cw cs k (oO g a1 b) (eO g a1 b))) 0 0 0 [(0, .ref (g.2.1 + k)), (1, .ref a1)] [] (cw cs k (.inr (5, [.null, .null, .int 0, .null, .null, .null, .int 0])) []) by rw [← cw_0 h0] at h; exact h
  refine ab_aload_n 0 d_O_init_0 rfl rfl ?_
  refine cn_obj ko_O_3 d_O_init_1 en_md (Nat.le_of_ble_eq_true rfl) ?_
  refine ab_aload_n 0 d_O_init_4 rfl rfl ?_
  refine ab_bipush (v := 49) d_O_init_5 (by decide) ?_
  refine cn_newq (t := 2) (N := 49) (z := 0) (L' := [ra g 2 49]) hb rfl rfl kk_O_11 (by simp [lp_ao]) rfl (by decide) (by decide) (by decide) (Nat.le_of_ble_eq_true rfl) (Nat.le_of_ble_eq_true rfl) d_O_init_7 ?_
  refine cn_putF (fs' := [.null, .ref (g.2.1 + (b + 0)), .int 0, .null, .null, .null, .int 0]) hk kp_O_13 rfl d_O_init_10 (Nat.le_of_ble_eq_true rfl) rfl rfl rfl ?_
  refine ab_aload_n 0 d_O_init_13 rfl rfl ?_
  refine ab_bipush (v := 24) d_O_init_14 (by decide) ?_
  refine cn_newa (N := 24) (z := 1) (L' := [ra g 2 49, ia g 24]) hb rfl rfl (by decide) (by decide) (by decide) (Nat.le_of_ble_eq_true rfl) (Nat.le_of_ble_eq_true rfl) d_O_init_16 ?_
  refine cn_putF (fs' := [.null, .ref (g.2.1 + (b + 0)), .int 0, .ref (g.2.1 + (b + 1)), .null, .null, .int 0]) hk kp_O_17 rfl d_O_init_18 (Nat.le_of_ble_eq_true rfl) rfl rfl rfl ?_
  refine ab_aload_n 0 d_O_init_21 rfl rfl ?_
  refine ab_bipush (v := 24) d_O_init_22 (by decide) ?_
  refine cn_newa (N := 24) (z := 2) (L' := [ra g 2 49, ia g 24, ia g 24]) hb rfl rfl (by decide) (by decide) (by decide) (Nat.le_of_ble_eq_true rfl) (Nat.le_of_ble_eq_true rfl) d_O_init_24 ?_
  refine cn_putF (fs' := [.null, .ref (g.2.1 + (b + 0)), .int 0, .ref (g.2.1 + (b + 1)), .ref (g.2.1 + (b + 2)), .null, .int 0]) hk kp_O_21 rfl d_O_init_26 (Nat.le_of_ble_eq_true rfl) rfl rfl rfl ?_
  refine ab_aload_n 0 d_O_init_29 rfl rfl ?_
  refine ab_bipush (v := 24) d_O_init_30 (by decide) ?_
  refine cn_newa (N := 24) (z := 3) (L' := [ra g 2 49, ia g 24, ia g 24, ia g 24]) hb rfl rfl (by decide) (by decide) (by decide) (Nat.le_of_ble_eq_true rfl) (Nat.le_of_ble_eq_true rfl) d_O_init_32 ?_
  refine cn_putF (fs' := [.null, .ref (g.2.1 + (b + 0)), .int 0, .ref (g.2.1 + (b + 1)), .ref (g.2.1 + (b + 2)), .ref (g.2.1 + (b + 3)), .int 0]) hk kp_O_24 rfl d_O_init_34 (Nat.le_of_ble_eq_true rfl) rfl rfl rfl ?_
  refine ab_aload_n 0 d_O_init_37 rfl rfl ?_
  refine ab_aload_n 1 d_O_init_38 rfl rfl ?_
  refine cn_putF (fs' := [.ref a1, .ref (g.2.1 + (b + 0)), .int 0, .ref (g.2.1 + (b + 1)), .ref (g.2.1 + (b + 2)), .ref (g.2.1 + (b + 3)), .int 0]) hk kp_O_27 rfl d_O_init_39 (Nat.le_of_ble_eq_true rfl) rfl rfl rfl ?_
  refine ab_iconst (v := nI 0) d_O_init_42 (by decide) ?_
  refine ab_istore_n (lv' := [(2, .int (nI 0)), (0, .ref (g.2.1 + k)), (1, .ref a1)]) d_O_init_43 rfl (Nat.le_of_ble_eq_true rfl) rfl ?_
  refine ab_sub (lv' := [(0, .ref (g.2.1 + k)), (2, .int (nI 0))]) [1, 0] rfl ?_
  rw [ra_rf (b := b + 4) (w := 1)]
  exact c_O_loop hb hk _ 0 rfl (Nat.zero_le _)
def oW (g : lp_G) (a1 : Nat) (a2 : Nat) (b : Nat) : va_E := .inr (7, [.ref a1, .ref a2, .ref (g.2.1 + (b + 0)), .int 0])
def lW (g : lp_G) (i b : Nat) : List va_E := rf g 2 25 i (b + 1) 1 :: List.replicate i r0
def eW (g : lp_G) (a1 : Nat) (a2 : Nat) (b : Nat) : List va_E := lW g 25 b
theorem lW_len {g : lp_G} {i b : Nat} : (lW g i b).length = 1 + i := by
  unfold lW
  simp
  omega
theorem lW_snoc {g : lp_G} {i b : Nat} : (lW g i b ++ [r0])[1 + i]? = some r0 := by
  rw [List.getElem?_append_right (by rw [lW_len]; omega), lW_len, Nat.sub_self]
  rfl
theorem lW_next {g : lp_G} {i b : Nat} : (lW g i b ++ [r0]).set 0 (rf g 2 25 (i + 1) (b + 1) 1) = lW g (i + 1) b := by
  unfold lW
  rw [List.replicate_succ']
  rfl
set_option maxRecDepth 100000 in
theorem c_W_loop {g : lp_G} {d : Nat} {a1 : Nat} {a2 : Nat} {cs : List va_E} {k b : Nat} (hb : cs.length = b) (hk : k < cs.length) : ∀ (n i : Nat), 25 - i = n → i ≤ 25 → Ab g um_W_init (lp_md g (d + 2) 26 125 (fun v c => v = none ∧ c = cw cs k (oW g a1 a2 b) (eW g a1 a2 b))) (1 + i) (25 + 4 * i) 25 [(0, .ref (g.2.1 + k)), (3, .int (nI i))] [] (cw cs k (oW g a1 a2 b) (lW g i b)) := by
  intro n
  induction n with
  | zero =>
    intro i hn hi
    have e : i = 25 := by omega
    subst e
    refine ab_iload_n 1 d_W_init_25 rfl rfl ?_
    refine ab_bipush (v := nI 25) d_W_init_26 (by decide) ?_
    refine ab_icmp_ge (tgt := 50) d_W_init_28 (by decide) (fun _ => ?_) (fun h => absurd (nI_le (Nat.le_refl _) (by omega)) h)
    exact ab_vret rfl d_W_init_50 ⟨rfl, rfl⟩
  | succ n ih =>
    intro i hn hi
    refine ab_iload_n 1 d_W_init_25 rfl rfl ?_
    refine ab_bipush (v := nI 25) d_W_init_26 (by decide) ?_
    refine ab_icmp_ge (tgt := 50) d_W_init_28 (by decide) (fun h => absurd h (nI_ge (by omega) (by omega))) (fun _ => ?_)
    refine ab_aload_n 0 d_W_init_31 rfl rfl ?_
    refine cn_get (v := .ref (g.2.1 + (b + 0))) hk kf_W_13 d_W_init_32 rfl ?_
    refine ab_iload_n 1 d_W_init_35 rfl rfl ?_
    refine cn_new (n := 1 + i) (L' := lW g i b ++ [r0]) hb lW_len rfl ok_R kk_W_11 ki_R kn_R tf_R (by decide +kernel) df_R (by show _ ≤ 26; omega) (by show _ ≤ 125; omega) d_W_init_36 ?_
    refine ab_dup d_W_init_39 rfl ?_
    refine cn_callIN (i := 1 + i) (n := 1 + i + 1) (As := []) (rest := [.ref (g.2.1 + (b + (1 + i))), .int (nI i), .ref (g.2.1 + (b + 0))]) (L' := lW g i b ++ [r0]) hb lW_snoc (by rw [List.length_append, lW_len]; rfl) (by rw [show eR g (b + (1 + i + 1)) = [] from rfl, List.append_nil]; exact set_same lW_snoc) c_R kc_W_25 d_W_init_40 rfl (Nat.le_of_ble_eq_true rfl) en_md (Nat.le_of_ble_eq_true rfl) ⟨by show _ ≤ 26; omega, by show _ ≤ 125; omega⟩ ?_
    refine cn_aast (ja := 0) (jr := 1 + i) (t := 2) (n := 25) (i := i) (B := b + 1) (w := 1) hb (by rw [List.getElem?_append_left (by rw [lW_len]; omega)]; rfl) lW_snoc (by omega) (by omega) (by omega) rfl rfl lW_next d_W_init_43 ?_
    refine ab_iinc (v := nI (i + 1)) (lv' := [(3, .int (nI (i + 1))), (0, .ref (g.2.1 + k))]) 1 d_W_init_44 rfl ((congrArg (fun z => nI i + z) (show Int32.ofInt 1 = (1 : Int32) by decide)).trans (nI_1 i)) (Nat.le_of_ble_eq_true rfl) rfl ?_
    refine ab_goto (tgt := 25) d_W_init_47 (by decide) ?_
    refine ab_sub (lv' := [(0, .ref (g.2.1 + k)), (3, .int (nI (i + 1)))]) [1, 0] rfl ?_
    refine ab_widen (k := 1 + (i + 1)) (n := 25 + 4 * (i + 1)) (by omega) (by omega) ?_
    exact ih (i + 1) (by omega) (by omega)
set_option maxRecDepth 100000 in
theorem c_W {g : lp_G} {d : Nat} {a1 : Nat} {a2 : Nat} : Cn g um_W_init (d + 2) 26 125 [.ref a1, .ref a2] (.inr (7, [.null, .null, .null, .int 0])) (oW g a1 a2) (eW g a1 a2) := by
  intro cs k b hb h0
  have hk := (List.getElem?_eq_some_iff.mp h0).1
  refine ab_entry (by decide +kernel) (Nat.le_of_ble_eq_true rfl) ?_
  suffices h : Ab g um_W_init (lp_md g (d + 2) 26 125 (fun v c => v = none ∧ c = cw cs k (oW g a1 a2 b) (eW g a1 a2 b))) 0 0 0 [(0, .ref (g.2.1 + k)), (1, .ref a1), (2, .ref a2)] [] (cw cs k (.inr (7, [.null, .null, .null, .int 0])) []) by rw [← cw_0 h0] at h; exact h
  refine ab_aload_n 0 d_W_init_0 rfl rfl ?_
  refine cn_obj ko_W_3 d_W_init_1 en_md (Nat.le_of_ble_eq_true rfl) ?_
  refine ab_aload_n 0 d_W_init_4 rfl rfl ?_
  refine ab_bipush (v := 25) d_W_init_5 (by decide) ?_
  refine cn_newq (t := 2) (N := 25) (z := 0) (L' := [ra g 2 25]) hb rfl rfl kk_W_11 (by simp [lp_ao]) rfl (by decide) (by decide) (by decide) (Nat.le_of_ble_eq_true rfl) (Nat.le_of_ble_eq_true rfl) d_W_init_7 ?_
  refine cn_putF (fs' := [.null, .null, .ref (g.2.1 + (b + 0)), .int 0]) hk kp_W_13 rfl d_W_init_10 (Nat.le_of_ble_eq_true rfl) rfl rfl rfl ?_
  refine ab_aload_n 0 d_W_init_13 rfl rfl ?_
  refine ab_aload_n 1 d_W_init_14 rfl rfl ?_
  refine cn_putF (fs' := [.ref a1, .null, .ref (g.2.1 + (b + 0)), .int 0]) hk kp_W_17 rfl d_W_init_15 (Nat.le_of_ble_eq_true rfl) rfl rfl rfl ?_
  refine ab_aload_n 0 d_W_init_18 rfl rfl ?_
  refine ab_aload_n 2 d_W_init_19 rfl rfl ?_
  refine cn_putF (fs' := [.ref a1, .ref a2, .ref (g.2.1 + (b + 0)), .int 0]) hk kp_W_21 rfl d_W_init_20 (Nat.le_of_ble_eq_true rfl) rfl rfl rfl ?_
  refine ab_iconst (v := nI 0) d_W_init_23 (by decide) ?_
  refine ab_istore_n (lv' := [(3, .int (nI 0)), (0, .ref (g.2.1 + k)), (1, .ref a1), (2, .ref a2)]) d_W_init_24 rfl (Nat.le_of_ble_eq_true rfl) rfl ?_
  refine ab_sub (lv' := [(0, .ref (g.2.1 + k)), (3, .int (nI 0))]) [1, 0] rfl ?_
  rw [ra_rf (b := b + 1) (w := 1)]
  exact c_W_loop hb hk _ 0 rfl (Nat.zero_le _)
def oP (g : lp_G) (b : Nat) : va_E := .inr (0, [.ref (g.2.1 + (b + 0)), .ref (g.2.1 + (b + 1)), .int 0, .ref (g.2.1 + (b + 7)), .ref (g.2.1 + (b + 35)), .ref (g.2.1 + (b + 89)), .ref (g.2.1 + (b + 91)), .ref (g.2.1 + (b + 118)), .ref (g.2.1 + (b + 121)), .ref (g.2.1 + (b + 124))])
def eP (g : lp_G) (b : Nat) : List va_E := [rf g 1 4 4 (b + 142) 2, oC g (b + 2), oT g (b + 3), ia g 24, oT g (b + 5), ia g 24, ia g 24, oS g (b + 8), mo g 25 (b + 8), ia g 25, ia g 25, ia g 25, ia g 25, ia g 25, ia g 25, ia g 25, ia g 25, ia g 25, ia g 25, ia g 25, ia g 25, ia g 25, ia g 25, ia g 25, ia g 25, ia g 25, ia g 25, ia g 25, ia g 25, ia g 25, ia g 25, ia g 25, ia g 25, ia g 25, oR g (b + 35), oO g (g.2.1 + (b + 7)) (b + 36), rf g 2 49 49 (b + 40) 1, ia g 24, ia g 24, ia g 24, r0, r0, r0, r0, r0, r0, r0, r0, r0, r0, r0, r0, r0, r0, r0, r0, r0, r0, r0, r0, r0, r0, r0, r0, r0, r0, r0, r0, r0, r0, r0, r0, r0, r0, r0, r0, r0, r0, r0, r0, r0, r0, r0, r0, r0, r0, r0, r0, r0, oA g (b + 90), ia g 900, oW g (g.2.1 + (b + 1)) (g.2.1 + (b + 89)) (b + 92), rf g 2 25 25 (b + 93) 1, r0, r0, r0, r0, r0, r0, r0, r0, r0, r0, r0, r0, r0, r0, r0, r0, r0, r0, r0, r0, r0, r0, r0, r0, r0, oD g (g.2.1 + (b + 89)) (b + 119), ia g 99, ia g 99, oF g (g.2.1 + (b + 118)) (b + 122), oT g (b + 123), ia g 24, oG g (g.2.1 + (b + 7)) (b + 125), oC g (b + 126), oT g (b + 127), ia g 24, oT g (b + 129), ia g 24, ia g 24, oC g (b + 132), oT g (b + 133), ia g 24, oT g (b + 135), ia g 24, ia g 24, oQ g (g.2.1 + (b + 126)) (b + 138), oQ g (g.2.1 + (b + 128)) (b + 139), oQ g (g.2.1 + (b + 134)) (b + 140), oT g (b + 141), ia g 24, oT g (b + 143), ia g 24, oT g (b + 145), ia g 24, oT g (b + 147), ia g 24, oT g (b + 149), ia g 24]
set_option maxHeartbeats 4000000 in
set_option maxRecDepth 100000 in
theorem c_P {g : lp_G} {d : Nat} : Cn g um_P_init (d + 4) 150 2638 [] (.inr (0, [.null, .null, .int 0, .null, .null, .null, .null, .null, .null, .null])) (oP g) (eP g) := by
  intro cs k b hb h0
  have hk := (List.getElem?_eq_some_iff.mp h0).1
  refine ab_entry (by decide +kernel) (Nat.le_of_ble_eq_true rfl) ?_
  suffices h : Ab g um_P_init (lp_md g (d + 4) 150 2638 (fun v c => v = none ∧ c = cw cs k (oP g b) (eP g b))) 0 0 0 [(0, .ref (g.2.1 + k))] [] (cw cs k (.inr (0, [.null, .null, .int 0, .null, .null, .null, .null, .null, .null, .null])) []) by rw [← cw_0 h0] at h; exact h
  refine ab_aload_n 0 d_P_init_0 rfl rfl ?_
  refine cn_obj ko_P_1 d_P_init_1 en_md (Nat.le_of_ble_eq_true rfl) ?_
  refine ab_aload_n 0 d_P_init_4 rfl rfl ?_
  refine ab_iconst (v := 4) d_P_init_5 (by decide) ?_
  refine cn_newq (t := 1) (N := 4) (z := 0) (L' := [ra g 1 4]) hb rfl rfl kk_P_9 (by simp [lp_ao]) rfl (by decide) (by decide) (by decide) (Nat.le_of_ble_eq_true rfl) (Nat.le_of_ble_eq_true rfl) d_P_init_6 ?_
  refine cn_putF (fs' := [.ref (g.2.1 + (b + 0)), .null, .int 0, .null, .null, .null, .null, .null, .null, .null]) hk kp_P_11 rfl d_P_init_9 (Nat.le_of_ble_eq_true rfl) rfl rfl rfl ?_
  refine ab_aload_n 0 d_P_init_12 rfl rfl ?_
  refine cn_new (n := 1) (L' := [ra g 1 4, .inr (2, [.null, .null, .null, .int 0])]) hb rfl rfl ok_C kk_P_15 ki_C kn_C tf_C (by decide +kernel) df_C (Nat.le_of_ble_eq_true rfl) (Nat.le_of_ble_eq_true rfl) d_P_init_13 ?_
  refine ab_dup d_P_init_16 rfl ?_
  refine cn_callIN (i := 1) (n := 2) (As := []) (rest := [.ref (g.2.1 + (b + 1)), .ref (g.2.1 + k)]) (L' := [ra g 1 4, oC g (b + 2), oT g (b + 3), ia g 24, oT g (b + 5), ia g 24, ia g 24]) hb rfl rfl rfl c_C kc_P_17 d_P_init_17 rfl (Nat.le_of_ble_eq_true rfl) en_md (Nat.le_of_ble_eq_true rfl) ⟨(Nat.le_of_ble_eq_true rfl), (Nat.le_of_ble_eq_true rfl)⟩ ?_
  refine cn_putF (fs' := [.ref (g.2.1 + (b + 0)), .ref (g.2.1 + (b + 1)), .int 0, .null, .null, .null, .null, .null, .null, .null]) hk kp_P_18 rfl d_P_init_20 (Nat.le_of_ble_eq_true rfl) rfl rfl rfl ?_
  refine ab_aload_n 0 d_P_init_23 rfl rfl ?_
  refine cn_new (n := 7) (L' := [ra g 1 4, oC g (b + 2), oT g (b + 3), ia g 24, oT g (b + 5), ia g 24, ia g 24, .inr (4, [.null, .null])]) hb rfl rfl ok_S kk_P_22 ki_S kn_S tf_S (by decide +kernel) df_S (Nat.le_of_ble_eq_true rfl) (Nat.le_of_ble_eq_true rfl) d_P_init_24 ?_
  refine ab_dup d_P_init_27 rfl ?_
  refine cn_callIN (i := 7) (n := 8) (As := []) (rest := [.ref (g.2.1 + (b + 7)), .ref (g.2.1 + k)]) (L' := [ra g 1 4, oC g (b + 2), oT g (b + 3), ia g 24, oT g (b + 5), ia g 24, ia g 24, oS g (b + 8), mo g 25 (b + 8), ia g 25, ia g 25, ia g 25, ia g 25, ia g 25, ia g 25, ia g 25, ia g 25, ia g 25, ia g 25, ia g 25, ia g 25, ia g 25, ia g 25, ia g 25, ia g 25, ia g 25, ia g 25, ia g 25, ia g 25, ia g 25, ia g 25, ia g 25, ia g 25, ia g 25, oR g (b + 35)]) hb rfl rfl rfl c_S kc_P_24 d_P_init_28 rfl (Nat.le_of_ble_eq_true rfl) en_md (Nat.le_of_ble_eq_true rfl) ⟨(Nat.le_of_ble_eq_true rfl), (Nat.le_of_ble_eq_true rfl)⟩ ?_
  refine cn_putF (fs' := [.ref (g.2.1 + (b + 0)), .ref (g.2.1 + (b + 1)), .int 0, .ref (g.2.1 + (b + 7)), .null, .null, .null, .null, .null, .null]) hk kp_P_25 rfl d_P_init_31 (Nat.le_of_ble_eq_true rfl) rfl rfl rfl ?_
  refine ab_aload_n 0 d_P_init_34 rfl rfl ?_
  refine cn_new (n := 35) (L' := [ra g 1 4, oC g (b + 2), oT g (b + 3), ia g 24, oT g (b + 5), ia g 24, ia g 24, oS g (b + 8), mo g 25 (b + 8), ia g 25, ia g 25, ia g 25, ia g 25, ia g 25, ia g 25, ia g 25, ia g 25, ia g 25, ia g 25, ia g 25, ia g 25, ia g 25, ia g 25, ia g 25, ia g 25, ia g 25, ia g 25, ia g 25, ia g 25, ia g 25, ia g 25, ia g 25, ia g 25, ia g 25, oR g (b + 35), .inr (5, [.null, .null, .int 0, .null, .null, .null, .int 0])]) hb rfl rfl ok_O kk_P_29 ki_O kn_O tf_O (by decide +kernel) df_O (Nat.le_of_ble_eq_true rfl) (Nat.le_of_ble_eq_true rfl) d_P_init_35 ?_
  refine ab_dup d_P_init_38 rfl ?_
  refine ab_aload_n 0 d_P_init_39 rfl rfl ?_
  refine cn_get hk kf_P_25 d_P_init_40 rfl ?_
  refine cn_callI (i := 35) (n := 36) (As := [.ref (g.2.1 + (b + 7))]) (rest := [.ref (g.2.1 + (b + 35)), .ref (g.2.1 + k)]) (L' := [ra g 1 4, oC g (b + 2), oT g (b + 3), ia g 24, oT g (b + 5), ia g 24, ia g 24, oS g (b + 8), mo g 25 (b + 8), ia g 25, ia g 25, ia g 25, ia g 25, ia g 25, ia g 25, ia g 25, ia g 25, ia g 25, ia g 25, ia g 25, ia g 25, ia g 25, ia g 25, ia g 25, ia g 25, ia g 25, ia g 25, ia g 25, ia g 25, ia g 25, ia g 25, ia g 25, ia g 25, ia g 25, oR g (b + 35), oO g (g.2.1 + (b + 7)) (b + 36), rf g 2 49 49 (b + 40) 1, ia g 24, ia g 24, ia g 24, r0, r0, r0, r0, r0, r0, r0, r0, r0, r0, r0, r0, r0, r0, r0, r0, r0, r0, r0, r0, r0, r0, r0, r0, r0, r0, r0, r0, r0, r0, r0, r0, r0, r0, r0, r0, r0, r0, r0, r0, r0, r0, r0, r0, r0, r0, r0, r0, r0]) hb rfl rfl rfl c_O kc_P_31 d_P_init_43 rfl (Nat.le_of_ble_eq_true rfl) en_md (Nat.le_of_ble_eq_true rfl) ⟨(Nat.le_of_ble_eq_true rfl), (Nat.le_of_ble_eq_true rfl)⟩ ?_
  refine cn_putF (fs' := [.ref (g.2.1 + (b + 0)), .ref (g.2.1 + (b + 1)), .int 0, .ref (g.2.1 + (b + 7)), .ref (g.2.1 + (b + 35)), .null, .null, .null, .null, .null]) hk kp_P_34 rfl d_P_init_46 (Nat.le_of_ble_eq_true rfl) rfl rfl rfl ?_
  refine ab_aload_n 0 d_P_init_49 rfl rfl ?_
  refine cn_new (n := 89) (L' := [ra g 1 4, oC g (b + 2), oT g (b + 3), ia g 24, oT g (b + 5), ia g 24, ia g 24, oS g (b + 8), mo g 25 (b + 8), ia g 25, ia g 25, ia g 25, ia g 25, ia g 25, ia g 25, ia g 25, ia g 25, ia g 25, ia g 25, ia g 25, ia g 25, ia g 25, ia g 25, ia g 25, ia g 25, ia g 25, ia g 25, ia g 25, ia g 25, ia g 25, ia g 25, ia g 25, ia g 25, ia g 25, oR g (b + 35), oO g (g.2.1 + (b + 7)) (b + 36), rf g 2 49 49 (b + 40) 1, ia g 24, ia g 24, ia g 24, r0, r0, r0, r0, r0, r0, r0, r0, r0, r0, r0, r0, r0, r0, r0, r0, r0, r0, r0, r0, r0, r0, r0, r0, r0, r0, r0, r0, r0, r0, r0, r0, r0, r0, r0, r0, r0, r0, r0, r0, r0, r0, r0, r0, r0, r0, r0, r0, r0, .inr (6, [.null, .int 0])]) hb rfl rfl ok_A kk_P_38 ki_A kn_A tf_A (by decide +kernel) df_A (Nat.le_of_ble_eq_true rfl) (Nat.le_of_ble_eq_true rfl) d_P_init_50 ?_
  refine ab_dup d_P_init_53 rfl ?_
  refine cn_callIN (i := 89) (n := 90) (As := []) (rest := [.ref (g.2.1 + (b + 89)), .ref (g.2.1 + k)]) (L' := [ra g 1 4, oC g (b + 2), oT g (b + 3), ia g 24, oT g (b + 5), ia g 24, ia g 24, oS g (b + 8), mo g 25 (b + 8), ia g 25, ia g 25, ia g 25, ia g 25, ia g 25, ia g 25, ia g 25, ia g 25, ia g 25, ia g 25, ia g 25, ia g 25, ia g 25, ia g 25, ia g 25, ia g 25, ia g 25, ia g 25, ia g 25, ia g 25, ia g 25, ia g 25, ia g 25, ia g 25, ia g 25, oR g (b + 35), oO g (g.2.1 + (b + 7)) (b + 36), rf g 2 49 49 (b + 40) 1, ia g 24, ia g 24, ia g 24, r0, r0, r0, r0, r0, r0, r0, r0, r0, r0, r0, r0, r0, r0, r0, r0, r0, r0, r0, r0, r0, r0, r0, r0, r0, r0, r0, r0, r0, r0, r0, r0, r0, r0, r0, r0, r0, r0, r0, r0, r0, r0, r0, r0, r0, r0, r0, r0, r0, oA g (b + 90), ia g 900]) hb rfl rfl rfl c_A kc_P_40 d_P_init_54 rfl (Nat.le_of_ble_eq_true rfl) en_md (Nat.le_of_ble_eq_true rfl) ⟨(Nat.le_of_ble_eq_true rfl), (Nat.le_of_ble_eq_true rfl)⟩ ?_
  refine cn_putF (fs' := [.ref (g.2.1 + (b + 0)), .ref (g.2.1 + (b + 1)), .int 0, .ref (g.2.1 + (b + 7)), .ref (g.2.1 + (b + 35)), .ref (g.2.1 + (b + 89)), .null, .null, .null, .null]) hk kp_P_41 rfl d_P_init_57 (Nat.le_of_ble_eq_true rfl) rfl rfl rfl ?_
  refine ab_aload_n 0 d_P_init_60 rfl rfl ?_
  refine cn_new (n := 91) (L' := [ra g 1 4, oC g (b + 2), oT g (b + 3), ia g 24, oT g (b + 5), ia g 24, ia g 24, oS g (b + 8), mo g 25 (b + 8), ia g 25, ia g 25, ia g 25, ia g 25, ia g 25, ia g 25, ia g 25, ia g 25, ia g 25, ia g 25, ia g 25, ia g 25, ia g 25, ia g 25, ia g 25, ia g 25, ia g 25, ia g 25, ia g 25, ia g 25, ia g 25, ia g 25, ia g 25, ia g 25, ia g 25, oR g (b + 35), oO g (g.2.1 + (b + 7)) (b + 36), rf g 2 49 49 (b + 40) 1, ia g 24, ia g 24, ia g 24, r0, r0, r0, r0, r0, r0, r0, r0, r0, r0, r0, r0, r0, r0, r0, r0, r0, r0, r0, r0, r0, r0, r0, r0, r0, r0, r0, r0, r0, r0, r0, r0, r0, r0, r0, r0, r0, r0, r0, r0, r0, r0, r0, r0, r0, r0, r0, r0, r0, oA g (b + 90), ia g 900, .inr (7, [.null, .null, .null, .int 0])]) hb rfl rfl ok_W kk_P_45 ki_W kn_W tf_W (by decide +kernel) df_W (Nat.le_of_ble_eq_true rfl) (Nat.le_of_ble_eq_true rfl) d_P_init_61 ?_
  refine ab_dup d_P_init_64 rfl ?_
  refine ab_aload_n 0 d_P_init_65 rfl rfl ?_
  refine cn_get hk kf_P_18 d_P_init_66 rfl ?_
  refine ab_aload_n 0 d_P_init_69 rfl rfl ?_
  refine cn_get hk kf_P_41 d_P_init_70 rfl ?_
  refine cn_callI (i := 91) (n := 92) (As := [.ref (g.2.1 + (b + 1)), .ref (g.2.1 + (b + 89))]) (rest := [.ref (g.2.1 + (b + 91)), .ref (g.2.1 + k)]) (L' := [ra g 1 4, oC g (b + 2), oT g (b + 3), ia g 24, oT g (b + 5), ia g 24, ia g 24, oS g (b + 8), mo g 25 (b + 8), ia g 25, ia g 25, ia g 25, ia g 25, ia g 25, ia g 25, ia g 25, ia g 25, ia g 25, ia g 25, ia g 25, ia g 25, ia g 25, ia g 25, ia g 25, ia g 25, ia g 25, ia g 25, ia g 25, ia g 25, ia g 25, ia g 25, ia g 25, ia g 25, ia g 25, oR g (b + 35), oO g (g.2.1 + (b + 7)) (b + 36), rf g 2 49 49 (b + 40) 1, ia g 24, ia g 24, ia g 24, r0, r0, r0, r0, r0, r0, r0, r0, r0, r0, r0, r0, r0, r0, r0, r0, r0, r0, r0, r0, r0, r0, r0, r0, r0, r0, r0, r0, r0, r0, r0, r0, r0, r0, r0, r0, r0, r0, r0, r0, r0, r0, r0, r0, r0, r0, r0, r0, r0, oA g (b + 90), ia g 900, oW g (g.2.1 + (b + 1)) (g.2.1 + (b + 89)) (b + 92), rf g 2 25 25 (b + 93) 1, r0, r0, r0, r0, r0, r0, r0, r0, r0, r0, r0, r0, r0, r0, r0, r0, r0, r0, r0, r0, r0, r0, r0, r0, r0]) hb rfl rfl rfl c_W kc_P_47 d_P_init_73 rfl (Nat.le_of_ble_eq_true rfl) en_md (Nat.le_of_ble_eq_true rfl) ⟨(Nat.le_of_ble_eq_true rfl), (Nat.le_of_ble_eq_true rfl)⟩ ?_
  refine cn_putF (fs' := [.ref (g.2.1 + (b + 0)), .ref (g.2.1 + (b + 1)), .int 0, .ref (g.2.1 + (b + 7)), .ref (g.2.1 + (b + 35)), .ref (g.2.1 + (b + 89)), .ref (g.2.1 + (b + 91)), .null, .null, .null]) hk kp_P_50 rfl d_P_init_76 (Nat.le_of_ble_eq_true rfl) rfl rfl rfl ?_
  refine ab_aload_n 0 d_P_init_79 rfl rfl ?_
  refine cn_new (n := 118) (L' := [ra g 1 4, oC g (b + 2), oT g (b + 3), ia g 24, oT g (b + 5), ia g 24, ia g 24, oS g (b + 8), mo g 25 (b + 8), ia g 25, ia g 25, ia g 25, ia g 25, ia g 25, ia g 25, ia g 25, ia g 25, ia g 25, ia g 25, ia g 25, ia g 25, ia g 25, ia g 25, ia g 25, ia g 25, ia g 25, ia g 25, ia g 25, ia g 25, ia g 25, ia g 25, ia g 25, ia g 25, ia g 25, oR g (b + 35), oO g (g.2.1 + (b + 7)) (b + 36), rf g 2 49 49 (b + 40) 1, ia g 24, ia g 24, ia g 24, r0, r0, r0, r0, r0, r0, r0, r0, r0, r0, r0, r0, r0, r0, r0, r0, r0, r0, r0, r0, r0, r0, r0, r0, r0, r0, r0, r0, r0, r0, r0, r0, r0, r0, r0, r0, r0, r0, r0, r0, r0, r0, r0, r0, r0, r0, r0, r0, r0, oA g (b + 90), ia g 900, oW g (g.2.1 + (b + 1)) (g.2.1 + (b + 89)) (b + 92), rf g 2 25 25 (b + 93) 1, r0, r0, r0, r0, r0, r0, r0, r0, r0, r0, r0, r0, r0, r0, r0, r0, r0, r0, r0, r0, r0, r0, r0, r0, r0, .inr (8, [.null, .int 0, .int 0, .int 0, .int 0, .null, .int 0, .null, .int 0])]) hb rfl rfl ok_D kk_P_54 ki_D kn_D tf_D (by decide +kernel) df_D (Nat.le_of_ble_eq_true rfl) (Nat.le_of_ble_eq_true rfl) d_P_init_80 ?_
  refine ab_dup d_P_init_83 rfl ?_
  refine ab_aload_n 0 d_P_init_84 rfl rfl ?_
  refine cn_get hk kf_P_41 d_P_init_85 rfl ?_
  refine cn_callI (i := 118) (n := 119) (As := [.ref (g.2.1 + (b + 89))]) (rest := [.ref (g.2.1 + (b + 118)), .ref (g.2.1 + k)]) (L' := [ra g 1 4, oC g (b + 2), oT g (b + 3), ia g 24, oT g (b + 5), ia g 24, ia g 24, oS g (b + 8), mo g 25 (b + 8), ia g 25, ia g 25, ia g 25, ia g 25, ia g 25, ia g 25, ia g 25, ia g 25, ia g 25, ia g 25, ia g 25, ia g 25, ia g 25, ia g 25, ia g 25, ia g 25, ia g 25, ia g 25, ia g 25, ia g 25, ia g 25, ia g 25, ia g 25, ia g 25, ia g 25, oR g (b + 35), oO g (g.2.1 + (b + 7)) (b + 36), rf g 2 49 49 (b + 40) 1, ia g 24, ia g 24, ia g 24, r0, r0, r0, r0, r0, r0, r0, r0, r0, r0, r0, r0, r0, r0, r0, r0, r0, r0, r0, r0, r0, r0, r0, r0, r0, r0, r0, r0, r0, r0, r0, r0, r0, r0, r0, r0, r0, r0, r0, r0, r0, r0, r0, r0, r0, r0, r0, r0, r0, oA g (b + 90), ia g 900, oW g (g.2.1 + (b + 1)) (g.2.1 + (b + 89)) (b + 92), rf g 2 25 25 (b + 93) 1, r0, r0, r0, r0, r0, r0, r0, r0, r0, r0, r0, r0, r0, r0, r0, r0, r0, r0, r0, r0, r0, r0, r0, r0, r0, oD g (g.2.1 + (b + 89)) (b + 119), ia g 99, ia g 99]) hb rfl rfl rfl c_D kc_P_56 d_P_init_88 rfl (Nat.le_of_ble_eq_true rfl) en_md (Nat.le_of_ble_eq_true rfl) ⟨(Nat.le_of_ble_eq_true rfl), (Nat.le_of_ble_eq_true rfl)⟩ ?_
  refine cn_putF (fs' := [.ref (g.2.1 + (b + 0)), .ref (g.2.1 + (b + 1)), .int 0, .ref (g.2.1 + (b + 7)), .ref (g.2.1 + (b + 35)), .ref (g.2.1 + (b + 89)), .ref (g.2.1 + (b + 91)), .ref (g.2.1 + (b + 118)), .null, .null]) hk kp_P_59 rfl d_P_init_91 (Nat.le_of_ble_eq_true rfl) rfl rfl rfl ?_
  refine ab_aload_n 0 d_P_init_94 rfl rfl ?_
  refine cn_new (n := 121) (L' := [ra g 1 4, oC g (b + 2), oT g (b + 3), ia g 24, oT g (b + 5), ia g 24, ia g 24, oS g (b + 8), mo g 25 (b + 8), ia g 25, ia g 25, ia g 25, ia g 25, ia g 25, ia g 25, ia g 25, ia g 25, ia g 25, ia g 25, ia g 25, ia g 25, ia g 25, ia g 25, ia g 25, ia g 25, ia g 25, ia g 25, ia g 25, ia g 25, ia g 25, ia g 25, ia g 25, ia g 25, ia g 25, oR g (b + 35), oO g (g.2.1 + (b + 7)) (b + 36), rf g 2 49 49 (b + 40) 1, ia g 24, ia g 24, ia g 24, r0, r0, r0, r0, r0, r0, r0, r0, r0, r0, r0, r0, r0, r0, r0, r0, r0, r0, r0, r0, r0, r0, r0, r0, r0, r0, r0, r0, r0, r0, r0, r0, r0, r0, r0, r0, r0, r0, r0, r0, r0, r0, r0, r0, r0, r0, r0, r0, r0, oA g (b + 90), ia g 900, oW g (g.2.1 + (b + 1)) (g.2.1 + (b + 89)) (b + 92), rf g 2 25 25 (b + 93) 1, r0, r0, r0, r0, r0, r0, r0, r0, r0, r0, r0, r0, r0, r0, r0, r0, r0, r0, r0, r0, r0, r0, r0, r0, r0, oD g (g.2.1 + (b + 89)) (b + 119), ia g 99, ia g 99, .inr (9, [.null, .null])]) hb rfl rfl ok_F kk_P_63 ki_F kn_F tf_F (by decide +kernel) df_F (Nat.le_of_ble_eq_true rfl) (Nat.le_of_ble_eq_true rfl) d_P_init_95 ?_
  refine ab_dup d_P_init_98 rfl ?_
  refine ab_aload_n 0 d_P_init_99 rfl rfl ?_
  refine cn_get hk kf_P_59 d_P_init_100 rfl ?_
  refine cn_callI (i := 121) (n := 122) (As := [.ref (g.2.1 + (b + 118))]) (rest := [.ref (g.2.1 + (b + 121)), .ref (g.2.1 + k)]) (L' := [ra g 1 4, oC g (b + 2), oT g (b + 3), ia g 24, oT g (b + 5), ia g 24, ia g 24, oS g (b + 8), mo g 25 (b + 8), ia g 25, ia g 25, ia g 25, ia g 25, ia g 25, ia g 25, ia g 25, ia g 25, ia g 25, ia g 25, ia g 25, ia g 25, ia g 25, ia g 25, ia g 25, ia g 25, ia g 25, ia g 25, ia g 25, ia g 25, ia g 25, ia g 25, ia g 25, ia g 25, ia g 25, oR g (b + 35), oO g (g.2.1 + (b + 7)) (b + 36), rf g 2 49 49 (b + 40) 1, ia g 24, ia g 24, ia g 24, r0, r0, r0, r0, r0, r0, r0, r0, r0, r0, r0, r0, r0, r0, r0, r0, r0, r0, r0, r0, r0, r0, r0, r0, r0, r0, r0, r0, r0, r0, r0, r0, r0, r0, r0, r0, r0, r0, r0, r0, r0, r0, r0, r0, r0, r0, r0, r0, r0, oA g (b + 90), ia g 900, oW g (g.2.1 + (b + 1)) (g.2.1 + (b + 89)) (b + 92), rf g 2 25 25 (b + 93) 1, r0, r0, r0, r0, r0, r0, r0, r0, r0, r0, r0, r0, r0, r0, r0, r0, r0, r0, r0, r0, r0, r0, r0, r0, r0, oD g (g.2.1 + (b + 89)) (b + 119), ia g 99, ia g 99, oF g (g.2.1 + (b + 118)) (b + 122), oT g (b + 123), ia g 24]) hb rfl rfl rfl c_F kc_P_65 d_P_init_103 rfl (Nat.le_of_ble_eq_true rfl) en_md (Nat.le_of_ble_eq_true rfl) ⟨(Nat.le_of_ble_eq_true rfl), (Nat.le_of_ble_eq_true rfl)⟩ ?_
  refine cn_putF (fs' := [.ref (g.2.1 + (b + 0)), .ref (g.2.1 + (b + 1)), .int 0, .ref (g.2.1 + (b + 7)), .ref (g.2.1 + (b + 35)), .ref (g.2.1 + (b + 89)), .ref (g.2.1 + (b + 91)), .ref (g.2.1 + (b + 118)), .ref (g.2.1 + (b + 121)), .null]) hk kp_P_68 rfl d_P_init_106 (Nat.le_of_ble_eq_true rfl) rfl rfl rfl ?_
  refine ab_aload_n 0 d_P_init_109 rfl rfl ?_
  refine cn_new (n := 124) (L' := [ra g 1 4, oC g (b + 2), oT g (b + 3), ia g 24, oT g (b + 5), ia g 24, ia g 24, oS g (b + 8), mo g 25 (b + 8), ia g 25, ia g 25, ia g 25, ia g 25, ia g 25, ia g 25, ia g 25, ia g 25, ia g 25, ia g 25, ia g 25, ia g 25, ia g 25, ia g 25, ia g 25, ia g 25, ia g 25, ia g 25, ia g 25, ia g 25, ia g 25, ia g 25, ia g 25, ia g 25, ia g 25, oR g (b + 35), oO g (g.2.1 + (b + 7)) (b + 36), rf g 2 49 49 (b + 40) 1, ia g 24, ia g 24, ia g 24, r0, r0, r0, r0, r0, r0, r0, r0, r0, r0, r0, r0, r0, r0, r0, r0, r0, r0, r0, r0, r0, r0, r0, r0, r0, r0, r0, r0, r0, r0, r0, r0, r0, r0, r0, r0, r0, r0, r0, r0, r0, r0, r0, r0, r0, r0, r0, r0, r0, oA g (b + 90), ia g 900, oW g (g.2.1 + (b + 1)) (g.2.1 + (b + 89)) (b + 92), rf g 2 25 25 (b + 93) 1, r0, r0, r0, r0, r0, r0, r0, r0, r0, r0, r0, r0, r0, r0, r0, r0, r0, r0, r0, r0, r0, r0, r0, r0, r0, oD g (g.2.1 + (b + 89)) (b + 119), ia g 99, ia g 99, oF g (g.2.1 + (b + 118)) (b + 122), oT g (b + 123), ia g 24, .inr (11, [.null, .null, .null, .null, .null, .null, .null, .int 0, .int 0])]) hb rfl rfl ok_G kk_P_72 ki_G kn_G tf_G (by decide +kernel) df_G (Nat.le_of_ble_eq_true rfl) (Nat.le_of_ble_eq_true rfl) d_P_init_110 ?_
  refine ab_dup d_P_init_113 rfl ?_
  refine ab_aload_n 0 d_P_init_114 rfl rfl ?_
  refine cn_get hk kf_P_25 d_P_init_115 rfl ?_
  refine cn_callI (i := 124) (n := 125) (As := [.ref (g.2.1 + (b + 7))]) (rest := [.ref (g.2.1 + (b + 124)), .ref (g.2.1 + k)]) (L' := [ra g 1 4, oC g (b + 2), oT g (b + 3), ia g 24, oT g (b + 5), ia g 24, ia g 24, oS g (b + 8), mo g 25 (b + 8), ia g 25, ia g 25, ia g 25, ia g 25, ia g 25, ia g 25, ia g 25, ia g 25, ia g 25, ia g 25, ia g 25, ia g 25, ia g 25, ia g 25, ia g 25, ia g 25, ia g 25, ia g 25, ia g 25, ia g 25, ia g 25, ia g 25, ia g 25, ia g 25, ia g 25, oR g (b + 35), oO g (g.2.1 + (b + 7)) (b + 36), rf g 2 49 49 (b + 40) 1, ia g 24, ia g 24, ia g 24, r0, r0, r0, r0, r0, r0, r0, r0, r0, r0, r0, r0, r0, r0, r0, r0, r0, r0, r0, r0, r0, r0, r0, r0, r0, r0, r0, r0, r0, r0, r0, r0, r0, r0, r0, r0, r0, r0, r0, r0, r0, r0, r0, r0, r0, r0, r0, r0, r0, oA g (b + 90), ia g 900, oW g (g.2.1 + (b + 1)) (g.2.1 + (b + 89)) (b + 92), rf g 2 25 25 (b + 93) 1, r0, r0, r0, r0, r0, r0, r0, r0, r0, r0, r0, r0, r0, r0, r0, r0, r0, r0, r0, r0, r0, r0, r0, r0, r0, oD g (g.2.1 + (b + 89)) (b + 119), ia g 99, ia g 99, oF g (g.2.1 + (b + 118)) (b + 122), oT g (b + 123), ia g 24, oG g (g.2.1 + (b + 7)) (b + 125), oC g (b + 126), oT g (b + 127), ia g 24, oT g (b + 129), ia g 24, ia g 24, oC g (b + 132), oT g (b + 133), ia g 24, oT g (b + 135), ia g 24, ia g 24, oQ g (g.2.1 + (b + 126)) (b + 138), oQ g (g.2.1 + (b + 128)) (b + 139), oQ g (g.2.1 + (b + 134)) (b + 140), oT g (b + 141), ia g 24]) hb rfl rfl rfl c_G kc_P_74 d_P_init_118 rfl (Nat.le_of_ble_eq_true rfl) en_md (Nat.le_of_ble_eq_true rfl) ⟨(Nat.le_of_ble_eq_true rfl), (Nat.le_of_ble_eq_true rfl)⟩ ?_
  refine cn_putF (fs' := [.ref (g.2.1 + (b + 0)), .ref (g.2.1 + (b + 1)), .int 0, .ref (g.2.1 + (b + 7)), .ref (g.2.1 + (b + 35)), .ref (g.2.1 + (b + 89)), .ref (g.2.1 + (b + 91)), .ref (g.2.1 + (b + 118)), .ref (g.2.1 + (b + 121)), .ref (g.2.1 + (b + 124))]) hk kp_P_75 rfl d_P_init_121 (Nat.le_of_ble_eq_true rfl) rfl rfl rfl ?_
  rw [ra_rf (b := b + 142) (w := 2)]
  refine ab_iconst (v := nI 0) d_P_init_124 (by decide) ?_
  refine ab_istore_n (lv' := [(1, .int (nI 0)), (0, .ref (g.2.1 + k))]) d_P_init_125 rfl (Nat.le_of_ble_eq_true rfl) rfl ?_
  refine ab_iload_n 0 d_P_init_126 rfl rfl ?_
  refine ab_iconst (v := nI 4) d_P_init_127 (by decide) ?_
  refine ab_icmp_ge (tgt := 150) d_P_init_128 (by decide) (fun h => absurd h (by decide)) (fun _ => ?_)
  refine ab_aload_n 1 d_P_init_131 rfl rfl ?_
  refine cn_get (v := .ref (g.2.1 + (b + 0))) hk kf_P_11 d_P_init_132 rfl ?_
  refine ab_iload_n 0 d_P_init_135 rfl rfl ?_
  refine cn_new (n := 142) (L' := [rf g 1 4 0 (b + 142) 2, oC g (b + 2), oT g (b + 3), ia g 24, oT g (b + 5), ia g 24, ia g 24, oS g (b + 8), mo g 25 (b + 8), ia g 25, ia g 25, ia g 25, ia g 25, ia g 25, ia g 25, ia g 25, ia g 25, ia g 25, ia g 25, ia g 25, ia g 25, ia g 25, ia g 25, ia g 25, ia g 25, ia g 25, ia g 25, ia g 25, ia g 25, ia g 25, ia g 25, ia g 25, ia g 25, ia g 25, oR g (b + 35), oO g (g.2.1 + (b + 7)) (b + 36), rf g 2 49 49 (b + 40) 1, ia g 24, ia g 24, ia g 24, r0, r0, r0, r0, r0, r0, r0, r0, r0, r0, r0, r0, r0, r0, r0, r0, r0, r0, r0, r0, r0, r0, r0, r0, r0, r0, r0, r0, r0, r0, r0, r0, r0, r0, r0, r0, r0, r0, r0, r0, r0, r0, r0, r0, r0, r0, r0, r0, r0, oA g (b + 90), ia g 900, oW g (g.2.1 + (b + 1)) (g.2.1 + (b + 89)) (b + 92), rf g 2 25 25 (b + 93) 1, r0, r0, r0, r0, r0, r0, r0, r0, r0, r0, r0, r0, r0, r0, r0, r0, r0, r0, r0, r0, r0, r0, r0, r0, r0, oD g (g.2.1 + (b + 89)) (b + 119), ia g 99, ia g 99, oF g (g.2.1 + (b + 118)) (b + 122), oT g (b + 123), ia g 24, oG g (g.2.1 + (b + 7)) (b + 125), oC g (b + 126), oT g (b + 127), ia g 24, oT g (b + 129), ia g 24, ia g 24, oC g (b + 132), oT g (b + 133), ia g 24, oT g (b + 135), ia g 24, ia g 24, oQ g (g.2.1 + (b + 126)) (b + 138), oQ g (g.2.1 + (b + 128)) (b + 139), oQ g (g.2.1 + (b + 134)) (b + 140), oT g (b + 141), ia g 24, .inr (1, [.null, .int 0])]) hb rfl rfl ok_T kk_P_9 ki_T kn_T tf_T (by decide +kernel) df_T (Nat.le_of_ble_eq_true rfl) (Nat.le_of_ble_eq_true rfl) d_P_init_136 ?_
  refine ab_dup d_P_init_139 rfl ?_
  refine cn_callIN (i := 142) (n := 143) (As := []) (rest := [.ref (g.2.1 + (b + 142)), .int (nI 0), .ref (g.2.1 + (b + 0))]) (L' := [rf g 1 4 0 (b + 142) 2, oC g (b + 2), oT g (b + 3), ia g 24, oT g (b + 5), ia g 24, ia g 24, oS g (b + 8), mo g 25 (b + 8), ia g 25, ia g 25, ia g 25, ia g 25, ia g 25, ia g 25, ia g 25, ia g 25, ia g 25, ia g 25, ia g 25, ia g 25, ia g 25, ia g 25, ia g 25, ia g 25, ia g 25, ia g 25, ia g 25, ia g 25, ia g 25, ia g 25, ia g 25, ia g 25, ia g 25, oR g (b + 35), oO g (g.2.1 + (b + 7)) (b + 36), rf g 2 49 49 (b + 40) 1, ia g 24, ia g 24, ia g 24, r0, r0, r0, r0, r0, r0, r0, r0, r0, r0, r0, r0, r0, r0, r0, r0, r0, r0, r0, r0, r0, r0, r0, r0, r0, r0, r0, r0, r0, r0, r0, r0, r0, r0, r0, r0, r0, r0, r0, r0, r0, r0, r0, r0, r0, r0, r0, r0, r0, oA g (b + 90), ia g 900, oW g (g.2.1 + (b + 1)) (g.2.1 + (b + 89)) (b + 92), rf g 2 25 25 (b + 93) 1, r0, r0, r0, r0, r0, r0, r0, r0, r0, r0, r0, r0, r0, r0, r0, r0, r0, r0, r0, r0, r0, r0, r0, r0, r0, oD g (g.2.1 + (b + 89)) (b + 119), ia g 99, ia g 99, oF g (g.2.1 + (b + 118)) (b + 122), oT g (b + 123), ia g 24, oG g (g.2.1 + (b + 7)) (b + 125), oC g (b + 126), oT g (b + 127), ia g 24, oT g (b + 129), ia g 24, ia g 24, oC g (b + 132), oT g (b + 133), ia g 24, oT g (b + 135), ia g 24, ia g 24, oQ g (g.2.1 + (b + 126)) (b + 138), oQ g (g.2.1 + (b + 128)) (b + 139), oQ g (g.2.1 + (b + 134)) (b + 140), oT g (b + 141), ia g 24, oT g (b + 143), ia g 24]) hb rfl rfl rfl c_T kc_P_79 d_P_init_140 rfl (Nat.le_of_ble_eq_true rfl) en_md (Nat.le_of_ble_eq_true rfl) ⟨(Nat.le_of_ble_eq_true rfl), (Nat.le_of_ble_eq_true rfl)⟩ ?_
  refine cn_aast (ja := 0) (jr := 142) (t := 1) (n := 4) (i := 0) (B := b + 142) (w := 2) (L' := [rf g 1 4 1 (b + 142) 2, oC g (b + 2), oT g (b + 3), ia g 24, oT g (b + 5), ia g 24, ia g 24, oS g (b + 8), mo g 25 (b + 8), ia g 25, ia g 25, ia g 25, ia g 25, ia g 25, ia g 25, ia g 25, ia g 25, ia g 25, ia g 25, ia g 25, ia g 25, ia g 25, ia g 25, ia g 25, ia g 25, ia g 25, ia g 25, ia g 25, ia g 25, ia g 25, ia g 25, ia g 25, ia g 25, ia g 25, oR g (b + 35), oO g (g.2.1 + (b + 7)) (b + 36), rf g 2 49 49 (b + 40) 1, ia g 24, ia g 24, ia g 24, r0, r0, r0, r0, r0, r0, r0, r0, r0, r0, r0, r0, r0, r0, r0, r0, r0, r0, r0, r0, r0, r0, r0, r0, r0, r0, r0, r0, r0, r0, r0, r0, r0, r0, r0, r0, r0, r0, r0, r0, r0, r0, r0, r0, r0, r0, r0, r0, r0, oA g (b + 90), ia g 900, oW g (g.2.1 + (b + 1)) (g.2.1 + (b + 89)) (b + 92), rf g 2 25 25 (b + 93) 1, r0, r0, r0, r0, r0, r0, r0, r0, r0, r0, r0, r0, r0, r0, r0, r0, r0, r0, r0, r0, r0, r0, r0, r0, r0, oD g (g.2.1 + (b + 89)) (b + 119), ia g 99, ia g 99, oF g (g.2.1 + (b + 118)) (b + 122), oT g (b + 123), ia g 24, oG g (g.2.1 + (b + 7)) (b + 125), oC g (b + 126), oT g (b + 127), ia g 24, oT g (b + 129), ia g 24, ia g 24, oC g (b + 132), oT g (b + 133), ia g 24, oT g (b + 135), ia g 24, ia g 24, oQ g (g.2.1 + (b + 126)) (b + 138), oQ g (g.2.1 + (b + 128)) (b + 139), oQ g (g.2.1 + (b + 134)) (b + 140), oT g (b + 141), ia g 24, oT g (b + 143), ia g 24]) hb rfl rfl (by omega) (by omega) (by omega) rfl rfl rfl d_P_init_143 ?_
  refine ab_iinc (v := nI 1) (lv' := [(1, .int (nI 1)), (0, .ref (g.2.1 + k))]) 0 d_P_init_144 rfl (by decide) (Nat.le_of_ble_eq_true rfl) rfl ?_
  refine ab_goto (tgt := 126) d_P_init_147 (by decide) ?_
  refine ab_iload_n 0 d_P_init_126 rfl rfl ?_
  refine ab_iconst (v := nI 4) d_P_init_127 (by decide) ?_
  refine ab_icmp_ge (tgt := 150) d_P_init_128 (by decide) (fun h => absurd h (by decide)) (fun _ => ?_)
  refine ab_aload_n 1 d_P_init_131 rfl rfl ?_
  refine cn_get (v := .ref (g.2.1 + (b + 0))) hk kf_P_11 d_P_init_132 rfl ?_
  refine ab_iload_n 0 d_P_init_135 rfl rfl ?_
  refine cn_new (n := 144) (L' := [rf g 1 4 1 (b + 142) 2, oC g (b + 2), oT g (b + 3), ia g 24, oT g (b + 5), ia g 24, ia g 24, oS g (b + 8), mo g 25 (b + 8), ia g 25, ia g 25, ia g 25, ia g 25, ia g 25, ia g 25, ia g 25, ia g 25, ia g 25, ia g 25, ia g 25, ia g 25, ia g 25, ia g 25, ia g 25, ia g 25, ia g 25, ia g 25, ia g 25, ia g 25, ia g 25, ia g 25, ia g 25, ia g 25, ia g 25, oR g (b + 35), oO g (g.2.1 + (b + 7)) (b + 36), rf g 2 49 49 (b + 40) 1, ia g 24, ia g 24, ia g 24, r0, r0, r0, r0, r0, r0, r0, r0, r0, r0, r0, r0, r0, r0, r0, r0, r0, r0, r0, r0, r0, r0, r0, r0, r0, r0, r0, r0, r0, r0, r0, r0, r0, r0, r0, r0, r0, r0, r0, r0, r0, r0, r0, r0, r0, r0, r0, r0, r0, oA g (b + 90), ia g 900, oW g (g.2.1 + (b + 1)) (g.2.1 + (b + 89)) (b + 92), rf g 2 25 25 (b + 93) 1, r0, r0, r0, r0, r0, r0, r0, r0, r0, r0, r0, r0, r0, r0, r0, r0, r0, r0, r0, r0, r0, r0, r0, r0, r0, oD g (g.2.1 + (b + 89)) (b + 119), ia g 99, ia g 99, oF g (g.2.1 + (b + 118)) (b + 122), oT g (b + 123), ia g 24, oG g (g.2.1 + (b + 7)) (b + 125), oC g (b + 126), oT g (b + 127), ia g 24, oT g (b + 129), ia g 24, ia g 24, oC g (b + 132), oT g (b + 133), ia g 24, oT g (b + 135), ia g 24, ia g 24, oQ g (g.2.1 + (b + 126)) (b + 138), oQ g (g.2.1 + (b + 128)) (b + 139), oQ g (g.2.1 + (b + 134)) (b + 140), oT g (b + 141), ia g 24, oT g (b + 143), ia g 24, .inr (1, [.null, .int 0])]) hb rfl rfl ok_T kk_P_9 ki_T kn_T tf_T (by decide +kernel) df_T (Nat.le_of_ble_eq_true rfl) (Nat.le_of_ble_eq_true rfl) d_P_init_136 ?_
  refine ab_dup d_P_init_139 rfl ?_
  refine cn_callIN (i := 144) (n := 145) (As := []) (rest := [.ref (g.2.1 + (b + 144)), .int (nI 1), .ref (g.2.1 + (b + 0))]) (L' := [rf g 1 4 1 (b + 142) 2, oC g (b + 2), oT g (b + 3), ia g 24, oT g (b + 5), ia g 24, ia g 24, oS g (b + 8), mo g 25 (b + 8), ia g 25, ia g 25, ia g 25, ia g 25, ia g 25, ia g 25, ia g 25, ia g 25, ia g 25, ia g 25, ia g 25, ia g 25, ia g 25, ia g 25, ia g 25, ia g 25, ia g 25, ia g 25, ia g 25, ia g 25, ia g 25, ia g 25, ia g 25, ia g 25, ia g 25, oR g (b + 35), oO g (g.2.1 + (b + 7)) (b + 36), rf g 2 49 49 (b + 40) 1, ia g 24, ia g 24, ia g 24, r0, r0, r0, r0, r0, r0, r0, r0, r0, r0, r0, r0, r0, r0, r0, r0, r0, r0, r0, r0, r0, r0, r0, r0, r0, r0, r0, r0, r0, r0, r0, r0, r0, r0, r0, r0, r0, r0, r0, r0, r0, r0, r0, r0, r0, r0, r0, r0, r0, oA g (b + 90), ia g 900, oW g (g.2.1 + (b + 1)) (g.2.1 + (b + 89)) (b + 92), rf g 2 25 25 (b + 93) 1, r0, r0, r0, r0, r0, r0, r0, r0, r0, r0, r0, r0, r0, r0, r0, r0, r0, r0, r0, r0, r0, r0, r0, r0, r0, oD g (g.2.1 + (b + 89)) (b + 119), ia g 99, ia g 99, oF g (g.2.1 + (b + 118)) (b + 122), oT g (b + 123), ia g 24, oG g (g.2.1 + (b + 7)) (b + 125), oC g (b + 126), oT g (b + 127), ia g 24, oT g (b + 129), ia g 24, ia g 24, oC g (b + 132), oT g (b + 133), ia g 24, oT g (b + 135), ia g 24, ia g 24, oQ g (g.2.1 + (b + 126)) (b + 138), oQ g (g.2.1 + (b + 128)) (b + 139), oQ g (g.2.1 + (b + 134)) (b + 140), oT g (b + 141), ia g 24, oT g (b + 143), ia g 24, oT g (b + 145), ia g 24]) hb rfl rfl rfl c_T kc_P_79 d_P_init_140 rfl (Nat.le_of_ble_eq_true rfl) en_md (Nat.le_of_ble_eq_true rfl) ⟨(Nat.le_of_ble_eq_true rfl), (Nat.le_of_ble_eq_true rfl)⟩ ?_
  refine cn_aast (ja := 0) (jr := 144) (t := 1) (n := 4) (i := 1) (B := b + 142) (w := 2) (L' := [rf g 1 4 2 (b + 142) 2, oC g (b + 2), oT g (b + 3), ia g 24, oT g (b + 5), ia g 24, ia g 24, oS g (b + 8), mo g 25 (b + 8), ia g 25, ia g 25, ia g 25, ia g 25, ia g 25, ia g 25, ia g 25, ia g 25, ia g 25, ia g 25, ia g 25, ia g 25, ia g 25, ia g 25, ia g 25, ia g 25, ia g 25, ia g 25, ia g 25, ia g 25, ia g 25, ia g 25, ia g 25, ia g 25, ia g 25, oR g (b + 35), oO g (g.2.1 + (b + 7)) (b + 36), rf g 2 49 49 (b + 40) 1, ia g 24, ia g 24, ia g 24, r0, r0, r0, r0, r0, r0, r0, r0, r0, r0, r0, r0, r0, r0, r0, r0, r0, r0, r0, r0, r0, r0, r0, r0, r0, r0, r0, r0, r0, r0, r0, r0, r0, r0, r0, r0, r0, r0, r0, r0, r0, r0, r0, r0, r0, r0, r0, r0, r0, oA g (b + 90), ia g 900, oW g (g.2.1 + (b + 1)) (g.2.1 + (b + 89)) (b + 92), rf g 2 25 25 (b + 93) 1, r0, r0, r0, r0, r0, r0, r0, r0, r0, r0, r0, r0, r0, r0, r0, r0, r0, r0, r0, r0, r0, r0, r0, r0, r0, oD g (g.2.1 + (b + 89)) (b + 119), ia g 99, ia g 99, oF g (g.2.1 + (b + 118)) (b + 122), oT g (b + 123), ia g 24, oG g (g.2.1 + (b + 7)) (b + 125), oC g (b + 126), oT g (b + 127), ia g 24, oT g (b + 129), ia g 24, ia g 24, oC g (b + 132), oT g (b + 133), ia g 24, oT g (b + 135), ia g 24, ia g 24, oQ g (g.2.1 + (b + 126)) (b + 138), oQ g (g.2.1 + (b + 128)) (b + 139), oQ g (g.2.1 + (b + 134)) (b + 140), oT g (b + 141), ia g 24, oT g (b + 143), ia g 24, oT g (b + 145), ia g 24]) hb rfl rfl (by omega) (by omega) (by omega) rfl rfl rfl d_P_init_143 ?_
  refine ab_iinc (v := nI 2) (lv' := [(1, .int (nI 2)), (0, .ref (g.2.1 + k))]) 0 d_P_init_144 rfl (by decide) (Nat.le_of_ble_eq_true rfl) rfl ?_
  refine ab_goto (tgt := 126) d_P_init_147 (by decide) ?_
  refine ab_iload_n 0 d_P_init_126 rfl rfl ?_
  refine ab_iconst (v := nI 4) d_P_init_127 (by decide) ?_
  refine ab_icmp_ge (tgt := 150) d_P_init_128 (by decide) (fun h => absurd h (by decide)) (fun _ => ?_)
  refine ab_aload_n 1 d_P_init_131 rfl rfl ?_
  refine cn_get (v := .ref (g.2.1 + (b + 0))) hk kf_P_11 d_P_init_132 rfl ?_
  refine ab_iload_n 0 d_P_init_135 rfl rfl ?_
  refine cn_new (n := 146) (L' := [rf g 1 4 2 (b + 142) 2, oC g (b + 2), oT g (b + 3), ia g 24, oT g (b + 5), ia g 24, ia g 24, oS g (b + 8), mo g 25 (b + 8), ia g 25, ia g 25, ia g 25, ia g 25, ia g 25, ia g 25, ia g 25, ia g 25, ia g 25, ia g 25, ia g 25, ia g 25, ia g 25, ia g 25, ia g 25, ia g 25, ia g 25, ia g 25, ia g 25, ia g 25, ia g 25, ia g 25, ia g 25, ia g 25, ia g 25, oR g (b + 35), oO g (g.2.1 + (b + 7)) (b + 36), rf g 2 49 49 (b + 40) 1, ia g 24, ia g 24, ia g 24, r0, r0, r0, r0, r0, r0, r0, r0, r0, r0, r0, r0, r0, r0, r0, r0, r0, r0, r0, r0, r0, r0, r0, r0, r0, r0, r0, r0, r0, r0, r0, r0, r0, r0, r0, r0, r0, r0, r0, r0, r0, r0, r0, r0, r0, r0, r0, r0, r0, oA g (b + 90), ia g 900, oW g (g.2.1 + (b + 1)) (g.2.1 + (b + 89)) (b + 92), rf g 2 25 25 (b + 93) 1, r0, r0, r0, r0, r0, r0, r0, r0, r0, r0, r0, r0, r0, r0, r0, r0, r0, r0, r0, r0, r0, r0, r0, r0, r0, oD g (g.2.1 + (b + 89)) (b + 119), ia g 99, ia g 99, oF g (g.2.1 + (b + 118)) (b + 122), oT g (b + 123), ia g 24, oG g (g.2.1 + (b + 7)) (b + 125), oC g (b + 126), oT g (b + 127), ia g 24, oT g (b + 129), ia g 24, ia g 24, oC g (b + 132), oT g (b + 133), ia g 24, oT g (b + 135), ia g 24, ia g 24, oQ g (g.2.1 + (b + 126)) (b + 138), oQ g (g.2.1 + (b + 128)) (b + 139), oQ g (g.2.1 + (b + 134)) (b + 140), oT g (b + 141), ia g 24, oT g (b + 143), ia g 24, oT g (b + 145), ia g 24, .inr (1, [.null, .int 0])]) hb rfl rfl ok_T kk_P_9 ki_T kn_T tf_T (by decide +kernel) df_T (Nat.le_of_ble_eq_true rfl) (Nat.le_of_ble_eq_true rfl) d_P_init_136 ?_
  refine ab_dup d_P_init_139 rfl ?_
  refine cn_callIN (i := 146) (n := 147) (As := []) (rest := [.ref (g.2.1 + (b + 146)), .int (nI 2), .ref (g.2.1 + (b + 0))]) (L' := [rf g 1 4 2 (b + 142) 2, oC g (b + 2), oT g (b + 3), ia g 24, oT g (b + 5), ia g 24, ia g 24, oS g (b + 8), mo g 25 (b + 8), ia g 25, ia g 25, ia g 25, ia g 25, ia g 25, ia g 25, ia g 25, ia g 25, ia g 25, ia g 25, ia g 25, ia g 25, ia g 25, ia g 25, ia g 25, ia g 25, ia g 25, ia g 25, ia g 25, ia g 25, ia g 25, ia g 25, ia g 25, ia g 25, ia g 25, oR g (b + 35), oO g (g.2.1 + (b + 7)) (b + 36), rf g 2 49 49 (b + 40) 1, ia g 24, ia g 24, ia g 24, r0, r0, r0, r0, r0, r0, r0, r0, r0, r0, r0, r0, r0, r0, r0, r0, r0, r0, r0, r0, r0, r0, r0, r0, r0, r0, r0, r0, r0, r0, r0, r0, r0, r0, r0, r0, r0, r0, r0, r0, r0, r0, r0, r0, r0, r0, r0, r0, r0, oA g (b + 90), ia g 900, oW g (g.2.1 + (b + 1)) (g.2.1 + (b + 89)) (b + 92), rf g 2 25 25 (b + 93) 1, r0, r0, r0, r0, r0, r0, r0, r0, r0, r0, r0, r0, r0, r0, r0, r0, r0, r0, r0, r0, r0, r0, r0, r0, r0, oD g (g.2.1 + (b + 89)) (b + 119), ia g 99, ia g 99, oF g (g.2.1 + (b + 118)) (b + 122), oT g (b + 123), ia g 24, oG g (g.2.1 + (b + 7)) (b + 125), oC g (b + 126), oT g (b + 127), ia g 24, oT g (b + 129), ia g 24, ia g 24, oC g (b + 132), oT g (b + 133), ia g 24, oT g (b + 135), ia g 24, ia g 24, oQ g (g.2.1 + (b + 126)) (b + 138), oQ g (g.2.1 + (b + 128)) (b + 139), oQ g (g.2.1 + (b + 134)) (b + 140), oT g (b + 141), ia g 24, oT g (b + 143), ia g 24, oT g (b + 145), ia g 24, oT g (b + 147), ia g 24]) hb rfl rfl rfl c_T kc_P_79 d_P_init_140 rfl (Nat.le_of_ble_eq_true rfl) en_md (Nat.le_of_ble_eq_true rfl) ⟨(Nat.le_of_ble_eq_true rfl), (Nat.le_of_ble_eq_true rfl)⟩ ?_
  refine cn_aast (ja := 0) (jr := 146) (t := 1) (n := 4) (i := 2) (B := b + 142) (w := 2) (L' := [rf g 1 4 3 (b + 142) 2, oC g (b + 2), oT g (b + 3), ia g 24, oT g (b + 5), ia g 24, ia g 24, oS g (b + 8), mo g 25 (b + 8), ia g 25, ia g 25, ia g 25, ia g 25, ia g 25, ia g 25, ia g 25, ia g 25, ia g 25, ia g 25, ia g 25, ia g 25, ia g 25, ia g 25, ia g 25, ia g 25, ia g 25, ia g 25, ia g 25, ia g 25, ia g 25, ia g 25, ia g 25, ia g 25, ia g 25, oR g (b + 35), oO g (g.2.1 + (b + 7)) (b + 36), rf g 2 49 49 (b + 40) 1, ia g 24, ia g 24, ia g 24, r0, r0, r0, r0, r0, r0, r0, r0, r0, r0, r0, r0, r0, r0, r0, r0, r0, r0, r0, r0, r0, r0, r0, r0, r0, r0, r0, r0, r0, r0, r0, r0, r0, r0, r0, r0, r0, r0, r0, r0, r0, r0, r0, r0, r0, r0, r0, r0, r0, oA g (b + 90), ia g 900, oW g (g.2.1 + (b + 1)) (g.2.1 + (b + 89)) (b + 92), rf g 2 25 25 (b + 93) 1, r0, r0, r0, r0, r0, r0, r0, r0, r0, r0, r0, r0, r0, r0, r0, r0, r0, r0, r0, r0, r0, r0, r0, r0, r0, oD g (g.2.1 + (b + 89)) (b + 119), ia g 99, ia g 99, oF g (g.2.1 + (b + 118)) (b + 122), oT g (b + 123), ia g 24, oG g (g.2.1 + (b + 7)) (b + 125), oC g (b + 126), oT g (b + 127), ia g 24, oT g (b + 129), ia g 24, ia g 24, oC g (b + 132), oT g (b + 133), ia g 24, oT g (b + 135), ia g 24, ia g 24, oQ g (g.2.1 + (b + 126)) (b + 138), oQ g (g.2.1 + (b + 128)) (b + 139), oQ g (g.2.1 + (b + 134)) (b + 140), oT g (b + 141), ia g 24, oT g (b + 143), ia g 24, oT g (b + 145), ia g 24, oT g (b + 147), ia g 24]) hb rfl rfl (by omega) (by omega) (by omega) rfl rfl rfl d_P_init_143 ?_
  refine ab_iinc (v := nI 3) (lv' := [(1, .int (nI 3)), (0, .ref (g.2.1 + k))]) 0 d_P_init_144 rfl (by decide) (Nat.le_of_ble_eq_true rfl) rfl ?_
  refine ab_goto (tgt := 126) d_P_init_147 (by decide) ?_
  refine ab_iload_n 0 d_P_init_126 rfl rfl ?_
  refine ab_iconst (v := nI 4) d_P_init_127 (by decide) ?_
  refine ab_icmp_ge (tgt := 150) d_P_init_128 (by decide) (fun h => absurd h (by decide)) (fun _ => ?_)
  refine ab_aload_n 1 d_P_init_131 rfl rfl ?_
  refine cn_get (v := .ref (g.2.1 + (b + 0))) hk kf_P_11 d_P_init_132 rfl ?_
  refine ab_iload_n 0 d_P_init_135 rfl rfl ?_
  refine cn_new (n := 148) (L' := [rf g 1 4 3 (b + 142) 2, oC g (b + 2), oT g (b + 3), ia g 24, oT g (b + 5), ia g 24, ia g 24, oS g (b + 8), mo g 25 (b + 8), ia g 25, ia g 25, ia g 25, ia g 25, ia g 25, ia g 25, ia g 25, ia g 25, ia g 25, ia g 25, ia g 25, ia g 25, ia g 25, ia g 25, ia g 25, ia g 25, ia g 25, ia g 25, ia g 25, ia g 25, ia g 25, ia g 25, ia g 25, ia g 25, ia g 25, oR g (b + 35), oO g (g.2.1 + (b + 7)) (b + 36), rf g 2 49 49 (b + 40) 1, ia g 24, ia g 24, ia g 24, r0, r0, r0, r0, r0, r0, r0, r0, r0, r0, r0, r0, r0, r0, r0, r0, r0, r0, r0, r0, r0, r0, r0, r0, r0, r0, r0, r0, r0, r0, r0, r0, r0, r0, r0, r0, r0, r0, r0, r0, r0, r0, r0, r0, r0, r0, r0, r0, r0, oA g (b + 90), ia g 900, oW g (g.2.1 + (b + 1)) (g.2.1 + (b + 89)) (b + 92), rf g 2 25 25 (b + 93) 1, r0, r0, r0, r0, r0, r0, r0, r0, r0, r0, r0, r0, r0, r0, r0, r0, r0, r0, r0, r0, r0, r0, r0, r0, r0, oD g (g.2.1 + (b + 89)) (b + 119), ia g 99, ia g 99, oF g (g.2.1 + (b + 118)) (b + 122), oT g (b + 123), ia g 24, oG g (g.2.1 + (b + 7)) (b + 125), oC g (b + 126), oT g (b + 127), ia g 24, oT g (b + 129), ia g 24, ia g 24, oC g (b + 132), oT g (b + 133), ia g 24, oT g (b + 135), ia g 24, ia g 24, oQ g (g.2.1 + (b + 126)) (b + 138), oQ g (g.2.1 + (b + 128)) (b + 139), oQ g (g.2.1 + (b + 134)) (b + 140), oT g (b + 141), ia g 24, oT g (b + 143), ia g 24, oT g (b + 145), ia g 24, oT g (b + 147), ia g 24, .inr (1, [.null, .int 0])]) hb rfl rfl ok_T kk_P_9 ki_T kn_T tf_T (by decide +kernel) df_T (Nat.le_of_ble_eq_true rfl) (Nat.le_of_ble_eq_true rfl) d_P_init_136 ?_
  refine ab_dup d_P_init_139 rfl ?_
  refine cn_callIN (i := 148) (n := 149) (As := []) (rest := [.ref (g.2.1 + (b + 148)), .int (nI 3), .ref (g.2.1 + (b + 0))]) (L' := [rf g 1 4 3 (b + 142) 2, oC g (b + 2), oT g (b + 3), ia g 24, oT g (b + 5), ia g 24, ia g 24, oS g (b + 8), mo g 25 (b + 8), ia g 25, ia g 25, ia g 25, ia g 25, ia g 25, ia g 25, ia g 25, ia g 25, ia g 25, ia g 25, ia g 25, ia g 25, ia g 25, ia g 25, ia g 25, ia g 25, ia g 25, ia g 25, ia g 25, ia g 25, ia g 25, ia g 25, ia g 25, ia g 25, ia g 25, oR g (b + 35), oO g (g.2.1 + (b + 7)) (b + 36), rf g 2 49 49 (b + 40) 1, ia g 24, ia g 24, ia g 24, r0, r0, r0, r0, r0, r0, r0, r0, r0, r0, r0, r0, r0, r0, r0, r0, r0, r0, r0, r0, r0, r0, r0, r0, r0, r0, r0, r0, r0, r0, r0, r0, r0, r0, r0, r0, r0, r0, r0, r0, r0, r0, r0, r0, r0, r0, r0, r0, r0, oA g (b + 90), ia g 900, oW g (g.2.1 + (b + 1)) (g.2.1 + (b + 89)) (b + 92), rf g 2 25 25 (b + 93) 1, r0, r0, r0, r0, r0, r0, r0, r0, r0, r0, r0, r0, r0, r0, r0, r0, r0, r0, r0, r0, r0, r0, r0, r0, r0, oD g (g.2.1 + (b + 89)) (b + 119), ia g 99, ia g 99, oF g (g.2.1 + (b + 118)) (b + 122), oT g (b + 123), ia g 24, oG g (g.2.1 + (b + 7)) (b + 125), oC g (b + 126), oT g (b + 127), ia g 24, oT g (b + 129), ia g 24, ia g 24, oC g (b + 132), oT g (b + 133), ia g 24, oT g (b + 135), ia g 24, ia g 24, oQ g (g.2.1 + (b + 126)) (b + 138), oQ g (g.2.1 + (b + 128)) (b + 139), oQ g (g.2.1 + (b + 134)) (b + 140), oT g (b + 141), ia g 24, oT g (b + 143), ia g 24, oT g (b + 145), ia g 24, oT g (b + 147), ia g 24, oT g (b + 149), ia g 24]) hb rfl rfl rfl c_T kc_P_79 d_P_init_140 rfl (Nat.le_of_ble_eq_true rfl) en_md (Nat.le_of_ble_eq_true rfl) ⟨(Nat.le_of_ble_eq_true rfl), (Nat.le_of_ble_eq_true rfl)⟩ ?_
  refine cn_aast (ja := 0) (jr := 148) (t := 1) (n := 4) (i := 3) (B := b + 142) (w := 2) (L' := [rf g 1 4 4 (b + 142) 2, oC g (b + 2), oT g (b + 3), ia g 24, oT g (b + 5), ia g 24, ia g 24, oS g (b + 8), mo g 25 (b + 8), ia g 25, ia g 25, ia g 25, ia g 25, ia g 25, ia g 25, ia g 25, ia g 25, ia g 25, ia g 25, ia g 25, ia g 25, ia g 25, ia g 25, ia g 25, ia g 25, ia g 25, ia g 25, ia g 25, ia g 25, ia g 25, ia g 25, ia g 25, ia g 25, ia g 25, oR g (b + 35), oO g (g.2.1 + (b + 7)) (b + 36), rf g 2 49 49 (b + 40) 1, ia g 24, ia g 24, ia g 24, r0, r0, r0, r0, r0, r0, r0, r0, r0, r0, r0, r0, r0, r0, r0, r0, r0, r0, r0, r0, r0, r0, r0, r0, r0, r0, r0, r0, r0, r0, r0, r0, r0, r0, r0, r0, r0, r0, r0, r0, r0, r0, r0, r0, r0, r0, r0, r0, r0, oA g (b + 90), ia g 900, oW g (g.2.1 + (b + 1)) (g.2.1 + (b + 89)) (b + 92), rf g 2 25 25 (b + 93) 1, r0, r0, r0, r0, r0, r0, r0, r0, r0, r0, r0, r0, r0, r0, r0, r0, r0, r0, r0, r0, r0, r0, r0, r0, r0, oD g (g.2.1 + (b + 89)) (b + 119), ia g 99, ia g 99, oF g (g.2.1 + (b + 118)) (b + 122), oT g (b + 123), ia g 24, oG g (g.2.1 + (b + 7)) (b + 125), oC g (b + 126), oT g (b + 127), ia g 24, oT g (b + 129), ia g 24, ia g 24, oC g (b + 132), oT g (b + 133), ia g 24, oT g (b + 135), ia g 24, ia g 24, oQ g (g.2.1 + (b + 126)) (b + 138), oQ g (g.2.1 + (b + 128)) (b + 139), oQ g (g.2.1 + (b + 134)) (b + 140), oT g (b + 141), ia g 24, oT g (b + 143), ia g 24, oT g (b + 145), ia g 24, oT g (b + 147), ia g 24, oT g (b + 149), ia g 24]) hb rfl rfl (by omega) (by omega) (by omega) rfl rfl rfl d_P_init_143 ?_
  refine ab_iinc (v := nI 4) (lv' := [(1, .int (nI 4)), (0, .ref (g.2.1 + k))]) 0 d_P_init_144 rfl (by decide) (Nat.le_of_ble_eq_true rfl) rfl ?_
  refine ab_goto (tgt := 126) d_P_init_147 (by decide) ?_
  refine ab_iload_n 0 d_P_init_126 rfl rfl ?_
  refine ab_iconst (v := nI 4) d_P_init_127 (by decide) ?_
  refine ab_icmp_ge (tgt := 150) d_P_init_128 (by decide) (fun _ => ?_) (fun h => absurd (by decide) h)
  exact ab_vret rfl d_P_init_150 ⟨rfl, rfl⟩

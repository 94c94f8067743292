/-! the start: the tables, both objects made, the loop -/
theorem lp_nm_in : ∀ q ∈ lp_nm, Cond.methodLinkNest q.1 q.2.1 q.2.2.1 q.2.2.2 ∈ lw_tbl := by decide +kernel
theorem lp_ao_in : ∀ C ∈ lp_ao, Cond.arrayOver (.object C) ∈ lw_tbl := by decide +kernel
theorem lp_aa_in : Cond.arrayOver (.array .int) ∈ lw_tbl := by decide +kernel
theorem lp_W_in : ∀ w ∈ lp_W, w ∈ lw_tbl := fun w h => (List.mem_filter.mp h).1
theorem K_start {s : State} {args : Array Value} (hts : ∀ w ∈ lw_tbl, w.before args s = true) (l : Launch) (sz : Nat) : ∃ g : lp_G, g.1 = l ∧ g.2.1 = sz ∧ lp_K g s := by
  have hw : ∀ w ∈ lp_W, w.before args s = true := fun w h => hts w (lp_W_in w h)
  obtain ⟨c0, i0, k0⟩ := u_known hw in_P (hw _ ki_P)
  obtain ⟨c1, i1, k1⟩ := u_known hw in_T (hw _ ki_T)
  obtain ⟨c2, i2, k2⟩ := u_known hw in_C (hw _ ki_C)
  obtain ⟨c3, i3, k3⟩ := u_known hw in_R (hw _ ki_R)
  obtain ⟨c4, i4, k4⟩ := u_known hw in_S (hw _ ki_S)
  obtain ⟨c5, i5, k5⟩ := u_known hw in_O (hw _ ki_O)
  obtain ⟨c6, i6, k6⟩ := u_known hw in_A (hw _ ki_A)
  obtain ⟨c7, i7, k7⟩ := u_known hw in_W (hw _ ki_W)
  obtain ⟨c8, i8, k8⟩ := u_known hw in_D (hw _ ki_D)
  obtain ⟨c9, i9, k9⟩ := u_known hw in_F (hw _ ki_F)
  obtain ⟨c10, i10, k10⟩ := u_known hw in_Q (hw _ ki_Q)
  obtain ⟨c11, i11, k11⟩ := u_known hw in_G (hw _ ki_G)
  obtain ⟨c12, i12, k12⟩ := u_known hw in_M (hw _ ki_M)
  obtain ⟨cI, kI, ccI, hfI, hkI, hI⟩ := Cond.arrayClass_spec (hw _ ka_int)
  obtain ⟨p1, a1, q1, f1, x1, y1, z1, w1⟩ := Cond.arrayOver_spec (hts _ (lp_ao_in "LinePatcher$Text" (by simp [lp_ao])))
  obtain ⟨p2, a2, q2, f2, x2, y2, z2, w2⟩ := Cond.arrayOver_spec (hts _ (lp_ao_in "LinePatcher$Range" (by simp [lp_ao])))
  obtain ⟨p3, a3, q3, f3, x3, y3, z3, w3⟩ := arrayOverA_spec (hts _ lp_aa_in)
  have e3 : p3 = cI := Option.some.inj (f3.symm.trans hfI)
  subst e3
  refine ⟨(l, sz, fun n => match n with | 0 => p3 | 1 => a1 | 2 => a2 | _ => a3, fun n => match n with | 0 => c0 | 1 => c1 | 2 => c2 | 3 => c3 | 4 => c4 | 5 => c5 | 6 => c6 | 7 => c7 | 8 => c8 | 9 => c9 | 10 => c10 | 11 => c11 | _ => c12, fun n => match n with | 0 => i0 | 1 => i1 | 2 => i2 | 3 => i3 | 4 => i4 | 5 => i5 | 6 => i6 | 7 => i7 | 8 => i8 | 9 => i9 | 10 => i10 | 11 => i11 | _ => i12), rfl, rfl, ⟨fun c q hq => ?_, fun k q hk => ?_⟩, fun q hq => va_Nw.of rfl (hts _ (lp_nm_in q hq)), fun C hC => va_AO.of (hts _ (lp_ao_in C hC)), hfI, q3, y3, z3⟩
  · have hc : c < 13 := (List.getElem?_eq_some_iff.mp hq).1
    match c, hc with
    | 0, _ => cases hq; exact k0
    | 1, _ => cases hq; exact k1
    | 2, _ => cases hq; exact k2
    | 3, _ => cases hq; exact k3
    | 4, _ => cases hq; exact k4
    | 5, _ => cases hq; exact k5
    | 6, _ => cases hq; exact k6
    | 7, _ => cases hq; exact k7
    | 8, _ => cases hq; exact k8
    | 9, _ => cases hq; exact k9
    | 10, _ => cases hq; exact k10
    | 11, _ => cases hq; exact k11
    | 12, _ => cases hq; exact k12
    | c + 13, hc => exact absurd hc (by omega)
  · have hc : k < 4 := (List.getElem?_eq_some_iff.mp hk).1
    match k, hc with
    | 0, _ => cases hk; exact ⟨fun n z => ⟨(fun k h => by cases h), kI, hkI, ccI, hI⟩, hfI⟩
    | 1, _ => cases hk; exact ⟨fun n z => ⟨(fun k h => by cases h), q1, y1, p1, z1⟩, q1, p1, y1, z1, f1, w1⟩
    | 2, _ => cases hk; exact ⟨fun n z => ⟨(fun k h => by cases h), q2, y2, p2, z2⟩, q2, p2, y2, z2, f2, w2⟩
    | 3, _ => cases hk; exact ⟨fun n z => ⟨(fun k h => by cases h), q3, y3, p3, z3⟩, w3⟩
    | k + 4, hc => exact absurd hc (by omega)
theorem rel_start : relC S0 (fun _ => [], none, []) ∧ relM S0 (fun _ => [], none, []) ∧ okM (fun _ => [], none, []) :=
  ⟨⟨fun t _ => ⟨by simp, rfl, fun i hi => by simp at hi⟩, rfl, by simp, rfl, fun i hi => by simp at hi⟩, ⟨fun t _ => ⟨by simp, rfl, fun i hi => by simp at hi⟩, rfl, by simp, rfl, fun i hi => by simp at hi⟩, fun t _ => by simp, fun xs ys pf h => by simp at h⟩
set_option maxRecDepth 100000 in
theorem law_start {g : lp_G} {b L : Nat} {xs : Nat → Int32} (H : AllSim g) (hL : L ≤ 2560) : Ab g uL (ML g b L xs) 0 0 0 [(0, .ref b)] [] [] := by
  refine ab_new (ci := 0) (fs := [.null, .null, .int 0, .null, .null, .null, .null, .null, .null, .null]) ok_P kk_L_7 ki_P kn_P tf_P (by decide +kernel) df_P (Nat.le_of_ble_eq_true rfl) (Nat.le_of_ble_eq_true rfl) d_L_law_0 ?_
  refine ab_dup d_L_law_3 rfl ?_
  refine ab_callI (As := []) (rest := [.ref (g.2.1 + 0)]) kc_L_9 d_L_law_4 rfl (Nat.le_of_ble_eq_true rfl) (lp_en.call (d := 8) enL (Nat.le_of_ble_eq_true rfl)) ⟨Nat.le_of_ble_eq_true rfl, Nat.le_of_ble_eq_true rfl⟩ (c_P (d := 4) [pN] 0 1 rfl rfl) (fun v c h => ?_)
  rw [h.1, h.2]
  refine ab_astore_n (lv' := [(1, .ref (g.2.1 + 0)), (0, .ref b)]) d_L_law_7 rfl (Nat.le_of_ble_eq_true rfl) rfl ?_
  refine ab_new (ci := 12) (fs := [.null, .null, .int 0, .int 0, .null, .null, .null, .null, .int 0, .null, .null, .null, .null, .null, .null, .int 0, .int 0, .int 0, .null, .null, .null, .int 0, .null, .null, .int 0, .null, .int 0, .null, .null, .null, .null, .null, .null, .int 0, .int 0, .int 0, .null, .null]) ok_M kk_L_10 ki_M kn_M tf_M (by decide +kernel) df_M (Nat.le_of_ble_eq_true rfl) (Nat.le_of_ble_eq_true rfl) d_L_law_8 ?_
  refine ab_dup d_L_law_11 rfl ?_
  have hlen : (cw [pN] 0 (oP g 1) (eP g 1)).length = 151 := rfl
  rw [hlen]
  refine ab_callI (As := []) (rest := [.ref (g.2.1 + 151)]) kc_L_12 d_L_law_12 rfl (Nat.le_of_ble_eq_true rfl) (lp_en.call (d := 8) enL (Nat.le_of_ble_eq_true rfl)) ⟨Nat.le_of_ble_eq_true rfl, Nat.le_of_ble_eq_true rfl⟩ (c_M (d := 7) (cw [pN] 0 (oP g 1) (eP g 1) ++ [mN]) 151 152 (by rw [List.length_append, hlen]; rfl) (by rw [List.getElem?_append_right (by rw [hlen]; exact Nat.le_refl _), hlen]; rfl)) (fun v c h => ?_)
  rw [h.1, h.2, wc_start]
  refine ab_astore_n (lv' := [(2, .ref (g.2.1 + 151)), (1, .ref (g.2.1 + 0)), (0, .ref b)]) d_L_law_15 rfl (Nat.le_of_ble_eq_true rfl) rfl ?_
  refine ab_iconst (v := nI 0) d_L_law_16 (by decide) ?_
  refine ab_istore_n (lv' := [(3, .int (nI 0)), (2, .ref (g.2.1 + 151)), (1, .ref (g.2.1 + 0)), (0, .ref b)]) d_L_law_17 rfl (Nat.le_of_ble_eq_true rfl) rfl ?_
  refine ab_sub (lv' := [(0, .ref b), (1, .ref (g.2.1 + 0)), (2, .ref (g.2.1 + 151)), (3, .int (nI 0))]) [3, 2, 1, 0] rfl ?_
  exact law_loop H hL _ 0 S0 _ (Nat.le_refl _) rel_start.2.2 rel_start.1 rel_start.2.1 (by omega)
theorem whole_open (H : ∀ g, AllSim g) {p : Program} {e : Env} {s : State} {m : MethodId} {below : List Frame} {meth : Method} {c : Code} (l : Launch) {b L : Nat} {xs : Nat → Int32} (hL : L ≤ 2560) (C0 : lw_At p s m meth c b L xs) : W p l e room_1 s m #[Value.ref b] below meth c s.heap [] 0 0 (lw_Z below #[Value.ref b] s) (entryFrame m ([Value.ref b] : List Value).toArray 4) := by
  obtain ⟨hx, hb, hr, hml, hown, hts, hX, hbl, hlk, -⟩ := C0
  obtain ⟨g, rfl, hsz, hK⟩ := K_start hts l s.heap.size
  rw [lg_entry_eq]
  refine law_start (b := b) (L := L) (xs := xs) (H g) hL p e s m _ below meth c ⟨hx, hb, hml, hr, hown, fun w h => hts w (lp_W_in w h), hK, hlk, fun h => by simp at h, by omega, rfl, hX, hbl, hsz.symm⟩ _ s.heap [] (lv_entry [Value.ref b] (Nat.le_of_ble_eq_true rfl)) ⟨fun k q h => by simp [lp_ws] at h, by rw [hsz]; rfl⟩ va_S.rf

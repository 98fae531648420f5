set_option maxHeartbeats 2000000 in
set_option maxRecDepth 100000 in
theorem mX0_size {Y : vv_Y} (hY : Y.2.2.2.2 = wC) {d : Nat} (hd : is_X0 d) {σ : vv_S} {post : Int32 → vv_S → Prop} (h : wX0_size d σ post) : vv_MI Y yX0_size cX0_size 1 (some .int) 0 0 [.ref (vv_q Y d)] σ post := by
  refine vv_ofI (by decide) (Nat.le_of_ble_eq_true rfl) (fun X C => ?_)
  have C : VC Y X RX0 cX0_size 1 (some .int) 0 0 := C
  refine vv_sub [0] (L' := [(0, .ref (vv_q Y d))]) rfl ?_
  refine vv_aload_n C 0 dX0_size_0 rfl rfl ?_
  refine vv_geti C kc_X0 (s_X0 hY hd) 4 (by decide) rfl fk_X0_24 dX0_size_1 ?_
  exact vv_iret C dX0_size_4 h
set_option maxHeartbeats 2000000 in
set_option maxRecDepth 100000 in
theorem mX0_clear {Y : vv_Y} (hY : Y.2.2.2.2 = wC) {d : Nat} (hd : is_X0 d) {σ : vv_S} {post : vv_S → Prop} (h : wX0_clear d σ post) : vv_MV Y yX0_clear cX0_clear 1 none 0 0 [.ref (vv_q Y d)] σ post := by
  refine vv_ofV (by decide) (Nat.le_of_ble_eq_true rfl) (fun X C => ?_)
  have C : VC Y X RX0 cX0_clear 1 none 0 0 := C
  refine vv_sub [0] (L' := [(0, .ref (vv_q Y d))]) rfl ?_
  refine vv_aload_n C 0 dX0_clear_0 rfl rfl ?_
  refine vv_iconst C dX0_clear_1 ki_0 ?_
  refine vv_puti C kc_X0 (s_X0 hY hd) 4 (by decide) rfl pf_X0_4 fk_X0_24 dX0_clear_2 (fun σ1 eσ1 => ?_)
  replace h := h σ1 eσ1
  exact vv_vret C dX0_clear_5 h
set_option maxHeartbeats 2000000 in
set_option maxRecDepth 100000 in
theorem mX0_add {Y : vv_Y} (hY : Y.2.2.2.2 = wC) {d : Nat} (hd : is_X0 d) {a1 : Int32} {a2 : Int32} {a3 : Int32} {a4 : Int32} {σ : vv_S} {post : Int32 → vv_S → Prop} (h : wX0_add d a1 a2 a3 a4 σ post) : vv_MI Y yX0_add cX0_add 5 (some .boolean) 0 0 [.ref (vv_q Y d), .int a1, .int a2, .int a3, .int a4] σ post := by
  refine vv_ofI (by decide) (Nat.le_of_ble_eq_true rfl) (fun X C => ?_)
  have C : VC Y X RX0 cX0_add 5 (some .boolean) 0 0 := C
  refine vv_sub [0, 1, 2, 3, 4] (L' := [(0, .ref (vv_q Y d)), (1, .int a1), (2, .int a2), (3, .int a3), (4, .int a4)]) rfl ?_
  refine vv_aload_n C 0 dX0_add_0 rfl rfl ?_
  refine vv_geti C kc_X0 (s_X0 hY hd) 4 (by decide) rfl fk_X0_24 dX0_add_1 ?_
  refine vv_join (fun k =>  k → VJ Y X (va_Qi post (vv_B Y) X.2) 5 16 [] [] σ) h (fun h => ?_) (fun k16_0 hJk16_0 h => ?_)
  · refine vv_iconst C dX0_add_16 ki_0 ?_
    exact vv_zret C (Or.inl rfl) dX0_add_17 h
  · refine vv_if_lt (pc := 4) C 16 dX0_add_4 (by decide) (fun hc2 => ?_) (fun hc2 => ?_)
    · replace h := h.1 hc2
      refine vv_sub [] (L' := []) rfl ?_
      exact hJk16_0 h
    · replace h := h.2 hc2
      refine vv_aload_n C 0 dX0_add_7 rfl rfl ?_
      refine vv_geti C kc_X0 (s_X0 hY hd) 4 (by decide) rfl fk_X0_24 dX0_add_8 ?_
      refine vv_bipush C dX0_add_11 kb_30 ?_
      refine vv_icmp_lt (pc := 13) C 18 dX0_add_13 (by decide) (fun hc3 => ?_) (fun hc3 => ?_)
      · replace h := h.1 hc3
        refine vv_aload_n C 0 dX0_add_18 rfl rfl ?_
        refine vv_getr (r := (d + 1)) C kc_X0 (s_X0 hY hd) 0 (by decide) rfl fk_X0_9 dX0_add_19 ?_
        refine vv_aload_n C 0 dX0_add_22 rfl rfl ?_
        refine vv_geti C kc_X0 (s_X0 hY hd) 4 (by decide) rfl fk_X0_24 dX0_add_23 ?_
        refine vv_iload_n C 1 dX0_add_26 rfl rfl ?_
        obtain ⟨hi4, h⟩ := h
        refine vv_iast C (a_X0_kinds hY hd) hi4 rfl dX0_add_27 (fun σ5 eσ5 => ?_)
        replace h := h σ5 eσ5
        refine vv_aload_n C 0 dX0_add_28 rfl rfl ?_
        refine vv_getr (r := (d + 2)) C kc_X0 (s_X0 hY hd) 1 (by decide) rfl fk_X0_15 dX0_add_29 ?_
        refine vv_aload_n C 0 dX0_add_32 rfl rfl ?_
        refine vv_geti C kc_X0 (s_X0 hY hd) 4 (by decide) rfl fk_X0_24 dX0_add_33 ?_
        refine vv_iload_n C 2 dX0_add_36 rfl rfl ?_
        obtain ⟨hi6, h⟩ := h
        refine vv_iast C (a_X0_places hY hd) hi6 rfl dX0_add_37 (fun σ7 eσ7 => ?_)
        replace h := h σ7 eσ7
        refine vv_aload_n C 0 dX0_add_38 rfl rfl ?_
        refine vv_getr (r := (d + 3)) C kc_X0 (s_X0 hY hd) 2 (by decide) rfl fk_X0_18 dX0_add_39 ?_
        refine vv_aload_n C 0 dX0_add_42 rfl rfl ?_
        refine vv_geti C kc_X0 (s_X0 hY hd) 4 (by decide) rfl fk_X0_24 dX0_add_43 ?_
        refine vv_iload_n C 3 dX0_add_46 rfl rfl ?_
        obtain ⟨hi8, h⟩ := h
        refine vv_iast C (a_X0_stuffs hY hd) hi8 rfl dX0_add_47 (fun σ9 eσ9 => ?_)
        replace h := h σ9 eσ9
        refine vv_aload_n C 0 dX0_add_48 rfl rfl ?_
        refine vv_getr (r := (d + 4)) C kc_X0 (s_X0 hY hd) 3 (by decide) rfl fk_X0_21 dX0_add_49 ?_
        refine vv_aload_n C 0 dX0_add_52 rfl rfl ?_
        refine vv_geti C kc_X0 (s_X0 hY hd) 4 (by decide) rfl fk_X0_24 dX0_add_53 ?_
        refine vv_iload C 4 dX0_add_56 rfl ?_
        obtain ⟨hi10, h⟩ := h
        refine vv_iast C (a_X0_amounts hY hd) hi10 rfl dX0_add_58 (fun σ11 eσ11 => ?_)
        replace h := h σ11 eσ11
        refine vv_aload_n C 0 dX0_add_59 rfl rfl ?_
        refine vv_dup C dX0_add_60 rfl ?_
        refine vv_geti C kc_X0 (s_X0 hY hd) 4 (by decide) rfl fk_X0_24 dX0_add_61 ?_
        refine vv_iconst C dX0_add_64 ki_1 ?_
        refine vv_iadd C dX0_add_65 ?_
        refine vv_puti C kc_X0 (s_X0 hY hd) 4 (by decide) rfl pf_X0_4 fk_X0_24 dX0_add_66 (fun σ12 eσ12 => ?_)
        replace h := h σ12 eσ12
        refine vv_iconst C dX0_add_69 ki_1 ?_
        exact vv_zret C (Or.inr rfl) dX0_add_70 h
      · replace h := h.2 hc3
        refine vv_sub [] (L' := []) rfl ?_
        exact hJk16_0 h
set_option maxHeartbeats 2000000 in
set_option maxRecDepth 100000 in
theorem mX0_dropLast {Y : vv_Y} (hY : Y.2.2.2.2 = wC) {d : Nat} (hd : is_X0 d) {σ : vv_S} {post : vv_S → Prop} (h : wX0_dropLast d σ post) : vv_MV Y yX0_dropLast cX0_dropLast 1 none 1 14 [.ref (vv_q Y d)] σ post := by
  refine vv_ofV (by decide) (Nat.le_of_ble_eq_true rfl) (fun X C => ?_)
  have C : VC Y X RX0 cX0_dropLast 1 none 1 14 := C
  refine vv_sub [0] (L' := [(0, .ref (vv_q Y d))]) rfl ?_
  refine vv_aload_n C 0 dX0_dropLast_0 rfl rfl ?_
  refine vv_iconst C dX0_dropLast_1 ki_0 ?_
  refine vv_aload_n C 0 dX0_dropLast_2 rfl rfl ?_
  refine vv_geti C kc_X0 (s_X0 hY hd) 4 (by decide) rfl fk_X0_24 dX0_dropLast_3 ?_
  refine vv_iconst C dX0_dropLast_6 ki_1 ?_
  refine vv_isub C dX0_dropLast_7 ?_
  refine vv_max C lk_X0_28 mk_max (by decide) (Nat.le_of_ble_eq_true rfl) dX0_dropLast_8 ?_
  refine vv_puti C kc_X0 (s_X0 hY hd) 4 (by decide) rfl pf_X0_4 fk_X0_24 dX0_dropLast_11 (fun σ1 eσ1 => ?_)
  replace h := h σ1 eσ1
  exact vv_vret C dX0_dropLast_14 h
set_option maxHeartbeats 2000000 in
set_option maxRecDepth 100000 in
theorem mX0_copyFrom {Y : vv_Y} (hY : Y.2.2.2.2 = wC) {d : Nat} (hd : is_X0 d) {o1 : Nat} (ho1 : is_X0 o1) {σ : vv_S} {post : vv_S → Prop} (h : wX0_copyFrom d o1 σ post) : vv_MV Y yX0_copyFrom cX0_copyFrom 3 none 0 0 [.ref (vv_q Y d), .ref (vv_q Y o1)] σ post := by
  refine vv_ofV (by decide) (Nat.le_of_ble_eq_true rfl) (fun X C => ?_)
  have C : VC Y X RX0 cX0_copyFrom 3 none 0 0 := C
  refine vv_sub [0, 1] (L' := [(0, .ref (vv_q Y d)), (1, .ref (vv_q Y o1))]) rfl ?_
  refine vv_iconst C dX0_copyFrom_0 ki_0 ?_
  refine vv_istore_n (L' := [(2, .int (0 : Int32)), (0, .ref (vv_q Y d)), (1, .ref (vv_q Y o1))]) C dX0_copyFrom_1 rfl (by decide) rfl ?_
  refine vv_join (fun k => ∀ (σ1 : vv_S), k σ1 → VJ Y X (va_Qv post (vv_B Y) X.2) 3 62 [(0, .ref (vv_q Y d)), (1, .ref (vv_q Y o1))] [] σ1) h (fun σ1 h => ?_) (fun k62_1 hJk62_1 h => ?_)
  · refine vv_aload_n C 0 dX0_copyFrom_62 rfl rfl ?_
    refine vv_aload_n C 1 dX0_copyFrom_63 rfl rfl ?_
    refine vv_geti C kc_X0 (s_X0 hY ho1) 4 (by decide) rfl fk_X0_24 dX0_copyFrom_64 ?_
    refine vv_puti C kc_X0 (s_X0 hY hd) 4 (by decide) rfl pf_X0_4 fk_X0_24 dX0_copyFrom_67 (fun σ3 eσ3 => ?_)
    replace h := h σ3 eσ3
    exact vv_vret C dX0_copyFrom_70 h
  · obtain ⟨n6, h⟩ := h
    have hl1 : ∀ (n6 : Nat) (v4 : Int32) (σ5 : vv_S), lX0_copyFrom_1 k62_1 d o1 n6 v4 σ5 → VJ Y X (va_Qv post (vv_B Y) X.2) 3 2 [(0, .ref (vv_q Y d)), (1, .ref (vv_q Y o1)), (2, .int v4)] [] σ5 := by
      clear h
      intro n6
      induction n6 with
      | zero => intro v4 σ5 h; exact False.elim h
      | succ n6 ih1 =>
        intro v4 σ5 h
        refine vv_iload_n C 2 dX0_copyFrom_2 rfl rfl ?_
        refine vv_bipush C dX0_copyFrom_3 kb_30 ?_
        refine vv_icmp_ge (pc := 5) C 62 dX0_copyFrom_5 (by decide) (fun hc7 => ?_) (fun hc7 => ?_)
        · replace h := h.1 hc7
          refine vv_sub [0, 1] (L' := [(0, .ref (vv_q Y d)), (1, .ref (vv_q Y o1))]) rfl ?_
          exact hJk62_1 _ h
        · replace h := h.2 hc7
          refine vv_aload_n C 0 dX0_copyFrom_8 rfl rfl ?_
          refine vv_getr (r := (d + 1)) C kc_X0 (s_X0 hY hd) 0 (by decide) rfl fk_X0_9 dX0_copyFrom_9 ?_
          refine vv_iload_n C 2 dX0_copyFrom_12 rfl rfl ?_
          refine vv_aload_n C 1 dX0_copyFrom_13 rfl rfl ?_
          refine vv_getr (r := (o1 + 1)) C kc_X0 (s_X0 hY ho1) 0 (by decide) rfl fk_X0_9 dX0_copyFrom_14 ?_
          refine vv_iload_n C 2 dX0_copyFrom_17 rfl rfl ?_
          obtain ⟨hi8, h⟩ := h
          refine vv_iald C (a_X0_kinds hY ho1) hi8 rfl dX0_copyFrom_18 ?_
          obtain ⟨hi9, h⟩ := h
          refine vv_iast C (a_X0_kinds hY hd) hi9 rfl dX0_copyFrom_19 (fun σ10 eσ10 => ?_)
          replace h := h σ10 eσ10
          refine vv_aload_n C 0 dX0_copyFrom_20 rfl rfl ?_
          refine vv_getr (r := (d + 2)) C kc_X0 (s_X0 hY hd) 1 (by decide) rfl fk_X0_15 dX0_copyFrom_21 ?_
          refine vv_iload_n C 2 dX0_copyFrom_24 rfl rfl ?_
          refine vv_aload_n C 1 dX0_copyFrom_25 rfl rfl ?_
          refine vv_getr (r := (o1 + 2)) C kc_X0 (s_X0 hY ho1) 1 (by decide) rfl fk_X0_15 dX0_copyFrom_26 ?_
          refine vv_iload_n C 2 dX0_copyFrom_29 rfl rfl ?_
          obtain ⟨hi11, h⟩ := h
          refine vv_iald C (a_X0_places hY ho1) hi11 rfl dX0_copyFrom_30 ?_
          obtain ⟨hi12, h⟩ := h
          refine vv_iast C (a_X0_places hY hd) hi12 rfl dX0_copyFrom_31 (fun σ13 eσ13 => ?_)
          replace h := h σ13 eσ13
          refine vv_aload_n C 0 dX0_copyFrom_32 rfl rfl ?_
          refine vv_getr (r := (d + 3)) C kc_X0 (s_X0 hY hd) 2 (by decide) rfl fk_X0_18 dX0_copyFrom_33 ?_
          refine vv_iload_n C 2 dX0_copyFrom_36 rfl rfl ?_
          refine vv_aload_n C 1 dX0_copyFrom_37 rfl rfl ?_
          refine vv_getr (r := (o1 + 3)) C kc_X0 (s_X0 hY ho1) 2 (by decide) rfl fk_X0_18 dX0_copyFrom_38 ?_
          refine vv_iload_n C 2 dX0_copyFrom_41 rfl rfl ?_
          obtain ⟨hi14, h⟩ := h
          refine vv_iald C (a_X0_stuffs hY ho1) hi14 rfl dX0_copyFrom_42 ?_
          obtain ⟨hi15, h⟩ := h
          refine vv_iast C (a_X0_stuffs hY hd) hi15 rfl dX0_copyFrom_43 (fun σ16 eσ16 => ?_)
          replace h := h σ16 eσ16
          refine vv_aload_n C 0 dX0_copyFrom_44 rfl rfl ?_
          refine vv_getr (r := (d + 4)) C kc_X0 (s_X0 hY hd) 3 (by decide) rfl fk_X0_21 dX0_copyFrom_45 ?_
          refine vv_iload_n C 2 dX0_copyFrom_48 rfl rfl ?_
          refine vv_aload_n C 1 dX0_copyFrom_49 rfl rfl ?_
          refine vv_getr (r := (o1 + 4)) C kc_X0 (s_X0 hY ho1) 3 (by decide) rfl fk_X0_21 dX0_copyFrom_50 ?_
          refine vv_iload_n C 2 dX0_copyFrom_53 rfl rfl ?_
          obtain ⟨hi17, h⟩ := h
          refine vv_iald C (a_X0_amounts hY ho1) hi17 rfl dX0_copyFrom_54 ?_
          obtain ⟨hi18, h⟩ := h
          refine vv_iast C (a_X0_amounts hY hd) hi18 rfl dX0_copyFrom_55 (fun σ19 eσ19 => ?_)
          replace h := h σ19 eσ19
          obtain ⟨v20, ev20⟩ : ∃ z : Int32, z = v4 + (1 : Int32) := ⟨_, rfl⟩
          replace h := h v20 ev20
          refine vv_iinc (v := v20) (L' := [(2, .int v20), (0, .ref (vv_q Y d)), (1, .ref (vv_q Y o1))]) C 2 dX0_copyFrom_56 rfl ((kinc ki_1).trans ev20.symm) (by decide) rfl ?_
          refine vv_goto (pc := 59) (tgt := 2) C dX0_copyFrom_59 (by decide) ?_
          refine vv_sub [1, 2, 0] (L' := [(0, .ref (vv_q Y d)), (1, .ref (vv_q Y o1)), (2, .int v20)]) rfl ?_
          exact ih1 _ _ h
    refine vv_sub [1, 2, 0] (L' := [(0, .ref (vv_q Y d)), (1, .ref (vv_q Y o1)), (2, .int (0 : Int32))]) rfl ?_
    exact hl1 n6 _ _ h
set_option maxHeartbeats 2000000 in
set_option maxRecDepth 100000 in
theorem mX4_left {Y : vv_Y} (hY : Y.2.2.2.2 = wC) {d : Nat} (hd : is_X4 d) {σ : vv_S} {post : Int32 → vv_S → Prop} (h : wX4_left d σ post) : vv_MI Y yX4_left cX4_left 1 (some .int) 0 0 [.ref (vv_q Y d)] σ post := by
  refine vv_ofI (by decide) (Nat.le_of_ble_eq_true rfl) (fun X C => ?_)
  have C : VC Y X RX4 cX4_left 1 (some .int) 0 0 := C
  refine vv_sub [0] (L' := [(0, .ref (vv_q Y d))]) rfl ?_
  refine vv_aload_n C 0 dX4_left_0 rfl rfl ?_
  refine vv_geti C kc_X4 (s_X4 hY hd) 3 (by decide) rfl fk_X4_59 dX4_left_1 ?_
  exact vv_iret C dX4_left_4 h
set_option maxHeartbeats 2000000 in
set_option maxRecDepth 100000 in
theorem mX4_right {Y : vv_Y} (hY : Y.2.2.2.2 = wC) {d : Nat} (hd : is_X4 d) {σ : vv_S} {post : Int32 → vv_S → Prop} (h : wX4_right d σ post) : vv_MI Y yX4_right cX4_right 1 (some .int) 0 0 [.ref (vv_q Y d)] σ post := by
  refine vv_ofI (by decide) (Nat.le_of_ble_eq_true rfl) (fun X C => ?_)
  have C : VC Y X RX4 cX4_right 1 (some .int) 0 0 := C
  refine vv_sub [0] (L' := [(0, .ref (vv_q Y d))]) rfl ?_
  refine vv_aload_n C 0 dX4_right_0 rfl rfl ?_
  refine vv_geti C kc_X4 (s_X4 hY hd) 4 (by decide) rfl fk_X4_62 dX4_right_1 ?_
  exact vv_iret C dX4_right_4 h
set_option maxHeartbeats 2000000 in
set_option maxRecDepth 100000 in
theorem mX4_cellCount {Y : vv_Y} (hY : Y.2.2.2.2 = wC) {d : Nat} (hd : is_X4 d) {σ : vv_S} {post : Int32 → vv_S → Prop} (h : wX4_cellCount d σ post) : vv_MI Y yX4_cellCount cX4_cellCount 1 (some .int) 0 0 [.ref (vv_q Y d)] σ post := by
  refine vv_ofI (by decide) (Nat.le_of_ble_eq_true rfl) (fun X C => ?_)
  have C : VC Y X RX4 cX4_cellCount 1 (some .int) 0 0 := C
  refine vv_sub [0] (L' := [(0, .ref (vv_q Y d))]) rfl ?_
  refine vv_aload_n C 0 dX4_cellCount_0 rfl rfl ?_
  refine vv_geti C kc_X4 (s_X4 hY hd) 2 (by decide) rfl fk_X4_55 dX4_cellCount_1 ?_
  exact vv_iret C dX4_cellCount_4 h
set_option maxHeartbeats 2000000 in
set_option maxRecDepth 100000 in
theorem mX4_takes {Y : vv_Y} (hY : Y.2.2.2.2 = wC) {d : Nat} (hd : is_X4 d) {a1 : Int32} {σ : vv_S} {post : Int32 → vv_S → Prop} (h : wX4_takes d a1 σ post) : vv_MI Y yX4_takes cX4_takes 2 (some .int) 0 0 [.ref (vv_q Y d), .int a1] σ post := by
  refine vv_ofI (by decide) (Nat.le_of_ble_eq_true rfl) (fun X C => ?_)
  have C : VC Y X RX4 cX4_takes 2 (some .int) 0 0 := C
  refine vv_sub [0, 1] (L' := [(0, .ref (vv_q Y d)), (1, .int a1)]) rfl ?_
  refine vv_aload_n C 0 dX4_takes_0 rfl rfl ?_
  refine vv_geti C kc_X4 (s_X4 hY hd) 5 (by decide) rfl fk_X4_65 dX4_takes_1 ?_
  refine vv_iload_n C 1 dX4_takes_4 rfl rfl ?_
  refine vv_imul C dX4_takes_5 ?_
  refine vv_aload_n C 0 dX4_takes_6 rfl rfl ?_
  refine vv_geti C kc_X4 (s_X4 hY hd) 6 (by decide) rfl fk_X4_68 dX4_takes_7 ?_
  refine vv_iload_n C 1 dX4_takes_10 rfl rfl ?_
  refine vv_iload_n C 1 dX4_takes_11 rfl rfl ?_
  refine vv_iconst C dX4_takes_12 ki_1 ?_
  refine vv_iadd C dX4_takes_13 ?_
  refine vv_imul C dX4_takes_14 ?_
  refine vv_iconst C dX4_takes_15 ki_2 ?_
  refine vv_idiv C dX4_takes_16 (by decide) ?_
  refine vv_imul C dX4_takes_17 ?_
  refine vv_iadd C dX4_takes_18 ?_
  exact vv_iret C dX4_takes_19 h
set_option maxHeartbeats 2000000 in
set_option maxRecDepth 100000 in
theorem mX3_survey {Y : vv_Y} (hY : Y.2.2.2.2 = wC) {d : Nat} (hd : is_X3 d) {σ : vv_S} {post : vv_S → Prop} (h : wX3_survey d σ post) : vv_MV Y yX3_survey cX3_survey 2 none 1 21 [.ref (vv_q Y d)] σ post := by
  refine vv_ofV (by decide) (Nat.le_of_ble_eq_true rfl) (fun X C => ?_)
  have C : VC Y X RX3 cX3_survey 2 none 1 21 := C
  refine vv_sub [0] (L' := [(0, .ref (vv_q Y d))]) rfl ?_
  refine vv_aload_n C 0 dX3_survey_0 rfl rfl ?_
  refine vv_aload_n C 0 dX3_survey_1 rfl rfl ?_
  refine vv_getr (r := 4) C kc_X3 (s_X3 hY hd) 0 (by decide) rfl fk_X3_21 dX3_survey_2 ?_
  refine vv_callI (rest := [.ref (vv_q Y d)]) C yk_X4_left vk_X4_left lk_X3_50 kc_X4.1 (s_X4 hY (show is_X4 4 by decide)) dX3_survey_5 (mX4_left hY (show is_X4 4 by decide) h) rfl rfl ⟨Nat.le_of_ble_eq_true rfl, Nat.le_of_ble_eq_true rfl⟩ (Nat.le_of_ble_eq_true rfl) (fun r2 σ1 h => ?_)
  refine vv_aload_n C 0 dX3_survey_8 rfl rfl ?_
  refine vv_getr (r := 4) C kc_X3 (s_X3 hY hd) 0 (by decide) rfl fk_X3_21 dX3_survey_9 ?_
  refine vv_callI (rest := [.int r2, .ref (vv_q Y d)]) C yk_X4_right vk_X4_right lk_X3_54 kc_X4.1 (s_X4 hY (show is_X4 4 by decide)) dX3_survey_12 (mX4_right hY (show is_X4 4 by decide) h) rfl rfl ⟨Nat.le_of_ble_eq_true rfl, Nat.le_of_ble_eq_true rfl⟩ (Nat.le_of_ble_eq_true rfl) (fun r4 σ3 h => ?_)
  refine vv_min C lk_X3_57 mk_min (by decide) (Nat.le_of_ble_eq_true rfl) dX3_survey_15 ?_
  refine vv_puti C kc_X3 (s_X3 hY hd) 8 (by decide) rfl pf_X3_8 fk_X3_63 dX3_survey_18 (fun σ5 eσ5 => ?_)
  replace h := h σ5 eσ5
  refine vv_aload_n C 0 dX3_survey_21 rfl rfl ?_
  refine vv_aload_n C 0 dX3_survey_22 rfl rfl ?_
  refine vv_geti C kc_X3 (s_X3 hY hd) 8 (by decide) rfl fk_X3_63 dX3_survey_23 ?_
  refine vv_aload_n C 0 dX3_survey_26 rfl rfl ?_
  refine vv_getr (r := 4) C kc_X3 (s_X3 hY hd) 0 (by decide) rfl fk_X3_21 dX3_survey_27 ?_
  refine vv_callI (rest := [.int (σ5 d 8), .ref (vv_q Y d)]) C yk_X4_left vk_X4_left lk_X3_50 kc_X4.1 (s_X4 hY (show is_X4 4 by decide)) dX3_survey_30 (mX4_left hY (show is_X4 4 by decide) h) rfl rfl ⟨Nat.le_of_ble_eq_true rfl, Nat.le_of_ble_eq_true rfl⟩ (Nat.le_of_ble_eq_true rfl) (fun r7 σ6 h => ?_)
  refine vv_join (fun k => ∀ (v8 : Int32), k v8 → VJ Y X (va_Qv post (vv_B Y) X.2) 2 43 [(0, .ref (vv_q Y d))] [.int v8, .ref (vv_q Y d)] σ6) h (fun v8 h => ?_) (fun k43_8 hJk43_8 h => ?_)
  · refine vv_puti C kc_X3 (s_X3 hY hd) 9 (by decide) rfl pf_X3_9 fk_X3_66 dX3_survey_43 (fun σ10 eσ10 => ?_)
    replace h := h σ10 eσ10
    refine vv_aload_n C 0 dX3_survey_46 rfl rfl ?_
    refine vv_iconst C dX3_survey_47 ki_0 ?_
    refine vv_puti C kc_X3 (s_X3 hY hd) 11 (by decide) rfl pf_X3_11 fk_X3_69 dX3_survey_48 (fun σ11 eσ11 => ?_)
    replace h := h σ11 eσ11
    refine vv_aload_n C 0 dX3_survey_51 rfl rfl ?_
    refine vv_iconst C dX3_survey_52 ki_0 ?_
    refine vv_puti C kc_X3 (s_X3 hY hd) 12 (by decide) rfl pf_X3_12 fk_X3_72 dX3_survey_53 (fun σ12 eσ12 => ?_)
    replace h := h σ12 eσ12
    refine vv_aload_n C 0 dX3_survey_56 rfl rfl ?_
    refine vv_getr (r := 4) C kc_X3 (s_X3 hY hd) 0 (by decide) rfl fk_X3_21 dX3_survey_57 ?_
    refine vv_callI (rest := []) C yk_X4_cellCount vk_X4_cellCount lk_X3_75 kc_X4.1 (s_X4 hY (show is_X4 4 by decide)) dX3_survey_60 (mX4_cellCount hY (show is_X4 4 by decide) h) rfl rfl ⟨Nat.le_of_ble_eq_true rfl, Nat.le_of_ble_eq_true rfl⟩ (Nat.le_of_ble_eq_true rfl) (fun r14 σ13 h => ?_)
    refine vv_bipush C dX3_survey_63 kb_8 ?_
    refine vv_min C lk_X3_57 mk_min (by decide) (Nat.le_of_ble_eq_true rfl) dX3_survey_65 ?_
    refine vv_iconst C dX3_survey_68 ki_1 ?_
    refine vv_isub C dX3_survey_69 ?_
    refine vv_nm (fun v15 ev15 => ?_)
    replace h := h v15 ev15
    refine vv_istore_n (L' := [(1, .int v15), (0, .ref (vv_q Y d))]) C dX3_survey_70 rfl (by decide) rfl ?_
    refine vv_join (fun k => ∀ (σ16 : vv_S), k σ16 → VJ Y X (va_Qv post (vv_B Y) X.2) 2 166 [(0, .ref (vv_q Y d))] [] σ16) h (fun σ16 h => ?_) (fun k166_16 hJk166_16 h => ?_)
    · refine vv_aload_n C 0 dX3_survey_166 rfl rfl ?_
      refine vv_aload_n C 0 dX3_survey_167 rfl rfl ?_
      refine vv_getr (r := 4) C kc_X3 (s_X3 hY hd) 0 (by decide) rfl fk_X3_21 dX3_survey_168 ?_
      refine vv_aload_n C 0 dX3_survey_171 rfl rfl ?_
      refine vv_geti C kc_X3 (s_X3 hY hd) 8 (by decide) rfl fk_X3_63 dX3_survey_172 ?_
      refine vv_callI (rest := [.ref (vv_q Y d)]) C yk_X4_takes vk_X4_takes lk_X3_78 kc_X4.1 (s_X4 hY (show is_X4 4 by decide)) dX3_survey_175 (mX4_takes hY (show is_X4 4 by decide) h) rfl rfl ⟨Nat.le_of_ble_eq_true rfl, Nat.le_of_ble_eq_true rfl⟩ (Nat.le_of_ble_eq_true rfl) (fun r19 σ18 h => ?_)
      refine vv_puti C kc_X3 (s_X3 hY hd) 10 (by decide) rfl pf_X3_10 fk_X3_81 dX3_survey_178 (fun σ20 eσ20 => ?_)
      replace h := h σ20 eσ20
      exact vv_vret C dX3_survey_181 h
    · obtain ⟨n23, h⟩ := h
      have hl1 : ∀ (n23 : Nat) (v21 : Int32) (σ22 : vv_S), lX3_survey_1 k166_16 d n23 v21 σ22 → VJ Y X (va_Qv post (vv_B Y) X.2) 2 71 [(0, .ref (vv_q Y d)), (1, .int v21)] [] σ22 := by
        clear h
        intro n23
        induction n23 with
        | zero => intro v21 σ22 h; exact False.elim h
        | succ n23 ih1 =>
          intro v21 σ22 h
          refine vv_iload_n C 1 dX3_survey_71 rfl rfl ?_
          refine vv_if_lt (pc := 72) C 166 dX3_survey_72 (by decide) (fun hc24 => ?_) (fun hc24 => ?_)
          · replace h := h.1 hc24
            refine vv_sub [0] (L' := [(0, .ref (vv_q Y d))]) rfl ?_
            exact hJk166_16 _ h
          · replace h := h.2 hc24
            refine vv_aload_n C 0 dX3_survey_75 rfl rfl ?_
            refine vv_getr (r := (d + 1)) C kc_X3 (s_X3 hY hd) 1 (by decide) rfl fk_X3_9 dX3_survey_76 ?_
            refine vv_iload_n C 1 dX3_survey_79 rfl rfl ?_
            obtain ⟨hi25, h⟩ := h
            refine vv_iald C (a_X3_heights hY hd) hi25 rfl dX3_survey_80 ?_
            refine vv_aload_n C 0 dX3_survey_81 rfl rfl ?_
            refine vv_geti C kc_X3 (s_X3 hY hd) 8 (by decide) rfl fk_X3_63 dX3_survey_82 ?_
            refine vv_join (fun k => ∀ (σ26 : vv_S), k σ26 → VJ Y X (va_Qv post (vv_B Y) X.2) 2 103 [(0, .ref (vv_q Y d)), (1, .int v21)] [] σ26) h (fun σ26 h => ?_) (fun k103_26 hJk103_26 h => ?_)
            · refine vv_aload_n C 0 dX3_survey_103 rfl rfl ?_
              refine vv_getr (r := (d + 1)) C kc_X3 (s_X3 hY hd) 1 (by decide) rfl fk_X3_9 dX3_survey_104 ?_
              refine vv_iload_n C 1 dX3_survey_107 rfl rfl ?_
              obtain ⟨hi28, h⟩ := h
              refine vv_iald C (a_X3_heights hY hd) hi28 rfl dX3_survey_108 ?_
              refine vv_join (fun k => ∀ (σ29 : vv_S), k σ29 → VJ Y X (va_Qv post (vv_B Y) X.2) 2 160 [(0, .ref (vv_q Y d)), (1, .int v21)] [] σ29) h (fun σ29 h => ?_) (fun k160_29 hJk160_29 h => ?_)
              · obtain ⟨v31, ev31⟩ : ∃ z : Int32, z = v21 + (-1 : Int32) := ⟨_, rfl⟩
                replace h := h v31 ev31
                refine vv_iinc (v := v31) (L' := [(1, .int v31), (0, .ref (vv_q Y d))]) C 1 dX3_survey_160 rfl ((kinc ki_m1).trans ev31.symm) (by decide) rfl ?_
                refine vv_goto (pc := 163) (tgt := 71) C dX3_survey_163 (by decide) ?_
                refine vv_sub [1, 0] (L' := [(0, .ref (vv_q Y d)), (1, .int v31)]) rfl ?_
                exact ih1 _ _ h
              · refine vv_if_le (pc := 109) C 160 dX3_survey_109 (by decide) (fun hc32 => ?_) (fun hc32 => ?_)
                · replace h := h.1 hc32
                  refine vv_sub [0, 1] (L' := [(0, .ref (vv_q Y d)), (1, .int v21)]) rfl ?_
                  exact hJk160_29 _ h
                · replace h := h.2 hc32
                  refine vv_aload_n C 0 dX3_survey_112 rfl rfl ?_
                  refine vv_dup C dX3_survey_113 rfl ?_
                  refine vv_geti C kc_X3 (s_X3 hY hd) 11 (by decide) rfl fk_X3_69 dX3_survey_114 ?_
                  refine vv_aload_n C 0 dX3_survey_117 rfl rfl ?_
                  refine vv_getr (r := (d + 2)) C kc_X3 (s_X3 hY hd) 2 (by decide) rfl fk_X3_15 dX3_survey_118 ?_
                  refine vv_iload_n C 1 dX3_survey_121 rfl rfl ?_
                  obtain ⟨hi33, h⟩ := h
                  refine vv_iald C (a_X3_stuffs hY hd) hi33 rfl dX3_survey_122 ?_
                  refine vv_iconst C dX3_survey_123 ki_1 ?_
                  refine vv_join (fun k => ∀ (v34 : Int32), k v34 → VJ Y X (va_Qv post (vv_B Y) X.2) 2 132 [(0, .ref (vv_q Y d)), (1, .int v21)] [.int v34, .int (σ26 d 11), .ref (vv_q Y d)] σ26) h (fun v34 h => ?_) (fun k132_34 hJk132_34 h => ?_)
                  · refine vv_iadd C dX3_survey_132 ?_
                    refine vv_puti C kc_X3 (s_X3 hY hd) 11 (by decide) rfl pf_X3_11 fk_X3_69 dX3_survey_133 (fun σ36 eσ36 => ?_)
                    replace h := h σ36 eσ36
                    refine vv_aload_n C 0 dX3_survey_136 rfl rfl ?_
                    refine vv_dup C dX3_survey_137 rfl ?_
                    refine vv_geti C kc_X3 (s_X3 hY hd) 12 (by decide) rfl fk_X3_72 dX3_survey_138 ?_
                    refine vv_aload_n C 0 dX3_survey_141 rfl rfl ?_
                    refine vv_getr (r := (d + 2)) C kc_X3 (s_X3 hY hd) 2 (by decide) rfl fk_X3_15 dX3_survey_142 ?_
                    refine vv_iload_n C 1 dX3_survey_145 rfl rfl ?_
                    obtain ⟨hi37, h⟩ := h
                    refine vv_iald C (a_X3_stuffs hY hd) hi37 rfl dX3_survey_146 ?_
                    refine vv_iconst C dX3_survey_147 ki_3 ?_
                    refine vv_join (fun k => ∀ (v38 : Int32), k v38 → VJ Y X (va_Qv post (vv_B Y) X.2) 2 156 [(0, .ref (vv_q Y d)), (1, .int v21)] [.int v38, .int (σ36 d 12), .ref (vv_q Y d)] σ36) h (fun v38 h => ?_) (fun k156_38 hJk156_38 h => ?_)
                    · refine vv_iadd C dX3_survey_156 ?_
                      refine vv_puti C kc_X3 (s_X3 hY hd) 12 (by decide) rfl pf_X3_12 fk_X3_72 dX3_survey_157 (fun σ40 eσ40 => ?_)
                      replace h := h σ40 eσ40
                      refine vv_sub [0, 1] (L' := [(0, .ref (vv_q Y d)), (1, .int v21)]) rfl ?_
                      exact hJk160_29 _ h
                    · refine vv_icmp_ne (pc := 148) C 155 dX3_survey_148 (by decide) (fun hc41 => ?_) (fun hc41 => ?_)
                      · replace h := h.1 hc41
                        refine vv_iconst C dX3_survey_155 ki_0 ?_
                        refine vv_sub [0, 1] (L' := [(0, .ref (vv_q Y d)), (1, .int v21)]) rfl ?_
                        exact hJk156_38 _ h
                      · replace h := h.2 hc41
                        refine vv_iconst C dX3_survey_151 ki_1 ?_
                        refine vv_goto (pc := 152) (tgt := 156) C dX3_survey_152 (by decide) ?_
                        refine vv_sub [0, 1] (L' := [(0, .ref (vv_q Y d)), (1, .int v21)]) rfl ?_
                        exact hJk156_38 _ h
                  · refine vv_icmp_ne (pc := 124) C 131 dX3_survey_124 (by decide) (fun hc42 => ?_) (fun hc42 => ?_)
                    · replace h := h.1 hc42
                      refine vv_iconst C dX3_survey_131 ki_0 ?_
                      refine vv_sub [0, 1] (L' := [(0, .ref (vv_q Y d)), (1, .int v21)]) rfl ?_
                      exact hJk132_34 _ h
                    · replace h := h.2 hc42
                      refine vv_iconst C dX3_survey_127 ki_1 ?_
                      refine vv_goto (pc := 128) (tgt := 132) C dX3_survey_128 (by decide) ?_
                      refine vv_sub [0, 1] (L' := [(0, .ref (vv_q Y d)), (1, .int v21)]) rfl ?_
                      exact hJk132_34 _ h
            · refine vv_icmp_gt (pc := 85) C 103 dX3_survey_85 (by decide) (fun hc43 => ?_) (fun hc43 => ?_)
              · replace h := h.1 hc43
                refine vv_sub [0, 1] (L' := [(0, .ref (vv_q Y d)), (1, .int v21)]) rfl ?_
                exact hJk103_26 _ h
              · replace h := h.2 hc43
                refine vv_aload_n C 0 dX3_survey_88 rfl rfl ?_
                refine vv_aload_n C 0 dX3_survey_89 rfl rfl ?_
                refine vv_getr (r := (d + 1)) C kc_X3 (s_X3 hY hd) 1 (by decide) rfl fk_X3_9 dX3_survey_90 ?_
                refine vv_iload_n C 1 dX3_survey_93 rfl rfl ?_
                obtain ⟨hi44, h⟩ := h
                refine vv_iald C (a_X3_heights hY hd) hi44 rfl dX3_survey_94 ?_
                refine vv_puti C kc_X3 (s_X3 hY hd) 8 (by decide) rfl pf_X3_8 fk_X3_63 dX3_survey_95 (fun σ45 eσ45 => ?_)
                replace h := h σ45 eσ45
                refine vv_aload_n C 0 dX3_survey_98 rfl rfl ?_
                refine vv_iload_n C 1 dX3_survey_99 rfl rfl ?_
                refine vv_puti C kc_X3 (s_X3 hY hd) 9 (by decide) rfl pf_X3_9 fk_X3_66 dX3_survey_100 (fun σ46 eσ46 => ?_)
                replace h := h σ46 eσ46
                refine vv_sub [0, 1] (L' := [(0, .ref (vv_q Y d)), (1, .int v21)]) rfl ?_
                exact hJk103_26 _ h
      refine vv_sub [1, 0] (L' := [(0, .ref (vv_q Y d)), (1, .int v15)]) rfl ?_
      exact hl1 n23 _ _ h
  · refine vv_icmp_ne (pc := 33) C 41 dX3_survey_33 (by decide) (fun hc47 => ?_) (fun hc47 => ?_)
    · replace h := h.1 hc47
      refine vv_bipush C dX3_survey_41 kb_9 ?_
      refine vv_sub [0] (L' := [(0, .ref (vv_q Y d))]) rfl ?_
      exact hJk43_8 _ h
    · replace h := h.2 hc47
      refine vv_bipush C dX3_survey_36 kb_8 ?_
      refine vv_goto (pc := 38) (tgt := 43) C dX3_survey_38 (by decide) ?_
      refine vv_sub [0] (L' := [(0, .ref (vv_q Y d))]) rfl ?_
      exact hJk43_8 _ h
set_option maxHeartbeats 2000000 in
set_option maxRecDepth 100000 in
theorem mX4_firstHeight {Y : vv_Y} (hY : Y.2.2.2.2 = wC) {d : Nat} (hd : is_X4 d) {a1 : Int32} {σ : vv_S} {post : Int32 → vv_S → Prop} (h : wX4_firstHeight d a1 σ post) : vv_MI Y yX4_firstHeight cX4_firstHeight 2 (some .int) 0 0 [.ref (vv_q Y d), .int a1] σ post := by
  refine vv_ofI (by decide) (Nat.le_of_ble_eq_true rfl) (fun X C => ?_)
  have C : VC Y X RX4 cX4_firstHeight 2 (some .int) 0 0 := C
  refine vv_sub [0, 1] (L' := [(0, .ref (vv_q Y d)), (1, .int a1)]) rfl ?_
  refine vv_iload_n C 1 dX4_firstHeight_0 rfl rfl ?_
  refine vv_join (fun k => ∀ (v1 : Int32), k v1 → VJ Y X (va_Qi post (vv_B Y) X.2) 2 28 [] [.int v1] σ) h (fun v1 h => ?_) (fun k28_1 hJk28_1 h => ?_)
  · exact vv_iret C dX4_firstHeight_28 h
  · refine vv_join (fun k =>  k → VJ Y X (va_Qi post (vv_B Y) X.2) 2 27 [] [] σ) h (fun h => ?_) (fun k27_2 hJk27_2 h => ?_)
    · refine vv_iconst C dX4_firstHeight_27 ki_0 ?_
      refine vv_sub [] (L' := []) rfl ?_
      exact hJk28_1 _ h
    · refine vv_if_lt (pc := 1) C 27 dX4_firstHeight_1 (by decide) (fun hc4 => ?_) (fun hc4 => ?_)
      · replace h := h.1 hc4
        refine vv_sub [] (L' := []) rfl ?_
        exact hJk27_2 h
      · replace h := h.2 hc4
        refine vv_iload_n C 1 dX4_firstHeight_4 rfl rfl ?_
        refine vv_aload_n C 0 dX4_firstHeight_5 rfl rfl ?_
        refine vv_geti C kc_X4 (s_X4 hY hd) 2 (by decide) rfl fk_X4_55 dX4_firstHeight_6 ?_
        refine vv_icmp_ge (pc := 9) C 27 dX4_firstHeight_9 (by decide) (fun hc5 => ?_) (fun hc5 => ?_)
        · replace h := h.1 hc5
          refine vv_sub [] (L' := []) rfl ?_
          exact hJk27_2 h
        · replace h := h.2 hc5
          refine vv_iload_n C 1 dX4_firstHeight_12 rfl rfl ?_
          refine vv_bipush C dX4_firstHeight_13 kb_8 ?_
          refine vv_icmp_ge (pc := 15) C 27 dX4_firstHeight_15 (by decide) (fun hc6 => ?_) (fun hc6 => ?_)
          · replace h := h.1 hc6
            refine vv_sub [] (L' := []) rfl ?_
            exact hJk27_2 h
          · replace h := h.2 hc6
            refine vv_aload_n C 0 dX4_firstHeight_18 rfl rfl ?_
            refine vv_getr (r := (d + 1)) C kc_X4 (s_X4 hY hd) 0 (by decide) rfl fk_X4_9 dX4_firstHeight_19 ?_
            refine vv_iload_n C 1 dX4_firstHeight_22 rfl rfl ?_
            obtain ⟨hi7, h⟩ := h
            refine vv_iald C (a_X4_heights hY hd) hi7 rfl dX4_firstHeight_23 ?_
            refine vv_goto (pc := 24) (tgt := 28) C dX4_firstHeight_24 (by decide) ?_
            refine vv_sub [] (L' := []) rfl ?_
            exact hJk28_1 _ h
set_option maxHeartbeats 2000000 in
set_option maxRecDepth 100000 in
theorem mX4_firstStuff {Y : vv_Y} (hY : Y.2.2.2.2 = wC) {d : Nat} (hd : is_X4 d) {a1 : Int32} {σ : vv_S} {post : Int32 → vv_S → Prop} (h : wX4_firstStuff d a1 σ post) : vv_MI Y yX4_firstStuff cX4_firstStuff 2 (some .int) 0 0 [.ref (vv_q Y d), .int a1] σ post := by
  refine vv_ofI (by decide) (Nat.le_of_ble_eq_true rfl) (fun X C => ?_)
  have C : VC Y X RX4 cX4_firstStuff 2 (some .int) 0 0 := C
  refine vv_sub [0, 1] (L' := [(0, .ref (vv_q Y d)), (1, .int a1)]) rfl ?_
  refine vv_iload_n C 1 dX4_firstStuff_0 rfl rfl ?_
  refine vv_join (fun k => ∀ (v1 : Int32), k v1 → VJ Y X (va_Qi post (vv_B Y) X.2) 2 28 [] [.int v1] σ) h (fun v1 h => ?_) (fun k28_1 hJk28_1 h => ?_)
  · exact vv_iret C dX4_firstStuff_28 h
  · refine vv_join (fun k =>  k → VJ Y X (va_Qi post (vv_B Y) X.2) 2 27 [] [] σ) h (fun h => ?_) (fun k27_2 hJk27_2 h => ?_)
    · refine vv_iconst C dX4_firstStuff_27 ki_0 ?_
      refine vv_sub [] (L' := []) rfl ?_
      exact hJk28_1 _ h
    · refine vv_if_lt (pc := 1) C 27 dX4_firstStuff_1 (by decide) (fun hc4 => ?_) (fun hc4 => ?_)
      · replace h := h.1 hc4
        refine vv_sub [] (L' := []) rfl ?_
        exact hJk27_2 h
      · replace h := h.2 hc4
        refine vv_iload_n C 1 dX4_firstStuff_4 rfl rfl ?_
        refine vv_aload_n C 0 dX4_firstStuff_5 rfl rfl ?_
        refine vv_geti C kc_X4 (s_X4 hY hd) 2 (by decide) rfl fk_X4_55 dX4_firstStuff_6 ?_
        refine vv_icmp_ge (pc := 9) C 27 dX4_firstStuff_9 (by decide) (fun hc5 => ?_) (fun hc5 => ?_)
        · replace h := h.1 hc5
          refine vv_sub [] (L' := []) rfl ?_
          exact hJk27_2 h
        · replace h := h.2 hc5
          refine vv_iload_n C 1 dX4_firstStuff_12 rfl rfl ?_
          refine vv_bipush C dX4_firstStuff_13 kb_8 ?_
          refine vv_icmp_ge (pc := 15) C 27 dX4_firstStuff_15 (by decide) (fun hc6 => ?_) (fun hc6 => ?_)
          · replace h := h.1 hc6
            refine vv_sub [] (L' := []) rfl ?_
            exact hJk27_2 h
          · replace h := h.2 hc6
            refine vv_aload_n C 0 dX4_firstStuff_18 rfl rfl ?_
            refine vv_getr (r := (d + 2)) C kc_X4 (s_X4 hY hd) 1 (by decide) rfl fk_X4_15 dX4_firstStuff_19 ?_
            refine vv_iload_n C 1 dX4_firstStuff_22 rfl rfl ?_
            obtain ⟨hi7, h⟩ := h
            refine vv_iald C (a_X4_stuffs hY hd) hi7 rfl dX4_firstStuff_23 ?_
            refine vv_goto (pc := 24) (tgt := 28) C dX4_firstStuff_24 (by decide) ?_
            refine vv_sub [] (L' := []) rfl ?_
            exact hJk28_1 _ h
set_option maxHeartbeats 2000000 in
set_option maxRecDepth 100000 in
theorem mX3_startAnew {Y : vv_Y} (hY : Y.2.2.2.2 = wC) {d : Nat} (hd : is_X3 d) {σ : vv_S} {post : vv_S → Prop} (h : wX3_startAnew d σ post) : vv_MV Y yX3_startAnew cX3_startAnew 2 none 2 42 [.ref (vv_q Y d)] σ post := by
  refine vv_ofV (by decide) (Nat.le_of_ble_eq_true rfl) (fun X C => ?_)
  have C : VC Y X RX3 cX3_startAnew 2 none 2 42 := C
  refine vv_sub [0] (L' := [(0, .ref (vv_q Y d))]) rfl ?_
  refine vv_iconst C dX3_startAnew_0 ki_0 ?_
  refine vv_istore_n (L' := [(1, .int (0 : Int32)), (0, .ref (vv_q Y d))]) C dX3_startAnew_1 rfl (by decide) rfl ?_
  refine vv_join (fun k => ∀ (σ1 : vv_S), k σ1 → VJ Y X (va_Qv post (vv_B Y) X.2) 2 49 [(0, .ref (vv_q Y d))] [] σ1) h (fun σ1 h => ?_) (fun k49_1 hJk49_1 h => ?_)
  · refine vv_aload_n C 0 dX3_startAnew_49 rfl rfl ?_
    refine vv_iconst C dX3_startAnew_50 ki_0 ?_
    refine vv_puti C kc_X3 (s_X3 hY hd) 4 (by decide) rfl pf_X3_4 fk_X3_34 dX3_startAnew_51 (fun σ3 eσ3 => ?_)
    replace h := h σ3 eσ3
    refine vv_aload_n C 0 dX3_startAnew_54 rfl rfl ?_
    refine vv_iconst C dX3_startAnew_55 ki_0 ?_
    refine vv_puti C kc_X3 (s_X3 hY hd) 5 (by decide) rfl pf_X3_5 fk_X3_38 dX3_startAnew_56 (fun σ4 eσ4 => ?_)
    replace h := h σ4 eσ4
    refine vv_aload_n C 0 dX3_startAnew_59 rfl rfl ?_
    refine vv_iconst C dX3_startAnew_60 ki_0 ?_
    refine vv_puti C kc_X3 (s_X3 hY hd) 6 (by decide) rfl pf_X3_6 fk_X3_41 dX3_startAnew_61 (fun σ5 eσ5 => ?_)
    replace h := h σ5 eσ5
    refine vv_aload_n C 0 dX3_startAnew_64 rfl rfl ?_
    refine vv_iconst C dX3_startAnew_65 ki_0 ?_
    refine vv_puti C kc_X3 (s_X3 hY hd) 7 (by decide) rfl pf_X3_7 fk_X3_44 dX3_startAnew_66 (fun σ6 eσ6 => ?_)
    replace h := h σ6 eσ6
    refine vv_aload_n C 0 dX3_startAnew_69 rfl rfl ?_
    refine vv_callV (rest := []) C yk_X3_survey vk_X3_survey lk_X3_47 kc_X3.1 (s_X3 hY hd) dX3_startAnew_70 (mX3_survey hY hd h) rfl rfl ⟨Nat.le_of_ble_eq_true rfl, Nat.le_of_ble_eq_true rfl⟩ (Nat.le_of_ble_eq_true rfl) (fun σ7 h => ?_)
    exact vv_vret C dX3_startAnew_73 h
  · obtain ⟨n10, h⟩ := h
    have hl1 : ∀ (n10 : Nat) (v8 : Int32) (σ9 : vv_S), lX3_startAnew_1 k49_1 d n10 v8 σ9 → VJ Y X (va_Qv post (vv_B Y) X.2) 2 2 [(0, .ref (vv_q Y d)), (1, .int v8)] [] σ9 := by
      clear h
      intro n10
      induction n10 with
      | zero => intro v8 σ9 h; exact False.elim h
      | succ n10 ih1 =>
        intro v8 σ9 h
        refine vv_iload_n C 1 dX3_startAnew_2 rfl rfl ?_
        refine vv_bipush C dX3_startAnew_3 kb_8 ?_
        refine vv_icmp_ge (pc := 5) C 49 dX3_startAnew_5 (by decide) (fun hc11 => ?_) (fun hc11 => ?_)
        · replace h := h.1 hc11
          refine vv_sub [0] (L' := [(0, .ref (vv_q Y d))]) rfl ?_
          exact hJk49_1 _ h
        · replace h := h.2 hc11
          refine vv_aload_n C 0 dX3_startAnew_8 rfl rfl ?_
          refine vv_getr (r := (d + 1)) C kc_X3 (s_X3 hY hd) 1 (by decide) rfl fk_X3_9 dX3_startAnew_9 ?_
          refine vv_iload_n C 1 dX3_startAnew_12 rfl rfl ?_
          refine vv_aload_n C 0 dX3_startAnew_13 rfl rfl ?_
          refine vv_getr (r := 4) C kc_X3 (s_X3 hY hd) 0 (by decide) rfl fk_X3_21 dX3_startAnew_14 ?_
          refine vv_iload_n C 1 dX3_startAnew_17 rfl rfl ?_
          refine vv_callI (rest := [.int v8, .ref (vv_q Y (d + 1))]) C yk_X4_firstHeight vk_X4_firstHeight lk_X3_25 kc_X4.1 (s_X4 hY (show is_X4 4 by decide)) dX3_startAnew_18 (mX4_firstHeight hY (show is_X4 4 by decide) h) rfl rfl ⟨Nat.le_of_ble_eq_true rfl, Nat.le_of_ble_eq_true rfl⟩ (Nat.le_of_ble_eq_true rfl) (fun r13 σ12 h => ?_)
          obtain ⟨hi14, h⟩ := h
          refine vv_iast C (a_X3_heights hY hd) hi14 rfl dX3_startAnew_21 (fun σ15 eσ15 => ?_)
          replace h := h σ15 eσ15
          refine vv_aload_n C 0 dX3_startAnew_22 rfl rfl ?_
          refine vv_getr (r := (d + 2)) C kc_X3 (s_X3 hY hd) 2 (by decide) rfl fk_X3_15 dX3_startAnew_23 ?_
          refine vv_iload_n C 1 dX3_startAnew_26 rfl rfl ?_
          refine vv_aload_n C 0 dX3_startAnew_27 rfl rfl ?_
          refine vv_getr (r := 4) C kc_X3 (s_X3 hY hd) 0 (by decide) rfl fk_X3_21 dX3_startAnew_28 ?_
          refine vv_iload_n C 1 dX3_startAnew_31 rfl rfl ?_
          refine vv_callI (rest := [.int v8, .ref (vv_q Y (d + 2))]) C yk_X4_firstStuff vk_X4_firstStuff lk_X3_31 kc_X4.1 (s_X4 hY (show is_X4 4 by decide)) dX3_startAnew_32 (mX4_firstStuff hY (show is_X4 4 by decide) h) rfl rfl ⟨Nat.le_of_ble_eq_true rfl, Nat.le_of_ble_eq_true rfl⟩ (Nat.le_of_ble_eq_true rfl) (fun r17 σ16 h => ?_)
          obtain ⟨hi18, h⟩ := h
          refine vv_iast C (a_X3_stuffs hY hd) hi18 rfl dX3_startAnew_35 (fun σ19 eσ19 => ?_)
          replace h := h σ19 eσ19
          refine vv_aload_n C 0 dX3_startAnew_36 rfl rfl ?_
          refine vv_getr (r := (d + 3)) C kc_X3 (s_X3 hY hd) 3 (by decide) rfl fk_X3_18 dX3_startAnew_37 ?_
          refine vv_iload_n C 1 dX3_startAnew_40 rfl rfl ?_
          refine vv_iconst C dX3_startAnew_41 ki_0 ?_
          obtain ⟨hi20, h⟩ := h
          refine vv_iast C (a_X3_breaches hY hd) hi20 rfl dX3_startAnew_42 (fun σ21 eσ21 => ?_)
          replace h := h σ21 eσ21
          obtain ⟨v22, ev22⟩ : ∃ z : Int32, z = v8 + (1 : Int32) := ⟨_, rfl⟩
          replace h := h v22 ev22
          refine vv_iinc (v := v22) (L' := [(1, .int v22), (0, .ref (vv_q Y d))]) C 1 dX3_startAnew_43 rfl ((kinc ki_1).trans ev22.symm) (by decide) rfl ?_
          refine vv_goto (pc := 46) (tgt := 2) C dX3_startAnew_46 (by decide) ?_
          refine vv_sub [1, 0] (L' := [(0, .ref (vv_q Y d)), (1, .int v22)]) rfl ?_
          exact ih1 _ _ h
    refine vv_sub [1, 0] (L' := [(0, .ref (vv_q Y d)), (1, .int (0 : Int32))]) rfl ?_
    exact hl1 n10 _ _ h
set_option maxHeartbeats 2000000 in
set_option maxRecDepth 100000 in
theorem mX3_canPass {Y : vv_Y} (hY : Y.2.2.2.2 = wC) {d : Nat} (hd : is_X3 d) {a1 : Int32} {σ : vv_S} {post : Int32 → vv_S → Prop} (h : wX3_canPass d a1 σ post) : vv_MI Y yX3_canPass cX3_canPass 2 (some .boolean) 0 0 [.ref (vv_q Y d), .int a1] σ post := by
  refine vv_ofI (by decide) (Nat.le_of_ble_eq_true rfl) (fun X C => ?_)
  have C : VC Y X RX3 cX3_canPass 2 (some .boolean) 0 0 := C
  refine vv_sub [0, 1] (L' := [(0, .ref (vv_q Y d)), (1, .int a1)]) rfl ?_
  refine vv_aload_n C 0 dX3_canPass_0 rfl rfl ?_
  refine vv_geti C kc_X3 (s_X3 hY hd) 5 (by decide) rfl fk_X3_38 dX3_canPass_1 ?_
  refine vv_iload_n C 1 dX3_canPass_4 rfl rfl ?_
  refine vv_iadd C dX3_canPass_5 ?_
  refine vv_sipush C dX3_canPass_6 ks_999 ?_
  refine vv_join (fun k => ∀ (v1 : Int32), k v1 → VJ Y X (va_Qi post (vv_B Y) X.2) 2 17 [] [.int v1] σ) h (fun v1 h => ?_) (fun k17_1 hJk17_1 h => ?_)
  · exact vv_zret C h.1 dX3_canPass_17 h.2
  · refine vv_icmp_gt (pc := 9) C 16 dX3_canPass_9 (by decide) (fun hc3 => ?_) (fun hc3 => ?_)
    · replace h := h.1 hc3
      refine vv_iconst C dX3_canPass_16 ki_0 ?_
      refine vv_sub [] (L' := []) rfl ?_
      exact hJk17_1 _ h
    · replace h := h.2 hc3
      refine vv_iconst C dX3_canPass_12 ki_1 ?_
      refine vv_goto (pc := 13) (tgt := 17) C dX3_canPass_13 (by decide) ?_
      refine vv_sub [] (L' := []) rfl ?_
      exact hJk17_1 _ h
set_option maxHeartbeats 2000000 in
set_option maxRecDepth 100000 in
theorem mX4_brook {Y : vv_Y} (hY : Y.2.2.2.2 = wC) {d : Nat} (hd : is_X4 d) {σ : vv_S} {post : vv_S → Prop} (h : wX4_brook d σ post) : vv_MR Y yX4_brook cX4_brook 1 (some (.object "DamOfTurf$Brook")) 0 0 [.ref (vv_q Y d)] σ (d + 3) post := by
  refine vv_ofR (by decide) (Nat.le_of_ble_eq_true rfl) (fun X C => ?_)
  have C : VC Y X RX4 cX4_brook 1 (some (.object "DamOfTurf$Brook")) 0 0 := C
  refine vv_sub [0] (L' := [(0, .ref (vv_q Y d))]) rfl ?_
  refine vv_aload_n C 0 dX4_brook_0 rfl rfl ?_
  refine vv_getr (r := (d + 3)) C kc_X4 (s_X4 hY hd) 7 (by decide) rfl fk_X4_21 dX4_brook_1 ?_
  exact vv_aret C dX4_brook_4 h
set_option maxHeartbeats 2000000 in
set_option maxRecDepth 100000 in
theorem mX1_comesIn {Y : vv_Y} (hY : Y.2.2.2.2 = wC) {d : Nat} (hd : is_X1 d) {a1 : Int32} {σ : vv_S} {post : Int32 → vv_S → Prop} (h : wX1_comesIn d a1 σ post) : vv_MI Y yX1_comesIn cX1_comesIn 2 (some .int) 1 14 [.ref (vv_q Y d), .int a1] σ post := by
  refine vv_ofI (by decide) (Nat.le_of_ble_eq_true rfl) (fun X C => ?_)
  have C : VC Y X RX1 cX1_comesIn 2 (some .int) 1 14 := C
  refine vv_sub [0, 1] (L' := [(0, .ref (vv_q Y d)), (1, .int a1)]) rfl ?_
  refine vv_iload_n C 1 dX1_comesIn_0 rfl rfl ?_
  refine vv_join (fun k => ∀ (v1 : Int32), k v1 → VJ Y X (va_Qi post (vv_B Y) X.2) 2 19 [] [.int v1] σ) h (fun v1 h => ?_) (fun k19_1 hJk19_1 h => ?_)
  · exact vv_iret C dX1_comesIn_19 h
  · refine vv_if_ge (pc := 1) C 8 dX1_comesIn_1 (by decide) (fun hc3 => ?_) (fun hc3 => ?_)
    · replace h := h.1 hc3
      refine vv_aload_n C 0 dX1_comesIn_8 rfl rfl ?_
      refine vv_getr (r := (d + 6)) C kc_X1 (s_X1 hY hd) 7 (by decide) rfl fk_X1_27 dX1_comesIn_9 ?_
      refine vv_iload_n C 1 dX1_comesIn_12 rfl rfl ?_
      refine vv_bipush C dX1_comesIn_13 kb_100 ?_
      refine vv_min C lk_X1_44 mk_min (by decide) (Nat.le_of_ble_eq_true rfl) dX1_comesIn_15 ?_
      obtain ⟨hi4, h⟩ := h
      refine vv_iald C (a_X1_byMinute hY hd) hi4 rfl dX1_comesIn_18 ?_
      refine vv_sub [] (L' := []) rfl ?_
      exact hJk19_1 _ h
    · replace h := h.2 hc3
      refine vv_iconst C dX1_comesIn_4 ki_0 ?_
      refine vv_goto (pc := 5) (tgt := 19) C dX1_comesIn_5 (by decide) ?_
      refine vv_sub [] (L' := []) rfl ?_
      exact hJk19_1 _ h
set_option maxHeartbeats 2000000 in
set_option maxRecDepth 100000 in
theorem mX3_wears {Y : vv_Y} (hY : Y.2.2.2.2 = wC) {d : Nat} (hd : is_X3 d) {a1 : Int32} {σ : vv_S} {post : Int32 → vv_S → Prop} (h : wX3_wears d a1 σ post) : vv_MI Y yX3_wears cX3_wears 3 (some .boolean) 1 15 [.ref (vv_q Y d), .int a1] σ post := by
  refine vv_ofI (by decide) (Nat.le_of_ble_eq_true rfl) (fun X C => ?_)
  have C : VC Y X RX3 cX3_wears 3 (some .boolean) 1 15 := C
  refine vv_sub [0, 1] (L' := [(0, .ref (vv_q Y d)), (1, .int a1)]) rfl ?_
  refine vv_iload_n C 1 dX3_wears_0 rfl rfl ?_
  refine vv_join (fun k =>  k → VJ Y X (va_Qi post (vv_B Y) X.2) 3 19 [] [] σ) h (fun h => ?_) (fun k19_0 hJk19_0 h => ?_)
  · refine vv_iconst C dX3_wears_19 ki_0 ?_
    exact vv_zret C (Or.inl rfl) dX3_wears_20 h
  · refine vv_if_lt (pc := 1) C 19 dX3_wears_1 (by decide) (fun hc2 => ?_) (fun hc2 => ?_)
    · replace h := h.1 hc2
      refine vv_sub [] (L' := []) rfl ?_
      exact hJk19_0 h
    · replace h := h.2 hc2
      refine vv_iload_n C 1 dX3_wears_4 rfl rfl ?_
      refine vv_bipush C dX3_wears_5 kb_8 ?_
      refine vv_icmp_ge (pc := 7) C 19 dX3_wears_7 (by decide) (fun hc3 => ?_) (fun hc3 => ?_)
      · replace h := h.1 hc3
        refine vv_sub [] (L' := []) rfl ?_
        exact hJk19_0 h
      · replace h := h.2 hc3
        refine vv_aload_n C 0 dX3_wears_10 rfl rfl ?_
        refine vv_getr (r := (d + 1)) C kc_X3 (s_X3 hY hd) 1 (by decide) rfl fk_X3_9 dX3_wears_11 ?_
        refine vv_iload_n C 1 dX3_wears_14 rfl rfl ?_
        obtain ⟨hi4, h⟩ := h
        refine vv_iald C (a_X3_heights hY hd) hi4 rfl dX3_wears_15 ?_
        refine vv_if_ne (pc := 16) C 21 dX3_wears_16 (by decide) (fun hc5 => ?_) (fun hc5 => ?_)
        · replace h := h.1 hc5
          refine vv_aload_n C 0 dX3_wears_21 rfl rfl ?_
          refine vv_getr (r := (d + 2)) C kc_X3 (s_X3 hY hd) 2 (by decide) rfl fk_X3_15 dX3_wears_22 ?_
          refine vv_iload_n C 1 dX3_wears_25 rfl rfl ?_
          obtain ⟨hi6, h⟩ := h
          refine vv_iald C (a_X3_stuffs hY hd) hi6 rfl dX3_wears_26 ?_
          refine vv_join (fun k => ∀ (v7 : Int32), k v7 → VJ Y X (va_Qi post (vv_B Y) X.2) 3 58 [(0, .ref (vv_q Y d)), (1, .int a1)] [.int v7] σ) h (fun v7 h => ?_) (fun k58_7 hJk58_7 h => ?_)
          · refine vv_istore_n (L' := [(2, .int v7), (0, .ref (vv_q Y d)), (1, .int a1)]) C dX3_wears_58 rfl (by decide) rfl ?_
            refine vv_aload_n C 1 dX3_wears_59 rfl rfl ?_
            refine vv_getr (r := (d + 1)) C kc_X3 (s_X3 hY hd) 1 (by decide) rfl fk_X3_9 dX3_wears_60 ?_
            refine vv_iload_n C 2 dX3_wears_63 rfl rfl ?_
            refine vv_iconst C dX3_wears_64 ki_0 ?_
            refine vv_aload_n C 1 dX3_wears_65 rfl rfl ?_
            refine vv_getr (r := (d + 1)) C kc_X3 (s_X3 hY hd) 1 (by decide) rfl fk_X3_9 dX3_wears_66 ?_
            refine vv_iload_n C 2 dX3_wears_69 rfl rfl ?_
            obtain ⟨hi9, h⟩ := h
            refine vv_iald C (a_X3_heights hY hd) hi9 rfl dX3_wears_70 ?_
            refine vv_iload_n C 0 dX3_wears_71 rfl rfl ?_
            refine vv_isub C dX3_wears_72 ?_
            refine vv_max C lk_X3_96 mk_max (by decide) (Nat.le_of_ble_eq_true rfl) dX3_wears_73 ?_
            obtain ⟨hi10, h⟩ := h
            refine vv_iast C (a_X3_heights hY hd) hi10 rfl dX3_wears_76 (fun σ11 eσ11 => ?_)
            replace h := h σ11 eσ11
            refine vv_aload_n C 1 dX3_wears_77 rfl rfl ?_
            refine vv_getr (r := (d + 1)) C kc_X3 (s_X3 hY hd) 1 (by decide) rfl fk_X3_9 dX3_wears_78 ?_
            refine vv_iload_n C 2 dX3_wears_81 rfl rfl ?_
            obtain ⟨hi12, h⟩ := h
            refine vv_iald C (a_X3_heights hY hd) hi12 rfl dX3_wears_82 ?_
            refine vv_join (fun k => ∀ (σ13 : vv_S), k σ13 → VJ Y X (va_Qi post (vv_B Y) X.2) 3 101 [(2, .int v7)] [] σ13) h (fun σ13 h => ?_) (fun k101_13 hJk101_13 h => ?_)
            · refine vv_iload_n C 0 dX3_wears_101 rfl rfl ?_
              refine vv_join (fun k => ∀ (v15 : Int32), k v15 → VJ Y X (va_Qi post (vv_B Y) X.2) 3 110 [] [.int v15] σ13) h (fun v15 h => ?_) (fun k110_15 hJk110_15 h => ?_)
              · exact vv_zret C h.1 dX3_wears_110 h.2
              · refine vv_if_le (pc := 102) C 109 dX3_wears_102 (by decide) (fun hc17 => ?_) (fun hc17 => ?_)
                · replace h := h.1 hc17
                  refine vv_iconst C dX3_wears_109 ki_0 ?_
                  refine vv_sub [] (L' := []) rfl ?_
                  exact hJk110_15 _ h
                · replace h := h.2 hc17
                  refine vv_iconst C dX3_wears_105 ki_1 ?_
                  refine vv_goto (pc := 106) (tgt := 110) C dX3_wears_106 (by decide) ?_
                  refine vv_sub [] (L' := []) rfl ?_
                  exact hJk110_15 _ h
            · refine vv_if_ne (pc := 83) C 101 dX3_wears_83 (by decide) (fun hc18 => ?_) (fun hc18 => ?_)
              · replace h := h.1 hc18
                refine vv_sub [0] (L' := [(2, .int v7)]) rfl ?_
                exact hJk101_13 _ h
              · replace h := h.2 hc18
                refine vv_aload_n C 1 dX3_wears_86 rfl rfl ?_
                refine vv_getr (r := (d + 3)) C kc_X3 (s_X3 hY hd) 3 (by decide) rfl fk_X3_18 dX3_wears_87 ?_
                refine vv_iload_n C 2 dX3_wears_90 rfl rfl ?_
                refine vv_dup2 C dX3_wears_91 rfl rfl ?_
                obtain ⟨hi19, h⟩ := h
                refine vv_iald C (a_X3_breaches hY hd) hi19 rfl dX3_wears_92 ?_
                refine vv_iconst C dX3_wears_93 ki_1 ?_
                refine vv_iadd C dX3_wears_94 ?_
                obtain ⟨hi20, h⟩ := h
                refine vv_iast C (a_X3_breaches hY hd) hi20 rfl dX3_wears_95 (fun σ21 eσ21 => ?_)
                replace h := h σ21 eσ21
                refine vv_aload_n C 1 dX3_wears_96 rfl rfl ?_
                refine vv_iload_n C 2 dX3_wears_97 rfl rfl ?_
                refine vv_puti C kc_X3 (s_X3 hY hd) 15 (by decide) rfl pf_X3_15 fk_X3_105 dX3_wears_98 (fun σ22 eσ22 => ?_)
                replace h := h σ22 eσ22
                refine vv_sub [0] (L' := [(2, .int v7)]) rfl ?_
                exact hJk101_13 _ h
          · refine vv_if_ne (pc := 27) C 34 dX3_wears_27 (by decide) (fun hc23 => ?_) (fun hc23 => ?_)
            · replace h := h.1 hc23
              refine vv_aload_n C 0 dX3_wears_34 rfl rfl ?_
              refine vv_getr (r := (d + 2)) C kc_X3 (s_X3 hY hd) 2 (by decide) rfl fk_X3_15 dX3_wears_35 ?_
              refine vv_iload_n C 1 dX3_wears_38 rfl rfl ?_
              obtain ⟨hi24, h⟩ := h
              refine vv_iald C (a_X3_stuffs hY hd) hi24 rfl dX3_wears_39 ?_
              refine vv_iconst C dX3_wears_40 ki_1 ?_
              refine vv_join (fun k =>  k → VJ Y X (va_Qi post (vv_B Y) X.2) 3 57 [(0, .ref (vv_q Y d)), (1, .int a1)] [] σ) h (fun h => ?_) (fun k57_24 hJk57_24 h => ?_)
              · refine vv_iconst C dX3_wears_57 ki_0 ?_
                refine vv_sub [0, 1] (L' := [(0, .ref (vv_q Y d)), (1, .int a1)]) rfl ?_
                exact hJk58_7 _ h
              · refine vv_icmp_ne (pc := 41) C 57 dX3_wears_41 (by decide) (fun hc26 => ?_) (fun hc26 => ?_)
                · replace h := h.1 hc26
                  refine vv_sub [0, 1] (L' := [(0, .ref (vv_q Y d)), (1, .int a1)]) rfl ?_
                  exact hJk57_24 h
                · replace h := h.2 hc26
                  refine vv_aload_n C 0 dX3_wears_44 rfl rfl ?_
                  refine vv_geti C kc_X3 (s_X3 hY hd) 5 (by decide) rfl fk_X3_38 dX3_wears_45 ?_
                  refine vv_iconst C dX3_wears_48 ki_2 ?_
                  refine vv_irem C dX3_wears_49 (by decide) ?_
                  refine vv_if_ne (pc := 50) C 57 dX3_wears_50 (by decide) (fun hc27 => ?_) (fun hc27 => ?_)
                  · replace h := h.1 hc27
                    refine vv_sub [0, 1] (L' := [(0, .ref (vv_q Y d)), (1, .int a1)]) rfl ?_
                    exact hJk57_24 h
                  · replace h := h.2 hc27
                    refine vv_iconst C dX3_wears_53 ki_1 ?_
                    refine vv_goto (pc := 54) (tgt := 58) C dX3_wears_54 (by decide) ?_
                    refine vv_sub [0, 1] (L' := [(0, .ref (vv_q Y d)), (1, .int a1)]) rfl ?_
                    exact hJk58_7 _ h
            · replace h := h.2 hc23
              refine vv_iconst C dX3_wears_30 ki_2 ?_
              refine vv_goto (pc := 31) (tgt := 58) C dX3_wears_31 (by decide) ?_
              refine vv_sub [0, 1] (L' := [(0, .ref (vv_q Y d)), (1, .int a1)]) rfl ?_
              exact hJk58_7 _ h
        · replace h := h.2 hc5
          refine vv_sub [] (L' := []) rfl ?_
          exact hJk19_0 h
set_option maxHeartbeats 2000000 in
set_option maxRecDepth 100000 in
theorem mX4_levelOf {Y : vv_Y} (hY : Y.2.2.2.2 = wC) {d : Nat} (hd : is_X4 d) {a1 : Int32} {σ : vv_S} {post : Int32 → vv_S → Prop} (h : wX4_levelOf d a1 σ post) : vv_MI Y yX4_levelOf cX4_levelOf 5 (some .int) 1 21 [.ref (vv_q Y d), .int a1] σ post := by
  refine vv_ofI (by decide) (Nat.le_of_ble_eq_true rfl) (fun X C => ?_)
  have C : VC Y X RX4 cX4_levelOf 5 (some .int) 1 21 := C
  refine vv_sub [0, 1] (L' := [(0, .ref (vv_q Y d)), (1, .int a1)]) rfl ?_
  refine vv_iconst C dX4_levelOf_0 ki_0 ?_
  refine vv_istore_n (L' := [(2, .int (0 : Int32)), (0, .ref (vv_q Y d)), (1, .int a1)]) C dX4_levelOf_1 rfl (by decide) rfl ?_
  refine vv_bipush C dX4_levelOf_2 kb_32 ?_
  refine vv_istore_n (L' := [(3, .int (32 : Int32)), (2, .int (0 : Int32)), (0, .ref (vv_q Y d)), (1, .int a1)]) C dX4_levelOf_4 rfl (by decide) rfl ?_
  obtain ⟨n4, h⟩ := h
  have hl1 : ∀ (n4 : Nat) (v1 : Int32) (v2 : Int32) (σ3 : vv_S), lX4_levelOf_1 post d a1 n4 v1 v2 σ3 → VJ Y X (va_Qi post (vv_B Y) X.2) 5 5 [(0, .ref (vv_q Y d)), (1, .int a1), (2, .int v1), (3, .int v2)] [] σ3 := by
    clear h
    intro n4
    induction n4 with
    | zero => intro v1 v2 σ3 h; exact False.elim h
    | succ n4 ih1 =>
      intro v1 v2 σ3 h
      refine vv_iload_n C 3 dX4_levelOf_5 rfl rfl ?_
      refine vv_if_le (pc := 6) C 41 dX4_levelOf_6 (by decide) (fun hc5 => ?_) (fun hc5 => ?_)
      · replace h := h.1 hc5
        refine vv_iload_n C 2 dX4_levelOf_41 rfl rfl ?_
        exact vv_iret C dX4_levelOf_42 h
      · replace h := h.2 hc5
        refine vv_iload_n C 2 dX4_levelOf_9 rfl rfl ?_
        refine vv_iload_n C 3 dX4_levelOf_10 rfl rfl ?_
        refine vv_iadd C dX4_levelOf_11 ?_
        refine vv_nm (fun v6 ev6 => ?_)
        replace h := h v6 ev6
        refine vv_istore (L' := [(4, .int v6), (0, .ref (vv_q Y d)), (1, .int a1), (2, .int v1), (3, .int v2)]) C dX4_levelOf_12 (by decide) rfl ?_
        refine vv_iload C 0 dX4_levelOf_14 rfl ?_
        refine vv_bipush C dX4_levelOf_16 kb_60 ?_
        refine vv_join (fun k => ∀ (v7 : Int32) (σ8 : vv_S), k v7 σ8 → VJ Y X (va_Qi post (vv_B Y) X.2) 5 34 [(0, .ref (vv_q Y d)), (1, .int a1), (2, .int v7), (3, .int v2)] [] σ8) h (fun v7 σ8 h => ?_) (fun k34_8 hJk34_8 h => ?_)
        · refine vv_iload_n C 3 dX4_levelOf_34 rfl rfl ?_
          refine vv_iconst C dX4_levelOf_35 ki_2 ?_
          refine vv_idiv C dX4_levelOf_36 (by decide) ?_
          refine vv_nm (fun v10 ev10 => ?_)
          replace h := h v10 ev10
          refine vv_istore_n (L' := [(3, .int v10), (0, .ref (vv_q Y d)), (1, .int a1), (2, .int v7)]) C dX4_levelOf_37 rfl (by decide) rfl ?_
          refine vv_goto (pc := 38) (tgt := 5) C dX4_levelOf_38 (by decide) ?_
          refine vv_sub [1, 2, 3, 0] (L' := [(0, .ref (vv_q Y d)), (1, .int a1), (2, .int v7), (3, .int v10)]) rfl ?_
          exact ih1 _ _ _ h
        · refine vv_icmp_gt (pc := 18) C 34 dX4_levelOf_18 (by decide) (fun hc11 => ?_) (fun hc11 => ?_)
          · replace h := h.1 hc11
            refine vv_sub [1, 2, 3, 4] (L' := [(0, .ref (vv_q Y d)), (1, .int a1), (2, .int v1), (3, .int v2)]) rfl ?_
            exact hJk34_8 _ _ h
          · replace h := h.2 hc11
            refine vv_aload_n C 1 dX4_levelOf_21 rfl rfl ?_
            refine vv_iload C 0 dX4_levelOf_22 rfl ?_
            refine vv_callI (rest := []) C yk_X4_takes vk_X4_takes lk_X4_110 kc_X4.1 (s_X4 hY hd) dX4_levelOf_24 (mX4_takes hY hd h) rfl rfl ⟨Nat.le_of_ble_eq_true rfl, Nat.le_of_ble_eq_true rfl⟩ (Nat.le_of_ble_eq_true rfl) (fun r13 σ12 h => ?_)
            refine vv_iload_n C 2 dX4_levelOf_27 rfl rfl ?_
            refine vv_icmp_gt (pc := 28) C 34 dX4_levelOf_28 (by decide) (fun hc14 => ?_) (fun hc14 => ?_)
            · replace h := h.1 hc14
              refine vv_sub [1, 2, 3, 4] (L' := [(0, .ref (vv_q Y d)), (1, .int a1), (2, .int v1), (3, .int v2)]) rfl ?_
              exact hJk34_8 _ _ h
            · replace h := h.2 hc14
              refine vv_iload C 0 dX4_levelOf_31 rfl ?_
              refine vv_istore_n (L' := [(2, .int v6), (4, .int v6), (0, .ref (vv_q Y d)), (1, .int a1), (3, .int v2)]) C dX4_levelOf_33 rfl (by decide) rfl ?_
              refine vv_sub [2, 3, 0, 4] (L' := [(0, .ref (vv_q Y d)), (1, .int a1), (2, .int v6), (3, .int v2)]) rfl ?_
              exact hJk34_8 _ _ h
  refine vv_sub [2, 3, 1, 0] (L' := [(0, .ref (vv_q Y d)), (1, .int a1), (2, .int (0 : Int32)), (3, .int (32 : Int32))]) rfl ?_
  exact hl1 n4 _ _ _ h
set_option maxHeartbeats 2000000 in
set_option maxRecDepth 100000 in
theorem mX3_oneMinute {Y : vv_Y} (hY : Y.2.2.2.2 = wC) {d : Nat} (hd : is_X3 d) {a1 : Int32} {σ : vv_S} {post : vv_S → Prop} (h : wX3_oneMinute d a1 σ post) : vv_MV Y yX3_oneMinute cX3_oneMinute 4 none 2 45 [.ref (vv_q Y d), .int a1] σ post := by
  refine vv_ofV (by decide) (Nat.le_of_ble_eq_true rfl) (fun X C => ?_)
  have C : VC Y X RX3 cX3_oneMinute 4 none 2 45 := C
  refine vv_sub [0, 1] (L' := [(0, .ref (vv_q Y d)), (1, .int a1)]) rfl ?_
  refine vv_aload_n C 0 dX3_oneMinute_0 rfl rfl ?_
  refine vv_dup C dX3_oneMinute_1 rfl ?_
  refine vv_geti C kc_X3 (s_X3 hY hd) 5 (by decide) rfl fk_X3_38 dX3_oneMinute_2 ?_
  refine vv_iconst C dX3_oneMinute_5 ki_1 ?_
  refine vv_iadd C dX3_oneMinute_6 ?_
  refine vv_puti C kc_X3 (s_X3 hY hd) 5 (by decide) rfl pf_X3_5 fk_X3_38 dX3_oneMinute_7 (fun σ1 eσ1 => ?_)
  replace h := h σ1 eσ1
  refine vv_aload_n C 0 dX3_oneMinute_10 rfl rfl ?_
  refine vv_dup C dX3_oneMinute_11 rfl ?_
  refine vv_geti C kc_X3 (s_X3 hY hd) 4 (by decide) rfl fk_X3_34 dX3_oneMinute_12 ?_
  refine vv_aload_n C 0 dX3_oneMinute_15 rfl rfl ?_
  refine vv_getr (r := 4) C kc_X3 (s_X3 hY hd) 0 (by decide) rfl fk_X3_21 dX3_oneMinute_16 ?_
  refine vv_callR (r := 7) (rest := [.int (σ1 d 4), .ref (vv_q Y d)]) C yk_X4_brook vk_X4_brook lk_X3_84 kc_X4.1 (s_X4 hY (show is_X4 4 by decide)) dX3_oneMinute_19 (mX4_brook hY (show is_X4 4 by decide) h) rfl rfl ⟨Nat.le_of_ble_eq_true rfl, Nat.le_of_ble_eq_true rfl⟩ (Nat.le_of_ble_eq_true rfl) (fun σ2 h => ?_)
  refine vv_aload_n C 0 dX3_oneMinute_22 rfl rfl ?_
  refine vv_geti C kc_X3 (s_X3 hY hd) 5 (by decide) rfl fk_X3_38 dX3_oneMinute_23 ?_
  refine vv_callI (rest := [.int (σ1 d 4), .ref (vv_q Y d)]) C yk_X1_comesIn vk_X1_comesIn lk_X3_88 kc_X1.1 (s_X1 hY (show is_X1 7 by decide)) dX3_oneMinute_26 (mX1_comesIn hY (show is_X1 7 by decide) h) rfl rfl ⟨Nat.le_of_ble_eq_true rfl, Nat.le_of_ble_eq_true rfl⟩ (Nat.le_of_ble_eq_true rfl) (fun r4 σ3 h => ?_)
  refine vv_iload_n C 1 dX3_oneMinute_29 rfl rfl ?_
  refine vv_iadd C dX3_oneMinute_30 ?_
  refine vv_iadd C dX3_oneMinute_31 ?_
  refine vv_puti C kc_X3 (s_X3 hY hd) 4 (by decide) rfl pf_X3_4 fk_X3_34 dX3_oneMinute_32 (fun σ5 eσ5 => ?_)
  replace h := h σ5 eσ5
  refine vv_aload_n C 0 dX3_oneMinute_35 rfl rfl ?_
  refine vv_geti C kc_X3 (s_X3 hY hd) 11 (by decide) rfl fk_X3_69 dX3_oneMinute_36 ?_
  refine vv_aload_n C 0 dX3_oneMinute_39 rfl rfl ?_
  refine vv_geti C kc_X3 (s_X3 hY hd) 12 (by decide) rfl fk_X3_72 dX3_oneMinute_40 ?_
  refine vv_iadd C dX3_oneMinute_43 ?_
  refine vv_join (fun k => ∀ (σ6 : vv_S), k σ6 → VJ Y X (va_Qv post (vv_B Y) X.2) 4 105 [(0, .ref (vv_q Y d))] [] σ6) h (fun σ6 h => ?_) (fun k105_6 hJk105_6 h => ?_)
  · refine vv_aload_n C 0 dX3_oneMinute_105 rfl rfl ?_
    refine vv_iconst C dX3_oneMinute_106 ki_0 ?_
    refine vv_aload_n C 0 dX3_oneMinute_107 rfl rfl ?_
    refine vv_geti C kc_X3 (s_X3 hY hd) 4 (by decide) rfl fk_X3_34 dX3_oneMinute_108 ?_
    refine vv_aload_n C 0 dX3_oneMinute_111 rfl rfl ?_
    refine vv_geti C kc_X3 (s_X3 hY hd) 10 (by decide) rfl fk_X3_81 dX3_oneMinute_112 ?_
    refine vv_isub C dX3_oneMinute_115 ?_
    refine vv_max C lk_X3_96 mk_max (by decide) (Nat.le_of_ble_eq_true rfl) dX3_oneMinute_116 ?_
    refine vv_puti C kc_X3 (s_X3 hY hd) 13 (by decide) rfl pf_X3_13 fk_X3_99 dX3_oneMinute_119 (fun σ8 eσ8 => ?_)
    replace h := h σ8 eσ8
    refine vv_aload_n C 0 dX3_oneMinute_122 rfl rfl ?_
    refine vv_aload_n C 0 dX3_oneMinute_123 rfl rfl ?_
    refine vv_geti C kc_X3 (s_X3 hY hd) 9 (by decide) rfl fk_X3_66 dX3_oneMinute_124 ?_
    refine vv_puti C kc_X3 (s_X3 hY hd) 14 (by decide) rfl pf_X3_14 fk_X3_102 dX3_oneMinute_127 (fun σ9 eσ9 => ?_)
    replace h := h σ9 eσ9
    refine vv_aload_n C 0 dX3_oneMinute_130 rfl rfl ?_
    refine vv_dup C dX3_oneMinute_131 rfl ?_
    refine vv_geti C kc_X3 (s_X3 hY hd) 4 (by decide) rfl fk_X3_34 dX3_oneMinute_132 ?_
    refine vv_aload_n C 0 dX3_oneMinute_135 rfl rfl ?_
    refine vv_geti C kc_X3 (s_X3 hY hd) 13 (by decide) rfl fk_X3_99 dX3_oneMinute_136 ?_
    refine vv_isub C dX3_oneMinute_139 ?_
    refine vv_puti C kc_X3 (s_X3 hY hd) 4 (by decide) rfl pf_X3_4 fk_X3_34 dX3_oneMinute_140 (fun σ10 eσ10 => ?_)
    replace h := h σ10 eσ10
    refine vv_aload_n C 0 dX3_oneMinute_143 rfl rfl ?_
    refine vv_dup C dX3_oneMinute_144 rfl ?_
    refine vv_geti C kc_X3 (s_X3 hY hd) 6 (by decide) rfl fk_X3_41 dX3_oneMinute_145 ?_
    refine vv_aload_n C 0 dX3_oneMinute_148 rfl rfl ?_
    refine vv_geti C kc_X3 (s_X3 hY hd) 13 (by decide) rfl fk_X3_99 dX3_oneMinute_149 ?_
    refine vv_iadd C dX3_oneMinute_152 ?_
    refine vv_puti C kc_X3 (s_X3 hY hd) 6 (by decide) rfl pf_X3_6 fk_X3_41 dX3_oneMinute_153 (fun σ11 eσ11 => ?_)
    replace h := h σ11 eσ11
    refine vv_aload_n C 0 dX3_oneMinute_156 rfl rfl ?_
    refine vv_bipush C dX3_oneMinute_157 kb_m4 ?_
    refine vv_puti C kc_X3 (s_X3 hY hd) 15 (by decide) rfl pf_X3_15 fk_X3_105 dX3_oneMinute_159 (fun σ12 eσ12 => ?_)
    replace h := h σ12 eσ12
    refine vv_aload_n C 0 dX3_oneMinute_162 rfl rfl ?_
    refine vv_geti C kc_X3 (s_X3 hY hd) 13 (by decide) rfl fk_X3_99 dX3_oneMinute_163 ?_
    refine vv_join (fun k => ∀ (σ13 : vv_S), k σ13 → VJ Y X (va_Qv post (vv_B Y) X.2) 4 184 [] [] σ13) h (fun σ13 h => ?_) (fun k184_13 hJk184_13 h => ?_)
    · exact vv_vret C dX3_oneMinute_184 h
    · refine vv_if_le (pc := 166) C 184 dX3_oneMinute_166 (by decide) (fun hc15 => ?_) (fun hc15 => ?_)
      · replace h := h.1 hc15
        refine vv_sub [] (L' := []) rfl ?_
        exact hJk184_13 _ h
      · replace h := h.2 hc15
        refine vv_aload_n C 0 dX3_oneMinute_169 rfl rfl ?_
        refine vv_aload_n C 0 dX3_oneMinute_170 rfl rfl ?_
        refine vv_geti C kc_X3 (s_X3 hY hd) 14 (by decide) rfl fk_X3_102 dX3_oneMinute_171 ?_
        refine vv_callI (rest := []) C yk_X3_wears vk_X3_wears lk_X3_108 kc_X3.1 (s_X3 hY hd) dX3_oneMinute_174 (mX3_wears hY hd h) rfl rfl ⟨Nat.le_of_ble_eq_true rfl, Nat.le_of_ble_eq_true rfl⟩ (Nat.le_of_ble_eq_true rfl) (fun r17 σ16 h => ?_)
        refine vv_if_eq (pc := 177) C 184 dX3_oneMinute_177 (by decide) (fun hc18 => ?_) (fun hc18 => ?_)
        · replace h := h.1 hc18
          refine vv_sub [] (L' := []) rfl ?_
          exact hJk184_13 _ h
        · replace h := h.2 hc18
          refine vv_aload_n C 0 dX3_oneMinute_180 rfl rfl ?_
          refine vv_callV (rest := []) C yk_X3_survey vk_X3_survey lk_X3_47 kc_X3.1 (s_X3 hY hd) dX3_oneMinute_181 (mX3_survey hY hd h) rfl rfl ⟨Nat.le_of_ble_eq_true rfl, Nat.le_of_ble_eq_true rfl⟩ (Nat.le_of_ble_eq_true rfl) (fun σ19 h => ?_)
          refine vv_sub [] (L' := []) rfl ?_
          exact hJk184_13 _ h
  · refine vv_if_le (pc := 44) C 105 dX3_oneMinute_44 (by decide) (fun hc20 => ?_) (fun hc20 => ?_)
    · replace h := h.1 hc20
      refine vv_sub [0] (L' := [(0, .ref (vv_q Y d))]) rfl ?_
      exact hJk105_6 _ h
    · replace h := h.2 hc20
      refine vv_aload_n C 0 dX3_oneMinute_47 rfl rfl ?_
      refine vv_getr (r := 4) C kc_X3 (s_X3 hY hd) 0 (by decide) rfl fk_X3_21 dX3_oneMinute_48 ?_
      refine vv_aload_n C 0 dX3_oneMinute_51 rfl rfl ?_
      refine vv_geti C kc_X3 (s_X3 hY hd) 4 (by decide) rfl fk_X3_34 dX3_oneMinute_52 ?_
      refine vv_callI (rest := []) C yk_X4_levelOf vk_X4_levelOf lk_X3_93 kc_X4.1 (s_X4 hY (show is_X4 4 by decide)) dX3_oneMinute_55 (mX4_levelOf hY (show is_X4 4 by decide) h) rfl rfl ⟨Nat.le_of_ble_eq_true rfl, Nat.le_of_ble_eq_true rfl⟩ (Nat.le_of_ble_eq_true rfl) (fun r22 σ21 h => ?_)
      refine vv_istore_n (L' := [(2, .int r22), (0, .ref (vv_q Y d)), (1, .int a1)]) C dX3_oneMinute_58 rfl (by decide) rfl ?_
      refine vv_aload_n C 1 dX3_oneMinute_59 rfl rfl ?_
      refine vv_geti C kc_X3 (s_X3 hY hd) 4 (by decide) rfl fk_X3_34 dX3_oneMinute_60 ?_
      refine vv_aload_n C 1 dX3_oneMinute_63 rfl rfl ?_
      refine vv_geti C kc_X3 (s_X3 hY hd) 11 (by decide) rfl fk_X3_69 dX3_oneMinute_64 ?_
      refine vv_iload_n C 0 dX3_oneMinute_67 rfl rfl ?_
      refine vv_bipush C dX3_oneMinute_68 kb_8 ?_
      refine vv_idiv C dX3_oneMinute_70 (by decide) ?_
      refine vv_imul C dX3_oneMinute_71 ?_
      refine vv_aload_n C 1 dX3_oneMinute_72 rfl rfl ?_
      refine vv_geti C kc_X3 (s_X3 hY hd) 12 (by decide) rfl fk_X3_72 dX3_oneMinute_73 ?_
      refine vv_iload_n C 0 dX3_oneMinute_76 rfl rfl ?_
      refine vv_iconst C dX3_oneMinute_77 ki_3 ?_
      refine vv_idiv C dX3_oneMinute_78 (by decide) ?_
      refine vv_imul C dX3_oneMinute_79 ?_
      refine vv_iadd C dX3_oneMinute_80 ?_
      refine vv_min C lk_X3_57 mk_min (by decide) (Nat.le_of_ble_eq_true rfl) dX3_oneMinute_81 ?_
      refine vv_nm (fun v23 ev23 => ?_)
      replace h := h v23 ev23
      refine vv_istore_n (L' := [(3, .int v23), (2, .int r22), (0, .ref (vv_q Y d)), (1, .int a1)]) C dX3_oneMinute_84 rfl (by decide) rfl ?_
      refine vv_aload_n C 2 dX3_oneMinute_85 rfl rfl ?_
      refine vv_dup C dX3_oneMinute_86 rfl ?_
      refine vv_geti C kc_X3 (s_X3 hY hd) 4 (by decide) rfl fk_X3_34 dX3_oneMinute_87 ?_
      refine vv_iload_n C 0 dX3_oneMinute_90 rfl rfl ?_
      refine vv_isub C dX3_oneMinute_91 ?_
      refine vv_puti C kc_X3 (s_X3 hY hd) 4 (by decide) rfl pf_X3_4 fk_X3_34 dX3_oneMinute_92 (fun σ24 eσ24 => ?_)
      replace h := h σ24 eσ24
      refine vv_aload_n C 2 dX3_oneMinute_95 rfl rfl ?_
      refine vv_dup C dX3_oneMinute_96 rfl ?_
      refine vv_geti C kc_X3 (s_X3 hY hd) 7 (by decide) rfl fk_X3_44 dX3_oneMinute_97 ?_
      refine vv_iload_n C 0 dX3_oneMinute_100 rfl rfl ?_
      refine vv_iadd C dX3_oneMinute_101 ?_
      refine vv_puti C kc_X3 (s_X3 hY hd) 7 (by decide) rfl pf_X3_7 fk_X3_44 dX3_oneMinute_102 (fun σ25 eσ25 => ?_)
      replace h := h σ25 eσ25
      refine vv_sub [2] (L' := [(0, .ref (vv_q Y d))]) rfl ?_
      exact hJk105_6 _ h
set_option maxHeartbeats 2000000 in
set_option maxRecDepth 100000 in
theorem mX3_letPass {Y : vv_Y} (hY : Y.2.2.2.2 = wC) {d : Nat} (hd : is_X3 d) {a1 : Int32} {a2 : Int32} {σ : vv_S} {post : vv_S → Prop} (h : wX3_letPass d a1 a2 σ post) : vv_MV Y yX3_letPass cX3_letPass 4 none 3 68 [.ref (vv_q Y d), .int a1, .int a2] σ post := by
  refine vv_ofV (by decide) (Nat.le_of_ble_eq_true rfl) (fun X C => ?_)
  have C : VC Y X RX3 cX3_letPass 4 none 3 68 := C
  refine vv_sub [0, 1, 2] (L' := [(0, .ref (vv_q Y d)), (1, .int a1), (2, .int a2)]) rfl ?_
  refine vv_iconst C dX3_letPass_0 ki_0 ?_
  refine vv_istore_n (L' := [(3, .int (0 : Int32)), (0, .ref (vv_q Y d)), (1, .int a1), (2, .int a2)]) C dX3_letPass_1 rfl (by decide) rfl ?_
  obtain ⟨n3, h⟩ := h
  have hl1 : ∀ (n3 : Nat) (v1 : Int32) (σ2 : vv_S), lX3_letPass_1 a1 post d a2 n3 v1 σ2 → VJ Y X (va_Qv post (vv_B Y) X.2) 4 2 [(0, .ref (vv_q Y d)), (1, .int a1), (2, .int a2), (3, .int v1)] [] σ2 := by
    clear h
    intro n3
    induction n3 with
    | zero => intro v1 σ2 h; exact False.elim h
    | succ n3 ih1 =>
      intro v1 σ2 h
      refine vv_iload_n C 3 dX3_letPass_2 rfl rfl ?_
      refine vv_iload_n C 1 dX3_letPass_3 rfl rfl ?_
      refine vv_icmp_ge (pc := 4) C 18 dX3_letPass_4 (by decide) (fun hc4 => ?_) (fun hc4 => ?_)
      · replace h := h.1 hc4
        exact vv_vret C dX3_letPass_18 h
      · replace h := h.2 hc4
        refine vv_aload_n C 0 dX3_letPass_7 rfl rfl ?_
        refine vv_iload_n C 2 dX3_letPass_8 rfl rfl ?_
        refine vv_callV (rest := []) C yk_X3_oneMinute vk_X3_oneMinute lk_X3_112 kc_X3.1 (s_X3 hY hd) dX3_letPass_9 (mX3_oneMinute hY hd h) rfl rfl ⟨Nat.le_of_ble_eq_true rfl, Nat.le_of_ble_eq_true rfl⟩ (Nat.le_of_ble_eq_true rfl) (fun σ5 h => ?_)
        obtain ⟨v6, ev6⟩ : ∃ z : Int32, z = v1 + (1 : Int32) := ⟨_, rfl⟩
        replace h := h v6 ev6
        refine vv_iinc (v := v6) (L' := [(3, .int v6), (0, .ref (vv_q Y d)), (1, .int a1), (2, .int a2)]) C 3 dX3_letPass_12 rfl ((kinc ki_1).trans ev6.symm) (by decide) rfl ?_
        refine vv_goto (pc := 15) (tgt := 2) C dX3_letPass_15 (by decide) ?_
        refine vv_sub [1, 2, 3, 0] (L' := [(0, .ref (vv_q Y d)), (1, .int a1), (2, .int a2), (3, .int v6)]) rfl ?_
        exact ih1 _ _ h
  refine vv_sub [1, 2, 3, 0] (L' := [(0, .ref (vv_q Y d)), (1, .int a1), (2, .int a2), (3, .int (0 : Int32))]) rfl ?_
  exact hl1 n3 _ _ h
set_option maxHeartbeats 2000000 in
set_option maxRecDepth 100000 in
theorem mX3_heightAt {Y : vv_Y} (hY : Y.2.2.2.2 = wC) {d : Nat} (hd : is_X3 d) {a1 : Int32} {σ : vv_S} {post : Int32 → vv_S → Prop} (h : wX3_heightAt d a1 σ post) : vv_MI Y yX3_heightAt cX3_heightAt 2 (some .int) 0 0 [.ref (vv_q Y d), .int a1] σ post := by
  refine vv_ofI (by decide) (Nat.le_of_ble_eq_true rfl) (fun X C => ?_)
  have C : VC Y X RX3 cX3_heightAt 2 (some .int) 0 0 := C
  refine vv_sub [0, 1] (L' := [(0, .ref (vv_q Y d)), (1, .int a1)]) rfl ?_
  refine vv_iload_n C 1 dX3_heightAt_0 rfl rfl ?_
  refine vv_join (fun k => ∀ (v1 : Int32), k v1 → VJ Y X (va_Qi post (vv_B Y) X.2) 2 20 [] [.int v1] σ) h (fun v1 h => ?_) (fun k20_1 hJk20_1 h => ?_)
  · exact vv_iret C dX3_heightAt_20 h
  · refine vv_join (fun k =>  k → VJ Y X (va_Qi post (vv_B Y) X.2) 2 19 [] [] σ) h (fun h => ?_) (fun k19_2 hJk19_2 h => ?_)
    · refine vv_iconst C dX3_heightAt_19 ki_0 ?_
      refine vv_sub [] (L' := []) rfl ?_
      exact hJk20_1 _ h
    · refine vv_if_lt (pc := 1) C 19 dX3_heightAt_1 (by decide) (fun hc4 => ?_) (fun hc4 => ?_)
      · replace h := h.1 hc4
        refine vv_sub [] (L' := []) rfl ?_
        exact hJk19_2 h
      · replace h := h.2 hc4
        refine vv_iload_n C 1 dX3_heightAt_4 rfl rfl ?_
        refine vv_bipush C dX3_heightAt_5 kb_8 ?_
        refine vv_icmp_ge (pc := 7) C 19 dX3_heightAt_7 (by decide) (fun hc5 => ?_) (fun hc5 => ?_)
        · replace h := h.1 hc5
          refine vv_sub [] (L' := []) rfl ?_
          exact hJk19_2 h
        · replace h := h.2 hc5
          refine vv_aload_n C 0 dX3_heightAt_10 rfl rfl ?_
          refine vv_getr (r := (d + 1)) C kc_X3 (s_X3 hY hd) 1 (by decide) rfl fk_X3_9 dX3_heightAt_11 ?_
          refine vv_iload_n C 1 dX3_heightAt_14 rfl rfl ?_
          obtain ⟨hi6, h⟩ := h
          refine vv_iald C (a_X3_heights hY hd) hi6 rfl dX3_heightAt_15 ?_
          refine vv_goto (pc := 16) (tgt := 20) C dX3_heightAt_16 (by decide) ?_
          refine vv_sub [] (L' := []) rfl ?_
          exact hJk20_1 _ h
set_option maxHeartbeats 2000000 in
set_option maxRecDepth 100000 in
theorem mX3_canDig {Y : vv_Y} (hY : Y.2.2.2.2 = wC) {d : Nat} (hd : is_X3 d) {a1 : Int32} {a2 : Int32} {σ : vv_S} {post : Int32 → vv_S → Prop} (h : wX3_canDig d a1 a2 σ post) : vv_MI Y yX3_canDig cX3_canDig 3 (some .boolean) 1 21 [.ref (vv_q Y d), .int a1, .int a2] σ post := by
  refine vv_ofI (by decide) (Nat.le_of_ble_eq_true rfl) (fun X C => ?_)
  have C : VC Y X RX3 cX3_canDig 3 (some .boolean) 1 21 := C
  refine vv_sub [0, 1, 2] (L' := [(0, .ref (vv_q Y d)), (1, .int a1), (2, .int a2)]) rfl ?_
  refine vv_aload_n C 0 dX3_canDig_0 rfl rfl ?_
  refine vv_iload_n C 1 dX3_canDig_1 rfl rfl ?_
  refine vv_callI (rest := []) C yk_X3_heightAt vk_X3_heightAt lk_X3_116 kc_X3.1 (s_X3 hY hd) dX3_canDig_2 (mX3_heightAt hY hd h) rfl rfl ⟨Nat.le_of_ble_eq_true rfl, Nat.le_of_ble_eq_true rfl⟩ (Nat.le_of_ble_eq_true rfl) (fun r2 σ1 h => ?_)
  refine vv_iload_n C 2 dX3_canDig_5 rfl rfl ?_
  refine vv_join (fun k => ∀ (v3 : Int32), k v3 → VJ Y X (va_Qi post (vv_B Y) X.2) 3 14 [] [.int v3] σ1) h (fun v3 h => ?_) (fun k14_3 hJk14_3 h => ?_)
  · exact vv_zret C h.1 dX3_canDig_14 h.2
  · refine vv_icmp_lt (pc := 6) C 13 dX3_canDig_6 (by decide) (fun hc5 => ?_) (fun hc5 => ?_)
    · replace h := h.1 hc5
      refine vv_iconst C dX3_canDig_13 ki_0 ?_
      refine vv_sub [] (L' := []) rfl ?_
      exact hJk14_3 _ h
    · replace h := h.2 hc5
      refine vv_iconst C dX3_canDig_9 ki_1 ?_
      refine vv_goto (pc := 10) (tgt := 14) C dX3_canDig_10 (by decide) ?_
      refine vv_sub [] (L' := []) rfl ?_
      exact hJk14_3 _ h
set_option maxHeartbeats 2000000 in
set_option maxRecDepth 100000 in
theorem mX3_stuffAt {Y : vv_Y} (hY : Y.2.2.2.2 = wC) {d : Nat} (hd : is_X3 d) {a1 : Int32} {σ : vv_S} {post : Int32 → vv_S → Prop} (h : wX3_stuffAt d a1 σ post) : vv_MI Y yX3_stuffAt cX3_stuffAt 2 (some .int) 0 0 [.ref (vv_q Y d), .int a1] σ post := by
  refine vv_ofI (by decide) (Nat.le_of_ble_eq_true rfl) (fun X C => ?_)
  have C : VC Y X RX3 cX3_stuffAt 2 (some .int) 0 0 := C
  refine vv_sub [0, 1] (L' := [(0, .ref (vv_q Y d)), (1, .int a1)]) rfl ?_
  refine vv_iload_n C 1 dX3_stuffAt_0 rfl rfl ?_
  refine vv_join (fun k => ∀ (v1 : Int32), k v1 → VJ Y X (va_Qi post (vv_B Y) X.2) 2 20 [] [.int v1] σ) h (fun v1 h => ?_) (fun k20_1 hJk20_1 h => ?_)
  · exact vv_iret C dX3_stuffAt_20 h
  · refine vv_join (fun k =>  k → VJ Y X (va_Qi post (vv_B Y) X.2) 2 19 [] [] σ) h (fun h => ?_) (fun k19_2 hJk19_2 h => ?_)
    · refine vv_iconst C dX3_stuffAt_19 ki_0 ?_
      refine vv_sub [] (L' := []) rfl ?_
      exact hJk20_1 _ h
    · refine vv_if_lt (pc := 1) C 19 dX3_stuffAt_1 (by decide) (fun hc4 => ?_) (fun hc4 => ?_)
      · replace h := h.1 hc4
        refine vv_sub [] (L' := []) rfl ?_
        exact hJk19_2 h
      · replace h := h.2 hc4
        refine vv_iload_n C 1 dX3_stuffAt_4 rfl rfl ?_
        refine vv_bipush C dX3_stuffAt_5 kb_8 ?_
        refine vv_icmp_ge (pc := 7) C 19 dX3_stuffAt_7 (by decide) (fun hc5 => ?_) (fun hc5 => ?_)
        · replace h := h.1 hc5
          refine vv_sub [] (L' := []) rfl ?_
          exact hJk19_2 h
        · replace h := h.2 hc5
          refine vv_aload_n C 0 dX3_stuffAt_10 rfl rfl ?_
          refine vv_getr (r := (d + 2)) C kc_X3 (s_X3 hY hd) 2 (by decide) rfl fk_X3_15 dX3_stuffAt_11 ?_
          refine vv_iload_n C 1 dX3_stuffAt_14 rfl rfl ?_
          obtain ⟨hi6, h⟩ := h
          refine vv_iald C (a_X3_stuffs hY hd) hi6 rfl dX3_stuffAt_15 ?_
          refine vv_goto (pc := 16) (tgt := 20) C dX3_stuffAt_16 (by decide) ?_
          refine vv_sub [] (L' := []) rfl ?_
          exact hJk20_1 _ h
set_option maxHeartbeats 2000000 in
set_option maxRecDepth 100000 in
theorem mX3_remake {Y : vv_Y} (hY : Y.2.2.2.2 = wC) {d : Nat} (hd : is_X3 d) {a1 : Int32} {a2 : Int32} {a3 : Int32} {σ : vv_S} {post : vv_S → Prop} (h : wX3_remake d a1 a2 a3 σ post) : vv_MV Y yX3_remake cX3_remake 4 none 2 42 [.ref (vv_q Y d), .int a1, .int a2, .int a3] σ post := by
  refine vv_ofV (by decide) (Nat.le_of_ble_eq_true rfl) (fun X C => ?_)
  have C : VC Y X RX3 cX3_remake 4 none 2 42 := C
  refine vv_sub [0, 1, 2, 3] (L' := [(0, .ref (vv_q Y d)), (1, .int a1), (2, .int a2), (3, .int a3)]) rfl ?_
  refine vv_iload_n C 1 dX3_remake_0 rfl rfl ?_
  refine vv_join (fun k =>  k → VJ Y X (va_Qv post (vv_B Y) X.2) 4 10 [] [] σ) h (fun h => ?_) (fun k10_0 hJk10_0 h => ?_)
  · exact vv_vret C dX3_remake_10 h
  · refine vv_if_lt (pc := 1) C 10 dX3_remake_1 (by decide) (fun hc2 => ?_) (fun hc2 => ?_)
    · replace h := h.1 hc2
      refine vv_sub [] (L' := []) rfl ?_
      exact hJk10_0 h
    · replace h := h.2 hc2
      refine vv_iload_n C 1 dX3_remake_4 rfl rfl ?_
      refine vv_bipush C dX3_remake_5 kb_8 ?_
      refine vv_icmp_lt (pc := 7) C 11 dX3_remake_7 (by decide) (fun hc3 => ?_) (fun hc3 => ?_)
      · replace h := h.1 hc3
        refine vv_aload_n C 0 dX3_remake_11 rfl rfl ?_
        refine vv_getr (r := (d + 1)) C kc_X3 (s_X3 hY hd) 1 (by decide) rfl fk_X3_9 dX3_remake_12 ?_
        refine vv_iload_n C 1 dX3_remake_15 rfl rfl ?_
        refine vv_iload_n C 3 dX3_remake_16 rfl rfl ?_
        obtain ⟨hi4, h⟩ := h
        refine vv_iast C (a_X3_heights hY hd) hi4 rfl dX3_remake_17 (fun σ5 eσ5 => ?_)
        replace h := h σ5 eσ5
        refine vv_aload_n C 0 dX3_remake_18 rfl rfl ?_
        refine vv_getr (r := (d + 2)) C kc_X3 (s_X3 hY hd) 2 (by decide) rfl fk_X3_15 dX3_remake_19 ?_
        refine vv_iload_n C 1 dX3_remake_22 rfl rfl ?_
        refine vv_iload_n C 2 dX3_remake_23 rfl rfl ?_
        obtain ⟨hi6, h⟩ := h
        refine vv_iast C (a_X3_stuffs hY hd) hi6 rfl dX3_remake_24 (fun σ7 eσ7 => ?_)
        replace h := h σ7 eσ7
        refine vv_aload_n C 0 dX3_remake_25 rfl rfl ?_
        refine vv_callV (rest := []) C yk_X3_survey vk_X3_survey lk_X3_47 kc_X3.1 (s_X3 hY hd) dX3_remake_26 (mX3_survey hY hd h) rfl rfl ⟨Nat.le_of_ble_eq_true rfl, Nat.le_of_ble_eq_true rfl⟩ (Nat.le_of_ble_eq_true rfl) (fun σ8 h => ?_)
        exact vv_vret C dX3_remake_29 h
      · replace h := h.2 hc3
        refine vv_sub [] (L' := []) rfl ?_
        exact hJk10_0 h
set_option maxHeartbeats 2000000 in
set_option maxRecDepth 100000 in
theorem mX3_digAt {Y : vv_Y} (hY : Y.2.2.2.2 = wC) {d : Nat} (hd : is_X3 d) {a1 : Int32} {a2 : Int32} {σ : vv_S} {post : vv_S → Prop} (h : wX3_digAt d a1 a2 σ post) : vv_MV Y yX3_digAt cX3_digAt 3 none 3 65 [.ref (vv_q Y d), .int a1, .int a2] σ post := by
  refine vv_ofV (by decide) (Nat.le_of_ble_eq_true rfl) (fun X C => ?_)
  have C : VC Y X RX3 cX3_digAt 3 none 3 65 := C
  refine vv_sub [0, 1, 2] (L' := [(0, .ref (vv_q Y d)), (1, .int a1), (2, .int a2)]) rfl ?_
  refine vv_aload_n C 0 dX3_digAt_0 rfl rfl ?_
  refine vv_iload_n C 1 dX3_digAt_1 rfl rfl ?_
  refine vv_aload_n C 0 dX3_digAt_2 rfl rfl ?_
  refine vv_iload_n C 1 dX3_digAt_3 rfl rfl ?_
  refine vv_callI (rest := [.int a1, .ref (vv_q Y d)]) C yk_X3_stuffAt vk_X3_stuffAt lk_X3_123 kc_X3.1 (s_X3 hY hd) dX3_digAt_4 (mX3_stuffAt hY hd h) rfl rfl ⟨Nat.le_of_ble_eq_true rfl, Nat.le_of_ble_eq_true rfl⟩ (Nat.le_of_ble_eq_true rfl) (fun r2 σ1 h => ?_)
  refine vv_aload_n C 0 dX3_digAt_7 rfl rfl ?_
  refine vv_iload_n C 1 dX3_digAt_8 rfl rfl ?_
  refine vv_callI (rest := [.int r2, .int a1, .ref (vv_q Y d)]) C yk_X3_heightAt vk_X3_heightAt lk_X3_116 kc_X3.1 (s_X3 hY hd) dX3_digAt_9 (mX3_heightAt hY hd h) rfl rfl ⟨Nat.le_of_ble_eq_true rfl, Nat.le_of_ble_eq_true rfl⟩ (Nat.le_of_ble_eq_true rfl) (fun r4 σ3 h => ?_)
  refine vv_iload_n C 2 dX3_digAt_12 rfl rfl ?_
  refine vv_isub C dX3_digAt_13 ?_
  refine vv_callV (rest := []) C yk_X3_remake vk_X3_remake lk_X3_119 kc_X3.1 (s_X3 hY hd) dX3_digAt_14 (mX3_remake hY hd h) rfl rfl ⟨Nat.le_of_ble_eq_true rfl, Nat.le_of_ble_eq_true rfl⟩ (Nat.le_of_ble_eq_true rfl) (fun σ5 h => ?_)
  exact vv_vret C dX3_digAt_17 h
set_option maxHeartbeats 2000000 in
set_option maxRecDepth 100000 in
theorem mX3_canRaise {Y : vv_Y} (hY : Y.2.2.2.2 = wC) {d : Nat} (hd : is_X3 d) {a1 : Int32} {a2 : Int32} {σ : vv_S} {post : Int32 → vv_S → Prop} (h : wX3_canRaise d a1 a2 σ post) : vv_MI Y yX3_canRaise cX3_canRaise 3 (some .boolean) 1 21 [.ref (vv_q Y d), .int a1, .int a2] σ post := by
  refine vv_ofI (by decide) (Nat.le_of_ble_eq_true rfl) (fun X C => ?_)
  have C : VC Y X RX3 cX3_canRaise 3 (some .boolean) 1 21 := C
  refine vv_sub [0, 1, 2] (L' := [(0, .ref (vv_q Y d)), (1, .int a1), (2, .int a2)]) rfl ?_
  refine vv_aload_n C 0 dX3_canRaise_0 rfl rfl ?_
  refine vv_iload_n C 1 dX3_canRaise_1 rfl rfl ?_
  refine vv_callI (rest := []) C yk_X3_heightAt vk_X3_heightAt lk_X3_116 kc_X3.1 (s_X3 hY hd) dX3_canRaise_2 (mX3_heightAt hY hd h) rfl rfl ⟨Nat.le_of_ble_eq_true rfl, Nat.le_of_ble_eq_true rfl⟩ (Nat.le_of_ble_eq_true rfl) (fun r2 σ1 h => ?_)
  refine vv_iload_n C 2 dX3_canRaise_5 rfl rfl ?_
  refine vv_iadd C dX3_canRaise_6 ?_
  refine vv_bipush C dX3_canRaise_7 kb_40 ?_
  refine vv_join (fun k => ∀ (v3 : Int32), k v3 → VJ Y X (va_Qi post (vv_B Y) X.2) 3 17 [] [.int v3] σ1) h (fun v3 h => ?_) (fun k17_3 hJk17_3 h => ?_)
  · exact vv_zret C h.1 dX3_canRaise_17 h.2
  · refine vv_icmp_gt (pc := 9) C 16 dX3_canRaise_9 (by decide) (fun hc5 => ?_) (fun hc5 => ?_)
    · replace h := h.1 hc5
      refine vv_iconst C dX3_canRaise_16 ki_0 ?_
      refine vv_sub [] (L' := []) rfl ?_
      exact hJk17_3 _ h
    · replace h := h.2 hc5
      refine vv_iconst C dX3_canRaise_12 ki_1 ?_
      refine vv_goto (pc := 13) (tgt := 17) C dX3_canRaise_13 (by decide) ?_
      refine vv_sub [] (L' := []) rfl ?_
      exact hJk17_3 _ h
set_option maxHeartbeats 2000000 in
set_option maxRecDepth 100000 in
theorem mX3_layAt {Y : vv_Y} (hY : Y.2.2.2.2 = wC) {d : Nat} (hd : is_X3 d) {a1 : Int32} {a2 : Int32} {a3 : Int32} {σ : vv_S} {post : vv_S → Prop} (h : wX3_layAt d a1 a2 a3 σ post) : vv_MV Y yX3_layAt cX3_layAt 4 none 3 65 [.ref (vv_q Y d), .int a1, .int a2, .int a3] σ post := by
  refine vv_ofV (by decide) (Nat.le_of_ble_eq_true rfl) (fun X C => ?_)
  have C : VC Y X RX3 cX3_layAt 4 none 3 65 := C
  refine vv_sub [0, 1, 2, 3] (L' := [(0, .ref (vv_q Y d)), (1, .int a1), (2, .int a2), (3, .int a3)]) rfl ?_
  refine vv_aload_n C 0 dX3_layAt_0 rfl rfl ?_
  refine vv_iload_n C 1 dX3_layAt_1 rfl rfl ?_
  refine vv_iload_n C 2 dX3_layAt_2 rfl rfl ?_
  refine vv_aload_n C 0 dX3_layAt_3 rfl rfl ?_
  refine vv_iload_n C 1 dX3_layAt_4 rfl rfl ?_
  refine vv_callI (rest := [.int a2, .int a1, .ref (vv_q Y d)]) C yk_X3_heightAt vk_X3_heightAt lk_X3_116 kc_X3.1 (s_X3 hY hd) dX3_layAt_5 (mX3_heightAt hY hd h) rfl rfl ⟨Nat.le_of_ble_eq_true rfl, Nat.le_of_ble_eq_true rfl⟩ (Nat.le_of_ble_eq_true rfl) (fun r2 σ1 h => ?_)
  refine vv_iload_n C 3 dX3_layAt_8 rfl rfl ?_
  refine vv_iadd C dX3_layAt_9 ?_
  refine vv_callV (rest := []) C yk_X3_remake vk_X3_remake lk_X3_119 kc_X3.1 (s_X3 hY hd) dX3_layAt_10 (mX3_remake hY hd h) rfl rfl ⟨Nat.le_of_ble_eq_true rfl, Nat.le_of_ble_eq_true rfl⟩ (Nat.le_of_ble_eq_true rfl) (fun σ3 h => ?_)
  exact vv_vret C dX3_layAt_13 h
set_option maxHeartbeats 2000000 in
set_option maxRecDepth 100000 in
theorem mX0_doOne {Y : vv_Y} (hY : Y.2.2.2.2 = wC) {a1 : Int32} {a2 : Int32} {a3 : Int32} {a4 : Int32} {o5 : Nat} (ho5 : is_X3 o5) {σ : vv_S} {post : vv_S → Prop} (h : wX0_doOne a1 a2 a3 a4 o5 σ post) : vv_MV Y yX0_doOne cX0_doOne 5 none 4 91 [.int a1, .int a2, .int a3, .int a4, .ref (vv_q Y o5)] σ post := by
  refine vv_ofV (by decide) (Nat.le_of_ble_eq_true rfl) (fun X C => ?_)
  have C : VC Y X RX0 cX0_doOne 5 none 4 91 := C
  refine vv_sub [0, 1, 2, 3, 4] (L' := [(0, .int a1), (1, .int a2), (2, .int a3), (3, .int a4), (4, .ref (vv_q Y o5))]) rfl ?_
  refine vv_iload_n C 0 dX0_doOne_0 rfl rfl ?_
  refine vv_join (fun k => ∀ (σ1 : vv_S), k σ1 → VJ Y X (va_Qv post (vv_B Y) X.2) 5 71 [] [] σ1) h (fun σ1 h => ?_) (fun k71_1 hJk71_1 h => ?_)
  · exact vv_vret C dX0_doOne_71 h
  · refine vv_join (fun k => ∀ (σ3 : vv_S), k σ3 → VJ Y X (va_Qv post (vv_B Y) X.2) 5 25 [(0, .int a1), (1, .int a2), (3, .int a4), (4, .ref (vv_q Y o5))] [] σ3) h (fun σ3 h => ?_) (fun k25_3 hJk25_3 h => ?_)
    · refine vv_iload_n C 0 dX0_doOne_25 rfl rfl ?_
      refine vv_iconst C dX0_doOne_26 ki_1 ?_
      refine vv_join (fun k => ∀ (σ5 : vv_S), k σ5 → VJ Y X (va_Qv post (vv_B Y) X.2) 5 50 [(0, .int a1), (3, .int a4), (4, .ref (vv_q Y o5))] [] σ5) h (fun σ5 h => ?_) (fun k50_5 hJk50_5 h => ?_)
      · refine vv_iload_n C 0 dX0_doOne_50 rfl rfl ?_
        refine vv_iconst C dX0_doOne_51 ki_2 ?_
        refine vv_icmp_ne (pc := 52) C 71 dX0_doOne_52 (by decide) (fun hc7 => ?_) (fun hc7 => ?_)
        · replace h := h.1 hc7
          refine vv_sub [] (L' := []) rfl ?_
          exact hJk71_1 _ h
        · replace h := h.2 hc7
          refine vv_aload C 2 dX0_doOne_55 rfl ?_
          refine vv_iload_n C 1 dX0_doOne_57 rfl rfl ?_
          refine vv_callI (rest := []) C yk_X3_canPass vk_X3_canPass lk_X0_58 kc_X3.1 (s_X3 hY ho5) dX0_doOne_58 (mX3_canPass hY ho5 h) rfl rfl ⟨Nat.le_of_ble_eq_true rfl, Nat.le_of_ble_eq_true rfl⟩ (Nat.le_of_ble_eq_true rfl) (fun r9 σ8 h => ?_)
          refine vv_if_eq (pc := 61) C 71 dX0_doOne_61 (by decide) (fun hc10 => ?_) (fun hc10 => ?_)
          · replace h := h.1 hc10
            refine vv_sub [] (L' := []) rfl ?_
            exact hJk71_1 _ h
          · replace h := h.2 hc10
            refine vv_aload C 2 dX0_doOne_64 rfl ?_
            refine vv_iload_n C 1 dX0_doOne_66 rfl rfl ?_
            refine vv_iconst C dX0_doOne_67 ki_0 ?_
            refine vv_callV (rest := []) C yk_X3_letPass vk_X3_letPass lk_X0_62 kc_X3.1 (s_X3 hY ho5) dX0_doOne_68 (mX3_letPass hY ho5 h) rfl rfl ⟨Nat.le_of_ble_eq_true rfl, Nat.le_of_ble_eq_true rfl⟩ (Nat.le_of_ble_eq_true rfl) (fun σ11 h => ?_)
            refine vv_sub [] (L' := []) rfl ?_
            exact hJk71_1 _ h
      · refine vv_icmp_ne (pc := 27) C 50 dX0_doOne_27 (by decide) (fun hc12 => ?_) (fun hc12 => ?_)
        · replace h := h.1 hc12
          refine vv_sub [0, 2, 3] (L' := [(0, .int a1), (3, .int a4), (4, .ref (vv_q Y o5))]) rfl ?_
          exact hJk50_5 _ h
        · replace h := h.2 hc12
          refine vv_aload C 3 dX0_doOne_30 rfl ?_
          refine vv_iload_n C 1 dX0_doOne_32 rfl rfl ?_
          refine vv_iload_n C 2 dX0_doOne_33 rfl rfl ?_
          refine vv_callI (rest := []) C yk_X3_canDig vk_X3_canDig lk_X0_51 kc_X3.1 (s_X3 hY ho5) dX0_doOne_34 (mX3_canDig hY ho5 h) rfl rfl ⟨Nat.le_of_ble_eq_true rfl, Nat.le_of_ble_eq_true rfl⟩ (Nat.le_of_ble_eq_true rfl) (fun r14 σ13 h => ?_)
          refine vv_if_eq (pc := 37) C 50 dX0_doOne_37 (by decide) (fun hc15 => ?_) (fun hc15 => ?_)
          · replace h := h.1 hc15
            refine vv_sub [0, 2, 3] (L' := [(0, .int a1), (3, .int a4), (4, .ref (vv_q Y o5))]) rfl ?_
            exact hJk50_5 _ h
          · replace h := h.2 hc15
            refine vv_aload C 3 dX0_doOne_40 rfl ?_
            refine vv_iload_n C 1 dX0_doOne_42 rfl rfl ?_
            refine vv_iload_n C 2 dX0_doOne_43 rfl rfl ?_
            refine vv_callV (rest := []) C yk_X3_digAt vk_X3_digAt lk_X0_54 kc_X3.1 (s_X3 hY ho5) dX0_doOne_44 (mX3_digAt hY ho5 h) rfl rfl ⟨Nat.le_of_ble_eq_true rfl, Nat.le_of_ble_eq_true rfl⟩ (Nat.le_of_ble_eq_true rfl) (fun σ16 h => ?_)
            refine vv_goto (pc := 47) (tgt := 71) C dX0_doOne_47 (by decide) ?_
            refine vv_sub [] (L' := []) rfl ?_
            exact hJk71_1 _ h
    · refine vv_if_ne (pc := 1) C 25 dX0_doOne_1 (by decide) (fun hc17 => ?_) (fun hc17 => ?_)
      · replace h := h.1 hc17
        refine vv_sub [0, 1, 3, 4] (L' := [(0, .int a1), (1, .int a2), (3, .int a4), (4, .ref (vv_q Y o5))]) rfl ?_
        exact hJk25_3 _ h
      · replace h := h.2 hc17
        refine vv_aload C 4 dX0_doOne_4 rfl ?_
        refine vv_iload_n C 1 dX0_doOne_6 rfl rfl ?_
        refine vv_iload_n C 3 dX0_doOne_7 rfl rfl ?_
        refine vv_callI (rest := []) C yk_X3_canRaise vk_X3_canRaise lk_X0_43 kc_X3.1 (s_X3 hY ho5) dX0_doOne_8 (mX3_canRaise hY ho5 h) rfl rfl ⟨Nat.le_of_ble_eq_true rfl, Nat.le_of_ble_eq_true rfl⟩ (Nat.le_of_ble_eq_true rfl) (fun r19 σ18 h => ?_)
        refine vv_if_eq (pc := 11) C 25 dX0_doOne_11 (by decide) (fun hc20 => ?_) (fun hc20 => ?_)
        · replace h := h.1 hc20
          refine vv_sub [0, 1, 3, 4] (L' := [(0, .int a1), (1, .int a2), (3, .int a4), (4, .ref (vv_q Y o5))]) rfl ?_
          exact hJk25_3 _ h
        · replace h := h.2 hc20
          refine vv_aload C 4 dX0_doOne_14 rfl ?_
          refine vv_iload_n C 1 dX0_doOne_16 rfl rfl ?_
          refine vv_iload_n C 2 dX0_doOne_17 rfl rfl ?_
          refine vv_iload_n C 3 dX0_doOne_18 rfl rfl ?_
          refine vv_callV (rest := []) C yk_X3_layAt vk_X3_layAt lk_X0_47 kc_X3.1 (s_X3 hY ho5) dX0_doOne_19 (mX3_layAt hY ho5 h) rfl rfl ⟨Nat.le_of_ble_eq_true rfl, Nat.le_of_ble_eq_true rfl⟩ (Nat.le_of_ble_eq_true rfl) (fun σ21 h => ?_)
          refine vv_goto (pc := 22) (tgt := 71) C dX0_doOne_22 (by decide) ?_
          refine vv_sub [] (L' := []) rfl ?_
          exact hJk71_1 _ h
set_option maxHeartbeats 2000000 in
set_option maxRecDepth 100000 in
theorem mX0_doAllBut {Y : vv_Y} (hY : Y.2.2.2.2 = wC) {d : Nat} (hd : is_X0 d) {a1 : Int32} {o2 : Nat} (ho2 : is_X3 o2) {σ : vv_S} {post : vv_S → Prop} (h : wX0_doAllBut d a1 o2 σ post) : vv_MV Y yX0_doAllBut cX0_doAllBut 4 none 5 115 [.ref (vv_q Y d), .int a1, .ref (vv_q Y o2)] σ post := by
  refine vv_ofV (by decide) (Nat.le_of_ble_eq_true rfl) (fun X C => ?_)
  have C : VC Y X RX0 cX0_doAllBut 4 none 5 115 := C
  refine vv_sub [0, 1, 2] (L' := [(0, .ref (vv_q Y d)), (1, .int a1), (2, .ref (vv_q Y o2))]) rfl ?_
  refine vv_aload_n C 2 dX0_doAllBut_0 rfl rfl ?_
  refine vv_callV (rest := []) C yk_X3_startAnew vk_X3_startAnew lk_X0_34 kc_X3.1 (s_X3 hY ho2) dX0_doAllBut_1 (mX3_startAnew hY ho2 h) rfl rfl ⟨Nat.le_of_ble_eq_true rfl, Nat.le_of_ble_eq_true rfl⟩ (Nat.le_of_ble_eq_true rfl) (fun σ1 h => ?_)
  refine vv_iconst C dX0_doAllBut_4 ki_0 ?_
  refine vv_istore_n (L' := [(3, .int (0 : Int32)), (0, .ref (vv_q Y d)), (1, .int a1), (2, .ref (vv_q Y o2))]) C dX0_doAllBut_5 rfl (by decide) rfl ?_
  refine vv_join (fun k => ∀ (σ2 : vv_S), k σ2 → VJ Y X (va_Qv post (vv_B Y) X.2) 4 59 [] [] σ2) h (fun σ2 h => ?_) (fun k59_2 hJk59_2 h => ?_)
  · exact vv_vret C dX0_doAllBut_59 h
  · obtain ⟨n6, h⟩ := h
    have hl1 : ∀ (n6 : Nat) (v4 : Int32) (σ5 : vv_S), lX0_doAllBut_1 d k59_2 a1 o2 n6 v4 σ5 → VJ Y X (va_Qv post (vv_B Y) X.2) 4 6 [(0, .ref (vv_q Y d)), (1, .int a1), (2, .ref (vv_q Y o2)), (3, .int v4)] [] σ5 := by
      clear h
      intro n6
      induction n6 with
      | zero => intro v4 σ5 h; exact False.elim h
      | succ n6 ih1 =>
        intro v4 σ5 h
        refine vv_iload_n C 3 dX0_doAllBut_6 rfl rfl ?_
        refine vv_aload_n C 0 dX0_doAllBut_7 rfl rfl ?_
        refine vv_geti C kc_X0 (s_X0 hY hd) 4 (by decide) rfl fk_X0_24 dX0_doAllBut_8 ?_
        refine vv_icmp_ge (pc := 11) C 59 dX0_doAllBut_11 (by decide) (fun hc7 => ?_) (fun hc7 => ?_)
        · replace h := h.1 hc7
          refine vv_sub [] (L' := []) rfl ?_
          exact hJk59_2 _ h
        · replace h := h.2 hc7
          refine vv_iload_n C 3 dX0_doAllBut_14 rfl rfl ?_
          refine vv_bipush C dX0_doAllBut_15 kb_30 ?_
          refine vv_icmp_ge (pc := 17) C 59 dX0_doAllBut_17 (by decide) (fun hc8 => ?_) (fun hc8 => ?_)
          · replace h := h.1 hc8
            refine vv_sub [] (L' := []) rfl ?_
            exact hJk59_2 _ h
          · replace h := h.2 hc8
            refine vv_iload_n C 3 dX0_doAllBut_20 rfl rfl ?_
            refine vv_iload_n C 1 dX0_doAllBut_21 rfl rfl ?_
            refine vv_join (fun k => ∀ (σ9 : vv_S), k σ9 → VJ Y X (va_Qv post (vv_B Y) X.2) 4 53 [(0, .ref (vv_q Y d)), (1, .int a1), (2, .ref (vv_q Y o2)), (3, .int v4)] [] σ9) h (fun σ9 h => ?_) (fun k53_9 hJk53_9 h => ?_)
            · obtain ⟨v11, ev11⟩ : ∃ z : Int32, z = v4 + (1 : Int32) := ⟨_, rfl⟩
              replace h := h v11 ev11
              refine vv_iinc (v := v11) (L' := [(3, .int v11), (0, .ref (vv_q Y d)), (1, .int a1), (2, .ref (vv_q Y o2))]) C 3 dX0_doAllBut_53 rfl ((kinc ki_1).trans ev11.symm) (by decide) rfl ?_
              refine vv_goto (pc := 56) (tgt := 6) C dX0_doAllBut_56 (by decide) ?_
              refine vv_sub [1, 2, 3, 0] (L' := [(0, .ref (vv_q Y d)), (1, .int a1), (2, .ref (vv_q Y o2)), (3, .int v11)]) rfl ?_
              exact ih1 _ _ h
            · refine vv_icmp_eq (pc := 22) C 53 dX0_doAllBut_22 (by decide) (fun hc12 => ?_) (fun hc12 => ?_)
              · replace h := h.1 hc12
                refine vv_sub [0, 1, 2, 3] (L' := [(0, .ref (vv_q Y d)), (1, .int a1), (2, .ref (vv_q Y o2)), (3, .int v4)]) rfl ?_
                exact hJk53_9 _ h
              · replace h := h.2 hc12
                refine vv_aload_n C 0 dX0_doAllBut_25 rfl rfl ?_
                refine vv_getr (r := (d + 1)) C kc_X0 (s_X0 hY hd) 0 (by decide) rfl fk_X0_9 dX0_doAllBut_26 ?_
                refine vv_iload_n C 3 dX0_doAllBut_29 rfl rfl ?_
                obtain ⟨hi13, h⟩ := h
                refine vv_iald C (a_X0_kinds hY hd) hi13 rfl dX0_doAllBut_30 ?_
                refine vv_aload_n C 0 dX0_doAllBut_31 rfl rfl ?_
                refine vv_getr (r := (d + 2)) C kc_X0 (s_X0 hY hd) 1 (by decide) rfl fk_X0_15 dX0_doAllBut_32 ?_
                refine vv_iload_n C 3 dX0_doAllBut_35 rfl rfl ?_
                obtain ⟨hi14, h⟩ := h
                refine vv_iald C (a_X0_places hY hd) hi14 rfl dX0_doAllBut_36 ?_
                refine vv_aload_n C 0 dX0_doAllBut_37 rfl rfl ?_
                refine vv_getr (r := (d + 3)) C kc_X0 (s_X0 hY hd) 2 (by decide) rfl fk_X0_18 dX0_doAllBut_38 ?_
                refine vv_iload_n C 3 dX0_doAllBut_41 rfl rfl ?_
                obtain ⟨hi15, h⟩ := h
                refine vv_iald C (a_X0_stuffs hY hd) hi15 rfl dX0_doAllBut_42 ?_
                refine vv_aload_n C 0 dX0_doAllBut_43 rfl rfl ?_
                refine vv_getr (r := (d + 4)) C kc_X0 (s_X0 hY hd) 3 (by decide) rfl fk_X0_21 dX0_doAllBut_44 ?_
                refine vv_iload_n C 3 dX0_doAllBut_47 rfl rfl ?_
                obtain ⟨hi16, h⟩ := h
                refine vv_iald C (a_X0_amounts hY hd) hi16 rfl dX0_doAllBut_48 ?_
                refine vv_aload_n C 2 dX0_doAllBut_49 rfl rfl ?_
                refine vv_callSv (rest := []) C yk_X0_doOne sk_X0_doOne lk_X0_39 dX0_doAllBut_50 (mX0_doOne hY ho2 h) rfl rfl ⟨Nat.le_of_ble_eq_true rfl, Nat.le_of_ble_eq_true rfl⟩ (Nat.le_of_ble_eq_true rfl) (fun σ17 h => ?_)
                refine vv_sub [0, 1, 2, 3] (L' := [(0, .ref (vv_q Y d)), (1, .int a1), (2, .ref (vv_q Y o2)), (3, .int v4)]) rfl ?_
                exact hJk53_9 _ h
    refine vv_sub [1, 2, 3, 0] (L' := [(0, .ref (vv_q Y d)), (1, .int a1), (2, .ref (vv_q Y o2)), (3, .int (0 : Int32))]) rfl ?_
    exact hl1 n6 _ _ h
set_option maxHeartbeats 2000000 in
set_option maxRecDepth 100000 in
theorem mX1_clear {Y : vv_Y} (hY : Y.2.2.2.2 = wC) {d : Nat} (hd : is_X1 d) {σ : vv_S} {post : vv_S → Prop} (h : wX1_clear d σ post) : vv_MV Y yX1_clear cX1_clear 1 none 0 0 [.ref (vv_q Y d)] σ post := by
  refine vv_ofV (by decide) (Nat.le_of_ble_eq_true rfl) (fun X C => ?_)
  have C : VC Y X RX1 cX1_clear 1 none 0 0 := C
  refine vv_sub [0] (L' := [(0, .ref (vv_q Y d))]) rfl ?_
  refine vv_aload_n C 0 dX1_clear_0 rfl rfl ?_
  refine vv_iconst C dX1_clear_1 ki_0 ?_
  refine vv_puti C kc_X1 (s_X1 hY hd) 2 (by decide) rfl pf_X1_2 fk_X1_30 dX1_clear_2 (fun σ1 eσ1 => ?_)
  replace h := h σ1 eσ1
  refine vv_aload_n C 0 dX1_clear_5 rfl rfl ?_
  refine vv_iconst C dX1_clear_6 ki_0 ?_
  refine vv_puti C kc_X1 (s_X1 hY hd) 6 (by decide) rfl pf_X1_6 fk_X1_34 dX1_clear_7 (fun σ2 eσ2 => ?_)
  replace h := h σ2 eσ2
  exact vv_vret C dX1_clear_10 h
set_option maxHeartbeats 2000000 in
set_option maxRecDepth 100000 in
theorem mX1_addFlow {Y : vv_Y} (hY : Y.2.2.2.2 = wC) {d : Nat} (hd : is_X1 d) {a1 : Int32} {a2 : Int32} {σ : vv_S} {post : Int32 → vv_S → Prop} (h : wX1_addFlow d a1 a2 σ post) : vv_MI Y yX1_addFlow cX1_addFlow 3 (some .boolean) 0 0 [.ref (vv_q Y d), .int a1, .int a2] σ post := by
  refine vv_ofI (by decide) (Nat.le_of_ble_eq_true rfl) (fun X C => ?_)
  have C : VC Y X RX1 cX1_addFlow 3 (some .boolean) 0 0 := C
  refine vv_sub [0, 1, 2] (L' := [(0, .ref (vv_q Y d)), (1, .int a1), (2, .int a2)]) rfl ?_
  refine vv_aload_n C 0 dX1_addFlow_0 rfl rfl ?_
  refine vv_geti C kc_X1 (s_X1 hY hd) 2 (by decide) rfl fk_X1_30 dX1_addFlow_1 ?_
  refine vv_join (fun k =>  k → VJ Y X (va_Qi post (vv_B Y) X.2) 3 21 [] [] σ) h (fun h => ?_) (fun k21_0 hJk21_0 h => ?_)
  · refine vv_iconst C dX1_addFlow_21 ki_0 ?_
    exact vv_zret C (Or.inl rfl) dX1_addFlow_22 h
  · refine vv_if_lt (pc := 4) C 21 dX1_addFlow_4 (by decide) (fun hc2 => ?_) (fun hc2 => ?_)
    · replace h := h.1 hc2
      refine vv_sub [] (L' := []) rfl ?_
      exact hJk21_0 h
    · replace h := h.2 hc2
      refine vv_aload_n C 0 dX1_addFlow_7 rfl rfl ?_
      refine vv_geti C kc_X1 (s_X1 hY hd) 2 (by decide) rfl fk_X1_30 dX1_addFlow_8 ?_
      refine vv_iconst C dX1_addFlow_11 ki_4 ?_
      refine vv_icmp_ge (pc := 12) C 21 dX1_addFlow_12 (by decide) (fun hc3 => ?_) (fun hc3 => ?_)
      · replace h := h.1 hc3
        refine vv_sub [] (L' := []) rfl ?_
        exact hJk21_0 h
      · replace h := h.2 hc3
        refine vv_iload_n C 2 dX1_addFlow_15 rfl rfl ?_
        refine vv_bipush C dX1_addFlow_16 kb_60 ?_
        refine vv_icmp_le (pc := 18) C 23 dX1_addFlow_18 (by decide) (fun hc4 => ?_) (fun hc4 => ?_)
        · replace h := h.1 hc4
          refine vv_aload_n C 0 dX1_addFlow_23 rfl rfl ?_
          refine vv_getr (r := (d + 1)) C kc_X1 (s_X1 hY hd) 0 (by decide) rfl fk_X1_9 dX1_addFlow_24 ?_
          refine vv_aload_n C 0 dX1_addFlow_27 rfl rfl ?_
          refine vv_geti C kc_X1 (s_X1 hY hd) 2 (by decide) rfl fk_X1_30 dX1_addFlow_28 ?_
          refine vv_iload_n C 1 dX1_addFlow_31 rfl rfl ?_
          obtain ⟨hi5, h⟩ := h
          refine vv_iast C (a_X1_flowFrom hY hd) hi5 rfl dX1_addFlow_32 (fun σ6 eσ6 => ?_)
          replace h := h σ6 eσ6
          refine vv_aload_n C 0 dX1_addFlow_33 rfl rfl ?_
          refine vv_getr (r := (d + 2)) C kc_X1 (s_X1 hY hd) 1 (by decide) rfl fk_X1_15 dX1_addFlow_34 ?_
          refine vv_aload_n C 0 dX1_addFlow_37 rfl rfl ?_
          refine vv_geti C kc_X1 (s_X1 hY hd) 2 (by decide) rfl fk_X1_30 dX1_addFlow_38 ?_
          refine vv_iload_n C 2 dX1_addFlow_41 rfl rfl ?_
          obtain ⟨hi7, h⟩ := h
          refine vv_iast C (a_X1_flowUnits hY hd) hi7 rfl dX1_addFlow_42 (fun σ8 eσ8 => ?_)
          replace h := h σ8 eσ8
          refine vv_aload_n C 0 dX1_addFlow_43 rfl rfl ?_
          refine vv_dup C dX1_addFlow_44 rfl ?_
          refine vv_geti C kc_X1 (s_X1 hY hd) 2 (by decide) rfl fk_X1_30 dX1_addFlow_45 ?_
          refine vv_iconst C dX1_addFlow_48 ki_1 ?_
          refine vv_iadd C dX1_addFlow_49 ?_
          refine vv_puti C kc_X1 (s_X1 hY hd) 2 (by decide) rfl pf_X1_2 fk_X1_30 dX1_addFlow_50 (fun σ9 eσ9 => ?_)
          replace h := h σ9 eσ9
          refine vv_iconst C dX1_addFlow_53 ki_1 ?_
          exact vv_zret C (Or.inr rfl) dX1_addFlow_54 h
        · replace h := h.2 hc4
          refine vv_sub [] (L' := []) rfl ?_
          exact hJk21_0 h
set_option maxHeartbeats 2000000 in
set_option maxRecDepth 100000 in
theorem mX1_addRain {Y : vv_Y} (hY : Y.2.2.2.2 = wC) {d : Nat} (hd : is_X1 d) {a1 : Int32} {a2 : Int32} {a3 : Int32} {σ : vv_S} {post : Int32 → vv_S → Prop} (h : wX1_addRain d a1 a2 a3 σ post) : vv_MI Y yX1_addRain cX1_addRain 4 (some .boolean) 0 0 [.ref (vv_q Y d), .int a1, .int a2, .int a3] σ post := by
  refine vv_ofI (by decide) (Nat.le_of_ble_eq_true rfl) (fun X C => ?_)
  have C : VC Y X RX1 cX1_addRain 4 (some .boolean) 0 0 := C
  refine vv_sub [0, 1, 2, 3] (L' := [(0, .ref (vv_q Y d)), (1, .int a1), (2, .int a2), (3, .int a3)]) rfl ?_
  refine vv_aload_n C 0 dX1_addRain_0 rfl rfl ?_
  refine vv_geti C kc_X1 (s_X1 hY hd) 6 (by decide) rfl fk_X1_34 dX1_addRain_1 ?_
  refine vv_join (fun k =>  k → VJ Y X (va_Qi post (vv_B Y) X.2) 4 26 [] [] σ) h (fun h => ?_) (fun k26_0 hJk26_0 h => ?_)
  · refine vv_iconst C dX1_addRain_26 ki_0 ?_
    exact vv_zret C (Or.inl rfl) dX1_addRain_27 h
  · refine vv_if_lt (pc := 4) C 26 dX1_addRain_4 (by decide) (fun hc2 => ?_) (fun hc2 => ?_)
    · replace h := h.1 hc2
      refine vv_sub [] (L' := []) rfl ?_
      exact hJk26_0 h
    · replace h := h.2 hc2
      refine vv_aload_n C 0 dX1_addRain_7 rfl rfl ?_
      refine vv_geti C kc_X1 (s_X1 hY hd) 6 (by decide) rfl fk_X1_34 dX1_addRain_8 ?_
      refine vv_iconst C dX1_addRain_11 ki_4 ?_
      refine vv_icmp_ge (pc := 12) C 26 dX1_addRain_12 (by decide) (fun hc3 => ?_) (fun hc3 => ?_)
      · replace h := h.1 hc3
        refine vv_sub [] (L' := []) rfl ?_
        exact hJk26_0 h
      · replace h := h.2 hc3
        refine vv_iload_n C 1 dX1_addRain_15 rfl rfl ?_
        refine vv_iload_n C 2 dX1_addRain_16 rfl rfl ?_
        refine vv_icmp_gt (pc := 17) C 26 dX1_addRain_17 (by decide) (fun hc4 => ?_) (fun hc4 => ?_)
        · replace h := h.1 hc4
          refine vv_sub [] (L' := []) rfl ?_
          exact hJk26_0 h
        · replace h := h.2 hc4
          refine vv_iload_n C 3 dX1_addRain_20 rfl rfl ?_
          refine vv_bipush C dX1_addRain_21 kb_30 ?_
          refine vv_icmp_le (pc := 23) C 28 dX1_addRain_23 (by decide) (fun hc5 => ?_) (fun hc5 => ?_)
          · replace h := h.1 hc5
            refine vv_aload_n C 0 dX1_addRain_28 rfl rfl ?_
            refine vv_getr (r := (d + 3)) C kc_X1 (s_X1 hY hd) 3 (by decide) rfl fk_X1_18 dX1_addRain_29 ?_
            refine vv_aload_n C 0 dX1_addRain_32 rfl rfl ?_
            refine vv_geti C kc_X1 (s_X1 hY hd) 6 (by decide) rfl fk_X1_34 dX1_addRain_33 ?_
            refine vv_iload_n C 1 dX1_addRain_36 rfl rfl ?_
            obtain ⟨hi6, h⟩ := h
            refine vv_iast C (a_X1_rainFrom hY hd) hi6 rfl dX1_addRain_37 (fun σ7 eσ7 => ?_)
            replace h := h σ7 eσ7
            refine vv_aload_n C 0 dX1_addRain_38 rfl rfl ?_
            refine vv_getr (r := (d + 4)) C kc_X1 (s_X1 hY hd) 4 (by decide) rfl fk_X1_21 dX1_addRain_39 ?_
            refine vv_aload_n C 0 dX1_addRain_42 rfl rfl ?_
            refine vv_geti C kc_X1 (s_X1 hY hd) 6 (by decide) rfl fk_X1_34 dX1_addRain_43 ?_
            refine vv_iload_n C 2 dX1_addRain_46 rfl rfl ?_
            obtain ⟨hi8, h⟩ := h
            refine vv_iast C (a_X1_rainTo hY hd) hi8 rfl dX1_addRain_47 (fun σ9 eσ9 => ?_)
            replace h := h σ9 eσ9
            refine vv_aload_n C 0 dX1_addRain_48 rfl rfl ?_
            refine vv_getr (r := (d + 5)) C kc_X1 (s_X1 hY hd) 5 (by decide) rfl fk_X1_24 dX1_addRain_49 ?_
            refine vv_aload_n C 0 dX1_addRain_52 rfl rfl ?_
            refine vv_geti C kc_X1 (s_X1 hY hd) 6 (by decide) rfl fk_X1_34 dX1_addRain_53 ?_
            refine vv_iload_n C 3 dX1_addRain_56 rfl rfl ?_
            obtain ⟨hi10, h⟩ := h
            refine vv_iast C (a_X1_rainUnits hY hd) hi10 rfl dX1_addRain_57 (fun σ11 eσ11 => ?_)
            replace h := h σ11 eσ11
            refine vv_aload_n C 0 dX1_addRain_58 rfl rfl ?_
            refine vv_dup C dX1_addRain_59 rfl ?_
            refine vv_geti C kc_X1 (s_X1 hY hd) 6 (by decide) rfl fk_X1_34 dX1_addRain_60 ?_
            refine vv_iconst C dX1_addRain_63 ki_1 ?_
            refine vv_iadd C dX1_addRain_64 ?_
            refine vv_puti C kc_X1 (s_X1 hY hd) 6 (by decide) rfl pf_X1_6 fk_X1_34 dX1_addRain_65 (fun σ12 eσ12 => ?_)
            replace h := h σ12 eσ12
            refine vv_iconst C dX1_addRain_68 ki_1 ?_
            exact vv_zret C (Or.inr rfl) dX1_addRain_69 h
          · replace h := h.2 hc5
            refine vv_sub [] (L' := []) rfl ?_
            exact hJk26_0 h
set_option maxHeartbeats 2000000 in
set_option maxRecDepth 100000 in
theorem mX1_flowIn {Y : vv_Y} (hY : Y.2.2.2.2 = wC) {d : Nat} (hd : is_X1 d) {a1 : Int32} {σ : vv_S} {post : Int32 → vv_S → Prop} (h : wX1_flowIn d a1 σ post) : vv_MI Y yX1_flowIn cX1_flowIn 5 (some .int) 0 0 [.ref (vv_q Y d), .int a1] σ post := by
  refine vv_ofI (by decide) (Nat.le_of_ble_eq_true rfl) (fun X C => ?_)
  have C : VC Y X RX1 cX1_flowIn 5 (some .int) 0 0 := C
  refine vv_sub [0, 1] (L' := [(0, .ref (vv_q Y d)), (1, .int a1)]) rfl ?_
  refine vv_bipush C dX1_flowIn_0 kb_m4 ?_
  refine vv_istore_n (L' := [(2, .int (-4 : Int32)), (0, .ref (vv_q Y d)), (1, .int a1)]) C dX1_flowIn_2 rfl (by decide) rfl ?_
  refine vv_iconst C dX1_flowIn_3 ki_0 ?_
  refine vv_istore_n (L' := [(3, .int (0 : Int32)), (2, .int (-4 : Int32)), (0, .ref (vv_q Y d)), (1, .int a1)]) C dX1_flowIn_4 rfl (by decide) rfl ?_
  refine vv_iconst C dX1_flowIn_5 ki_0 ?_
  refine vv_istore (L' := [(4, .int (0 : Int32)), (3, .int (0 : Int32)), (2, .int (-4 : Int32)), (0, .ref (vv_q Y d)), (1, .int a1)]) C dX1_flowIn_6 (by decide) rfl ?_
  refine vv_join (fun k => ∀ (v1 : Int32), k v1 → VJ Y X (va_Qi post (vv_B Y) X.2) 5 67 [(3, .int v1)] [] σ) h (fun v1 h => ?_) (fun k67_1 hJk67_1 h => ?_)
  · refine vv_iload_n C 0 dX1_flowIn_67 rfl rfl ?_
    exact vv_iret C dX1_flowIn_68 h
  · obtain ⟨n6, h⟩ := h
    have hl1 : ∀ (n6 : Nat) (v3 : Int32) (v4 : Int32) (v5 : Int32), lX1_flowIn_1 σ d k67_1 a1 n6 v3 v4 v5 → VJ Y X (va_Qi post (vv_B Y) X.2) 5 8 [(0, .ref (vv_q Y d)), (1, .int a1), (2, .int v3), (3, .int v4), (4, .int v5)] [] σ := by
      clear h
      intro n6
      induction n6 with
      | zero => intro v3 v4 v5 h; exact False.elim h
      | succ n6 ih1 =>
        intro v3 v4 v5 h
        refine vv_iload C 4 dX1_flowIn_8 rfl ?_
        refine vv_aload_n C 0 dX1_flowIn_10 rfl rfl ?_
        refine vv_geti C kc_X1 (s_X1 hY hd) 2 (by decide) rfl fk_X1_30 dX1_flowIn_11 ?_
        refine vv_icmp_ge (pc := 14) C 67 dX1_flowIn_14 (by decide) (fun hc7 => ?_) (fun hc7 => ?_)
        · replace h := h.1 hc7
          refine vv_sub [3] (L' := [(3, .int v4)]) rfl ?_
          exact hJk67_1 _ h
        · replace h := h.2 hc7
          refine vv_iload C 4 dX1_flowIn_17 rfl ?_
          refine vv_iconst C dX1_flowIn_19 ki_4 ?_
          refine vv_icmp_ge (pc := 20) C 67 dX1_flowIn_20 (by decide) (fun hc8 => ?_) (fun hc8 => ?_)
          · replace h := h.1 hc8
            refine vv_sub [3] (L' := [(3, .int v4)]) rfl ?_
            exact hJk67_1 _ h
          · replace h := h.2 hc8
            refine vv_aload_n C 0 dX1_flowIn_23 rfl rfl ?_
            refine vv_getr (r := (d + 1)) C kc_X1 (s_X1 hY hd) 0 (by decide) rfl fk_X1_9 dX1_flowIn_24 ?_
            refine vv_iload C 4 dX1_flowIn_27 rfl ?_
            obtain ⟨hi9, h⟩ := h
            refine vv_iald C (a_X1_flowFrom hY hd) hi9 rfl dX1_flowIn_29 ?_
            refine vv_iload_n C 1 dX1_flowIn_30 rfl rfl ?_
            refine vv_join (fun k => ∀ (v10 : Int32) (v11 : Int32), k v10 v11 → VJ Y X (va_Qi post (vv_B Y) X.2) 5 61 [(0, .ref (vv_q Y d)), (1, .int a1), (2, .int v10), (3, .int v11), (4, .int v5)] [] σ) h (fun v10 v11 h => ?_) (fun k61_11 hJk61_11 h => ?_)
            · obtain ⟨v13, ev13⟩ : ∃ z : Int32, z = v5 + (1 : Int32) := ⟨_, rfl⟩
              replace h := h v13 ev13
              refine vv_iinc (v := v13) (L' := [(4, .int v13), (0, .ref (vv_q Y d)), (1, .int a1), (2, .int v10), (3, .int v11)]) C 4 dX1_flowIn_61 rfl ((kinc ki_1).trans ev13.symm) (by decide) rfl ?_
              refine vv_goto (pc := 64) (tgt := 8) C dX1_flowIn_64 (by decide) ?_
              refine vv_sub [1, 2, 3, 4, 0] (L' := [(0, .ref (vv_q Y d)), (1, .int a1), (2, .int v10), (3, .int v11), (4, .int v13)]) rfl ?_
              exact ih1 _ _ _ h
            · refine vv_icmp_gt (pc := 31) C 61 dX1_flowIn_31 (by decide) (fun hc14 => ?_) (fun hc14 => ?_)
              · replace h := h.1 hc14
                refine vv_sub [0, 1, 2, 3, 4] (L' := [(0, .ref (vv_q Y d)), (1, .int a1), (2, .int v3), (3, .int v4), (4, .int v5)]) rfl ?_
                exact hJk61_11 _ _ h
              · replace h := h.2 hc14
                refine vv_aload_n C 0 dX1_flowIn_34 rfl rfl ?_
                refine vv_getr (r := (d + 1)) C kc_X1 (s_X1 hY hd) 0 (by decide) rfl fk_X1_9 dX1_flowIn_35 ?_
                refine vv_iload C 4 dX1_flowIn_38 rfl ?_
                obtain ⟨hi15, h⟩ := h
                refine vv_iald C (a_X1_flowFrom hY hd) hi15 rfl dX1_flowIn_40 ?_
                refine vv_iload_n C 2 dX1_flowIn_41 rfl rfl ?_
                refine vv_icmp_lt (pc := 42) C 61 dX1_flowIn_42 (by decide) (fun hc16 => ?_) (fun hc16 => ?_)
                · replace h := h.1 hc16
                  refine vv_sub [0, 1, 2, 3, 4] (L' := [(0, .ref (vv_q Y d)), (1, .int a1), (2, .int v3), (3, .int v4), (4, .int v5)]) rfl ?_
                  exact hJk61_11 _ _ h
                · replace h := h.2 hc16
                  refine vv_aload_n C 0 dX1_flowIn_45 rfl rfl ?_
                  refine vv_getr (r := (d + 1)) C kc_X1 (s_X1 hY hd) 0 (by decide) rfl fk_X1_9 dX1_flowIn_46 ?_
                  refine vv_iload C 4 dX1_flowIn_49 rfl ?_
                  obtain ⟨hi17, h⟩ := h
                  refine vv_iald C (a_X1_flowFrom hY hd) hi17 rfl dX1_flowIn_51 ?_
                  refine vv_nm (fun v18 ev18 => ?_)
                  replace h := h v18 ev18
                  refine vv_istore_n (L' := [(2, .int v18), (0, .ref (vv_q Y d)), (1, .int a1), (3, .int v4), (4, .int v5)]) C dX1_flowIn_52 rfl (by decide) rfl ?_
                  refine vv_aload_n C 1 dX1_flowIn_53 rfl rfl ?_
                  refine vv_getr (r := (d + 2)) C kc_X1 (s_X1 hY hd) 1 (by decide) rfl fk_X1_15 dX1_flowIn_54 ?_
                  refine vv_iload C 4 dX1_flowIn_57 rfl ?_
                  obtain ⟨hi19, h⟩ := h
                  refine vv_iald C (a_X1_flowUnits hY hd) hi19 rfl dX1_flowIn_59 ?_
                  refine vv_nm (fun v20 ev20 => ?_)
                  replace h := h v20 ev20
                  refine vv_istore_n (L' := [(3, .int v20), (2, .int v18), (0, .ref (vv_q Y d)), (1, .int a1), (4, .int v5)]) C dX1_flowIn_60 rfl (by decide) rfl ?_
                  refine vv_sub [2, 3, 1, 0, 4] (L' := [(0, .ref (vv_q Y d)), (1, .int a1), (2, .int v18), (3, .int v20), (4, .int v5)]) rfl ?_
                  exact hJk61_11 _ _ h
    refine vv_sub [3, 4, 2, 1, 0] (L' := [(0, .ref (vv_q Y d)), (1, .int a1), (2, .int (-4 : Int32)), (3, .int (0 : Int32)), (4, .int (0 : Int32))]) rfl ?_
    exact hl1 n6 _ _ _ h
set_option maxHeartbeats 2000000 in
set_option maxRecDepth 100000 in
theorem mX1_rainIn {Y : vv_Y} (hY : Y.2.2.2.2 = wC) {d : Nat} (hd : is_X1 d) {a1 : Int32} {σ : vv_S} {post : Int32 → vv_S → Prop} (h : wX1_rainIn d a1 σ post) : vv_MI Y yX1_rainIn cX1_rainIn 4 (some .int) 0 0 [.ref (vv_q Y d), .int a1] σ post := by
  refine vv_ofI (by decide) (Nat.le_of_ble_eq_true rfl) (fun X C => ?_)
  have C : VC Y X RX1 cX1_rainIn 4 (some .int) 0 0 := C
  refine vv_sub [0, 1] (L' := [(0, .ref (vv_q Y d)), (1, .int a1)]) rfl ?_
  refine vv_iconst C dX1_rainIn_0 ki_0 ?_
  refine vv_istore_n (L' := [(2, .int (0 : Int32)), (0, .ref (vv_q Y d)), (1, .int a1)]) C dX1_rainIn_1 rfl (by decide) rfl ?_
  refine vv_iconst C dX1_rainIn_2 ki_0 ?_
  refine vv_istore_n (L' := [(3, .int (0 : Int32)), (2, .int (0 : Int32)), (0, .ref (vv_q Y d)), (1, .int a1)]) C dX1_rainIn_3 rfl (by decide) rfl ?_
  refine vv_join (fun k => ∀ (v1 : Int32), k v1 → VJ Y X (va_Qi post (vv_B Y) X.2) 4 52 [(2, .int v1)] [] σ) h (fun v1 h => ?_) (fun k52_1 hJk52_1 h => ?_)
  · refine vv_iload_n C 0 dX1_rainIn_52 rfl rfl ?_
    exact vv_iret C dX1_rainIn_53 h
  · obtain ⟨n5, h⟩ := h
    have hl1 : ∀ (n5 : Nat) (v3 : Int32) (v4 : Int32), lX1_rainIn_1 σ d k52_1 a1 n5 v3 v4 → VJ Y X (va_Qi post (vv_B Y) X.2) 4 4 [(0, .ref (vv_q Y d)), (1, .int a1), (2, .int v3), (3, .int v4)] [] σ := by
      clear h
      intro n5
      induction n5 with
      | zero => intro v3 v4 h; exact False.elim h
      | succ n5 ih1 =>
        intro v3 v4 h
        refine vv_iload_n C 3 dX1_rainIn_4 rfl rfl ?_
        refine vv_aload_n C 0 dX1_rainIn_5 rfl rfl ?_
        refine vv_geti C kc_X1 (s_X1 hY hd) 6 (by decide) rfl fk_X1_34 dX1_rainIn_6 ?_
        refine vv_icmp_ge (pc := 9) C 52 dX1_rainIn_9 (by decide) (fun hc6 => ?_) (fun hc6 => ?_)
        · replace h := h.1 hc6
          refine vv_sub [2] (L' := [(2, .int v3)]) rfl ?_
          exact hJk52_1 _ h
        · replace h := h.2 hc6
          refine vv_iload_n C 3 dX1_rainIn_12 rfl rfl ?_
          refine vv_iconst C dX1_rainIn_13 ki_4 ?_
          refine vv_icmp_ge (pc := 14) C 52 dX1_rainIn_14 (by decide) (fun hc7 => ?_) (fun hc7 => ?_)
          · replace h := h.1 hc7
            refine vv_sub [2] (L' := [(2, .int v3)]) rfl ?_
            exact hJk52_1 _ h
          · replace h := h.2 hc7
            refine vv_aload_n C 0 dX1_rainIn_17 rfl rfl ?_
            refine vv_getr (r := (d + 3)) C kc_X1 (s_X1 hY hd) 3 (by decide) rfl fk_X1_18 dX1_rainIn_18 ?_
            refine vv_iload_n C 3 dX1_rainIn_21 rfl rfl ?_
            obtain ⟨hi8, h⟩ := h
            refine vv_iald C (a_X1_rainFrom hY hd) hi8 rfl dX1_rainIn_22 ?_
            refine vv_iload_n C 1 dX1_rainIn_23 rfl rfl ?_
            refine vv_join (fun k => ∀ (v9 : Int32), k v9 → VJ Y X (va_Qi post (vv_B Y) X.2) 4 46 [(0, .ref (vv_q Y d)), (1, .int a1), (2, .int v9), (3, .int v4)] [] σ) h (fun v9 h => ?_) (fun k46_9 hJk46_9 h => ?_)
            · obtain ⟨v11, ev11⟩ : ∃ z : Int32, z = v4 + (1 : Int32) := ⟨_, rfl⟩
              replace h := h v11 ev11
              refine vv_iinc (v := v11) (L' := [(3, .int v11), (0, .ref (vv_q Y d)), (1, .int a1), (2, .int v9)]) C 3 dX1_rainIn_46 rfl ((kinc ki_1).trans ev11.symm) (by decide) rfl ?_
              refine vv_goto (pc := 49) (tgt := 4) C dX1_rainIn_49 (by decide) ?_
              refine vv_sub [1, 2, 3, 0] (L' := [(0, .ref (vv_q Y d)), (1, .int a1), (2, .int v9), (3, .int v11)]) rfl ?_
              exact ih1 _ _ h
            · refine vv_icmp_gt (pc := 24) C 46 dX1_rainIn_24 (by decide) (fun hc12 => ?_) (fun hc12 => ?_)
              · replace h := h.1 hc12
                refine vv_sub [0, 1, 2, 3] (L' := [(0, .ref (vv_q Y d)), (1, .int a1), (2, .int v3), (3, .int v4)]) rfl ?_
                exact hJk46_9 _ h
              · replace h := h.2 hc12
                refine vv_iload_n C 1 dX1_rainIn_27 rfl rfl ?_
                refine vv_aload_n C 0 dX1_rainIn_28 rfl rfl ?_
                refine vv_getr (r := (d + 4)) C kc_X1 (s_X1 hY hd) 4 (by decide) rfl fk_X1_21 dX1_rainIn_29 ?_
                refine vv_iload_n C 3 dX1_rainIn_32 rfl rfl ?_
                obtain ⟨hi13, h⟩ := h
                refine vv_iald C (a_X1_rainTo hY hd) hi13 rfl dX1_rainIn_33 ?_
                refine vv_icmp_gt (pc := 34) C 46 dX1_rainIn_34 (by decide) (fun hc14 => ?_) (fun hc14 => ?_)
                · replace h := h.1 hc14
                  refine vv_sub [0, 1, 2, 3] (L' := [(0, .ref (vv_q Y d)), (1, .int a1), (2, .int v3), (3, .int v4)]) rfl ?_
                  exact hJk46_9 _ h
                · replace h := h.2 hc14
                  refine vv_iload_n C 2 dX1_rainIn_37 rfl rfl ?_
                  refine vv_aload_n C 0 dX1_rainIn_38 rfl rfl ?_
                  refine vv_getr (r := (d + 5)) C kc_X1 (s_X1 hY hd) 5 (by decide) rfl fk_X1_24 dX1_rainIn_39 ?_
                  refine vv_iload_n C 3 dX1_rainIn_42 rfl rfl ?_
                  obtain ⟨hi15, h⟩ := h
                  refine vv_iald C (a_X1_rainUnits hY hd) hi15 rfl dX1_rainIn_43 ?_
                  refine vv_iadd C dX1_rainIn_44 ?_
                  refine vv_nm (fun v16 ev16 => ?_)
                  replace h := h v16 ev16
                  refine vv_istore_n (L' := [(2, .int v16), (0, .ref (vv_q Y d)), (1, .int a1), (3, .int v4)]) C dX1_rainIn_45 rfl (by decide) rfl ?_
                  refine vv_sub [1, 2, 0, 3] (L' := [(0, .ref (vv_q Y d)), (1, .int a1), (2, .int v16), (3, .int v4)]) rfl ?_
                  exact hJk46_9 _ h
    refine vv_sub [2, 3, 1, 0] (L' := [(0, .ref (vv_q Y d)), (1, .int a1), (2, .int (0 : Int32)), (3, .int (0 : Int32))]) rfl ?_
    exact hl1 n5 _ _ h
set_option maxHeartbeats 2000000 in
set_option maxRecDepth 100000 in
theorem mX1_settle {Y : vv_Y} (hY : Y.2.2.2.2 = wC) {d : Nat} (hd : is_X1 d) {σ : vv_S} {post : vv_S → Prop} (h : wX1_settle d σ post) : vv_MV Y yX1_settle cX1_settle 2 none 1 24 [.ref (vv_q Y d)] σ post := by
  refine vv_ofV (by decide) (Nat.le_of_ble_eq_true rfl) (fun X C => ?_)
  have C : VC Y X RX1 cX1_settle 2 none 1 24 := C
  refine vv_sub [0] (L' := [(0, .ref (vv_q Y d))]) rfl ?_
  refine vv_iconst C dX1_settle_0 ki_0 ?_
  refine vv_istore_n (L' := [(1, .int (0 : Int32)), (0, .ref (vv_q Y d))]) C dX1_settle_1 rfl (by decide) rfl ?_
  obtain ⟨n3, h⟩ := h
  have hl1 : ∀ (n3 : Nat) (v1 : Int32) (σ2 : vv_S), lX1_settle_1 post d n3 v1 σ2 → VJ Y X (va_Qv post (vv_B Y) X.2) 2 2 [(0, .ref (vv_q Y d)), (1, .int v1)] [] σ2 := by
    clear h
    intro n3
    induction n3 with
    | zero => intro v1 σ2 h; exact False.elim h
    | succ n3 ih1 =>
      intro v1 σ2 h
      refine vv_iload_n C 1 dX1_settle_2 rfl rfl ?_
      refine vv_bipush C dX1_settle_3 kb_100 ?_
      refine vv_icmp_gt (pc := 5) C 31 dX1_settle_5 (by decide) (fun hc4 => ?_) (fun hc4 => ?_)
      · replace h := h.1 hc4
        exact vv_vret C dX1_settle_31 h
      · replace h := h.2 hc4
        refine vv_aload_n C 0 dX1_settle_8 rfl rfl ?_
        refine vv_getr (r := (d + 6)) C kc_X1 (s_X1 hY hd) 7 (by decide) rfl fk_X1_27 dX1_settle_9 ?_
        refine vv_iload_n C 1 dX1_settle_12 rfl rfl ?_
        refine vv_aload_n C 0 dX1_settle_13 rfl rfl ?_
        refine vv_iload_n C 1 dX1_settle_14 rfl rfl ?_
        refine vv_callI (rest := [.int v1, .ref (vv_q Y (d + 6))]) C yk_X1_flowIn vk_X1_flowIn lk_X1_37 kc_X1.1 (s_X1 hY hd) dX1_settle_15 (mX1_flowIn hY hd h) rfl rfl ⟨Nat.le_of_ble_eq_true rfl, Nat.le_of_ble_eq_true rfl⟩ (Nat.le_of_ble_eq_true rfl) (fun r6 σ5 h => ?_)
        refine vv_aload_n C 0 dX1_settle_18 rfl rfl ?_
        refine vv_iload_n C 1 dX1_settle_19 rfl rfl ?_
        refine vv_callI (rest := [.int r6, .int v1, .ref (vv_q Y (d + 6))]) C yk_X1_rainIn vk_X1_rainIn lk_X1_41 kc_X1.1 (s_X1 hY hd) dX1_settle_20 (mX1_rainIn hY hd h) rfl rfl ⟨Nat.le_of_ble_eq_true rfl, Nat.le_of_ble_eq_true rfl⟩ (Nat.le_of_ble_eq_true rfl) (fun r8 σ7 h => ?_)
        refine vv_iadd C dX1_settle_23 ?_
        obtain ⟨hi9, h⟩ := h
        refine vv_iast C (a_X1_byMinute hY hd) hi9 rfl dX1_settle_24 (fun σ10 eσ10 => ?_)
        replace h := h σ10 eσ10
        obtain ⟨v11, ev11⟩ : ∃ z : Int32, z = v1 + (1 : Int32) := ⟨_, rfl⟩
        replace h := h v11 ev11
        refine vv_iinc (v := v11) (L' := [(1, .int v11), (0, .ref (vv_q Y d))]) C 1 dX1_settle_25 rfl ((kinc ki_1).trans ev11.symm) (by decide) rfl ?_
        refine vv_goto (pc := 28) (tgt := 2) C dX1_settle_28 (by decide) ?_
        refine vv_sub [1, 0] (L' := [(0, .ref (vv_q Y d)), (1, .int v11)]) rfl ?_
        exact ih1 _ _ h
  refine vv_sub [1, 0] (L' := [(0, .ref (vv_q Y d)), (1, .int (0 : Int32))]) rfl ?_
  exact hl1 n3 _ _ h
set_option maxHeartbeats 2000000 in
set_option maxRecDepth 100000 in
theorem mX2_clear {Y : vv_Y} (hY : Y.2.2.2.2 = wC) {d : Nat} (hd : is_X2 d) {σ : vv_S} {post : vv_S → Prop} (h : wX2_clear d σ post) : vv_MV Y yX2_clear cX2_clear 1 none 0 0 [.ref (vv_q Y d)] σ post := by
  refine vv_ofV (by decide) (Nat.le_of_ble_eq_true rfl) (fun X C => ?_)
  have C : VC Y X RX2 cX2_clear 1 none 0 0 := C
  refine vv_sub [0] (L' := [(0, .ref (vv_q Y d))]) rfl ?_
  refine vv_aload_n C 0 dX2_clear_0 rfl rfl ?_
  refine vv_iconst C dX2_clear_1 ki_0 ?_
  refine vv_puti C kc_X2 (s_X2 hY hd) 1 (by decide) rfl pf_X2_1 fk_X2_26 dX2_clear_2 (fun σ1 eσ1 => ?_)
  replace h := h σ1 eσ1
  refine vv_aload_n C 0 dX2_clear_5 rfl rfl ?_
  refine vv_iconst C dX2_clear_6 ki_0 ?_
  refine vv_puti C kc_X2 (s_X2 hY hd) 4 (by decide) rfl pf_X2_4 fk_X2_30 dX2_clear_7 (fun σ2 eσ2 => ?_)
  replace h := h σ2 eσ2
  exact vv_vret C dX2_clear_10 h
set_option maxHeartbeats 2000000 in
set_option maxRecDepth 100000 in
theorem mX7_numberAt {Y : vv_Y} (hY : Y.2.2.2.2 = wC) {a1 : Int32} {σ : vv_S} {post : Int32 → vv_S → Prop} (h : wX7_numberAt a1 σ post) : vv_MI Y yX7_numberAt cX7_numberAt 2 (some .int) 0 0 [.ref (vv_q Y 1), .int a1] σ post := by
  refine vv_ofI (by decide) (Nat.le_of_ble_eq_true rfl) (fun X C => ?_)
  have C : VC Y X RX7 cX7_numberAt 2 (some .int) 0 0 := C
  refine vv_sub [0, 1] (L' := [(0, .ref (vv_q Y 1)), (1, .int a1)]) rfl ?_
  refine vv_iload_n C 1 dX7_numberAt_0 rfl rfl ?_
  refine vv_join (fun k => ∀ (v1 : Int32), k v1 → VJ Y X (va_Qi post (vv_B Y) X.2) 2 27 [] [.int v1] σ) h (fun v1 h => ?_) (fun k27_1 hJk27_1 h => ?_)
  · exact vv_iret C dX7_numberAt_27 h
  · refine vv_join (fun k =>  k → VJ Y X (va_Qi post (vv_B Y) X.2) 2 26 [] [] σ) h (fun h => ?_) (fun k26_2 hJk26_2 h => ?_)
    · refine vv_iconst C dX7_numberAt_26 ki_0 ?_
      refine vv_sub [] (L' := []) rfl ?_
      exact hJk27_1 _ h
    · refine vv_if_lt (pc := 1) C 26 dX7_numberAt_1 (by decide) (fun hc4 => ?_) (fun hc4 => ?_)
      · replace h := h.1 hc4
        refine vv_sub [] (L' := []) rfl ?_
        exact hJk26_2 h
      · replace h := h.2 hc4
        refine vv_iload_n C 1 dX7_numberAt_4 rfl rfl ?_
        refine vv_aload_n C 0 dX7_numberAt_5 rfl rfl ?_
        refine vv_geti C kc_X7 (s_X7 hY) 3 (by decide) rfl fk_X7_22 dX7_numberAt_6 ?_
        refine vv_icmp_ge (pc := 9) C 26 dX7_numberAt_9 (by decide) (fun hc5 => ?_) (fun hc5 => ?_)
        · replace h := h.1 hc5
          refine vv_sub [] (L' := []) rfl ?_
          exact hJk26_2 h
        · replace h := h.2 hc5
          refine vv_iload_n C 1 dX7_numberAt_12 rfl rfl ?_
          refine vv_iconst C dX7_numberAt_13 ki_4 ?_
          refine vv_icmp_ge (pc := 14) C 26 dX7_numberAt_14 (by decide) (fun hc6 => ?_) (fun hc6 => ?_)
          · replace h := h.1 hc6
            refine vv_sub [] (L' := []) rfl ?_
            exact hJk26_2 h
          · replace h := h.2 hc6
            refine vv_aload_n C 0 dX7_numberAt_17 rfl rfl ?_
            refine vv_getr (r := 3) C kc_X7 (s_X7 hY) 2 (by decide) rfl fk_X7_15 dX7_numberAt_18 ?_
            refine vv_iload_n C 1 dX7_numberAt_21 rfl rfl ?_
            obtain ⟨hi7, h⟩ := h
            refine vv_iald C (a_X7_numbers hY) hi7 rfl dX7_numberAt_22 ?_
            refine vv_goto (pc := 23) (tgt := 27) C dX7_numberAt_23 (by decide) ?_
            refine vv_sub [] (L' := []) rfl ?_
            exact hJk27_1 _ h
set_option maxHeartbeats 2000000 in
set_option maxRecDepth 100000 in
theorem mX2_addChild {Y : vv_Y} (hY : Y.2.2.2.2 = wC) {d : Nat} (hd : is_X2 d) {σ : vv_S} {post : Int32 → vv_S → Prop} (h : wX2_addChild d σ post) : vv_MI Y yX2_addChild cX2_addChild 3 (some .boolean) 1 21 [.ref (vv_q Y d), .ref (vv_q Y 1)] σ post := by
  refine vv_ofI (by decide) (Nat.le_of_ble_eq_true rfl) (fun X C => ?_)
  have C : VC Y X RX2 cX2_addChild 3 (some .boolean) 1 21 := C
  refine vv_sub [0, 1] (L' := [(0, .ref (vv_q Y d)), (1, .ref (vv_q Y 1))]) rfl ?_
  refine vv_aload_n C 0 dX2_addChild_0 rfl rfl ?_
  refine vv_geti C kc_X2 (s_X2 hY hd) 1 (by decide) rfl fk_X2_26 dX2_addChild_1 ?_
  refine vv_join (fun k =>  k → VJ Y X (va_Qi post (vv_B Y) X.2) 3 15 [] [] σ) h (fun h => ?_) (fun k15_0 hJk15_0 h => ?_)
  · refine vv_iconst C dX2_addChild_15 ki_0 ?_
    exact vv_zret C (Or.inl rfl) dX2_addChild_16 h
  · refine vv_if_lt (pc := 4) C 15 dX2_addChild_4 (by decide) (fun hc2 => ?_) (fun hc2 => ?_)
    · replace h := h.1 hc2
      refine vv_sub [] (L' := []) rfl ?_
      exact hJk15_0 h
    · replace h := h.2 hc2
      refine vv_aload_n C 0 dX2_addChild_7 rfl rfl ?_
      refine vv_geti C kc_X2 (s_X2 hY hd) 1 (by decide) rfl fk_X2_26 dX2_addChild_8 ?_
      refine vv_iconst C dX2_addChild_11 ki_4 ?_
      refine vv_icmp_lt (pc := 12) C 17 dX2_addChild_12 (by decide) (fun hc3 => ?_) (fun hc3 => ?_)
      · replace h := h.1 hc3
        refine vv_iconst C dX2_addChild_17 ki_0 ?_
        refine vv_istore_n (L' := [(2, .int (0 : Int32)), (0, .ref (vv_q Y d)), (1, .ref (vv_q Y 1))]) C dX2_addChild_18 rfl (by decide) rfl ?_
        refine vv_join (fun k => ∀ (σ4 : vv_S), k σ4 → VJ Y X (va_Qi post (vv_B Y) X.2) 3 58 [(0, .ref (vv_q Y d))] [] σ4) h (fun σ4 h => ?_) (fun k58_4 hJk58_4 h => ?_)
        · refine vv_aload_n C 0 dX2_addChild_58 rfl rfl ?_
          refine vv_dup C dX2_addChild_59 rfl ?_
          refine vv_geti C kc_X2 (s_X2 hY hd) 1 (by decide) rfl fk_X2_26 dX2_addChild_60 ?_
          refine vv_iconst C dX2_addChild_63 ki_1 ?_
          refine vv_iadd C dX2_addChild_64 ?_
          refine vv_puti C kc_X2 (s_X2 hY hd) 1 (by decide) rfl pf_X2_1 fk_X2_26 dX2_addChild_65 (fun σ6 eσ6 => ?_)
          replace h := h σ6 eσ6
          refine vv_iconst C dX2_addChild_68 ki_1 ?_
          exact vv_zret C (Or.inr rfl) dX2_addChild_69 h
        · obtain ⟨n9, h⟩ := h
          have hl1 : ∀ (n9 : Nat) (v7 : Int32) (σ8 : vv_S), lX2_addChild_1 k58_4 d post n9 v7 σ8 → VJ Y X (va_Qi post (vv_B Y) X.2) 3 19 [(0, .ref (vv_q Y d)), (1, .ref (vv_q Y 1)), (2, .int v7)] [] σ8 := by
            clear h
            intro n9
            induction n9 with
            | zero => intro v7 σ8 h; exact False.elim h
            | succ n9 ih1 =>
              intro v7 σ8 h
              refine vv_iload_n C 2 dX2_addChild_19 rfl rfl ?_
              refine vv_iconst C dX2_addChild_20 ki_4 ?_
              refine vv_icmp_ge (pc := 21) C 58 dX2_addChild_21 (by decide) (fun hc10 => ?_) (fun hc10 => ?_)
              · replace h := h.1 hc10
                refine vv_sub [0] (L' := [(0, .ref (vv_q Y d))]) rfl ?_
                exact hJk58_4 _ h
              · replace h := h.2 hc10
                refine vv_aload_n C 1 dX2_addChild_24 rfl rfl ?_
                refine vv_iload_n C 2 dX2_addChild_25 rfl rfl ?_
                refine vv_callI (rest := []) C yk_X7_numberAt vk_X7_numberAt lk_X2_33 kc_X7.1 (s_X7 hY) dX2_addChild_26 (mX7_numberAt hY h) rfl rfl ⟨Nat.le_of_ble_eq_true rfl, Nat.le_of_ble_eq_true rfl⟩ (Nat.le_of_ble_eq_true rfl) (fun r12 σ11 h => ?_)
                refine vv_bipush C dX2_addChild_29 kb_9 ?_
                refine vv_icmp_le (pc := 31) C 36 dX2_addChild_31 (by decide) (fun hc13 => ?_) (fun hc13 => ?_)
                · replace h := h.1 hc13
                  refine vv_aload_n C 0 dX2_addChild_36 rfl rfl ?_
                  refine vv_getr (r := (d + 1)) C kc_X2 (s_X2 hY hd) 0 (by decide) rfl fk_X2_11 dX2_addChild_37 ?_
                  refine vv_aload_n C 0 dX2_addChild_40 rfl rfl ?_
                  refine vv_geti C kc_X2 (s_X2 hY hd) 1 (by decide) rfl fk_X2_26 dX2_addChild_41 ?_
                  obtain ⟨hi14, h⟩ := h
                  refine vv_aaldA C (a_X2_lays hY hd) hi14 dX2_addChild_44 ?_
                  refine vv_iload_n C 2 dX2_addChild_45 rfl rfl ?_
                  refine vv_aload_n C 1 dX2_addChild_46 rfl rfl ?_
                  refine vv_iload_n C 2 dX2_addChild_47 rfl rfl ?_
                  refine vv_callI (rest := [.int v7, .ref (vv_q Y (d + 2 + 1 * ((σ11 d 1)).toNatClampNeg))]) C yk_X7_numberAt vk_X7_numberAt lk_X2_33 kc_X7.1 (s_X7 hY) dX2_addChild_48 (mX7_numberAt hY h) rfl rfl ⟨Nat.le_of_ble_eq_true rfl, Nat.le_of_ble_eq_true rfl⟩ (Nat.le_of_ble_eq_true rfl) (fun r16 σ15 h => ?_)
                  obtain ⟨hi17, h⟩ := h
                  refine vv_iast C (r_X2_lays hY hd hi14) hi17 rfl dX2_addChild_51 (fun σ18 eσ18 => ?_)
                  replace h := h σ18 eσ18
                  obtain ⟨v19, ev19⟩ : ∃ z : Int32, z = v7 + (1 : Int32) := ⟨_, rfl⟩
                  replace h := h v19 ev19
                  refine vv_iinc (v := v19) (L' := [(2, .int v19), (0, .ref (vv_q Y d)), (1, .ref (vv_q Y 1))]) C 2 dX2_addChild_52 rfl ((kinc ki_1).trans ev19.symm) (by decide) rfl ?_
                  refine vv_goto (pc := 55) (tgt := 19) C dX2_addChild_55 (by decide) ?_
                  refine vv_sub [1, 2, 0] (L' := [(0, .ref (vv_q Y d)), (1, .ref (vv_q Y 1)), (2, .int v19)]) rfl ?_
                  exact ih1 _ _ h
                · replace h := h.2 hc13
                  refine vv_iconst C dX2_addChild_34 ki_0 ?_
                  exact vv_zret C (Or.inl rfl) dX2_addChild_35 h
          refine vv_sub [1, 2, 0] (L' := [(0, .ref (vv_q Y d)), (1, .ref (vv_q Y 1)), (2, .int (0 : Int32))]) rfl ?_
          exact hl1 n9 _ _ h
      · replace h := h.2 hc3
        refine vv_sub [] (L' := []) rfl ?_
        exact hJk15_0 h
set_option maxHeartbeats 2000000 in
set_option maxRecDepth 100000 in
theorem mX8_isWithin {Y : vv_Y} (hY : Y.2.2.2.2 = wC) {a1 : Int32} {a2 : Int32} {a3 : Int32} {σ : vv_S} {post : Int32 → vv_S → Prop} (h : wX8_isWithin a1 a2 a3 σ post) : vv_MI Y yX8_isWithin cX8_isWithin 3 (some .boolean) 0 0 [.int a1, .int a2, .int a3] σ post := by
  refine vv_ofI (by decide) (Nat.le_of_ble_eq_true rfl) (fun X C => ?_)
  have C : VC Y X RX8 cX8_isWithin 3 (some .boolean) 0 0 := C
  refine vv_sub [0, 1, 2] (L' := [(0, .int a1), (1, .int a2), (2, .int a3)]) rfl ?_
  refine vv_iload_n C 0 dX8_isWithin_0 rfl rfl ?_
  refine vv_iload_n C 1 dX8_isWithin_1 rfl rfl ?_
  refine vv_join (fun k => ∀ (v1 : Int32), k v1 → VJ Y X (va_Qi post (vv_B Y) X.2) 3 15 [] [.int v1] σ) h (fun v1 h => ?_) (fun k15_1 hJk15_1 h => ?_)
  · exact vv_zret C h.1 dX8_isWithin_15 h.2
  · refine vv_join (fun k =>  k → VJ Y X (va_Qi post (vv_B Y) X.2) 3 14 [] [] σ) h (fun h => ?_) (fun k14_2 hJk14_2 h => ?_)
    · refine vv_iconst C dX8_isWithin_14 ki_0 ?_
      refine vv_sub [] (L' := []) rfl ?_
      exact hJk15_1 _ h
    · refine vv_icmp_lt (pc := 2) C 14 dX8_isWithin_2 (by decide) (fun hc4 => ?_) (fun hc4 => ?_)
      · replace h := h.1 hc4
        refine vv_sub [] (L' := []) rfl ?_
        exact hJk14_2 h
      · replace h := h.2 hc4
        refine vv_iload_n C 0 dX8_isWithin_5 rfl rfl ?_
        refine vv_iload_n C 2 dX8_isWithin_6 rfl rfl ?_
        refine vv_icmp_gt (pc := 7) C 14 dX8_isWithin_7 (by decide) (fun hc5 => ?_) (fun hc5 => ?_)
        · replace h := h.1 hc5
          refine vv_sub [] (L' := []) rfl ?_
          exact hJk14_2 h
        · replace h := h.2 hc5
          refine vv_iconst C dX8_isWithin_10 ki_1 ?_
          refine vv_goto (pc := 11) (tgt := 15) C dX8_isWithin_11 (by decide) ?_
          refine vv_sub [] (L' := []) rfl ?_
          exact hJk15_1 _ h
set_option maxHeartbeats 2000000 in
set_option maxRecDepth 100000 in
theorem mX8_isStuff {Y : vv_Y} (hY : Y.2.2.2.2 = wC) {a1 : Int32} {σ : vv_S} {post : Int32 → vv_S → Prop} (h : wX8_isStuff a1 σ post) : vv_MI Y yX8_isStuff cX8_isStuff 1 (some .boolean) 1 22 [.int a1] σ post := by
  refine vv_ofI (by decide) (Nat.le_of_ble_eq_true rfl) (fun X C => ?_)
  have C : VC Y X RX8 cX8_isStuff 1 (some .boolean) 1 22 := C
  refine vv_sub [0] (L' := [(0, .int a1)]) rfl ?_
  refine vv_iload_n C 0 dX8_isStuff_0 rfl rfl ?_
  refine vv_iconst C dX8_isStuff_1 ki_0 ?_
  refine vv_iconst C dX8_isStuff_2 ki_3 ?_
  refine vv_callS (rest := []) C yk_X8_isWithin sk_X8_isWithin lk_X8_92 dX8_isStuff_3 (mX8_isWithin hY h) rfl rfl ⟨Nat.le_of_ble_eq_true rfl, Nat.le_of_ble_eq_true rfl⟩ (Nat.le_of_ble_eq_true rfl) (fun r2 σ1 h => ?_)
  exact vv_zret C h.1 dX8_isStuff_6 h.2
set_option maxHeartbeats 2000000 in
set_option maxRecDepth 100000 in
theorem mX2_addJob {Y : vv_Y} (hY : Y.2.2.2.2 = wC) {d : Nat} (hd : is_X2 d) {a1 : Int32} {a2 : Int32} {σ : vv_S} {post : Int32 → vv_S → Prop} (h : wX2_addJob d a1 a2 σ post) : vv_MI Y yX2_addJob cX2_addJob 3 (some .boolean) 2 42 [.ref (vv_q Y d), .int a1, .int a2] σ post := by
  refine vv_ofI (by decide) (Nat.le_of_ble_eq_true rfl) (fun X C => ?_)
  have C : VC Y X RX2 cX2_addJob 3 (some .boolean) 2 42 := C
  refine vv_sub [0, 1, 2] (L' := [(0, .ref (vv_q Y d)), (1, .int a1), (2, .int a2)]) rfl ?_
  refine vv_aload_n C 0 dX2_addJob_0 rfl rfl ?_
  refine vv_geti C kc_X2 (s_X2 hY hd) 4 (by decide) rfl fk_X2_30 dX2_addJob_1 ?_
  refine vv_join (fun k => ∀ (σ1 : vv_S), k σ1 → VJ Y X (va_Qi post (vv_B Y) X.2) 3 32 [] [] σ1) h (fun σ1 h => ?_) (fun k32_1 hJk32_1 h => ?_)
  · refine vv_iconst C dX2_addJob_32 ki_0 ?_
    exact vv_zret C (Or.inl rfl) dX2_addJob_33 h
  · refine vv_if_lt (pc := 4) C 32 dX2_addJob_4 (by decide) (fun hc3 => ?_) (fun hc3 => ?_)
    · replace h := h.1 hc3
      refine vv_sub [] (L' := []) rfl ?_
      exact hJk32_1 _ h
    · replace h := h.2 hc3
      refine vv_aload_n C 0 dX2_addJob_7 rfl rfl ?_
      refine vv_geti C kc_X2 (s_X2 hY hd) 4 (by decide) rfl fk_X2_30 dX2_addJob_8 ?_
      refine vv_iconst C dX2_addJob_11 ki_5 ?_
      refine vv_icmp_ge (pc := 12) C 32 dX2_addJob_12 (by decide) (fun hc4 => ?_) (fun hc4 => ?_)
      · replace h := h.1 hc4
        refine vv_sub [] (L' := []) rfl ?_
        exact hJk32_1 _ h
      · replace h := h.2 hc4
        refine vv_iload_n C 1 dX2_addJob_15 rfl rfl ?_
        refine vv_callSN (rest := []) C yk_X8_isStuff sk_X8_isStuff lk_X2_39 dX2_addJob_16 (mX8_isStuff hY h) rfl rfl ⟨Nat.le_of_ble_eq_true rfl, Nat.le_of_ble_eq_true rfl⟩ (Nat.le_of_ble_eq_true rfl) (fun r6 σ5 h => ?_)
        refine vv_if_eq (pc := 19) C 32 dX2_addJob_19 (by decide) (fun hc7 => ?_) (fun hc7 => ?_)
        · replace h := h.1 hc7
          refine vv_sub [] (L' := []) rfl ?_
          exact hJk32_1 _ h
        · replace h := h.2 hc7
          refine vv_iload_n C 2 dX2_addJob_22 rfl rfl ?_
          refine vv_iconst C dX2_addJob_23 ki_1 ?_
          refine vv_bipush C dX2_addJob_24 kb_30 ?_
          refine vv_callSN (rest := []) C yk_X8_isWithin sk_X8_isWithin lk_X2_43 dX2_addJob_26 (mX8_isWithin hY h) rfl rfl ⟨Nat.le_of_ble_eq_true rfl, Nat.le_of_ble_eq_true rfl⟩ (Nat.le_of_ble_eq_true rfl) (fun r9 σ8 h => ?_)
          refine vv_if_ne (pc := 29) C 34 dX2_addJob_29 (by decide) (fun hc10 => ?_) (fun hc10 => ?_)
          · replace h := h.1 hc10
            refine vv_aload_n C 0 dX2_addJob_34 rfl rfl ?_
            refine vv_getr (r := (d + 6)) C kc_X2 (s_X2 hY hd) 2 (by decide) rfl fk_X2_16 dX2_addJob_35 ?_
            refine vv_aload_n C 0 dX2_addJob_38 rfl rfl ?_
            refine vv_geti C kc_X2 (s_X2 hY hd) 4 (by decide) rfl fk_X2_30 dX2_addJob_39 ?_
            refine vv_iload_n C 1 dX2_addJob_42 rfl rfl ?_
            obtain ⟨hi11, h⟩ := h
            refine vv_iast C (a_X2_jobStuff hY hd) hi11 rfl dX2_addJob_43 (fun σ12 eσ12 => ?_)
            replace h := h σ12 eσ12
            refine vv_aload_n C 0 dX2_addJob_44 rfl rfl ?_
            refine vv_getr (r := (d + 7)) C kc_X2 (s_X2 hY hd) 3 (by decide) rfl fk_X2_20 dX2_addJob_45 ?_
            refine vv_aload_n C 0 dX2_addJob_48 rfl rfl ?_
            refine vv_geti C kc_X2 (s_X2 hY hd) 4 (by decide) rfl fk_X2_30 dX2_addJob_49 ?_
            refine vv_iload_n C 2 dX2_addJob_52 rfl rfl ?_
            obtain ⟨hi13, h⟩ := h
            refine vv_iast C (a_X2_jobInches hY hd) hi13 rfl dX2_addJob_53 (fun σ14 eσ14 => ?_)
            replace h := h σ14 eσ14
            refine vv_aload_n C 0 dX2_addJob_54 rfl rfl ?_
            refine vv_dup C dX2_addJob_55 rfl ?_
            refine vv_geti C kc_X2 (s_X2 hY hd) 4 (by decide) rfl fk_X2_30 dX2_addJob_56 ?_
            refine vv_iconst C dX2_addJob_59 ki_1 ?_
            refine vv_iadd C dX2_addJob_60 ?_
            refine vv_puti C kc_X2 (s_X2 hY hd) 4 (by decide) rfl pf_X2_4 fk_X2_30 dX2_addJob_61 (fun σ15 eσ15 => ?_)
            replace h := h σ15 eσ15
            refine vv_iconst C dX2_addJob_64 ki_1 ?_
            exact vv_zret C (Or.inr rfl) dX2_addJob_65 h
          · replace h := h.2 hc10
            refine vv_sub [] (L' := []) rfl ?_
            exact hJk32_1 _ h
set_option maxHeartbeats 2000000 in
set_option maxRecDepth 100000 in
theorem mX2_childCount {Y : vv_Y} (hY : Y.2.2.2.2 = wC) {d : Nat} (hd : is_X2 d) {σ : vv_S} {post : Int32 → vv_S → Prop} (h : wX2_childCount d σ post) : vv_MI Y yX2_childCount cX2_childCount 1 (some .int) 0 0 [.ref (vv_q Y d)] σ post := by
  refine vv_ofI (by decide) (Nat.le_of_ble_eq_true rfl) (fun X C => ?_)
  have C : VC Y X RX2 cX2_childCount 1 (some .int) 0 0 := C
  refine vv_sub [0] (L' := [(0, .ref (vv_q Y d))]) rfl ?_
  refine vv_aload_n C 0 dX2_childCount_0 rfl rfl ?_
  refine vv_geti C kc_X2 (s_X2 hY hd) 1 (by decide) rfl fk_X2_26 dX2_childCount_1 ?_
  exact vv_iret C dX2_childCount_4 h
set_option maxHeartbeats 2000000 in
set_option maxRecDepth 100000 in
theorem mX2_jobCount {Y : vv_Y} (hY : Y.2.2.2.2 = wC) {d : Nat} (hd : is_X2 d) {σ : vv_S} {post : Int32 → vv_S → Prop} (h : wX2_jobCount d σ post) : vv_MI Y yX2_jobCount cX2_jobCount 1 (some .int) 0 0 [.ref (vv_q Y d)] σ post := by
  refine vv_ofI (by decide) (Nat.le_of_ble_eq_true rfl) (fun X C => ?_)
  have C : VC Y X RX2 cX2_jobCount 1 (some .int) 0 0 := C
  refine vv_sub [0] (L' := [(0, .ref (vv_q Y d))]) rfl ?_
  refine vv_aload_n C 0 dX2_jobCount_0 rfl rfl ?_
  refine vv_geti C kc_X2 (s_X2 hY hd) 4 (by decide) rfl fk_X2_30 dX2_jobCount_1 ?_
  exact vv_iret C dX2_jobCount_4 h
set_option maxHeartbeats 2000000 in
set_option maxRecDepth 100000 in
theorem mX2_wayCount {Y : vv_Y} (hY : Y.2.2.2.2 = wC) {d : Nat} (hd : is_X2 d) {σ : vv_S} {post : Int32 → vv_S → Prop} (h : wX2_wayCount d σ post) : vv_MI Y yX2_wayCount cX2_wayCount 3 (some .int) 0 0 [.ref (vv_q Y d)] σ post := by
  refine vv_ofI (by decide) (Nat.le_of_ble_eq_true rfl) (fun X C => ?_)
  have C : VC Y X RX2 cX2_wayCount 3 (some .int) 0 0 := C
  refine vv_sub [0] (L' := [(0, .ref (vv_q Y d))]) rfl ?_
  refine vv_iconst C dX2_wayCount_0 ki_1 ?_
  refine vv_istore_n (L' := [(1, .int (1 : Int32)), (0, .ref (vv_q Y d))]) C dX2_wayCount_1 rfl (by decide) rfl ?_
  refine vv_iconst C dX2_wayCount_2 ki_0 ?_
  refine vv_istore_n (L' := [(2, .int (0 : Int32)), (1, .int (1 : Int32)), (0, .ref (vv_q Y d))]) C dX2_wayCount_3 rfl (by decide) rfl ?_
  obtain ⟨n3, h⟩ := h
  have hl1 : ∀ (n3 : Nat) (v1 : Int32) (v2 : Int32), lX2_wayCount_1 σ d post n3 v1 v2 → VJ Y X (va_Qi post (vv_B Y) X.2) 3 4 [(0, .ref (vv_q Y d)), (1, .int v1), (2, .int v2)] [] σ := by
    clear h
    intro n3
    induction n3 with
    | zero => intro v1 v2 h; exact False.elim h
    | succ n3 ih1 =>
      intro v1 v2 h
      refine vv_iload_n C 2 dX2_wayCount_4 rfl rfl ?_
      refine vv_aload_n C 0 dX2_wayCount_5 rfl rfl ?_
      refine vv_geti C kc_X2 (s_X2 hY hd) 4 (by decide) rfl fk_X2_30 dX2_wayCount_6 ?_
      refine vv_icmp_ge (pc := 9) C 25 dX2_wayCount_9 (by decide) (fun hc4 => ?_) (fun hc4 => ?_)
      · replace h := h.1 hc4
        refine vv_iload_n C 1 dX2_wayCount_25 rfl rfl ?_
        exact vv_iret C dX2_wayCount_26 h
      · replace h := h.2 hc4
        refine vv_iload_n C 1 dX2_wayCount_12 rfl rfl ?_
        refine vv_aload_n C 0 dX2_wayCount_13 rfl rfl ?_
        refine vv_geti C kc_X2 (s_X2 hY hd) 1 (by decide) rfl fk_X2_26 dX2_wayCount_14 ?_
        refine vv_imul C dX2_wayCount_17 ?_
        refine vv_nm (fun v5 ev5 => ?_)
        replace h := h v5 ev5
        refine vv_istore_n (L' := [(1, .int v5), (0, .ref (vv_q Y d)), (2, .int v2)]) C dX2_wayCount_18 rfl (by decide) rfl ?_
        obtain ⟨v6, ev6⟩ : ∃ z : Int32, z = v2 + (1 : Int32) := ⟨_, rfl⟩
        replace h := h v6 ev6
        refine vv_iinc (v := v6) (L' := [(2, .int v6), (1, .int v5), (0, .ref (vv_q Y d))]) C 2 dX2_wayCount_19 rfl ((kinc ki_1).trans ev6.symm) (by decide) rfl ?_
        refine vv_goto (pc := 22) (tgt := 4) C dX2_wayCount_22 (by decide) ?_
        refine vv_sub [2, 1, 0] (L' := [(0, .ref (vv_q Y d)), (1, .int v5), (2, .int v6)]) rfl ?_
        exact ih1 _ _ h
  refine vv_sub [2, 1, 0] (L' := [(0, .ref (vv_q Y d)), (1, .int (1 : Int32)), (2, .int (0 : Int32))]) rfl ?_
  exact hl1 n3 _ _ h
set_option maxHeartbeats 2000000 in
set_option maxRecDepth 100000 in
theorem mX2_whoDoes {Y : vv_Y} (hY : Y.2.2.2.2 = wC) {d : Nat} (hd : is_X2 d) {a1 : Int32} {a2 : Int32} {σ : vv_S} {post : Int32 → vv_S → Prop} (h : wX2_whoDoes d a1 a2 σ post) : vv_MI Y yX2_whoDoes cX2_whoDoes 5 (some .int) 0 0 [.ref (vv_q Y d), .int a1, .int a2] σ post := by
  refine vv_ofI (by decide) (Nat.le_of_ble_eq_true rfl) (fun X C => ?_)
  have C : VC Y X RX2 cX2_whoDoes 5 (some .int) 0 0 := C
  refine vv_sub [0, 1, 2] (L' := [(0, .ref (vv_q Y d)), (1, .int a1), (2, .int a2)]) rfl ?_
  refine vv_aload_n C 0 dX2_whoDoes_0 rfl rfl ?_
  refine vv_geti C kc_X2 (s_X2 hY hd) 1 (by decide) rfl fk_X2_26 dX2_whoDoes_1 ?_
  refine vv_iconst C dX2_whoDoes_4 ki_1 ?_
  refine vv_icmp_ge (pc := 5) C 11 dX2_whoDoes_5 (by decide) (fun hc1 => ?_) (fun hc1 => ?_)
  · replace h := h.1 hc1
    refine vv_iload_n C 2 dX2_whoDoes_11 rfl rfl ?_
    refine vv_istore_n (L' := [(3, .int a2), (0, .ref (vv_q Y d)), (1, .int a1), (2, .int a2)]) C dX2_whoDoes_12 rfl (by decide) rfl ?_
    refine vv_aload_n C 1 dX2_whoDoes_13 rfl rfl ?_
    refine vv_geti C kc_X2 (s_X2 hY hd) 4 (by decide) rfl fk_X2_30 dX2_whoDoes_14 ?_
    refine vv_iconst C dX2_whoDoes_17 ki_1 ?_
    refine vv_isub C dX2_whoDoes_18 ?_
    refine vv_nm (fun v2 ev2 => ?_)
    replace h := h v2 ev2
    refine vv_istore (L' := [(4, .int v2), (3, .int a2), (0, .ref (vv_q Y d)), (1, .int a1), (2, .int a2)]) C dX2_whoDoes_19 (by decide) rfl ?_
    refine vv_join (fun k => ∀ (v3 : Int32), k v3 → VJ Y X (va_Qi post (vv_B Y) X.2) 5 40 [(0, .ref (vv_q Y d)), (3, .int v3)] [] σ) h (fun v3 h => ?_) (fun k40_3 hJk40_3 h => ?_)
    · refine vv_iload_n C 1 dX2_whoDoes_40 rfl rfl ?_
      refine vv_aload_n C 0 dX2_whoDoes_41 rfl rfl ?_
      refine vv_geti C kc_X2 (s_X2 hY hd) 1 (by decide) rfl fk_X2_26 dX2_whoDoes_42 ?_
      obtain ⟨hne, h⟩ := h
      refine vv_irem C dX2_whoDoes_45 hne ?_
      exact vv_iret C dX2_whoDoes_46 h
    · obtain ⟨n7, h⟩ := h
      have hl1 : ∀ (n7 : Nat) (v5 : Int32) (v6 : Int32), lX2_whoDoes_1 a1 k40_3 σ d n7 v5 v6 → VJ Y X (va_Qi post (vv_B Y) X.2) 5 21 [(0, .ref (vv_q Y d)), (1, .int a1), (3, .int v5), (4, .int v6)] [] σ := by
        clear h
        intro n7
        induction n7 with
        | zero => intro v5 v6 h; exact False.elim h
        | succ n7 ih1 =>
          intro v5 v6 h
          refine vv_iload C 3 dX2_whoDoes_21 rfl ?_
          refine vv_iload_n C 1 dX2_whoDoes_23 rfl rfl ?_
          refine vv_icmp_le (pc := 24) C 40 dX2_whoDoes_24 (by decide) (fun hc8 => ?_) (fun hc8 => ?_)
          · replace h := h.1 hc8
            refine vv_sub [0, 2] (L' := [(0, .ref (vv_q Y d)), (3, .int v5)]) rfl ?_
            exact hJk40_3 _ h
          · replace h := h.2 hc8
            refine vv_iload_n C 2 dX2_whoDoes_27 rfl rfl ?_
            refine vv_aload_n C 0 dX2_whoDoes_28 rfl rfl ?_
            refine vv_geti C kc_X2 (s_X2 hY hd) 1 (by decide) rfl fk_X2_26 dX2_whoDoes_29 ?_
            obtain ⟨hne, h⟩ := h
            refine vv_idiv C dX2_whoDoes_32 hne ?_
            refine vv_nm (fun v9 ev9 => ?_)
            replace h := h v9 ev9
            refine vv_istore_n (L' := [(3, .int v9), (0, .ref (vv_q Y d)), (1, .int a1), (4, .int v6)]) C dX2_whoDoes_33 rfl (by decide) rfl ?_
            obtain ⟨v10, ev10⟩ : ∃ z : Int32, z = v6 + (-1 : Int32) := ⟨_, rfl⟩
            replace h := h v10 ev10
            refine vv_iinc (v := v10) (L' := [(4, .int v10), (3, .int v9), (0, .ref (vv_q Y d)), (1, .int a1)]) C 3 dX2_whoDoes_34 rfl ((kinc ki_m1).trans ev10.symm) (by decide) rfl ?_
            refine vv_goto (pc := 37) (tgt := 21) C dX2_whoDoes_37 (by decide) ?_
            refine vv_sub [2, 3, 1, 0] (L' := [(0, .ref (vv_q Y d)), (1, .int a1), (3, .int v9), (4, .int v10)]) rfl ?_
            exact ih1 _ _ h
      refine vv_sub [2, 3, 1, 0] (L' := [(0, .ref (vv_q Y d)), (1, .int a1), (3, .int a2), (4, .int v2)]) rfl ?_
      exact hl1 n7 _ _ h
  · replace h := h.2 hc1
    refine vv_bipush C dX2_whoDoes_8 kb_m4 ?_
    exact vv_iret C dX2_whoDoes_10 h
set_option maxHeartbeats 2000000 in
set_option maxRecDepth 100000 in
theorem mX2_minutesFor {Y : vv_Y} (hY : Y.2.2.2.2 = wC) {d : Nat} (hd : is_X2 d) {a1 : Int32} {a2 : Int32} {σ : vv_S} {post : Int32 → vv_S → Prop} (h : wX2_minutesFor d a1 a2 σ post) : vv_MI Y yX2_minutesFor cX2_minutesFor 4 (some .int) 0 0 [.ref (vv_q Y d), .int a1, .int a2] σ post := by
  refine vv_ofI (by decide) (Nat.le_of_ble_eq_true rfl) (fun X C => ?_)
  have C : VC Y X RX2 cX2_minutesFor 4 (some .int) 0 0 := C
  refine vv_sub [0, 1, 2] (L' := [(0, .ref (vv_q Y d)), (1, .int a1), (2, .int a2)]) rfl ?_
  refine vv_iload_n C 1 dX2_minutesFor_0 rfl rfl ?_
  refine vv_join (fun k =>  k → VJ Y X (va_Qi post (vv_B Y) X.2) 4 24 [] [] σ) h (fun h => ?_) (fun k24_0 hJk24_0 h => ?_)
  · refine vv_bipush C dX2_minutesFor_24 kb_m4 ?_
    exact vv_iret C dX2_minutesFor_26 h
  · refine vv_if_lt (pc := 1) C 24 dX2_minutesFor_1 (by decide) (fun hc2 => ?_) (fun hc2 => ?_)
    · replace h := h.1 hc2
      refine vv_sub [] (L' := []) rfl ?_
      exact hJk24_0 h
    · replace h := h.2 hc2
      refine vv_iload_n C 1 dX2_minutesFor_4 rfl rfl ?_
      refine vv_aload_n C 0 dX2_minutesFor_5 rfl rfl ?_
      refine vv_geti C kc_X2 (s_X2 hY hd) 1 (by decide) rfl fk_X2_26 dX2_minutesFor_6 ?_
      refine vv_icmp_ge (pc := 9) C 24 dX2_minutesFor_9 (by decide) (fun hc3 => ?_) (fun hc3 => ?_)
      · replace h := h.1 hc3
        refine vv_sub [] (L' := []) rfl ?_
        exact hJk24_0 h
      · replace h := h.2 hc3
        refine vv_iload_n C 2 dX2_minutesFor_12 rfl rfl ?_
        refine vv_if_lt (pc := 13) C 24 dX2_minutesFor_13 (by decide) (fun hc4 => ?_) (fun hc4 => ?_)
        · replace h := h.1 hc4
          refine vv_sub [] (L' := []) rfl ?_
          exact hJk24_0 h
        · replace h := h.2 hc4
          refine vv_iload_n C 2 dX2_minutesFor_16 rfl rfl ?_
          refine vv_aload_n C 0 dX2_minutesFor_17 rfl rfl ?_
          refine vv_geti C kc_X2 (s_X2 hY hd) 4 (by decide) rfl fk_X2_30 dX2_minutesFor_18 ?_
          refine vv_icmp_lt (pc := 21) C 27 dX2_minutesFor_21 (by decide) (fun hc5 => ?_) (fun hc5 => ?_)
          · replace h := h.1 hc5
            refine vv_aload_n C 0 dX2_minutesFor_27 rfl rfl ?_
            refine vv_getr (r := (d + 1)) C kc_X2 (s_X2 hY hd) 0 (by decide) rfl fk_X2_11 dX2_minutesFor_28 ?_
            refine vv_iload_n C 1 dX2_minutesFor_31 rfl rfl ?_
            obtain ⟨hi6, h⟩ := h
            refine vv_aaldA C (a_X2_lays hY hd) hi6 dX2_minutesFor_32 ?_
            refine vv_aload_n C 0 dX2_minutesFor_33 rfl rfl ?_
            refine vv_getr (r := (d + 6)) C kc_X2 (s_X2 hY hd) 2 (by decide) rfl fk_X2_16 dX2_minutesFor_34 ?_
            refine vv_iload_n C 2 dX2_minutesFor_37 rfl rfl ?_
            obtain ⟨hi7, h⟩ := h
            refine vv_iald C (a_X2_jobStuff hY hd) hi7 rfl dX2_minutesFor_38 ?_
            obtain ⟨hi8, h⟩ := h
            refine vv_iald C (r_X2_lays hY hd hi6) hi8 rfl dX2_minutesFor_39 ?_
            refine vv_nm (fun v9 ev9 => ?_)
            replace h := h v9 ev9
            refine vv_istore_n (L' := [(3, .int v9), (0, .ref (vv_q Y d)), (1, .int a1), (2, .int a2)]) C dX2_minutesFor_40 rfl (by decide) rfl ?_
            refine vv_iload_n C 0 dX2_minutesFor_41 rfl rfl ?_
            refine vv_iconst C dX2_minutesFor_42 ki_1 ?_
            refine vv_join (fun k => ∀ (v10 : Int32), k v10 → VJ Y X (va_Qi post (vv_B Y) X.2) 4 63 [] [.int v10] σ) h (fun v10 h => ?_) (fun k63_10 hJk63_10 h => ?_)
            · exact vv_iret C dX2_minutesFor_63 h
            · refine vv_icmp_ge (pc := 43) C 51 dX2_minutesFor_43 (by decide) (fun hc12 => ?_) (fun hc12 => ?_)
              · replace h := h.1 hc12
                refine vv_aload_n C 1 dX2_minutesFor_51 rfl rfl ?_
                refine vv_getr (r := (d + 7)) C kc_X2 (s_X2 hY hd) 3 (by decide) rfl fk_X2_20 dX2_minutesFor_52 ?_
                refine vv_iload_n C 3 dX2_minutesFor_55 rfl rfl ?_
                obtain ⟨hi13, h⟩ := h
                refine vv_iald C (a_X2_jobInches hY hd) hi13 rfl dX2_minutesFor_56 ?_
                refine vv_iload_n C 0 dX2_minutesFor_57 rfl rfl ?_
                refine vv_iadd C dX2_minutesFor_58 ?_
                refine vv_iconst C dX2_minutesFor_59 ki_1 ?_
                refine vv_isub C dX2_minutesFor_60 ?_
                refine vv_iload_n C 0 dX2_minutesFor_61 rfl rfl ?_
                obtain ⟨hne, h⟩ := h
                refine vv_idiv C dX2_minutesFor_62 hne ?_
                refine vv_sub [] (L' := []) rfl ?_
                exact hJk63_10 _ h
              · replace h := h.2 hc12
                refine vv_bipush C dX2_minutesFor_46 kb_m4 ?_
                refine vv_goto (pc := 48) (tgt := 63) C dX2_minutesFor_48 (by decide) ?_
                refine vv_sub [] (L' := []) rfl ?_
                exact hJk63_10 _ h
          · replace h := h.2 hc5
            refine vv_sub [] (L' := []) rfl ?_
            exact hJk24_0 h
set_option maxHeartbeats 2000000 in
set_option maxRecDepth 100000 in
theorem mX2_minutesBy {Y : vv_Y} (hY : Y.2.2.2.2 = wC) {d : Nat} (hd : is_X2 d) {a1 : Int32} {σ : vv_S} {post : Int32 → vv_S → Prop} (h : wX2_minutesBy d a1 σ post) : vv_MI Y yX2_minutesBy cX2_minutesBy 6 (some .int) 1 24 [.ref (vv_q Y d), .int a1] σ post := by
  refine vv_ofI (by decide) (Nat.le_of_ble_eq_true rfl) (fun X C => ?_)
  have C : VC Y X RX2 cX2_minutesBy 6 (some .int) 1 24 := C
  refine vv_sub [0, 1] (L' := [(0, .ref (vv_q Y d)), (1, .int a1)]) rfl ?_
  refine vv_iconst C dX2_minutesBy_0 ki_0 ?_
  refine vv_istore_n (L' := [(2, .int (0 : Int32)), (0, .ref (vv_q Y d)), (1, .int a1)]) C dX2_minutesBy_1 rfl (by decide) rfl ?_
  refine vv_iconst C dX2_minutesBy_2 ki_0 ?_
  refine vv_istore_n (L' := [(3, .int (0 : Int32)), (2, .int (0 : Int32)), (0, .ref (vv_q Y d)), (1, .int a1)]) C dX2_minutesBy_3 rfl (by decide) rfl ?_
  refine vv_join (fun k => ∀ (σ1 : vv_S), k σ1 → VJ Y X (va_Qi post (vv_B Y) X.2) 6 22 [(0, .ref (vv_q Y d)), (1, .int a1), (2, .int (0 : Int32))] [] σ1) h (fun σ1 h => ?_) (fun k22_1 hJk22_1 h => ?_)
  · refine vv_iconst C dX2_minutesBy_22 ki_0 ?_
    refine vv_istore_n (L' := [(3, .int (0 : Int32)), (0, .ref (vv_q Y d)), (1, .int a1), (2, .int (0 : Int32))]) C dX2_minutesBy_23 rfl (by decide) rfl ?_
    refine vv_join (fun k => ∀ (σ3 : vv_S), k σ3 → VJ Y X (va_Qi post (vv_B Y) X.2) 6 67 [] [] σ3) h (fun σ3 h => ?_) (fun k67_3 hJk67_3 h => ?_)
    · refine vv_bipush C dX2_minutesBy_67 kb_m4 ?_
      exact vv_iret C dX2_minutesBy_69 h
    · obtain ⟨n8, h⟩ := h
      have hl1 : ∀ (n8 : Nat) (v5 : Int32) (v6 : Int32) (σ7 : vv_S), lX2_minutesBy_1 d post a1 k67_3 n8 v5 v6 σ7 → VJ Y X (va_Qi post (vv_B Y) X.2) 6 24 [(0, .ref (vv_q Y d)), (1, .int a1), (2, .int v5), (3, .int v6)] [] σ7 := by
        clear h
        intro n8
        induction n8 with
        | zero => intro v5 v6 σ7 h; exact False.elim h
        | succ n8 ih1 =>
          intro v5 v6 σ7 h
          refine vv_iload_n C 3 dX2_minutesBy_24 rfl rfl ?_
          refine vv_aload_n C 0 dX2_minutesBy_25 rfl rfl ?_
          refine vv_geti C kc_X2 (s_X2 hY hd) 4 (by decide) rfl fk_X2_30 dX2_minutesBy_26 ?_
          refine vv_icmp_ge (pc := 29) C 100 dX2_minutesBy_29 (by decide) (fun hc9 => ?_) (fun hc9 => ?_)
          · replace h := h.1 hc9
            refine vv_iload_n C 2 dX2_minutesBy_100 rfl rfl ?_
            exact vv_iret C dX2_minutesBy_101 h
          · replace h := h.2 hc9
            refine vv_aload_n C 0 dX2_minutesBy_32 rfl rfl ?_
            refine vv_iload_n C 3 dX2_minutesBy_33 rfl rfl ?_
            refine vv_iload_n C 1 dX2_minutesBy_34 rfl rfl ?_
            refine vv_callI (rest := []) C yk_X2_whoDoes vk_X2_whoDoes lk_X2_54 kc_X2.1 (s_X2 hY hd) dX2_minutesBy_35 (mX2_whoDoes hY hd h) rfl rfl ⟨Nat.le_of_ble_eq_true rfl, Nat.le_of_ble_eq_true rfl⟩ (Nat.le_of_ble_eq_true rfl) (fun r11 σ10 h => ?_)
            refine vv_istore (L' := [(4, .int r11), (0, .ref (vv_q Y d)), (1, .int a1), (2, .int v5), (3, .int v6)]) C dX2_minutesBy_38 (by decide) rfl ?_
            refine vv_aload_n C 1 dX2_minutesBy_40 rfl rfl ?_
            refine vv_iload C 0 dX2_minutesBy_41 rfl ?_
            refine vv_iload_n C 4 dX2_minutesBy_43 rfl rfl ?_
            refine vv_callI (rest := []) C yk_X2_minutesFor vk_X2_minutesFor lk_X2_58 kc_X2.1 (s_X2 hY hd) dX2_minutesBy_44 (mX2_minutesFor hY hd h) rfl rfl ⟨Nat.le_of_ble_eq_true rfl, Nat.le_of_ble_eq_true rfl⟩ (Nat.le_of_ble_eq_true rfl) (fun r13 σ12 h => ?_)
            refine vv_istore (L' := [(5, .int r13), (4, .int r11), (0, .ref (vv_q Y d)), (1, .int a1), (2, .int v5), (3, .int v6)]) C dX2_minutesBy_47 (by decide) rfl ?_
            refine vv_iload C 0 dX2_minutesBy_49 rfl ?_
            refine vv_bipush C dX2_minutesBy_51 kb_m4 ?_
            refine vv_icmp_eq (pc := 53) C 67 dX2_minutesBy_53 (by decide) (fun hc14 => ?_) (fun hc14 => ?_)
            · replace h := h.1 hc14
              refine vv_sub [] (L' := []) rfl ?_
              exact hJk67_3 _ h
            · replace h := h.2 hc14
              refine vv_iload C 1 dX2_minutesBy_56 rfl ?_
              refine vv_if_lt (pc := 58) C 67 dX2_minutesBy_58 (by decide) (fun hc15 => ?_) (fun hc15 => ?_)
              · replace h := h.1 hc15
                refine vv_sub [] (L' := []) rfl ?_
                exact hJk67_3 _ h
              · replace h := h.2 hc15
                refine vv_iload C 1 dX2_minutesBy_61 rfl ?_
                refine vv_iconst C dX2_minutesBy_63 ki_4 ?_
                refine vv_icmp_lt (pc := 64) C 70 dX2_minutesBy_64 (by decide) (fun hc16 => ?_) (fun hc16 => ?_)
                · replace h := h.1 hc16
                  refine vv_aload_n C 2 dX2_minutesBy_70 rfl rfl ?_
                  refine vv_getr (r := (d + 8)) C kc_X2 (s_X2 hY hd) 5 (by decide) rfl fk_X2_23 dX2_minutesBy_71 ?_
                  refine vv_iload C 1 dX2_minutesBy_74 rfl ?_
                  refine vv_dup2 C dX2_minutesBy_76 rfl rfl ?_
                  obtain ⟨hi17, h⟩ := h
                  refine vv_iald C (a_X2_busy hY hd) hi17 rfl dX2_minutesBy_77 ?_
                  refine vv_iload C 0 dX2_minutesBy_78 rfl ?_
                  refine vv_iadd C dX2_minutesBy_80 ?_
                  obtain ⟨hi18, h⟩ := h
                  refine vv_iast C (a_X2_busy hY hd) hi18 rfl dX2_minutesBy_81 (fun σ19 eσ19 => ?_)
                  replace h := h σ19 eσ19
                  refine vv_iload_n C 4 dX2_minutesBy_82 rfl rfl ?_
                  refine vv_aload_n C 2 dX2_minutesBy_83 rfl rfl ?_
                  refine vv_getr (r := (d + 8)) C kc_X2 (s_X2 hY hd) 5 (by decide) rfl fk_X2_23 dX2_minutesBy_84 ?_
                  refine vv_iload C 1 dX2_minutesBy_87 rfl ?_
                  obtain ⟨hi20, h⟩ := h
                  refine vv_iald C (a_X2_busy hY hd) hi20 rfl dX2_minutesBy_89 ?_
                  refine vv_max C lk_X2_61 mk_max (by decide) (Nat.le_of_ble_eq_true rfl) dX2_minutesBy_90 ?_
                  refine vv_nm (fun v21 ev21 => ?_)
                  replace h := h v21 ev21
                  refine vv_istore_n (L' := [(2, .int v21), (5, .int r13), (4, .int r11), (0, .ref (vv_q Y d)), (1, .int a1), (3, .int v6)]) C dX2_minutesBy_93 rfl (by decide) rfl ?_
                  obtain ⟨v22, ev22⟩ : ∃ z : Int32, z = v6 + (1 : Int32) := ⟨_, rfl⟩
                  replace h := h v22 ev22
                  refine vv_iinc (v := v22) (L' := [(3, .int v22), (2, .int v21), (5, .int r13), (4, .int r11), (0, .ref (vv_q Y d)), (1, .int a1)]) C 5 dX2_minutesBy_94 rfl ((kinc ki_1).trans ev22.symm) (by decide) rfl ?_
                  refine vv_goto (pc := 97) (tgt := 24) C dX2_minutesBy_97 (by decide) ?_
                  refine vv_sub [4, 5, 1, 0] (L' := [(0, .ref (vv_q Y d)), (1, .int a1), (2, .int v21), (3, .int v22)]) rfl ?_
                  exact ih1 _ _ _ h
                · replace h := h.2 hc16
                  refine vv_sub [] (L' := []) rfl ?_
                  exact hJk67_3 _ h
      refine vv_sub [1, 2, 3, 0] (L' := [(0, .ref (vv_q Y d)), (1, .int a1), (2, .int (0 : Int32)), (3, .int (0 : Int32))]) rfl ?_
      exact hl1 n8 _ _ _ h
  · obtain ⟨n25, h⟩ := h
    have hl2 : ∀ (n25 : Nat) (v23 : Int32) (σ24 : vv_S), lX2_minutesBy_2 k22_1 d n25 v23 σ24 → VJ Y X (va_Qi post (vv_B Y) X.2) 6 4 [(0, .ref (vv_q Y d)), (1, .int a1), (2, .int (0 : Int32)), (3, .int v23)] [] σ24 := by
      clear h
      intro n25
      induction n25 with
      | zero => intro v23 σ24 h; exact False.elim h
      | succ n25 ih2 =>
        intro v23 σ24 h
        refine vv_iload_n C 3 dX2_minutesBy_4 rfl rfl ?_
        refine vv_iconst C dX2_minutesBy_5 ki_4 ?_
        refine vv_icmp_ge (pc := 6) C 22 dX2_minutesBy_6 (by decide) (fun hc26 => ?_) (fun hc26 => ?_)
        · replace h := h.1 hc26
          refine vv_sub [0, 1, 2] (L' := [(0, .ref (vv_q Y d)), (1, .int a1), (2, .int (0 : Int32))]) rfl ?_
          exact hJk22_1 _ h
        · replace h := h.2 hc26
          refine vv_aload_n C 0 dX2_minutesBy_9 rfl rfl ?_
          refine vv_getr (r := (d + 8)) C kc_X2 (s_X2 hY hd) 5 (by decide) rfl fk_X2_23 dX2_minutesBy_10 ?_
          refine vv_iload_n C 3 dX2_minutesBy_13 rfl rfl ?_
          refine vv_iconst C dX2_minutesBy_14 ki_0 ?_
          obtain ⟨hi27, h⟩ := h
          refine vv_iast C (a_X2_busy hY hd) hi27 rfl dX2_minutesBy_15 (fun σ28 eσ28 => ?_)
          replace h := h σ28 eσ28
          obtain ⟨v29, ev29⟩ : ∃ z : Int32, z = v23 + (1 : Int32) := ⟨_, rfl⟩
          replace h := h v29 ev29
          refine vv_iinc (v := v29) (L' := [(3, .int v29), (0, .ref (vv_q Y d)), (1, .int a1), (2, .int (0 : Int32))]) C 3 dX2_minutesBy_16 rfl ((kinc ki_1).trans ev29.symm) (by decide) rfl ?_
          refine vv_goto (pc := 19) (tgt := 4) C dX2_minutesBy_19 (by decide) ?_
          refine vv_sub [1, 2, 3, 0] (L' := [(0, .ref (vv_q Y d)), (1, .int a1), (2, .int (0 : Int32)), (3, .int v29)]) rfl ?_
          exact ih2 _ _ h
    refine vv_sub [2, 3, 1, 0] (L' := [(0, .ref (vv_q Y d)), (1, .int a1), (2, .int (0 : Int32)), (3, .int (0 : Int32))]) rfl ?_
    exact hl2 n25 _ _ h
set_option maxHeartbeats 2000000 in
set_option maxRecDepth 100000 in
theorem mX2_quickestWay {Y : vv_Y} (hY : Y.2.2.2.2 = wC) {d : Nat} (hd : is_X2 d) {σ : vv_S} {post : Int32 → vv_S → Prop} (h : wX2_quickestWay d σ post) : vv_MI Y yX2_quickestWay cX2_quickestWay 6 (some .int) 2 49 [.ref (vv_q Y d)] σ post := by
  refine vv_ofI (by decide) (Nat.le_of_ble_eq_true rfl) (fun X C => ?_)
  have C : VC Y X RX2 cX2_quickestWay 6 (some .int) 2 49 := C
  refine vv_sub [0] (L' := [(0, .ref (vv_q Y d))]) rfl ?_
  refine vv_bipush C dX2_quickestWay_0 kb_m4 ?_
  refine vv_istore_n (L' := [(1, .int (-4 : Int32)), (0, .ref (vv_q Y d))]) C dX2_quickestWay_2 rfl (by decide) rfl ?_
  refine vv_iconst C dX2_quickestWay_3 ki_0 ?_
  refine vv_istore_n (L' := [(2, .int (0 : Int32)), (1, .int (-4 : Int32)), (0, .ref (vv_q Y d))]) C dX2_quickestWay_4 rfl (by decide) rfl ?_
  refine vv_aload_n C 2 dX2_quickestWay_5 rfl rfl ?_
  refine vv_callI (rest := []) C yk_X2_wayCount vk_X2_wayCount lk_X2_47 kc_X2.1 (s_X2 hY hd) dX2_quickestWay_6 (mX2_wayCount hY hd h) rfl rfl ⟨Nat.le_of_ble_eq_true rfl, Nat.le_of_ble_eq_true rfl⟩ (Nat.le_of_ble_eq_true rfl) (fun r2 σ1 h => ?_)
  refine vv_istore_n (L' := [(3, .int r2), (2, .int (0 : Int32)), (1, .int (-4 : Int32)), (0, .ref (vv_q Y d))]) C dX2_quickestWay_9 rfl (by decide) rfl ?_
  refine vv_iconst C dX2_quickestWay_10 ki_0 ?_
  refine vv_istore (L' := [(4, .int (0 : Int32)), (3, .int r2), (2, .int (0 : Int32)), (1, .int (-4 : Int32)), (0, .ref (vv_q Y d))]) C dX2_quickestWay_11 (by decide) rfl ?_
  obtain ⟨n7, h⟩ := h
  have hl1 : ∀ (n7 : Nat) (v3 : Int32) (v4 : Int32) (v5 : Int32) (σ6 : vv_S), lX2_quickestWay_1 r2 post d n7 v3 v4 v5 σ6 → VJ Y X (va_Qi post (vv_B Y) X.2) 6 13 [(0, .ref (vv_q Y d)), (1, .int v3), (2, .int v4), (3, .int r2), (4, .int v5)] [] σ6 := by
    clear h
    intro n7
    induction n7 with
    | zero => intro v3 v4 v5 σ6 h; exact False.elim h
    | succ n7 ih1 =>
      intro v3 v4 v5 σ6 h
      refine vv_iload C 4 dX2_quickestWay_13 rfl ?_
      refine vv_iload_n C 3 dX2_quickestWay_15 rfl rfl ?_
      refine vv_icmp_ge (pc := 16) C 58 dX2_quickestWay_16 (by decide) (fun hc8 => ?_) (fun hc8 => ?_)
      · replace h := h.1 hc8
        refine vv_iload_n C 1 dX2_quickestWay_58 rfl rfl ?_
        exact vv_iret C dX2_quickestWay_59 h
      · replace h := h.2 hc8
        refine vv_aload_n C 0 dX2_quickestWay_19 rfl rfl ?_
        refine vv_iload C 4 dX2_quickestWay_20 rfl ?_
        refine vv_callI (rest := []) C yk_X2_minutesBy vk_X2_minutesBy lk_X2_51 kc_X2.1 (s_X2 hY hd) dX2_quickestWay_22 (mX2_minutesBy hY hd h) rfl rfl ⟨Nat.le_of_ble_eq_true rfl, Nat.le_of_ble_eq_true rfl⟩ (Nat.le_of_ble_eq_true rfl) (fun r10 σ9 h => ?_)
        refine vv_istore (L' := [(5, .int r10), (0, .ref (vv_q Y d)), (1, .int v3), (2, .int v4), (3, .int r2), (4, .int v5)]) C dX2_quickestWay_25 (by decide) rfl ?_
        refine vv_iload C 0 dX2_quickestWay_27 rfl ?_
        refine vv_bipush C dX2_quickestWay_29 kb_m4 ?_
        refine vv_join (fun k => ∀ (v11 : Int32) (v12 : Int32), k v11 v12 → VJ Y X (va_Qi post (vv_B Y) X.2) 6 52 [(0, .ref (vv_q Y d)), (1, .int v11), (2, .int v12), (3, .int r2), (4, .int v5)] [] σ9) h (fun v11 v12 h => ?_) (fun k52_12 hJk52_12 h => ?_)
        · obtain ⟨v14, ev14⟩ : ∃ z : Int32, z = v5 + (1 : Int32) := ⟨_, rfl⟩
          replace h := h v14 ev14
          refine vv_iinc (v := v14) (L' := [(4, .int v14), (0, .ref (vv_q Y d)), (1, .int v11), (2, .int v12), (3, .int r2)]) C 4 dX2_quickestWay_52 rfl ((kinc ki_1).trans ev14.symm) (by decide) rfl ?_
          refine vv_goto (pc := 55) (tgt := 13) C dX2_quickestWay_55 (by decide) ?_
          refine vv_sub [1, 2, 3, 4, 0] (L' := [(0, .ref (vv_q Y d)), (1, .int v11), (2, .int v12), (3, .int r2), (4, .int v14)]) rfl ?_
          exact ih1 _ _ _ _ h
        · refine vv_icmp_eq (pc := 31) C 52 dX2_quickestWay_31 (by decide) (fun hc15 => ?_) (fun hc15 => ?_)
          · replace h := h.1 hc15
            refine vv_sub [1, 2, 3, 4, 5] (L' := [(0, .ref (vv_q Y d)), (1, .int v3), (2, .int v4), (3, .int r2), (4, .int v5)]) rfl ?_
            exact hJk52_12 _ _ h
          · replace h := h.2 hc15
            refine vv_iload_n C 2 dX2_quickestWay_34 rfl rfl ?_
            refine vv_bipush C dX2_quickestWay_35 kb_m4 ?_
            refine vv_join (fun k =>  k → VJ Y X (va_Qi post (vv_B Y) X.2) 6 46 [(0, .ref (vv_q Y d)), (3, .int r2), (4, .int v5), (5, .int r10)] [] σ9) h (fun h => ?_) (fun k46_15 hJk46_15 h => ?_)
            · refine vv_iload C 2 dX2_quickestWay_46 rfl ?_
              refine vv_istore_n (L' := [(1, .int v5), (0, .ref (vv_q Y d)), (3, .int r2), (4, .int v5), (5, .int r10)]) C dX2_quickestWay_48 rfl (by decide) rfl ?_
              refine vv_iload C 4 dX2_quickestWay_49 rfl ?_
              refine vv_istore_n (L' := [(2, .int r10), (1, .int v5), (0, .ref (vv_q Y d)), (3, .int r2), (4, .int v5), (5, .int r10)]) C dX2_quickestWay_51 rfl (by decide) rfl ?_
              refine vv_sub [2, 1, 0, 3, 4] (L' := [(0, .ref (vv_q Y d)), (1, .int v5), (2, .int r10), (3, .int r2), (4, .int v5)]) rfl ?_
              exact hJk52_12 _ _ h
            · refine vv_icmp_eq (pc := 37) C 46 dX2_quickestWay_37 (by decide) (fun hc17 => ?_) (fun hc17 => ?_)
              · replace h := h.1 hc17
                refine vv_sub [1, 4, 5, 0] (L' := [(0, .ref (vv_q Y d)), (3, .int r2), (4, .int v5), (5, .int r10)]) rfl ?_
                exact hJk46_15 h
              · replace h := h.2 hc17
                refine vv_iload C 0 dX2_quickestWay_40 rfl ?_
                refine vv_iload_n C 3 dX2_quickestWay_42 rfl rfl ?_
                refine vv_icmp_ge (pc := 43) C 52 dX2_quickestWay_43 (by decide) (fun hc18 => ?_) (fun hc18 => ?_)
                · replace h := h.1 hc18
                  refine vv_sub [1, 2, 3, 4, 5] (L' := [(0, .ref (vv_q Y d)), (1, .int v3), (2, .int v4), (3, .int r2), (4, .int v5)]) rfl ?_
                  exact hJk52_12 _ _ h
                · replace h := h.2 hc18
                  refine vv_sub [1, 4, 5, 0] (L' := [(0, .ref (vv_q Y d)), (3, .int r2), (4, .int v5), (5, .int r10)]) rfl ?_
                  exact hJk46_15 h
  refine vv_sub [4, 3, 2, 1, 0] (L' := [(0, .ref (vv_q Y d)), (1, .int (-4 : Int32)), (2, .int (0 : Int32)), (3, .int r2), (4, .int (0 : Int32))]) rfl ?_
  exact hl1 n7 _ _ _ _ h
set_option maxHeartbeats 2000000 in
set_option maxRecDepth 100000 in
theorem mX3_copyFrom {Y : vv_Y} (hY : Y.2.2.2.2 = wC) {d : Nat} (hd : is_X3 d) {o1 : Nat} (ho1 : is_X3 o1) {σ : vv_S} {post : vv_S → Prop} (h : wX3_copyFrom d o1 σ post) : vv_MV Y yX3_copyFrom cX3_copyFrom 3 none 2 42 [.ref (vv_q Y d), .ref (vv_q Y o1)] σ post := by
  refine vv_ofV (by decide) (Nat.le_of_ble_eq_true rfl) (fun X C => ?_)
  have C : VC Y X RX3 cX3_copyFrom 3 none 2 42 := C
  refine vv_sub [0, 1] (L' := [(0, .ref (vv_q Y d)), (1, .ref (vv_q Y o1))]) rfl ?_
  refine vv_iconst C dX3_copyFrom_0 ki_0 ?_
  refine vv_istore_n (L' := [(2, .int (0 : Int32)), (0, .ref (vv_q Y d)), (1, .ref (vv_q Y o1))]) C dX3_copyFrom_1 rfl (by decide) rfl ?_
  refine vv_join (fun k => ∀ (σ1 : vv_S), k σ1 → VJ Y X (va_Qv post (vv_B Y) X.2) 3 50 [(0, .ref (vv_q Y d)), (1, .ref (vv_q Y o1))] [] σ1) h (fun σ1 h => ?_) (fun k50_1 hJk50_1 h => ?_)
  · refine vv_aload_n C 0 dX3_copyFrom_50 rfl rfl ?_
    refine vv_aload_n C 1 dX3_copyFrom_51 rfl rfl ?_
    refine vv_geti C kc_X3 (s_X3 hY ho1) 4 (by decide) rfl fk_X3_34 dX3_copyFrom_52 ?_
    refine vv_puti C kc_X3 (s_X3 hY hd) 4 (by decide) rfl pf_X3_4 fk_X3_34 dX3_copyFrom_55 (fun σ3 eσ3 => ?_)
    replace h := h σ3 eσ3
    refine vv_aload_n C 0 dX3_copyFrom_58 rfl rfl ?_
    refine vv_aload_n C 1 dX3_copyFrom_59 rfl rfl ?_
    refine vv_geti C kc_X3 (s_X3 hY ho1) 5 (by decide) rfl fk_X3_38 dX3_copyFrom_60 ?_
    refine vv_puti C kc_X3 (s_X3 hY hd) 5 (by decide) rfl pf_X3_5 fk_X3_38 dX3_copyFrom_63 (fun σ4 eσ4 => ?_)
    replace h := h σ4 eσ4
    refine vv_aload_n C 0 dX3_copyFrom_66 rfl rfl ?_
    refine vv_aload_n C 1 dX3_copyFrom_67 rfl rfl ?_
    refine vv_geti C kc_X3 (s_X3 hY ho1) 6 (by decide) rfl fk_X3_41 dX3_copyFrom_68 ?_
    refine vv_puti C kc_X3 (s_X3 hY hd) 6 (by decide) rfl pf_X3_6 fk_X3_41 dX3_copyFrom_71 (fun σ5 eσ5 => ?_)
    replace h := h σ5 eσ5
    refine vv_aload_n C 0 dX3_copyFrom_74 rfl rfl ?_
    refine vv_aload_n C 1 dX3_copyFrom_75 rfl rfl ?_
    refine vv_geti C kc_X3 (s_X3 hY ho1) 7 (by decide) rfl fk_X3_44 dX3_copyFrom_76 ?_
    refine vv_puti C kc_X3 (s_X3 hY hd) 7 (by decide) rfl pf_X3_7 fk_X3_44 dX3_copyFrom_79 (fun σ6 eσ6 => ?_)
    replace h := h σ6 eσ6
    refine vv_aload_n C 0 dX3_copyFrom_82 rfl rfl ?_
    refine vv_callV (rest := []) C yk_X3_survey vk_X3_survey lk_X3_47 kc_X3.1 (s_X3 hY hd) dX3_copyFrom_83 (mX3_survey hY hd h) rfl rfl ⟨Nat.le_of_ble_eq_true rfl, Nat.le_of_ble_eq_true rfl⟩ (Nat.le_of_ble_eq_true rfl) (fun σ7 h => ?_)
    exact vv_vret C dX3_copyFrom_86 h
  · obtain ⟨n10, h⟩ := h
    have hl1 : ∀ (n10 : Nat) (v8 : Int32) (σ9 : vv_S), lX3_copyFrom_1 k50_1 d o1 n10 v8 σ9 → VJ Y X (va_Qv post (vv_B Y) X.2) 3 2 [(0, .ref (vv_q Y d)), (1, .ref (vv_q Y o1)), (2, .int v8)] [] σ9 := by
      clear h
      intro n10
      induction n10 with
      | zero => intro v8 σ9 h; exact False.elim h
      | succ n10 ih1 =>
        intro v8 σ9 h
        refine vv_iload_n C 2 dX3_copyFrom_2 rfl rfl ?_
        refine vv_bipush C dX3_copyFrom_3 kb_8 ?_
        refine vv_icmp_ge (pc := 5) C 50 dX3_copyFrom_5 (by decide) (fun hc11 => ?_) (fun hc11 => ?_)
        · replace h := h.1 hc11
          refine vv_sub [0, 1] (L' := [(0, .ref (vv_q Y d)), (1, .ref (vv_q Y o1))]) rfl ?_
          exact hJk50_1 _ h
        · replace h := h.2 hc11
          refine vv_aload_n C 0 dX3_copyFrom_8 rfl rfl ?_
          refine vv_getr (r := (d + 1)) C kc_X3 (s_X3 hY hd) 1 (by decide) rfl fk_X3_9 dX3_copyFrom_9 ?_
          refine vv_iload_n C 2 dX3_copyFrom_12 rfl rfl ?_
          refine vv_aload_n C 1 dX3_copyFrom_13 rfl rfl ?_
          refine vv_getr (r := (o1 + 1)) C kc_X3 (s_X3 hY ho1) 1 (by decide) rfl fk_X3_9 dX3_copyFrom_14 ?_
          refine vv_iload_n C 2 dX3_copyFrom_17 rfl rfl ?_
          obtain ⟨hi12, h⟩ := h
          refine vv_iald C (a_X3_heights hY ho1) hi12 rfl dX3_copyFrom_18 ?_
          obtain ⟨hi13, h⟩ := h
          refine vv_iast C (a_X3_heights hY hd) hi13 rfl dX3_copyFrom_19 (fun σ14 eσ14 => ?_)
          replace h := h σ14 eσ14
          refine vv_aload_n C 0 dX3_copyFrom_20 rfl rfl ?_
          refine vv_getr (r := (d + 2)) C kc_X3 (s_X3 hY hd) 2 (by decide) rfl fk_X3_15 dX3_copyFrom_21 ?_
          refine vv_iload_n C 2 dX3_copyFrom_24 rfl rfl ?_
          refine vv_aload_n C 1 dX3_copyFrom_25 rfl rfl ?_
          refine vv_getr (r := (o1 + 2)) C kc_X3 (s_X3 hY ho1) 2 (by decide) rfl fk_X3_15 dX3_copyFrom_26 ?_
          refine vv_iload_n C 2 dX3_copyFrom_29 rfl rfl ?_
          obtain ⟨hi15, h⟩ := h
          refine vv_iald C (a_X3_stuffs hY ho1) hi15 rfl dX3_copyFrom_30 ?_
          obtain ⟨hi16, h⟩ := h
          refine vv_iast C (a_X3_stuffs hY hd) hi16 rfl dX3_copyFrom_31 (fun σ17 eσ17 => ?_)
          replace h := h σ17 eσ17
          refine vv_aload_n C 0 dX3_copyFrom_32 rfl rfl ?_
          refine vv_getr (r := (d + 3)) C kc_X3 (s_X3 hY hd) 3 (by decide) rfl fk_X3_18 dX3_copyFrom_33 ?_
          refine vv_iload_n C 2 dX3_copyFrom_36 rfl rfl ?_
          refine vv_aload_n C 1 dX3_copyFrom_37 rfl rfl ?_
          refine vv_getr (r := (o1 + 3)) C kc_X3 (s_X3 hY ho1) 3 (by decide) rfl fk_X3_18 dX3_copyFrom_38 ?_
          refine vv_iload_n C 2 dX3_copyFrom_41 rfl rfl ?_
          obtain ⟨hi18, h⟩ := h
          refine vv_iald C (a_X3_breaches hY ho1) hi18 rfl dX3_copyFrom_42 ?_
          obtain ⟨hi19, h⟩ := h
          refine vv_iast C (a_X3_breaches hY hd) hi19 rfl dX3_copyFrom_43 (fun σ20 eσ20 => ?_)
          replace h := h σ20 eσ20
          obtain ⟨v21, ev21⟩ : ∃ z : Int32, z = v8 + (1 : Int32) := ⟨_, rfl⟩
          replace h := h v21 ev21
          refine vv_iinc (v := v21) (L' := [(2, .int v21), (0, .ref (vv_q Y d)), (1, .ref (vv_q Y o1))]) C 2 dX3_copyFrom_44 rfl ((kinc ki_1).trans ev21.symm) (by decide) rfl ?_
          refine vv_goto (pc := 47) (tgt := 2) C dX3_copyFrom_47 (by decide) ?_
          refine vv_sub [1, 2, 0] (L' := [(0, .ref (vv_q Y d)), (1, .ref (vv_q Y o1)), (2, .int v21)]) rfl ?_
          exact ih1 _ _ h
    refine vv_sub [1, 2, 0] (L' := [(0, .ref (vv_q Y d)), (1, .ref (vv_q Y o1)), (2, .int (0 : Int32))]) rfl ?_
    exact hl1 n10 _ _ h
set_option maxHeartbeats 2000000 in
set_option maxRecDepth 100000 in
theorem mX3_passTillOver {Y : vv_Y} (hY : Y.2.2.2.2 = wC) {d : Nat} (hd : is_X3 d) {σ : vv_S} {post : Int32 → vv_S → Prop} (h : wX3_passTillOver d σ post) : vv_MI Y yX3_passTillOver cX3_passTillOver 2 (some .int) 3 68 [.ref (vv_q Y d)] σ post := by
  refine vv_ofI (by decide) (Nat.le_of_ble_eq_true rfl) (fun X C => ?_)
  have C : VC Y X RX3 cX3_passTillOver 2 (some .int) 3 68 := C
  refine vv_sub [0] (L' := [(0, .ref (vv_q Y d))]) rfl ?_
  refine vv_iconst C dX3_passTillOver_0 ki_1 ?_
  refine vv_istore_n (L' := [(1, .int (1 : Int32)), (0, .ref (vv_q Y d))]) C dX3_passTillOver_1 rfl (by decide) rfl ?_
  obtain ⟨n3, h⟩ := h
  have hl1 : ∀ (n3 : Nat) (v1 : Int32) (σ2 : vv_S), lX3_passTillOver_1 post d n3 v1 σ2 → VJ Y X (va_Qi post (vv_B Y) X.2) 2 2 [(0, .ref (vv_q Y d)), (1, .int v1)] [] σ2 := by
    clear h
    intro n3
    induction n3 with
    | zero => intro v1 σ2 h; exact False.elim h
    | succ n3 ih1 =>
      intro v1 σ2 h
      refine vv_iload_n C 1 dX3_passTillOver_2 rfl rfl ?_
      refine vv_sipush C dX3_passTillOver_3 ks_200 ?_
      refine vv_icmp_gt (pc := 6) C 29 dX3_passTillOver_6 (by decide) (fun hc4 => ?_) (fun hc4 => ?_)
      · replace h := h.1 hc4
        refine vv_bipush C dX3_passTillOver_29 kb_m4 ?_
        exact vv_iret C dX3_passTillOver_31 h
      · replace h := h.2 hc4
        refine vv_aload_n C 0 dX3_passTillOver_9 rfl rfl ?_
        refine vv_iconst C dX3_passTillOver_10 ki_0 ?_
        refine vv_callV (rest := []) C yk_X3_oneMinute vk_X3_oneMinute lk_X3_112 kc_X3.1 (s_X3 hY hd) dX3_passTillOver_11 (mX3_oneMinute hY hd h) rfl rfl ⟨Nat.le_of_ble_eq_true rfl, Nat.le_of_ble_eq_true rfl⟩ (Nat.le_of_ble_eq_true rfl) (fun σ5 h => ?_)
        refine vv_aload_n C 0 dX3_passTillOver_14 rfl rfl ?_
        refine vv_geti C kc_X3 (s_X3 hY hd) 13 (by decide) rfl fk_X3_99 dX3_passTillOver_15 ?_
        refine vv_if_le (pc := 18) C 23 dX3_passTillOver_18 (by decide) (fun hc6 => ?_) (fun hc6 => ?_)
        · replace h := h.1 hc6
          obtain ⟨v7, ev7⟩ : ∃ z : Int32, z = v1 + (1 : Int32) := ⟨_, rfl⟩
          replace h := h v7 ev7
          refine vv_iinc (v := v7) (L' := [(1, .int v7), (0, .ref (vv_q Y d))]) C 1 dX3_passTillOver_23 rfl ((kinc ki_1).trans ev7.symm) (by decide) rfl ?_
          refine vv_goto (pc := 26) (tgt := 2) C dX3_passTillOver_26 (by decide) ?_
          refine vv_sub [1, 0] (L' := [(0, .ref (vv_q Y d)), (1, .int v7)]) rfl ?_
          exact ih1 _ _ h
        · replace h := h.2 hc6
          refine vv_iload_n C 1 dX3_passTillOver_21 rfl rfl ?_
          exact vv_iret C dX3_passTillOver_22 h
  refine vv_sub [1, 0] (L' := [(0, .ref (vv_q Y d)), (1, .int (1 : Int32))]) rfl ?_
  exact hl1 n3 _ _ h
set_option maxHeartbeats 2000000 in
set_option maxRecDepth 100000 in
theorem mX3_passTillBreach {Y : vv_Y} (hY : Y.2.2.2.2 = wC) {d : Nat} (hd : is_X3 d) {σ : vv_S} {post : Int32 → vv_S → Prop} (h : wX3_passTillBreach d σ post) : vv_MI Y yX3_passTillBreach cX3_passTillBreach 2 (some .int) 3 68 [.ref (vv_q Y d)] σ post := by
  refine vv_ofI (by decide) (Nat.le_of_ble_eq_true rfl) (fun X C => ?_)
  have C : VC Y X RX3 cX3_passTillBreach 2 (some .int) 3 68 := C
  refine vv_sub [0] (L' := [(0, .ref (vv_q Y d))]) rfl ?_
  refine vv_iconst C dX3_passTillBreach_0 ki_1 ?_
  refine vv_istore_n (L' := [(1, .int (1 : Int32)), (0, .ref (vv_q Y d))]) C dX3_passTillBreach_1 rfl (by decide) rfl ?_
  obtain ⟨n3, h⟩ := h
  have hl1 : ∀ (n3 : Nat) (v1 : Int32) (σ2 : vv_S), lX3_passTillBreach_1 post d n3 v1 σ2 → VJ Y X (va_Qi post (vv_B Y) X.2) 2 2 [(0, .ref (vv_q Y d)), (1, .int v1)] [] σ2 := by
    clear h
    intro n3
    induction n3 with
    | zero => intro v1 σ2 h; exact False.elim h
    | succ n3 ih1 =>
      intro v1 σ2 h
      refine vv_iload_n C 1 dX3_passTillBreach_2 rfl rfl ?_
      refine vv_sipush C dX3_passTillBreach_3 ks_200 ?_
      refine vv_icmp_gt (pc := 6) C 31 dX3_passTillBreach_6 (by decide) (fun hc4 => ?_) (fun hc4 => ?_)
      · replace h := h.1 hc4
        refine vv_bipush C dX3_passTillBreach_31 kb_m4 ?_
        exact vv_iret C dX3_passTillBreach_33 h
      · replace h := h.2 hc4
        refine vv_aload_n C 0 dX3_passTillBreach_9 rfl rfl ?_
        refine vv_iconst C dX3_passTillBreach_10 ki_0 ?_
        refine vv_callV (rest := []) C yk_X3_oneMinute vk_X3_oneMinute lk_X3_112 kc_X3.1 (s_X3 hY hd) dX3_passTillBreach_11 (mX3_oneMinute hY hd h) rfl rfl ⟨Nat.le_of_ble_eq_true rfl, Nat.le_of_ble_eq_true rfl⟩ (Nat.le_of_ble_eq_true rfl) (fun σ5 h => ?_)
        refine vv_aload_n C 0 dX3_passTillBreach_14 rfl rfl ?_
        refine vv_geti C kc_X3 (s_X3 hY hd) 15 (by decide) rfl fk_X3_105 dX3_passTillBreach_15 ?_
        refine vv_bipush C dX3_passTillBreach_18 kb_m4 ?_
        refine vv_icmp_eq (pc := 20) C 25 dX3_passTillBreach_20 (by decide) (fun hc6 => ?_) (fun hc6 => ?_)
        · replace h := h.1 hc6
          obtain ⟨v7, ev7⟩ : ∃ z : Int32, z = v1 + (1 : Int32) := ⟨_, rfl⟩
          replace h := h v7 ev7
          refine vv_iinc (v := v7) (L' := [(1, .int v7), (0, .ref (vv_q Y d))]) C 1 dX3_passTillBreach_25 rfl ((kinc ki_1).trans ev7.symm) (by decide) rfl ?_
          refine vv_goto (pc := 28) (tgt := 2) C dX3_passTillBreach_28 (by decide) ?_
          refine vv_sub [1, 0] (L' := [(0, .ref (vv_q Y d)), (1, .int v7)]) rfl ?_
          exact ih1 _ _ h
        · replace h := h.2 hc6
          refine vv_iload_n C 1 dX3_passTillBreach_23 rfl rfl ?_
          exact vv_iret C dX3_passTillBreach_24 h
  refine vv_sub [1, 0] (L' := [(0, .ref (vv_q Y d)), (1, .int (1 : Int32))]) rfl ?_
  exact hl1 n3 _ _ h
set_option maxHeartbeats 2000000 in
set_option maxRecDepth 100000 in
theorem mX3_empty {Y : vv_Y} (hY : Y.2.2.2.2 = wC) {d : Nat} (hd : is_X3 d) {σ : vv_S} {post : vv_S → Prop} (h : wX3_empty d σ post) : vv_MV Y yX3_empty cX3_empty 1 none 0 0 [.ref (vv_q Y d)] σ post := by
  refine vv_ofV (by decide) (Nat.le_of_ble_eq_true rfl) (fun X C => ?_)
  have C : VC Y X RX3 cX3_empty 1 none 0 0 := C
  refine vv_sub [0] (L' := [(0, .ref (vv_q Y d))]) rfl ?_
  refine vv_aload_n C 0 dX3_empty_0 rfl rfl ?_
  refine vv_iconst C dX3_empty_1 ki_0 ?_
  refine vv_puti C kc_X3 (s_X3 hY hd) 4 (by decide) rfl pf_X3_4 fk_X3_34 dX3_empty_2 (fun σ1 eσ1 => ?_)
  replace h := h σ1 eσ1
  exact vv_vret C dX3_empty_5 h
set_option maxHeartbeats 2000000 in
set_option maxRecDepth 100000 in
theorem mX3_breachesAt {Y : vv_Y} (hY : Y.2.2.2.2 = wC) {d : Nat} (hd : is_X3 d) {a1 : Int32} {σ : vv_S} {post : Int32 → vv_S → Prop} (h : wX3_breachesAt d a1 σ post) : vv_MI Y yX3_breachesAt cX3_breachesAt 2 (some .int) 0 0 [.ref (vv_q Y d), .int a1] σ post := by
  refine vv_ofI (by decide) (Nat.le_of_ble_eq_true rfl) (fun X C => ?_)
  have C : VC Y X RX3 cX3_breachesAt 2 (some .int) 0 0 := C
  refine vv_sub [0, 1] (L' := [(0, .ref (vv_q Y d)), (1, .int a1)]) rfl ?_
  refine vv_iload_n C 1 dX3_breachesAt_0 rfl rfl ?_
  refine vv_join (fun k => ∀ (v1 : Int32), k v1 → VJ Y X (va_Qi post (vv_B Y) X.2) 2 20 [] [.int v1] σ) h (fun v1 h => ?_) (fun k20_1 hJk20_1 h => ?_)
  · exact vv_iret C dX3_breachesAt_20 h
  · refine vv_join (fun k =>  k → VJ Y X (va_Qi post (vv_B Y) X.2) 2 19 [] [] σ) h (fun h => ?_) (fun k19_2 hJk19_2 h => ?_)
    · refine vv_iconst C dX3_breachesAt_19 ki_0 ?_
      refine vv_sub [] (L' := []) rfl ?_
      exact hJk20_1 _ h
    · refine vv_if_lt (pc := 1) C 19 dX3_breachesAt_1 (by decide) (fun hc4 => ?_) (fun hc4 => ?_)
      · replace h := h.1 hc4
        refine vv_sub [] (L' := []) rfl ?_
        exact hJk19_2 h
      · replace h := h.2 hc4
        refine vv_iload_n C 1 dX3_breachesAt_4 rfl rfl ?_
        refine vv_bipush C dX3_breachesAt_5 kb_8 ?_
        refine vv_icmp_ge (pc := 7) C 19 dX3_breachesAt_7 (by decide) (fun hc5 => ?_) (fun hc5 => ?_)
        · replace h := h.1 hc5
          refine vv_sub [] (L' := []) rfl ?_
          exact hJk19_2 h
        · replace h := h.2 hc5
          refine vv_aload_n C 0 dX3_breachesAt_10 rfl rfl ?_
          refine vv_getr (r := (d + 3)) C kc_X3 (s_X3 hY hd) 3 (by decide) rfl fk_X3_18 dX3_breachesAt_11 ?_
          refine vv_iload_n C 1 dX3_breachesAt_14 rfl rfl ?_
          obtain ⟨hi6, h⟩ := h
          refine vv_iald C (a_X3_breaches hY hd) hi6 rfl dX3_breachesAt_15 ?_
          refine vv_goto (pc := 16) (tgt := 20) C dX3_breachesAt_16 (by decide) ?_
          refine vv_sub [] (L' := []) rfl ?_
          exact hJk20_1 _ h
set_option maxHeartbeats 2000000 in
set_option maxRecDepth 100000 in
theorem mX3_allBreaches {Y : vv_Y} (hY : Y.2.2.2.2 = wC) {d : Nat} (hd : is_X3 d) {σ : vv_S} {post : Int32 → vv_S → Prop} (h : wX3_allBreaches d σ post) : vv_MI Y yX3_allBreaches cX3_allBreaches 3 (some .int) 0 0 [.ref (vv_q Y d)] σ post := by
  refine vv_ofI (by decide) (Nat.le_of_ble_eq_true rfl) (fun X C => ?_)
  have C : VC Y X RX3 cX3_allBreaches 3 (some .int) 0 0 := C
  refine vv_sub [0] (L' := [(0, .ref (vv_q Y d))]) rfl ?_
  refine vv_iconst C dX3_allBreaches_0 ki_0 ?_
  refine vv_istore_n (L' := [(1, .int (0 : Int32)), (0, .ref (vv_q Y d))]) C dX3_allBreaches_1 rfl (by decide) rfl ?_
  refine vv_iconst C dX3_allBreaches_2 ki_0 ?_
  refine vv_istore_n (L' := [(2, .int (0 : Int32)), (1, .int (0 : Int32)), (0, .ref (vv_q Y d))]) C dX3_allBreaches_3 rfl (by decide) rfl ?_
  obtain ⟨n3, h⟩ := h
  have hl1 : ∀ (n3 : Nat) (v1 : Int32) (v2 : Int32), lX3_allBreaches_1 post σ d n3 v1 v2 → VJ Y X (va_Qi post (vv_B Y) X.2) 3 4 [(0, .ref (vv_q Y d)), (1, .int v1), (2, .int v2)] [] σ := by
    clear h
    intro n3
    induction n3 with
    | zero => intro v1 v2 h; exact False.elim h
    | succ n3 ih1 =>
      intro v1 v2 h
      refine vv_iload_n C 2 dX3_allBreaches_4 rfl rfl ?_
      refine vv_bipush C dX3_allBreaches_5 kb_8 ?_
      refine vv_icmp_ge (pc := 7) C 25 dX3_allBreaches_7 (by decide) (fun hc4 => ?_) (fun hc4 => ?_)
      · replace h := h.1 hc4
        refine vv_iload_n C 1 dX3_allBreaches_25 rfl rfl ?_
        exact vv_iret C dX3_allBreaches_26 h
      · replace h := h.2 hc4
        refine vv_iload_n C 1 dX3_allBreaches_10 rfl rfl ?_
        refine vv_aload_n C 0 dX3_allBreaches_11 rfl rfl ?_
        refine vv_getr (r := (d + 3)) C kc_X3 (s_X3 hY hd) 3 (by decide) rfl fk_X3_18 dX3_allBreaches_12 ?_
        refine vv_iload_n C 2 dX3_allBreaches_15 rfl rfl ?_
        obtain ⟨hi5, h⟩ := h
        refine vv_iald C (a_X3_breaches hY hd) hi5 rfl dX3_allBreaches_16 ?_
        refine vv_iadd C dX3_allBreaches_17 ?_
        refine vv_nm (fun v6 ev6 => ?_)
        replace h := h v6 ev6
        refine vv_istore_n (L' := [(1, .int v6), (0, .ref (vv_q Y d)), (2, .int v2)]) C dX3_allBreaches_18 rfl (by decide) rfl ?_
        obtain ⟨v7, ev7⟩ : ∃ z : Int32, z = v2 + (1 : Int32) := ⟨_, rfl⟩
        replace h := h v7 ev7
        refine vv_iinc (v := v7) (L' := [(2, .int v7), (1, .int v6), (0, .ref (vv_q Y d))]) C 2 dX3_allBreaches_19 rfl ((kinc ki_1).trans ev7.symm) (by decide) rfl ?_
        refine vv_goto (pc := 22) (tgt := 4) C dX3_allBreaches_22 (by decide) ?_
        refine vv_sub [2, 1, 0] (L' := [(0, .ref (vv_q Y d)), (1, .int v6), (2, .int v7)]) rfl ?_
        exact ih1 _ _ h
  refine vv_sub [2, 1, 0] (L' := [(0, .ref (vv_q Y d)), (1, .int (0 : Int32)), (2, .int (0 : Int32))]) rfl ?_
  exact hl1 n3 _ _ h
set_option maxHeartbeats 2000000 in
set_option maxRecDepth 100000 in
theorem mX3_wasBreached {Y : vv_Y} (hY : Y.2.2.2.2 = wC) {d : Nat} (hd : is_X3 d) {σ : vv_S} {post : Int32 → vv_S → Prop} (h : wX3_wasBreached d σ post) : vv_MI Y yX3_wasBreached cX3_wasBreached 1 (some .boolean) 1 22 [.ref (vv_q Y d)] σ post := by
  refine vv_ofI (by decide) (Nat.le_of_ble_eq_true rfl) (fun X C => ?_)
  have C : VC Y X RX3 cX3_wasBreached 1 (some .boolean) 1 22 := C
  refine vv_sub [0] (L' := [(0, .ref (vv_q Y d))]) rfl ?_
  refine vv_aload_n C 0 dX3_wasBreached_0 rfl rfl ?_
  refine vv_callI (rest := []) C yk_X3_allBreaches vk_X3_allBreaches lk_X3_126 kc_X3.1 (s_X3 hY hd) dX3_wasBreached_1 (mX3_allBreaches hY hd h) rfl rfl ⟨Nat.le_of_ble_eq_true rfl, Nat.le_of_ble_eq_true rfl⟩ (Nat.le_of_ble_eq_true rfl) (fun r2 σ1 h => ?_)
  refine vv_join (fun k => ∀ (v3 : Int32), k v3 → VJ Y X (va_Qi post (vv_B Y) X.2) 1 12 [] [.int v3] σ1) h (fun v3 h => ?_) (fun k12_3 hJk12_3 h => ?_)
  · exact vv_zret C h.1 dX3_wasBreached_12 h.2
  · refine vv_if_le (pc := 4) C 11 dX3_wasBreached_4 (by decide) (fun hc5 => ?_) (fun hc5 => ?_)
    · replace h := h.1 hc5
      refine vv_iconst C dX3_wasBreached_11 ki_0 ?_
      refine vv_sub [] (L' := []) rfl ?_
      exact hJk12_3 _ h
    · replace h := h.2 hc5
      refine vv_iconst C dX3_wasBreached_7 ki_1 ?_
      refine vv_goto (pc := 8) (tgt := 12) C dX3_wasBreached_8 (by decide) ?_
      refine vv_sub [] (L' := []) rfl ?_
      exact hJk12_3 _ h
set_option maxHeartbeats 2000000 in
set_option maxRecDepth 100000 in
theorem mX3_level {Y : vv_Y} (hY : Y.2.2.2.2 = wC) {d : Nat} (hd : is_X3 d) {σ : vv_S} {post : Int32 → vv_S → Prop} (h : wX3_level d σ post) : vv_MI Y yX3_level cX3_level 1 (some .int) 2 45 [.ref (vv_q Y d)] σ post := by
  refine vv_ofI (by decide) (Nat.le_of_ble_eq_true rfl) (fun X C => ?_)
  have C : VC Y X RX3 cX3_level 1 (some .int) 2 45 := C
  refine vv_sub [0] (L' := [(0, .ref (vv_q Y d))]) rfl ?_
  refine vv_aload_n C 0 dX3_level_0 rfl rfl ?_
  refine vv_getr (r := 4) C kc_X3 (s_X3 hY hd) 0 (by decide) rfl fk_X3_21 dX3_level_1 ?_
  refine vv_aload_n C 0 dX3_level_4 rfl rfl ?_
  refine vv_geti C kc_X3 (s_X3 hY hd) 4 (by decide) rfl fk_X3_34 dX3_level_5 ?_
  refine vv_callI (rest := []) C yk_X4_levelOf vk_X4_levelOf lk_X3_93 kc_X4.1 (s_X4 hY (show is_X4 4 by decide)) dX3_level_8 (mX4_levelOf hY (show is_X4 4 by decide) h) rfl rfl ⟨Nat.le_of_ble_eq_true rfl, Nat.le_of_ble_eq_true rfl⟩ (Nat.le_of_ble_eq_true rfl) (fun r2 σ1 h => ?_)
  exact vv_iret C dX3_level_11 h
set_option maxHeartbeats 2000000 in
set_option maxRecDepth 100000 in
theorem mX3_units {Y : vv_Y} (hY : Y.2.2.2.2 = wC) {d : Nat} (hd : is_X3 d) {σ : vv_S} {post : Int32 → vv_S → Prop} (h : wX3_units d σ post) : vv_MI Y yX3_units cX3_units 1 (some .int) 0 0 [.ref (vv_q Y d)] σ post := by
  refine vv_ofI (by decide) (Nat.le_of_ble_eq_true rfl) (fun X C => ?_)
  have C : VC Y X RX3 cX3_units 1 (some .int) 0 0 := C
  refine vv_sub [0] (L' := [(0, .ref (vv_q Y d))]) rfl ?_
  refine vv_aload_n C 0 dX3_units_0 rfl rfl ?_
  refine vv_geti C kc_X3 (s_X3 hY hd) 4 (by decide) rfl fk_X3_34 dX3_units_1 ?_
  exact vv_iret C dX3_units_4 h
set_option maxHeartbeats 2000000 in
set_option maxRecDepth 100000 in
theorem mX3_minutesGone {Y : vv_Y} (hY : Y.2.2.2.2 = wC) {d : Nat} (hd : is_X3 d) {σ : vv_S} {post : Int32 → vv_S → Prop} (h : wX3_minutesGone d σ post) : vv_MI Y yX3_minutesGone cX3_minutesGone 1 (some .int) 0 0 [.ref (vv_q Y d)] σ post := by
  refine vv_ofI (by decide) (Nat.le_of_ble_eq_true rfl) (fun X C => ?_)
  have C : VC Y X RX3 cX3_minutesGone 1 (some .int) 0 0 := C
  refine vv_sub [0] (L' := [(0, .ref (vv_q Y d))]) rfl ?_
  refine vv_aload_n C 0 dX3_minutesGone_0 rfl rfl ?_
  refine vv_geti C kc_X3 (s_X3 hY hd) 5 (by decide) rfl fk_X3_38 dX3_minutesGone_1 ?_
  exact vv_iret C dX3_minutesGone_4 h
set_option maxHeartbeats 2000000 in
set_option maxRecDepth 100000 in
theorem mX3_allOver {Y : vv_Y} (hY : Y.2.2.2.2 = wC) {d : Nat} (hd : is_X3 d) {σ : vv_S} {post : Int32 → vv_S → Prop} (h : wX3_allOver d σ post) : vv_MI Y yX3_allOver cX3_allOver 1 (some .int) 0 0 [.ref (vv_q Y d)] σ post := by
  refine vv_ofI (by decide) (Nat.le_of_ble_eq_true rfl) (fun X C => ?_)
  have C : VC Y X RX3 cX3_allOver 1 (some .int) 0 0 := C
  refine vv_sub [0] (L' := [(0, .ref (vv_q Y d))]) rfl ?_
  refine vv_aload_n C 0 dX3_allOver_0 rfl rfl ?_
  refine vv_geti C kc_X3 (s_X3 hY hd) 6 (by decide) rfl fk_X3_41 dX3_allOver_1 ?_
  exact vv_iret C dX3_allOver_4 h
set_option maxHeartbeats 2000000 in
set_option maxRecDepth 100000 in
theorem mX3_allSeeped {Y : vv_Y} (hY : Y.2.2.2.2 = wC) {d : Nat} (hd : is_X3 d) {σ : vv_S} {post : Int32 → vv_S → Prop} (h : wX3_allSeeped d σ post) : vv_MI Y yX3_allSeeped cX3_allSeeped 1 (some .int) 0 0 [.ref (vv_q Y d)] σ post := by
  refine vv_ofI (by decide) (Nat.le_of_ble_eq_true rfl) (fun X C => ?_)
  have C : VC Y X RX3 cX3_allSeeped 1 (some .int) 0 0 := C
  refine vv_sub [0] (L' := [(0, .ref (vv_q Y d))]) rfl ?_
  refine vv_aload_n C 0 dX3_allSeeped_0 rfl rfl ?_
  refine vv_geti C kc_X3 (s_X3 hY hd) 7 (by decide) rfl fk_X3_44 dX3_allSeeped_1 ?_
  exact vv_iret C dX3_allSeeped_4 h
set_option maxHeartbeats 2000000 in
set_option maxRecDepth 100000 in
theorem mX3_edgeHeight {Y : vv_Y} (hY : Y.2.2.2.2 = wC) {d : Nat} (hd : is_X3 d) {σ : vv_S} {post : Int32 → vv_S → Prop} (h : wX3_edgeHeight d σ post) : vv_MI Y yX3_edgeHeight cX3_edgeHeight 1 (some .int) 0 0 [.ref (vv_q Y d)] σ post := by
  refine vv_ofI (by decide) (Nat.le_of_ble_eq_true rfl) (fun X C => ?_)
  have C : VC Y X RX3 cX3_edgeHeight 1 (some .int) 0 0 := C
  refine vv_sub [0] (L' := [(0, .ref (vv_q Y d))]) rfl ?_
  refine vv_aload_n C 0 dX3_edgeHeight_0 rfl rfl ?_
  refine vv_geti C kc_X3 (s_X3 hY hd) 8 (by decide) rfl fk_X3_63 dX3_edgeHeight_1 ?_
  exact vv_iret C dX3_edgeHeight_4 h
set_option maxHeartbeats 2000000 in
set_option maxRecDepth 100000 in
theorem mX3_lowestPlace {Y : vv_Y} (hY : Y.2.2.2.2 = wC) {d : Nat} (hd : is_X3 d) {σ : vv_S} {post : Int32 → vv_S → Prop} (h : wX3_lowestPlace d σ post) : vv_MI Y yX3_lowestPlace cX3_lowestPlace 1 (some .int) 0 0 [.ref (vv_q Y d)] σ post := by
  refine vv_ofI (by decide) (Nat.le_of_ble_eq_true rfl) (fun X C => ?_)
  have C : VC Y X RX3 cX3_lowestPlace 1 (some .int) 0 0 := C
  refine vv_sub [0] (L' := [(0, .ref (vv_q Y d))]) rfl ?_
  refine vv_aload_n C 0 dX3_lowestPlace_0 rfl rfl ?_
  refine vv_geti C kc_X3 (s_X3 hY hd) 9 (by decide) rfl fk_X3_66 dX3_lowestPlace_1 ?_
  exact vv_iret C dX3_lowestPlace_4 h
set_option maxHeartbeats 2000000 in
set_option maxRecDepth 100000 in
theorem mX3_overInMinute {Y : vv_Y} (hY : Y.2.2.2.2 = wC) {d : Nat} (hd : is_X3 d) {σ : vv_S} {post : Int32 → vv_S → Prop} (h : wX3_overInMinute d σ post) : vv_MI Y yX3_overInMinute cX3_overInMinute 1 (some .int) 0 0 [.ref (vv_q Y d)] σ post := by
  refine vv_ofI (by decide) (Nat.le_of_ble_eq_true rfl) (fun X C => ?_)
  have C : VC Y X RX3 cX3_overInMinute 1 (some .int) 0 0 := C
  refine vv_sub [0] (L' := [(0, .ref (vv_q Y d))]) rfl ?_
  refine vv_aload_n C 0 dX3_overInMinute_0 rfl rfl ?_
  refine vv_geti C kc_X3 (s_X3 hY hd) 13 (by decide) rfl fk_X3_99 dX3_overInMinute_1 ?_
  exact vv_iret C dX3_overInMinute_4 h
set_option maxHeartbeats 2000000 in
set_option maxRecDepth 100000 in
theorem mX3_placeOver {Y : vv_Y} (hY : Y.2.2.2.2 = wC) {d : Nat} (hd : is_X3 d) {σ : vv_S} {post : Int32 → vv_S → Prop} (h : wX3_placeOver d σ post) : vv_MI Y yX3_placeOver cX3_placeOver 1 (some .int) 0 0 [.ref (vv_q Y d)] σ post := by
  refine vv_ofI (by decide) (Nat.le_of_ble_eq_true rfl) (fun X C => ?_)
  have C : VC Y X RX3 cX3_placeOver 1 (some .int) 0 0 := C
  refine vv_sub [0] (L' := [(0, .ref (vv_q Y d))]) rfl ?_
  refine vv_aload_n C 0 dX3_placeOver_0 rfl rfl ?_
  refine vv_geti C kc_X3 (s_X3 hY hd) 14 (by decide) rfl fk_X3_102 dX3_placeOver_1 ?_
  exact vv_iret C dX3_placeOver_4 h
set_option maxHeartbeats 2000000 in
set_option maxRecDepth 100000 in
theorem mX3_breachedCell {Y : vv_Y} (hY : Y.2.2.2.2 = wC) {d : Nat} (hd : is_X3 d) {σ : vv_S} {post : Int32 → vv_S → Prop} (h : wX3_breachedCell d σ post) : vv_MI Y yX3_breachedCell cX3_breachedCell 1 (some .int) 0 0 [.ref (vv_q Y d)] σ post := by
  refine vv_ofI (by decide) (Nat.le_of_ble_eq_true rfl) (fun X C => ?_)
  have C : VC Y X RX3 cX3_breachedCell 1 (some .int) 0 0 := C
  refine vv_sub [0] (L' := [(0, .ref (vv_q Y d))]) rfl ?_
  refine vv_aload_n C 0 dX3_breachedCell_0 rfl rfl ?_
  refine vv_geti C kc_X3 (s_X3 hY hd) 15 (by decide) rfl fk_X3_105 dX3_breachedCell_1 ?_
  exact vv_iret C dX3_breachedCell_4 h
set_option maxHeartbeats 2000000 in
set_option maxRecDepth 100000 in
theorem mX4_clear {Y : vv_Y} (hY : Y.2.2.2.2 = wC) {d : Nat} (hd : is_X4 d) {σ : vv_S} {post : vv_S → Prop} (h : wX4_clear d σ post) : vv_MV Y yX4_clear cX4_clear 1 none 1 20 [.ref (vv_q Y d)] σ post := by
  refine vv_ofV (by decide) (Nat.le_of_ble_eq_true rfl) (fun X C => ?_)
  have C : VC Y X RX4 cX4_clear 1 none 1 20 := C
  refine vv_sub [0] (L' := [(0, .ref (vv_q Y d))]) rfl ?_
  refine vv_aload_n C 0 dX4_clear_0 rfl rfl ?_
  refine vv_iconst C dX4_clear_1 ki_0 ?_
  refine vv_puti C kc_X4 (s_X4 hY hd) 2 (by decide) rfl pf_X4_2 fk_X4_55 dX4_clear_2 (fun σ1 eσ1 => ?_)
  replace h := h σ1 eσ1
  refine vv_aload_n C 0 dX4_clear_5 rfl rfl ?_
  refine vv_bipush C dX4_clear_6 kb_20 ?_
  refine vv_puti C kc_X4 (s_X4 hY hd) 3 (by decide) rfl pf_X4_3 fk_X4_59 dX4_clear_8 (fun σ2 eσ2 => ?_)
  replace h := h σ2 eσ2
  refine vv_aload_n C 0 dX4_clear_11 rfl rfl ?_
  refine vv_bipush C dX4_clear_12 kb_20 ?_
  refine vv_puti C kc_X4 (s_X4 hY hd) 4 (by decide) rfl pf_X4_4 fk_X4_62 dX4_clear_14 (fun σ3 eσ3 => ?_)
  replace h := h σ3 eσ3
  refine vv_aload_n C 0 dX4_clear_17 rfl rfl ?_
  refine vv_bipush C dX4_clear_18 kb_6 ?_
  refine vv_puti C kc_X4 (s_X4 hY hd) 5 (by decide) rfl pf_X4_5 fk_X4_65 dX4_clear_20 (fun σ4 eσ4 => ?_)
  replace h := h σ4 eσ4
  refine vv_aload_n C 0 dX4_clear_23 rfl rfl ?_
  refine vv_iconst C dX4_clear_24 ki_1 ?_
  refine vv_puti C kc_X4 (s_X4 hY hd) 6 (by decide) rfl pf_X4_6 fk_X4_68 dX4_clear_25 (fun σ5 eσ5 => ?_)
  replace h := h σ5 eσ5
  refine vv_aload_n C 0 dX4_clear_28 rfl rfl ?_
  refine vv_getr (r := (d + 3)) C kc_X4 (s_X4 hY hd) 7 (by decide) rfl fk_X4_21 dX4_clear_29 ?_
  refine vv_callV (rest := []) C yk_X1_clear vk_X1_clear lk_X4_71 kc_X1.1 (s_X1 hY (is_X1_of hd)) dX4_clear_32 (mX1_clear hY (is_X1_of hd) h) rfl rfl ⟨Nat.le_of_ble_eq_true rfl, Nat.le_of_ble_eq_true rfl⟩ (Nat.le_of_ble_eq_true rfl) (fun σ6 h => ?_)
  refine vv_aload_n C 0 dX4_clear_35 rfl rfl ?_
  refine vv_getr (r := (d + 10)) C kc_X4 (s_X4 hY hd) 8 (by decide) rfl fk_X4_28 dX4_clear_36 ?_
  refine vv_callV (rest := []) C yk_X2_clear vk_X2_clear lk_X4_72 kc_X2.1 (s_X2 hY (is_X2_of hd)) dX4_clear_39 (mX2_clear hY (is_X2_of hd) h) rfl rfl ⟨Nat.le_of_ble_eq_true rfl, Nat.le_of_ble_eq_true rfl⟩ (Nat.le_of_ble_eq_true rfl) (fun σ7 h => ?_)
  exact vv_vret C dX4_clear_42 h
set_option maxHeartbeats 2000000 in
set_option maxRecDepth 100000 in
theorem mX7_size {Y : vv_Y} (hY : Y.2.2.2.2 = wC)  {σ : vv_S} {post : Int32 → vv_S → Prop} (h : wX7_size σ post) : vv_MI Y yX7_size cX7_size 1 (some .int) 0 0 [.ref (vv_q Y 1)] σ post := by
  refine vv_ofI (by decide) (Nat.le_of_ble_eq_true rfl) (fun X C => ?_)
  have C : VC Y X RX7 cX7_size 1 (some .int) 0 0 := C
  refine vv_sub [0] (L' := [(0, .ref (vv_q Y 1))]) rfl ?_
  refine vv_aload_n C 0 dX7_size_0 rfl rfl ?_
  refine vv_geti C kc_X7 (s_X7 hY) 1 (by decide) rfl fk_X7_18 dX7_size_1 ?_
  exact vv_iret C dX7_size_4 h
set_option maxHeartbeats 2000000 in
set_option maxRecDepth 100000 in
theorem mX7_letterAt {Y : vv_Y} (hY : Y.2.2.2.2 = wC) {a1 : Int32} {σ : vv_S} {post : Int32 → vv_S → Prop} (h : wX7_letterAt a1 σ post) : vv_MI Y yX7_letterAt cX7_letterAt 2 (some .int) 0 0 [.ref (vv_q Y 1), .int a1] σ post := by
  refine vv_ofI (by decide) (Nat.le_of_ble_eq_true rfl) (fun X C => ?_)
  have C : VC Y X RX7 cX7_letterAt 2 (some .int) 0 0 := C
  refine vv_sub [0, 1] (L' := [(0, .ref (vv_q Y 1)), (1, .int a1)]) rfl ?_
  refine vv_iload_n C 1 dX7_letterAt_0 rfl rfl ?_
  refine vv_join (fun k => ∀ (v1 : Int32), k v1 → VJ Y X (va_Qi post (vv_B Y) X.2) 2 29 [] [.int v1] σ) h (fun v1 h => ?_) (fun k29_1 hJk29_1 h => ?_)
  · exact vv_iret C dX7_letterAt_29 h
  · refine vv_join (fun k =>  k → VJ Y X (va_Qi post (vv_B Y) X.2) 2 28 [] [] σ) h (fun h => ?_) (fun k28_2 hJk28_2 h => ?_)
    · refine vv_iconst C dX7_letterAt_28 ki_0 ?_
      refine vv_sub [] (L' := []) rfl ?_
      exact hJk29_1 _ h
    · refine vv_if_lt (pc := 1) C 28 dX7_letterAt_1 (by decide) (fun hc4 => ?_) (fun hc4 => ?_)
      · replace h := h.1 hc4
        refine vv_sub [] (L' := []) rfl ?_
        exact hJk28_2 h
      · replace h := h.2 hc4
        refine vv_iload_n C 1 dX7_letterAt_4 rfl rfl ?_
        refine vv_aload_n C 0 dX7_letterAt_5 rfl rfl ?_
        refine vv_geti C kc_X7 (s_X7 hY) 1 (by decide) rfl fk_X7_18 dX7_letterAt_6 ?_
        refine vv_icmp_ge (pc := 9) C 28 dX7_letterAt_9 (by decide) (fun hc5 => ?_) (fun hc5 => ?_)
        · replace h := h.1 hc5
          refine vv_sub [] (L' := []) rfl ?_
          exact hJk28_2 h
        · replace h := h.2 hc5
          refine vv_iload_n C 1 dX7_letterAt_12 rfl rfl ?_
          refine vv_sipush C dX7_letterAt_13 ks_200 ?_
          refine vv_icmp_ge (pc := 16) C 28 dX7_letterAt_16 (by decide) (fun hc6 => ?_) (fun hc6 => ?_)
          · replace h := h.1 hc6
            refine vv_sub [] (L' := []) rfl ?_
            exact hJk28_2 h
          · replace h := h.2 hc6
            refine vv_aload_n C 0 dX7_letterAt_19 rfl rfl ?_
            refine vv_getr (r := 2) C kc_X7 (s_X7 hY) 0 (by decide) rfl fk_X7_9 dX7_letterAt_20 ?_
            refine vv_iload_n C 1 dX7_letterAt_23 rfl rfl ?_
            obtain ⟨hi7, h⟩ := h
            refine vv_iald C (a_X7_letters hY) hi7 rfl dX7_letterAt_24 ?_
            refine vv_goto (pc := 25) (tgt := 29) C dX7_letterAt_25 (by decide) ?_
            refine vv_sub [] (L' := []) rfl ?_
            exact hJk29_1 _ h
set_option maxHeartbeats 2000000 in
set_option maxRecDepth 100000 in
theorem mX7_figureAt {Y : vv_Y} (hY : Y.2.2.2.2 = wC) {a1 : Int32} {σ : vv_S} {post : Int32 → vv_S → Prop} (h : wX7_figureAt a1 σ post) : vv_MI Y yX7_figureAt cX7_figureAt 3 (some .int) 1 21 [.ref (vv_q Y 1), .int a1] σ post := by
  refine vv_ofI (by decide) (Nat.le_of_ble_eq_true rfl) (fun X C => ?_)
  have C : VC Y X RX7 cX7_figureAt 3 (some .int) 1 21 := C
  refine vv_sub [0, 1] (L' := [(0, .ref (vv_q Y 1)), (1, .int a1)]) rfl ?_
  refine vv_aload_n C 0 dX7_figureAt_0 rfl rfl ?_
  refine vv_iload_n C 1 dX7_figureAt_1 rfl rfl ?_
  refine vv_callI (rest := []) C yk_X7_letterAt vk_X7_letterAt lk_X7_32 kc_X7.1 (s_X7 hY) dX7_figureAt_2 (mX7_letterAt hY h) rfl rfl ⟨Nat.le_of_ble_eq_true rfl, Nat.le_of_ble_eq_true rfl⟩ (Nat.le_of_ble_eq_true rfl) (fun r2 σ1 h => ?_)
  refine vv_istore_n (L' := [(2, .int r2), (0, .ref (vv_q Y 1)), (1, .int a1)]) C dX7_figureAt_5 rfl (by decide) rfl ?_
  refine vv_iload_n C 0 dX7_figureAt_6 rfl rfl ?_
  refine vv_bipush C dX7_figureAt_7 kb_48 ?_
  refine vv_join (fun k => ∀ (v3 : Int32), k v3 → VJ Y X (va_Qi post (vv_B Y) X.2) 3 27 [] [.int v3] σ1) h (fun v3 h => ?_) (fun k27_3 hJk27_3 h => ?_)
  · exact vv_iret C dX7_figureAt_27 h
  · refine vv_join (fun k =>  k → VJ Y X (va_Qi post (vv_B Y) X.2) 3 25 [] [] σ1) h (fun h => ?_) (fun k25_4 hJk25_4 h => ?_)
    · refine vv_bipush C dX7_figureAt_25 kb_m4 ?_
      refine vv_sub [] (L' := []) rfl ?_
      exact hJk27_3 _ h
    · refine vv_icmp_lt (pc := 9) C 25 dX7_figureAt_9 (by decide) (fun hc6 => ?_) (fun hc6 => ?_)
      · replace h := h.1 hc6
        refine vv_sub [] (L' := []) rfl ?_
        exact hJk25_4 h
      · replace h := h.2 hc6
        refine vv_iload_n C 0 dX7_figureAt_12 rfl rfl ?_
        refine vv_bipush C dX7_figureAt_13 kb_57 ?_
        refine vv_icmp_gt (pc := 15) C 25 dX7_figureAt_15 (by decide) (fun hc7 => ?_) (fun hc7 => ?_)
        · replace h := h.1 hc7
          refine vv_sub [] (L' := []) rfl ?_
          exact hJk25_4 h
        · replace h := h.2 hc7
          refine vv_iload_n C 0 dX7_figureAt_18 rfl rfl ?_
          refine vv_bipush C dX7_figureAt_19 kb_48 ?_
          refine vv_isub C dX7_figureAt_21 ?_
          refine vv_goto (pc := 22) (tgt := 27) C dX7_figureAt_22 (by decide) ?_
          refine vv_sub [] (L' := []) rfl ?_
          exact hJk27_3 _ h
set_option maxHeartbeats 2000000 in
set_option maxRecDepth 100000 in
theorem mX7_figuresAt {Y : vv_Y} (hY : Y.2.2.2.2 = wC) {a1 : Int32} {σ : vv_S} {post : Int32 → vv_S → Prop} (h : wX7_figuresAt a1 σ post) : vv_MI Y yX7_figuresAt cX7_figuresAt 2 (some .int) 2 43 [.ref (vv_q Y 1), .int a1] σ post := by
  refine vv_ofI (by decide) (Nat.le_of_ble_eq_true rfl) (fun X C => ?_)
  have C : VC Y X RX7 cX7_figuresAt 2 (some .int) 2 43 := C
  refine vv_sub [0, 1] (L' := [(0, .ref (vv_q Y 1)), (1, .int a1)]) rfl ?_
  refine vv_aload_n C 0 dX7_figuresAt_0 rfl rfl ?_
  refine vv_iload_n C 1 dX7_figuresAt_1 rfl rfl ?_
  refine vv_callI (rest := []) C yk_X7_figureAt vk_X7_figureAt lk_X7_29 kc_X7.1 (s_X7 hY) dX7_figuresAt_2 (mX7_figureAt hY h) rfl rfl ⟨Nat.le_of_ble_eq_true rfl, Nat.le_of_ble_eq_true rfl⟩ (Nat.le_of_ble_eq_true rfl) (fun r2 σ1 h => ?_)
  refine vv_bipush C dX7_figuresAt_5 kb_m4 ?_
  refine vv_icmp_ne (pc := 7) C 12 dX7_figuresAt_7 (by decide) (fun hc3 => ?_) (fun hc3 => ?_)
  · replace h := h.1 hc3
    refine vv_aload_n C 0 dX7_figuresAt_12 rfl rfl ?_
    refine vv_iload_n C 1 dX7_figuresAt_13 rfl rfl ?_
    refine vv_iconst C dX7_figuresAt_14 ki_1 ?_
    refine vv_iadd C dX7_figuresAt_15 ?_
    refine vv_callI (rest := []) C yk_X7_figureAt vk_X7_figureAt lk_X7_29 kc_X7.1 (s_X7 hY) dX7_figuresAt_16 (mX7_figureAt hY h) rfl rfl ⟨Nat.le_of_ble_eq_true rfl, Nat.le_of_ble_eq_true rfl⟩ (Nat.le_of_ble_eq_true rfl) (fun r5 σ4 h => ?_)
    refine vv_bipush C dX7_figuresAt_19 kb_m4 ?_
    refine vv_join (fun k => ∀ (v6 : Int32), k v6 → VJ Y X (va_Qi post (vv_B Y) X.2) 2 29 [] [.int v6] σ4) h (fun v6 h => ?_) (fun k29_6 hJk29_6 h => ?_)
    · exact vv_iret C dX7_figuresAt_29 h
    · refine vv_icmp_ne (pc := 21) C 28 dX7_figuresAt_21 (by decide) (fun hc8 => ?_) (fun hc8 => ?_)
      · replace h := h.1 hc8
        refine vv_iconst C dX7_figuresAt_28 ki_2 ?_
        refine vv_sub [] (L' := []) rfl ?_
        exact hJk29_6 _ h
      · replace h := h.2 hc8
        refine vv_iconst C dX7_figuresAt_24 ki_1 ?_
        refine vv_goto (pc := 25) (tgt := 29) C dX7_figuresAt_25 (by decide) ?_
        refine vv_sub [] (L' := []) rfl ?_
        exact hJk29_6 _ h
  · replace h := h.2 hc3
    refine vv_iconst C dX7_figuresAt_10 ki_0 ?_
    exact vv_iret C dX7_figuresAt_11 h
set_option maxHeartbeats 2000000 in
set_option maxRecDepth 100000 in
theorem mX7_readItem {Y : vv_Y} (hY : Y.2.2.2.2 = wC) {a1 : Int32} {σ : vv_S} {post : Int32 → vv_S → Prop} (h : wX7_readItem a1 σ post) : vv_MI Y yX7_readItem cX7_readItem 6 (some .int) 3 64 [.ref (vv_q Y 1), .int a1] σ post := by
  refine vv_ofI (by decide) (Nat.le_of_ble_eq_true rfl) (fun X C => ?_)
  have C : VC Y X RX7 cX7_readItem 6 (some .int) 3 64 := C
  refine vv_sub [0, 1] (L' := [(0, .ref (vv_q Y 1)), (1, .int a1)]) rfl ?_
  refine vv_iload_n C 1 dX7_readItem_0 rfl rfl ?_
  refine vv_iconst C dX7_readItem_1 ki_1 ?_
  refine vv_iadd C dX7_readItem_2 ?_
  refine vv_nm (fun v1 ev1 => ?_)
  replace h := h v1 ev1
  refine vv_istore_n (L' := [(2, .int v1), (0, .ref (vv_q Y 1)), (1, .int a1)]) C dX7_readItem_3 rfl (by decide) rfl ?_
  refine vv_aload_n C 1 dX7_readItem_4 rfl rfl ?_
  refine vv_iconst C dX7_readItem_5 ki_0 ?_
  refine vv_puti C kc_X7 (s_X7 hY) 3 (by decide) rfl pf_X7_3 fk_X7_22 dX7_readItem_6 (fun σ2 eσ2 => ?_)
  replace h := h σ2 eσ2
  refine vv_iconst C dX7_readItem_9 ki_0 ?_
  refine vv_istore_n (L' := [(3, .int (0 : Int32)), (2, .int v1), (0, .ref (vv_q Y 1)), (1, .int a1)]) C dX7_readItem_10 rfl (by decide) rfl ?_
  obtain ⟨n6, h⟩ := h
  have hl1 : ∀ (n6 : Nat) (v3 : Int32) (v4 : Int32) (σ5 : vv_S), lX7_readItem_1 post n6 v3 v4 σ5 → VJ Y X (va_Qi post (vv_B Y) X.2) 6 11 [(0, .ref (vv_q Y 1)), (2, .int v3), (3, .int v4)] [] σ5 := by
    clear h
    intro n6
    induction n6 with
    | zero => intro v3 v4 σ5 h; exact False.elim h
    | succ n6 ih1 =>
      intro v3 v4 σ5 h
      refine vv_iload_n C 2 dX7_readItem_11 rfl rfl ?_
      refine vv_iconst C dX7_readItem_12 ki_4 ?_
      refine vv_icmp_ge (pc := 13) C 116 dX7_readItem_13 (by decide) (fun hc7 => ?_) (fun hc7 => ?_)
      · replace h := h.1 hc7
        refine vv_bipush C dX7_readItem_116 kb_m4 ?_
        exact vv_iret C dX7_readItem_118 h
      · replace h := h.2 hc7
        refine vv_aload_n C 0 dX7_readItem_16 rfl rfl ?_
        refine vv_iload_n C 1 dX7_readItem_17 rfl rfl ?_
        refine vv_callI (rest := []) C yk_X7_figuresAt vk_X7_figuresAt lk_X7_25 kc_X7.1 (s_X7 hY) dX7_readItem_18 (mX7_figuresAt hY h) rfl rfl ⟨Nat.le_of_ble_eq_true rfl, Nat.le_of_ble_eq_true rfl⟩ (Nat.le_of_ble_eq_true rfl) (fun r9 σ8 h => ?_)
        refine vv_istore (L' := [(4, .int r9), (0, .ref (vv_q Y 1)), (2, .int v3), (3, .int v4)]) C dX7_readItem_21 (by decide) rfl ?_
        refine vv_iload C 0 dX7_readItem_23 rfl ?_
        refine vv_if_ne (pc := 25) C 31 dX7_readItem_25 (by decide) (fun hc10 => ?_) (fun hc10 => ?_)
        · replace h := h.1 hc10
          refine vv_aload_n C 1 dX7_readItem_31 rfl rfl ?_
          refine vv_getr (r := 3) C kc_X7 (s_X7 hY) 2 (by decide) rfl fk_X7_15 dX7_readItem_32 ?_
          refine vv_iload_n C 3 dX7_readItem_35 rfl rfl ?_
          refine vv_iload C 0 dX7_readItem_36 rfl ?_
          refine vv_iconst C dX7_readItem_38 ki_1 ?_
          refine vv_join (fun k => ∀ (v11 : Int32) (σ12 : vv_S), k v11 σ12 → VJ Y X (va_Qi post (vv_B Y) X.2) 6 66 [(0, .ref (vv_q Y 1)), (2, .int v3), (3, .int v4), (4, .int r9)] [.int v11, .int v4, .ref (vv_q Y 3)] σ12) h (fun v11 σ12 h => ?_) (fun k66_12 hJk66_12 h => ?_)
          · obtain ⟨hi14, h⟩ := h
            refine vv_iast C (a_X7_numbers hY) hi14 rfl dX7_readItem_66 (fun σ15 eσ15 => ?_)
            replace h := h σ15 eσ15
            refine vv_aload_n C 0 dX7_readItem_67 rfl rfl ?_
            refine vv_iload_n C 2 dX7_readItem_68 rfl rfl ?_
            refine vv_iconst C dX7_readItem_69 ki_1 ?_
            refine vv_iadd C dX7_readItem_70 ?_
            refine vv_puti C kc_X7 (s_X7 hY) 3 (by decide) rfl pf_X7_3 fk_X7_22 dX7_readItem_71 (fun σ16 eσ16 => ?_)
            replace h := h σ16 eσ16
            refine vv_aload_n C 0 dX7_readItem_74 rfl rfl ?_
            refine vv_iload_n C 1 dX7_readItem_75 rfl rfl ?_
            refine vv_iload C 3 dX7_readItem_76 rfl ?_
            refine vv_iadd C dX7_readItem_78 ?_
            refine vv_callI (rest := []) C yk_X7_letterAt vk_X7_letterAt lk_X7_32 kc_X7.1 (s_X7 hY) dX7_readItem_79 (mX7_letterAt hY h) rfl rfl ⟨Nat.le_of_ble_eq_true rfl, Nat.le_of_ble_eq_true rfl⟩ (Nat.le_of_ble_eq_true rfl) (fun r18 σ17 h => ?_)
            refine vv_istore (L' := [(5, .int r18), (0, .ref (vv_q Y 1)), (2, .int v3), (3, .int v4), (4, .int r9)]) C dX7_readItem_82 (by decide) rfl ?_
            refine vv_iload_n C 2 dX7_readItem_84 rfl rfl ?_
            refine vv_iload C 4 dX7_readItem_85 rfl ?_
            refine vv_iconst C dX7_readItem_87 ki_1 ?_
            refine vv_iadd C dX7_readItem_88 ?_
            refine vv_iadd C dX7_readItem_89 ?_
            refine vv_nm (fun v19 ev19 => ?_)
            replace h := h v19 ev19
            refine vv_istore_n (L' := [(2, .int v19), (5, .int r18), (0, .ref (vv_q Y 1)), (3, .int v4), (4, .int r9)]) C dX7_readItem_90 rfl (by decide) rfl ?_
            refine vv_iload C 1 dX7_readItem_91 rfl ?_
            refine vv_bipush C dX7_readItem_93 kb_59 ?_
            refine vv_icmp_ne (pc := 95) C 100 dX7_readItem_95 (by decide) (fun hc20 => ?_) (fun hc20 => ?_)
            · replace h := h.1 hc20
              refine vv_iload C 1 dX7_readItem_100 rfl ?_
              refine vv_bipush C dX7_readItem_102 kb_44 ?_
              refine vv_icmp_eq (pc := 104) C 110 dX7_readItem_104 (by decide) (fun hc21 => ?_) (fun hc21 => ?_)
              · replace h := h.1 hc21
                obtain ⟨v22, ev22⟩ : ∃ z : Int32, z = v4 + (1 : Int32) := ⟨_, rfl⟩
                replace h := h v22 ev22
                refine vv_iinc (v := v22) (L' := [(3, .int v22), (2, .int v19), (5, .int r18), (0, .ref (vv_q Y 1)), (4, .int r9)]) C 3 dX7_readItem_110 rfl ((kinc ki_1).trans ev22.symm) (by decide) rfl ?_
                refine vv_goto (pc := 113) (tgt := 11) C dX7_readItem_113 (by decide) ?_
                refine vv_sub [3, 1, 0] (L' := [(0, .ref (vv_q Y 1)), (2, .int v19), (3, .int v22)]) rfl ?_
                exact ih1 _ _ _ h
              · replace h := h.2 hc21
                refine vv_bipush C dX7_readItem_107 kb_m4 ?_
                exact vv_iret C dX7_readItem_109 h
            · replace h := h.2 hc20
              refine vv_iload_n C 0 dX7_readItem_98 rfl rfl ?_
              exact vv_iret C dX7_readItem_99 h
          · refine vv_icmp_ne (pc := 39) C 50 dX7_readItem_39 (by decide) (fun hc23 => ?_) (fun hc23 => ?_)
            · replace h := h.1 hc23
              refine vv_bipush C dX7_readItem_50 kb_10 ?_
              refine vv_aload_n C 1 dX7_readItem_52 rfl rfl ?_
              refine vv_iload_n C 2 dX7_readItem_53 rfl rfl ?_
              refine vv_callI (rest := [.int (10 : Int32), .int v4, .ref (vv_q Y 3)]) C yk_X7_figureAt vk_X7_figureAt lk_X7_29 kc_X7.1 (s_X7 hY) dX7_readItem_54 (mX7_figureAt hY h) rfl rfl ⟨Nat.le_of_ble_eq_true rfl, Nat.le_of_ble_eq_true rfl⟩ (Nat.le_of_ble_eq_true rfl) (fun r25 σ24 h => ?_)
              refine vv_imul C dX7_readItem_57 ?_
              refine vv_aload_n C 1 dX7_readItem_58 rfl rfl ?_
              refine vv_iload_n C 2 dX7_readItem_59 rfl rfl ?_
              refine vv_iconst C dX7_readItem_60 ki_1 ?_
              refine vv_iadd C dX7_readItem_61 ?_
              refine vv_callI (rest := [.int ((10 : Int32) * r25), .int v4, .ref (vv_q Y 3)]) C yk_X7_figureAt vk_X7_figureAt lk_X7_29 kc_X7.1 (s_X7 hY) dX7_readItem_62 (mX7_figureAt hY h) rfl rfl ⟨Nat.le_of_ble_eq_true rfl, Nat.le_of_ble_eq_true rfl⟩ (Nat.le_of_ble_eq_true rfl) (fun r27 σ26 h => ?_)
              refine vv_iadd C dX7_readItem_65 ?_
              refine vv_sub [1, 2, 3, 0] (L' := [(0, .ref (vv_q Y 1)), (2, .int v3), (3, .int v4), (4, .int r9)]) rfl ?_
              exact hJk66_12 _ _ h
            · replace h := h.2 hc23
              refine vv_aload_n C 1 dX7_readItem_42 rfl rfl ?_
              refine vv_iload_n C 2 dX7_readItem_43 rfl rfl ?_
              refine vv_callI (rest := [.int v4, .ref (vv_q Y 3)]) C yk_X7_figureAt vk_X7_figureAt lk_X7_29 kc_X7.1 (s_X7 hY) dX7_readItem_44 (mX7_figureAt hY h) rfl rfl ⟨Nat.le_of_ble_eq_true rfl, Nat.le_of_ble_eq_true rfl⟩ (Nat.le_of_ble_eq_true rfl) (fun r29 σ28 h => ?_)
              refine vv_goto (pc := 47) (tgt := 66) C dX7_readItem_47 (by decide) ?_
              refine vv_sub [1, 2, 3, 0] (L' := [(0, .ref (vv_q Y 1)), (2, .int v3), (3, .int v4), (4, .int r9)]) rfl ?_
              exact hJk66_12 _ _ h
        · replace h := h.2 hc10
          refine vv_bipush C dX7_readItem_28 kb_m4 ?_
          exact vv_iret C dX7_readItem_30 h
  refine vv_sub [2, 1, 0] (L' := [(0, .ref (vv_q Y 1)), (2, .int v1), (3, .int (0 : Int32))]) rfl ?_
  exact hl1 n6 _ _ _ h
set_option maxHeartbeats 2000000 in
set_option maxRecDepth 100000 in
theorem mX7_numberCount {Y : vv_Y} (hY : Y.2.2.2.2 = wC)  {σ : vv_S} {post : Int32 → vv_S → Prop} (h : wX7_numberCount σ post) : vv_MI Y yX7_numberCount cX7_numberCount 1 (some .int) 0 0 [.ref (vv_q Y 1)] σ post := by
  refine vv_ofI (by decide) (Nat.le_of_ble_eq_true rfl) (fun X C => ?_)
  have C : VC Y X RX7 cX7_numberCount 1 (some .int) 0 0 := C
  refine vv_sub [0] (L' := [(0, .ref (vv_q Y 1))]) rfl ?_
  refine vv_aload_n C 0 dX7_numberCount_0 rfl rfl ?_
  refine vv_geti C kc_X7 (s_X7 hY) 3 (by decide) rfl fk_X7_22 dX7_numberCount_1 ?_
  exact vv_iret C dX7_numberCount_4 h
set_option maxHeartbeats 2000000 in
set_option maxRecDepth 100000 in
theorem mX4_setLake {Y : vv_Y} (hY : Y.2.2.2.2 = wC) {d : Nat} (hd : is_X4 d) {a1 : Int32} {a2 : Int32} {σ : vv_S} {post : Int32 → vv_S → Prop} (h : wX4_setLake d a1 a2 σ post) : vv_MI Y yX4_setLake cX4_setLake 3 (some .boolean) 1 22 [.ref (vv_q Y d), .int a1, .int a2] σ post := by
  refine vv_ofI (by decide) (Nat.le_of_ble_eq_true rfl) (fun X C => ?_)
  have C : VC Y X RX4 cX4_setLake 3 (some .boolean) 1 22 := C
  refine vv_sub [0, 1, 2] (L' := [(0, .ref (vv_q Y d)), (1, .int a1), (2, .int a2)]) rfl ?_
  refine vv_aload_n C 0 dX4_setLake_0 rfl rfl ?_
  refine vv_iload_n C 1 dX4_setLake_1 rfl rfl ?_
  refine vv_puti C kc_X4 (s_X4 hY hd) 5 (by decide) rfl pf_X4_5 fk_X4_65 dX4_setLake_2 (fun σ1 eσ1 => ?_)
  replace h := h σ1 eσ1
  refine vv_aload_n C 0 dX4_setLake_5 rfl rfl ?_
  refine vv_iload_n C 2 dX4_setLake_6 rfl rfl ?_
  refine vv_puti C kc_X4 (s_X4 hY hd) 6 (by decide) rfl pf_X4_6 fk_X4_68 dX4_setLake_7 (fun σ2 eσ2 => ?_)
  replace h := h σ2 eσ2
  refine vv_iload_n C 1 dX4_setLake_10 rfl rfl ?_
  refine vv_iconst C dX4_setLake_11 ki_1 ?_
  refine vv_bipush C dX4_setLake_12 kb_20 ?_
  refine vv_callSN (rest := []) C yk_X8_isWithin sk_X8_isWithin lk_X4_107 dX4_setLake_14 (mX8_isWithin hY h) rfl rfl ⟨Nat.le_of_ble_eq_true rfl, Nat.le_of_ble_eq_true rfl⟩ (Nat.le_of_ble_eq_true rfl) (fun r4 σ3 h => ?_)
  refine vv_join (fun k => ∀ (v5 : Int32), k v5 → VJ Y X (va_Qi post (vv_B Y) X.2) 3 30 [] [.int v5] σ3) h (fun v5 h => ?_) (fun k30_5 hJk30_5 h => ?_)
  · exact vv_zret C h.1 dX4_setLake_30 h.2
  · refine vv_join (fun k =>  k → VJ Y X (va_Qi post (vv_B Y) X.2) 3 29 [] [] σ3) h (fun h => ?_) (fun k29_6 hJk29_6 h => ?_)
    · refine vv_iconst C dX4_setLake_29 ki_0 ?_
      refine vv_sub [] (L' := []) rfl ?_
      exact hJk30_5 _ h
    · refine vv_if_eq (pc := 17) C 29 dX4_setLake_17 (by decide) (fun hc8 => ?_) (fun hc8 => ?_)
      · replace h := h.1 hc8
        refine vv_sub [] (L' := []) rfl ?_
        exact hJk29_6 h
      · replace h := h.2 hc8
        refine vv_iload_n C 2 dX4_setLake_20 rfl rfl ?_
        refine vv_iconst C dX4_setLake_21 ki_5 ?_
        refine vv_icmp_gt (pc := 22) C 29 dX4_setLake_22 (by decide) (fun hc9 => ?_) (fun hc9 => ?_)
        · replace h := h.1 hc9
          refine vv_sub [] (L' := []) rfl ?_
          exact hJk29_6 h
        · replace h := h.2 hc9
          refine vv_iconst C dX4_setLake_25 ki_1 ?_
          refine vv_goto (pc := 26) (tgt := 30) C dX4_setLake_26 (by decide) ?_
          refine vv_sub [] (L' := []) rfl ?_
          exact hJk30_5 _ h
set_option maxHeartbeats 2000000 in
set_option maxRecDepth 100000 in
theorem mX4_setBanks {Y : vv_Y} (hY : Y.2.2.2.2 = wC) {d : Nat} (hd : is_X4 d) {a1 : Int32} {a2 : Int32} {σ : vv_S} {post : Int32 → vv_S → Prop} (h : wX4_setBanks d a1 a2 σ post) : vv_MI Y yX4_setBanks cX4_setBanks 3 (some .boolean) 0 0 [.ref (vv_q Y d), .int a1, .int a2] σ post := by
  refine vv_ofI (by decide) (Nat.le_of_ble_eq_true rfl) (fun X C => ?_)
  have C : VC Y X RX4 cX4_setBanks 3 (some .boolean) 0 0 := C
  refine vv_sub [0, 1, 2] (L' := [(0, .ref (vv_q Y d)), (1, .int a1), (2, .int a2)]) rfl ?_
  refine vv_aload_n C 0 dX4_setBanks_0 rfl rfl ?_
  refine vv_iload_n C 1 dX4_setBanks_1 rfl rfl ?_
  refine vv_puti C kc_X4 (s_X4 hY hd) 3 (by decide) rfl pf_X4_3 fk_X4_59 dX4_setBanks_2 (fun σ1 eσ1 => ?_)
  replace h := h σ1 eσ1
  refine vv_aload_n C 0 dX4_setBanks_5 rfl rfl ?_
  refine vv_iload_n C 2 dX4_setBanks_6 rfl rfl ?_
  refine vv_puti C kc_X4 (s_X4 hY hd) 4 (by decide) rfl pf_X4_4 fk_X4_62 dX4_setBanks_7 (fun σ2 eσ2 => ?_)
  replace h := h σ2 eσ2
  refine vv_iload_n C 1 dX4_setBanks_10 rfl rfl ?_
  refine vv_bipush C dX4_setBanks_11 kb_50 ?_
  refine vv_join (fun k => ∀ (v3 : Int32), k v3 → VJ Y X (va_Qi post (vv_B Y) X.2) 3 27 [] [.int v3] σ2) h (fun v3 h => ?_) (fun k27_3 hJk27_3 h => ?_)
  · exact vv_zret C h.1 dX4_setBanks_27 h.2
  · refine vv_join (fun k =>  k → VJ Y X (va_Qi post (vv_B Y) X.2) 3 26 [] [] σ2) h (fun h => ?_) (fun k26_4 hJk26_4 h => ?_)
    · refine vv_iconst C dX4_setBanks_26 ki_0 ?_
      refine vv_sub [] (L' := []) rfl ?_
      exact hJk27_3 _ h
    · refine vv_icmp_gt (pc := 13) C 26 dX4_setBanks_13 (by decide) (fun hc6 => ?_) (fun hc6 => ?_)
      · replace h := h.1 hc6
        refine vv_sub [] (L' := []) rfl ?_
        exact hJk26_4 h
      · replace h := h.2 hc6
        refine vv_iload_n C 2 dX4_setBanks_16 rfl rfl ?_
        refine vv_bipush C dX4_setBanks_17 kb_50 ?_
        refine vv_icmp_gt (pc := 19) C 26 dX4_setBanks_19 (by decide) (fun hc7 => ?_) (fun hc7 => ?_)
        · replace h := h.1 hc7
          refine vv_sub [] (L' := []) rfl ?_
          exact hJk26_4 h
        · replace h := h.2 hc7
          refine vv_iconst C dX4_setBanks_22 ki_1 ?_
          refine vv_goto (pc := 23) (tgt := 27) C dX4_setBanks_23 (by decide) ?_
          refine vv_sub [] (L' := []) rfl ?_
          exact hJk27_3 _ h
set_option maxHeartbeats 2000000 in
set_option maxRecDepth 100000 in
theorem mX4_addCell {Y : vv_Y} (hY : Y.2.2.2.2 = wC) {d : Nat} (hd : is_X4 d) {a1 : Int32} {a2 : Int32} {σ : vv_S} {post : Int32 → vv_S → Prop} (h : wX4_addCell d a1 a2 σ post) : vv_MI Y yX4_addCell cX4_addCell 3 (some .boolean) 2 42 [.ref (vv_q Y d), .int a1, .int a2] σ post := by
  refine vv_ofI (by decide) (Nat.le_of_ble_eq_true rfl) (fun X C => ?_)
  have C : VC Y X RX4 cX4_addCell 3 (some .boolean) 2 42 := C
  refine vv_sub [0, 1, 2] (L' := [(0, .ref (vv_q Y d)), (1, .int a1), (2, .int a2)]) rfl ?_
  refine vv_aload_n C 0 dX4_addCell_0 rfl rfl ?_
  refine vv_geti C kc_X4 (s_X4 hY hd) 2 (by decide) rfl fk_X4_55 dX4_addCell_1 ?_
  refine vv_join (fun k => ∀ (σ1 : vv_S), k σ1 → VJ Y X (va_Qi post (vv_B Y) X.2) 3 29 [] [] σ1) h (fun σ1 h => ?_) (fun k29_1 hJk29_1 h => ?_)
  · refine vv_iconst C dX4_addCell_29 ki_0 ?_
    exact vv_zret C (Or.inl rfl) dX4_addCell_30 h
  · refine vv_if_lt (pc := 4) C 29 dX4_addCell_4 (by decide) (fun hc3 => ?_) (fun hc3 => ?_)
    · replace h := h.1 hc3
      refine vv_sub [] (L' := []) rfl ?_
      exact hJk29_1 _ h
    · replace h := h.2 hc3
      refine vv_aload_n C 0 dX4_addCell_7 rfl rfl ?_
      refine vv_geti C kc_X4 (s_X4 hY hd) 2 (by decide) rfl fk_X4_55 dX4_addCell_8 ?_
      refine vv_bipush C dX4_addCell_11 kb_8 ?_
      refine vv_icmp_ge (pc := 13) C 29 dX4_addCell_13 (by decide) (fun hc4 => ?_) (fun hc4 => ?_)
      · replace h := h.1 hc4
        refine vv_sub [] (L' := []) rfl ?_
        exact hJk29_1 _ h
      · replace h := h.2 hc4
        refine vv_iload_n C 1 dX4_addCell_16 rfl rfl ?_
        refine vv_bipush C dX4_addCell_17 kb_40 ?_
        refine vv_icmp_gt (pc := 19) C 29 dX4_addCell_19 (by decide) (fun hc5 => ?_) (fun hc5 => ?_)
        · replace h := h.1 hc5
          refine vv_sub [] (L' := []) rfl ?_
          exact hJk29_1 _ h
        · replace h := h.2 hc5
          refine vv_iload_n C 2 dX4_addCell_22 rfl rfl ?_
          refine vv_callSN (rest := []) C yk_X8_isStuff sk_X8_isStuff lk_X4_103 dX4_addCell_23 (mX8_isStuff hY h) rfl rfl ⟨Nat.le_of_ble_eq_true rfl, Nat.le_of_ble_eq_true rfl⟩ (Nat.le_of_ble_eq_true rfl) (fun r7 σ6 h => ?_)
          refine vv_if_ne (pc := 26) C 31 dX4_addCell_26 (by decide) (fun hc8 => ?_) (fun hc8 => ?_)
          · replace h := h.1 hc8
            refine vv_aload_n C 0 dX4_addCell_31 rfl rfl ?_
            refine vv_getr (r := (d + 1)) C kc_X4 (s_X4 hY hd) 0 (by decide) rfl fk_X4_9 dX4_addCell_32 ?_
            refine vv_aload_n C 0 dX4_addCell_35 rfl rfl ?_
            refine vv_geti C kc_X4 (s_X4 hY hd) 2 (by decide) rfl fk_X4_55 dX4_addCell_36 ?_
            refine vv_iload_n C 1 dX4_addCell_39 rfl rfl ?_
            obtain ⟨hi9, h⟩ := h
            refine vv_iast C (a_X4_heights hY hd) hi9 rfl dX4_addCell_40 (fun σ10 eσ10 => ?_)
            replace h := h σ10 eσ10
            refine vv_aload_n C 0 dX4_addCell_41 rfl rfl ?_
            refine vv_getr (r := (d + 2)) C kc_X4 (s_X4 hY hd) 1 (by decide) rfl fk_X4_15 dX4_addCell_42 ?_
            refine vv_aload_n C 0 dX4_addCell_45 rfl rfl ?_
            refine vv_geti C kc_X4 (s_X4 hY hd) 2 (by decide) rfl fk_X4_55 dX4_addCell_46 ?_
            refine vv_iload_n C 2 dX4_addCell_49 rfl rfl ?_
            obtain ⟨hi11, h⟩ := h
            refine vv_iast C (a_X4_stuffs hY hd) hi11 rfl dX4_addCell_50 (fun σ12 eσ12 => ?_)
            replace h := h σ12 eσ12
            refine vv_aload_n C 0 dX4_addCell_51 rfl rfl ?_
            refine vv_dup C dX4_addCell_52 rfl ?_
            refine vv_geti C kc_X4 (s_X4 hY hd) 2 (by decide) rfl fk_X4_55 dX4_addCell_53 ?_
            refine vv_iconst C dX4_addCell_56 ki_1 ?_
            refine vv_iadd C dX4_addCell_57 ?_
            refine vv_puti C kc_X4 (s_X4 hY hd) 2 (by decide) rfl pf_X4_2 fk_X4_55 dX4_addCell_58 (fun σ13 eσ13 => ?_)
            replace h := h σ13 eσ13
            refine vv_iconst C dX4_addCell_61 ki_1 ?_
            exact vv_zret C (Or.inr rfl) dX4_addCell_62 h
          · replace h := h.2 hc8
            refine vv_sub [] (L' := []) rfl ?_
            exact hJk29_1 _ h
set_option maxHeartbeats 2000000 in
set_option maxRecDepth 100000 in
theorem mX4_takeItem {Y : vv_Y} (hY : Y.2.2.2.2 = wC) {d : Nat} (hd : is_X4 d) {a1 : Int32} {σ : vv_S} {post : Int32 → vv_S → Prop} (h : wX4_takeItem d a1 σ post) : vv_MI Y yX4_takeItem cX4_takeItem 7 (some .boolean) 3 64 [.ref (vv_q Y d), .int a1, .ref (vv_q Y 1)] σ post := by
  refine vv_ofI (by decide) (Nat.le_of_ble_eq_true rfl) (fun X C => ?_)
  have C : VC Y X RX4 cX4_takeItem 7 (some .boolean) 3 64 := C
  refine vv_sub [0, 1, 2] (L' := [(0, .ref (vv_q Y d)), (1, .int a1), (2, .ref (vv_q Y 1))]) rfl ?_
  refine vv_aload_n C 2 dX4_takeItem_0 rfl rfl ?_
  refine vv_callI (rest := []) C yk_X7_numberCount vk_X7_numberCount lk_X4_73 kc_X7.1 (s_X7 hY) dX4_takeItem_1 (mX7_numberCount hY h) rfl rfl ⟨Nat.le_of_ble_eq_true rfl, Nat.le_of_ble_eq_true rfl⟩ (Nat.le_of_ble_eq_true rfl) (fun r2 σ1 h => ?_)
  refine vv_istore_n (L' := [(3, .int r2), (0, .ref (vv_q Y d)), (1, .int a1), (2, .ref (vv_q Y 1))]) C dX4_takeItem_4 rfl (by decide) rfl ?_
  refine vv_aload_n C 3 dX4_takeItem_5 rfl rfl ?_
  refine vv_iconst C dX4_takeItem_6 ki_0 ?_
  refine vv_callI (rest := []) C yk_X7_numberAt vk_X7_numberAt lk_X4_76 kc_X7.1 (s_X7 hY) dX4_takeItem_7 (mX7_numberAt hY h) rfl rfl ⟨Nat.le_of_ble_eq_true rfl, Nat.le_of_ble_eq_true rfl⟩ (Nat.le_of_ble_eq_true rfl) (fun r4 σ3 h => ?_)
  refine vv_istore (L' := [(4, .int r4), (3, .int r2), (0, .ref (vv_q Y d)), (1, .int a1), (2, .ref (vv_q Y 1))]) C dX4_takeItem_10 (by decide) rfl ?_
  refine vv_aload_n C 4 dX4_takeItem_12 rfl rfl ?_
  refine vv_iconst C dX4_takeItem_13 ki_1 ?_
  refine vv_callI (rest := []) C yk_X7_numberAt vk_X7_numberAt lk_X4_76 kc_X7.1 (s_X7 hY) dX4_takeItem_14 (mX7_numberAt hY h) rfl rfl ⟨Nat.le_of_ble_eq_true rfl, Nat.le_of_ble_eq_true rfl⟩ (Nat.le_of_ble_eq_true rfl) (fun r6 σ5 h => ?_)
  refine vv_istore (L' := [(5, .int r6), (4, .int r4), (3, .int r2), (0, .ref (vv_q Y d)), (1, .int a1), (2, .ref (vv_q Y 1))]) C dX4_takeItem_17 (by decide) rfl ?_
  refine vv_aload_n C 5 dX4_takeItem_19 rfl rfl ?_
  refine vv_iconst C dX4_takeItem_20 ki_2 ?_
  refine vv_callI (rest := []) C yk_X7_numberAt vk_X7_numberAt lk_X4_76 kc_X7.1 (s_X7 hY) dX4_takeItem_21 (mX7_numberAt hY h) rfl rfl ⟨Nat.le_of_ble_eq_true rfl, Nat.le_of_ble_eq_true rfl⟩ (Nat.le_of_ble_eq_true rfl) (fun r8 σ7 h => ?_)
  refine vv_istore (L' := [(6, .int r8), (5, .int r6), (4, .int r4), (3, .int r2), (0, .ref (vv_q Y d)), (1, .int a1), (2, .ref (vv_q Y 1))]) C dX4_takeItem_24 (by decide) rfl ?_
  refine vv_iload_n C 5 dX4_takeItem_26 rfl rfl ?_
  by_cases hc9 : a1 = (97 : Int32)
  · replace h := h.1 hc9
    refine vv_tab (pc := 27) C 156 dX4_takeItem_27 hc9 (by decide) (by decide) rfl (by decide) ?_
    refine vv_iload_n C 3 dX4_takeItem_156 rfl rfl ?_
    refine vv_iconst C dX4_takeItem_157 ki_2 ?_
    refine vv_join (fun k => ∀ (v10 : Int32) (σ11 : vv_S), k v10 σ11 → VJ Y X (va_Qi post (vv_B Y) X.2) 7 177 [] [.int v10] σ11) h (fun v10 σ11 h => ?_) (fun k177_11 hJk177_11 h => ?_)
    · exact vv_zret C h.1 dX4_takeItem_177 h.2
    · refine vv_join (fun k => ∀ (σ13 : vv_S), k σ13 → VJ Y X (va_Qi post (vv_B Y) X.2) 7 176 [] [] σ13) h (fun σ13 h => ?_) (fun k176_13 hJk176_13 h => ?_)
      · refine vv_iconst C dX4_takeItem_176 ki_0 ?_
        refine vv_sub [] (L' := []) rfl ?_
        exact hJk177_11 _ _ h
      · refine vv_icmp_ne (pc := 158) C 176 dX4_takeItem_158 (by decide) (fun hc15 => ?_) (fun hc15 => ?_)
        · replace h := h.1 hc15
          refine vv_sub [] (L' := []) rfl ?_
          exact hJk176_13 _ h
        · replace h := h.2 hc15
          refine vv_aload_n C 4 dX4_takeItem_161 rfl rfl ?_
          refine vv_iload C 2 dX4_takeItem_162 rfl ?_
          refine vv_iload C 1 dX4_takeItem_164 rfl ?_
          refine vv_callI (rest := []) C yk_X4_setLake vk_X4_setLake lk_X4_86 kc_X4.1 (s_X4 hY hd) dX4_takeItem_166 (mX4_setLake hY hd h) rfl rfl ⟨Nat.le_of_ble_eq_true rfl, Nat.le_of_ble_eq_true rfl⟩ (Nat.le_of_ble_eq_true rfl) (fun r17 σ16 h => ?_)
          refine vv_if_eq (pc := 169) C 176 dX4_takeItem_169 (by decide) (fun hc18 => ?_) (fun hc18 => ?_)
          · replace h := h.1 hc18
            refine vv_sub [] (L' := []) rfl ?_
            exact hJk176_13 _ h
          · replace h := h.2 hc18
            refine vv_iconst C dX4_takeItem_172 ki_1 ?_
            refine vv_goto (pc := 173) (tgt := 177) C dX4_takeItem_173 (by decide) ?_
            refine vv_sub [] (L' := []) rfl ?_
            exact hJk177_11 _ _ h
  replace h := h.2
  by_cases hc19 : a1 = (98 : Int32)
  · replace h := h.1 hc19
    refine vv_tab (pc := 27) C 134 dX4_takeItem_27 hc19 (by decide) (by decide) rfl (by decide) ?_
    refine vv_iload_n C 3 dX4_takeItem_134 rfl rfl ?_
    refine vv_iconst C dX4_takeItem_135 ki_2 ?_
    refine vv_join (fun k => ∀ (v20 : Int32) (σ21 : vv_S), k v20 σ21 → VJ Y X (va_Qi post (vv_B Y) X.2) 7 155 [] [.int v20] σ21) h (fun v20 σ21 h => ?_) (fun k155_21 hJk155_21 h => ?_)
    · exact vv_zret C h.1 dX4_takeItem_155 h.2
    · refine vv_join (fun k => ∀ (σ23 : vv_S), k σ23 → VJ Y X (va_Qi post (vv_B Y) X.2) 7 154 [] [] σ23) h (fun σ23 h => ?_) (fun k154_23 hJk154_23 h => ?_)
      · refine vv_iconst C dX4_takeItem_154 ki_0 ?_
        refine vv_sub [] (L' := []) rfl ?_
        exact hJk155_21 _ _ h
      · refine vv_icmp_ne (pc := 136) C 154 dX4_takeItem_136 (by decide) (fun hc25 => ?_) (fun hc25 => ?_)
        · replace h := h.1 hc25
          refine vv_sub [] (L' := []) rfl ?_
          exact hJk154_23 _ h
        · replace h := h.2 hc25
          refine vv_aload_n C 4 dX4_takeItem_139 rfl rfl ?_
          refine vv_iload C 2 dX4_takeItem_140 rfl ?_
          refine vv_iload C 1 dX4_takeItem_142 rfl ?_
          refine vv_callI (rest := []) C yk_X4_setBanks vk_X4_setBanks lk_X4_83 kc_X4.1 (s_X4 hY hd) dX4_takeItem_144 (mX4_setBanks hY hd h) rfl rfl ⟨Nat.le_of_ble_eq_true rfl, Nat.le_of_ble_eq_true rfl⟩ (Nat.le_of_ble_eq_true rfl) (fun r27 σ26 h => ?_)
          refine vv_if_eq (pc := 147) C 154 dX4_takeItem_147 (by decide) (fun hc28 => ?_) (fun hc28 => ?_)
          · replace h := h.1 hc28
            refine vv_sub [] (L' := []) rfl ?_
            exact hJk154_23 _ h
          · replace h := h.2 hc28
            refine vv_iconst C dX4_takeItem_150 ki_1 ?_
            refine vv_goto (pc := 151) (tgt := 155) C dX4_takeItem_151 (by decide) ?_
            refine vv_sub [] (L' := []) rfl ?_
            exact hJk155_21 _ _ h
  replace h := h.2
  by_cases hc29 : a1 = (99 : Int32)
  · replace h := h.1 hc29
    refine vv_tab (pc := 27) C 112 dX4_takeItem_27 hc29 (by decide) (by decide) rfl (by decide) ?_
    refine vv_iload_n C 3 dX4_takeItem_112 rfl rfl ?_
    refine vv_iconst C dX4_takeItem_113 ki_2 ?_
    refine vv_join (fun k => ∀ (v30 : Int32) (σ31 : vv_S), k v30 σ31 → VJ Y X (va_Qi post (vv_B Y) X.2) 7 133 [] [.int v30] σ31) h (fun v30 σ31 h => ?_) (fun k133_31 hJk133_31 h => ?_)
    · exact vv_zret C h.1 dX4_takeItem_133 h.2
    · refine vv_join (fun k => ∀ (σ33 : vv_S), k σ33 → VJ Y X (va_Qi post (vv_B Y) X.2) 7 132 [] [] σ33) h (fun σ33 h => ?_) (fun k132_33 hJk132_33 h => ?_)
      · refine vv_iconst C dX4_takeItem_132 ki_0 ?_
        refine vv_sub [] (L' := []) rfl ?_
        exact hJk133_31 _ _ h
      · refine vv_icmp_ne (pc := 114) C 132 dX4_takeItem_114 (by decide) (fun hc35 => ?_) (fun hc35 => ?_)
        · replace h := h.1 hc35
          refine vv_sub [] (L' := []) rfl ?_
          exact hJk132_33 _ h
        · replace h := h.2 hc35
          refine vv_aload_n C 4 dX4_takeItem_117 rfl rfl ?_
          refine vv_iload C 2 dX4_takeItem_118 rfl ?_
          refine vv_iload C 1 dX4_takeItem_120 rfl ?_
          refine vv_callI (rest := []) C yk_X4_addCell vk_X4_addCell lk_X4_79 kc_X4.1 (s_X4 hY hd) dX4_takeItem_122 (mX4_addCell hY hd h) rfl rfl ⟨Nat.le_of_ble_eq_true rfl, Nat.le_of_ble_eq_true rfl⟩ (Nat.le_of_ble_eq_true rfl) (fun r37 σ36 h => ?_)
          refine vv_if_eq (pc := 125) C 132 dX4_takeItem_125 (by decide) (fun hc38 => ?_) (fun hc38 => ?_)
          · replace h := h.1 hc38
            refine vv_sub [] (L' := []) rfl ?_
            exact hJk132_33 _ h
          · replace h := h.2 hc38
            refine vv_iconst C dX4_takeItem_128 ki_1 ?_
            refine vv_goto (pc := 129) (tgt := 133) C dX4_takeItem_129 (by decide) ?_
            refine vv_sub [] (L' := []) rfl ?_
            exact hJk133_31 _ _ h
  replace h := h.2
  by_cases hc39 : a1 = (102 : Int32)
  · replace h := h.1 hc39
    refine vv_tab (pc := 27) C 178 dX4_takeItem_27 hc39 (by decide) (by decide) rfl (by decide) ?_
    refine vv_iload_n C 3 dX4_takeItem_178 rfl rfl ?_
    refine vv_iconst C dX4_takeItem_179 ki_2 ?_
    refine vv_join (fun k => ∀ (v40 : Int32) (σ41 : vv_S), k v40 σ41 → VJ Y X (va_Qi post (vv_B Y) X.2) 7 202 [] [.int v40] σ41) h (fun v40 σ41 h => ?_) (fun k202_41 hJk202_41 h => ?_)
    · exact vv_zret C h.1 dX4_takeItem_202 h.2
    · refine vv_join (fun k => ∀ (σ43 : vv_S), k σ43 → VJ Y X (va_Qi post (vv_B Y) X.2) 7 201 [] [] σ43) h (fun σ43 h => ?_) (fun k201_43 hJk201_43 h => ?_)
      · refine vv_iconst C dX4_takeItem_201 ki_0 ?_
        refine vv_sub [] (L' := []) rfl ?_
        exact hJk202_41 _ _ h
      · refine vv_icmp_ne (pc := 180) C 201 dX4_takeItem_180 (by decide) (fun hc45 => ?_) (fun hc45 => ?_)
        · replace h := h.1 hc45
          refine vv_sub [] (L' := []) rfl ?_
          exact hJk201_43 _ h
        · replace h := h.2 hc45
          refine vv_aload_n C 4 dX4_takeItem_183 rfl rfl ?_
          refine vv_getr (r := (d + 3)) C kc_X4 (s_X4 hY hd) 7 (by decide) rfl fk_X4_21 dX4_takeItem_184 ?_
          refine vv_iload C 2 dX4_takeItem_187 rfl ?_
          refine vv_iload C 1 dX4_takeItem_189 rfl ?_
          refine vv_callI (rest := []) C yk_X1_addFlow vk_X1_addFlow lk_X4_89 kc_X1.1 (s_X1 hY (is_X1_of hd)) dX4_takeItem_191 (mX1_addFlow hY (is_X1_of hd) h) rfl rfl ⟨Nat.le_of_ble_eq_true rfl, Nat.le_of_ble_eq_true rfl⟩ (Nat.le_of_ble_eq_true rfl) (fun r47 σ46 h => ?_)
          refine vv_if_eq (pc := 194) C 201 dX4_takeItem_194 (by decide) (fun hc48 => ?_) (fun hc48 => ?_)
          · replace h := h.1 hc48
            refine vv_sub [] (L' := []) rfl ?_
            exact hJk201_43 _ h
          · replace h := h.2 hc48
            refine vv_iconst C dX4_takeItem_197 ki_1 ?_
            refine vv_goto (pc := 198) (tgt := 202) C dX4_takeItem_198 (by decide) ?_
            refine vv_sub [] (L' := []) rfl ?_
            exact hJk202_41 _ _ h
  replace h := h.2
  by_cases hc49 : a1 = (106 : Int32)
  · replace h := h.1 hc49
    refine vv_tab (pc := 27) C 252 dX4_takeItem_27 hc49 (by decide) (by decide) rfl (by decide) ?_
    refine vv_iload_n C 3 dX4_takeItem_252 rfl rfl ?_
    refine vv_iconst C dX4_takeItem_253 ki_3 ?_
    refine vv_join (fun k => ∀ (v50 : Int32) (σ51 : vv_S), k v50 σ51 → VJ Y X (va_Qi post (vv_B Y) X.2) 7 285 [] [.int v50] σ51) h (fun v50 σ51 h => ?_) (fun k285_51 hJk285_51 h => ?_)
    · exact vv_zret C h.1 dX4_takeItem_285 h.2
    · refine vv_join (fun k => ∀ (σ53 : vv_S), k σ53 → VJ Y X (va_Qi post (vv_B Y) X.2) 7 284 [] [] σ53) h (fun σ53 h => ?_) (fun k284_53 hJk284_53 h => ?_)
      · refine vv_iconst C dX4_takeItem_284 ki_0 ?_
        refine vv_sub [] (L' := []) rfl ?_
        exact hJk285_51 _ _ h
      · refine vv_icmp_ne (pc := 254) C 284 dX4_takeItem_254 (by decide) (fun hc55 => ?_) (fun hc55 => ?_)
        · replace h := h.1 hc55
          refine vv_sub [] (L' := []) rfl ?_
          exact hJk284_53 _ h
        · replace h := h.2 hc55
          refine vv_iload C 2 dX4_takeItem_257 rfl ?_
          refine vv_aload_n C 4 dX4_takeItem_259 rfl rfl ?_
          refine vv_geti C kc_X4 (s_X4 hY hd) 2 (by decide) rfl fk_X4_55 dX4_takeItem_260 ?_
          refine vv_icmp_ge (pc := 263) C 284 dX4_takeItem_263 (by decide) (fun hc56 => ?_) (fun hc56 => ?_)
          · replace h := h.1 hc56
            refine vv_sub [] (L' := []) rfl ?_
            exact hJk284_53 _ h
          · replace h := h.2 hc56
            refine vv_aload_n C 4 dX4_takeItem_266 rfl rfl ?_
            refine vv_getr (r := (d + 10)) C kc_X4 (s_X4 hY hd) 8 (by decide) rfl fk_X4_28 dX4_takeItem_267 ?_
            refine vv_iload C 1 dX4_takeItem_270 rfl ?_
            refine vv_iload C 0 dX4_takeItem_272 rfl ?_
            refine vv_callI (rest := []) C yk_X2_addJob vk_X2_addJob lk_X4_100 kc_X2.1 (s_X2 hY (is_X2_of hd)) dX4_takeItem_274 (mX2_addJob hY (is_X2_of hd) h) rfl rfl ⟨Nat.le_of_ble_eq_true rfl, Nat.le_of_ble_eq_true rfl⟩ (Nat.le_of_ble_eq_true rfl) (fun r58 σ57 h => ?_)
            refine vv_if_eq (pc := 277) C 284 dX4_takeItem_277 (by decide) (fun hc59 => ?_) (fun hc59 => ?_)
            · replace h := h.1 hc59
              refine vv_sub [] (L' := []) rfl ?_
              exact hJk284_53 _ h
            · replace h := h.2 hc59
              refine vv_iconst C dX4_takeItem_280 ki_1 ?_
              refine vv_goto (pc := 281) (tgt := 285) C dX4_takeItem_281 (by decide) ?_
              refine vv_sub [] (L' := []) rfl ?_
              exact hJk285_51 _ _ h
  replace h := h.2
  by_cases hc60 : a1 = (112 : Int32)
  · replace h := h.1 hc60
    refine vv_tab (pc := 27) C 230 dX4_takeItem_27 hc60 (by decide) (by decide) rfl (by decide) ?_
    refine vv_iload_n C 3 dX4_takeItem_230 rfl rfl ?_
    refine vv_iconst C dX4_takeItem_231 ki_4 ?_
    refine vv_join (fun k => ∀ (v61 : Int32) (σ62 : vv_S), k v61 σ62 → VJ Y X (va_Qi post (vv_B Y) X.2) 7 251 [] [.int v61] σ62) h (fun v61 σ62 h => ?_) (fun k251_62 hJk251_62 h => ?_)
    · exact vv_zret C h.1 dX4_takeItem_251 h.2
    · refine vv_join (fun k => ∀ (σ64 : vv_S), k σ64 → VJ Y X (va_Qi post (vv_B Y) X.2) 7 250 [] [] σ64) h (fun σ64 h => ?_) (fun k250_64 hJk250_64 h => ?_)
      · refine vv_iconst C dX4_takeItem_250 ki_0 ?_
        refine vv_sub [] (L' := []) rfl ?_
        exact hJk251_62 _ _ h
      · refine vv_icmp_ne (pc := 232) C 250 dX4_takeItem_232 (by decide) (fun hc66 => ?_) (fun hc66 => ?_)
        · replace h := h.1 hc66
          refine vv_sub [] (L' := []) rfl ?_
          exact hJk250_64 _ h
        · replace h := h.2 hc66
          refine vv_aload_n C 4 dX4_takeItem_235 rfl rfl ?_
          refine vv_getr (r := (d + 10)) C kc_X4 (s_X4 hY hd) 8 (by decide) rfl fk_X4_28 dX4_takeItem_236 ?_
          refine vv_aload_n C 6 dX4_takeItem_239 rfl rfl ?_
          refine vv_callI (rest := []) C yk_X2_addChild vk_X2_addChild lk_X4_96 kc_X2.1 (s_X2 hY (is_X2_of hd)) dX4_takeItem_240 (mX2_addChild hY (is_X2_of hd) h) rfl rfl ⟨Nat.le_of_ble_eq_true rfl, Nat.le_of_ble_eq_true rfl⟩ (Nat.le_of_ble_eq_true rfl) (fun r68 σ67 h => ?_)
          refine vv_if_eq (pc := 243) C 250 dX4_takeItem_243 (by decide) (fun hc69 => ?_) (fun hc69 => ?_)
          · replace h := h.1 hc69
            refine vv_sub [] (L' := []) rfl ?_
            exact hJk250_64 _ h
          · replace h := h.2 hc69
            refine vv_iconst C dX4_takeItem_246 ki_1 ?_
            refine vv_goto (pc := 247) (tgt := 251) C dX4_takeItem_247 (by decide) ?_
            refine vv_sub [] (L' := []) rfl ?_
            exact hJk251_62 _ _ h
  replace h := h.2
  by_cases hc70 : a1 = (114 : Int32)
  · replace h := h.1 hc70
    refine vv_tab (pc := 27) C 203 dX4_takeItem_27 hc70 (by decide) (by decide) rfl (by decide) ?_
    refine vv_iload_n C 3 dX4_takeItem_203 rfl rfl ?_
    refine vv_iconst C dX4_takeItem_204 ki_3 ?_
    refine vv_join (fun k => ∀ (v71 : Int32) (σ72 : vv_S), k v71 σ72 → VJ Y X (va_Qi post (vv_B Y) X.2) 7 229 [] [.int v71] σ72) h (fun v71 σ72 h => ?_) (fun k229_72 hJk229_72 h => ?_)
    · exact vv_zret C h.1 dX4_takeItem_229 h.2
    · refine vv_join (fun k => ∀ (σ74 : vv_S), k σ74 → VJ Y X (va_Qi post (vv_B Y) X.2) 7 228 [] [] σ74) h (fun σ74 h => ?_) (fun k228_74 hJk228_74 h => ?_)
      · refine vv_iconst C dX4_takeItem_228 ki_0 ?_
        refine vv_sub [] (L' := []) rfl ?_
        exact hJk229_72 _ _ h
      · refine vv_icmp_ne (pc := 205) C 228 dX4_takeItem_205 (by decide) (fun hc76 => ?_) (fun hc76 => ?_)
        · replace h := h.1 hc76
          refine vv_sub [] (L' := []) rfl ?_
          exact hJk228_74 _ h
        · replace h := h.2 hc76
          refine vv_aload_n C 4 dX4_takeItem_208 rfl rfl ?_
          refine vv_getr (r := (d + 3)) C kc_X4 (s_X4 hY hd) 7 (by decide) rfl fk_X4_21 dX4_takeItem_209 ?_
          refine vv_iload C 2 dX4_takeItem_212 rfl ?_
          refine vv_iload C 1 dX4_takeItem_214 rfl ?_
          refine vv_iload C 0 dX4_takeItem_216 rfl ?_
          refine vv_callI (rest := []) C yk_X1_addRain vk_X1_addRain lk_X4_92 kc_X1.1 (s_X1 hY (is_X1_of hd)) dX4_takeItem_218 (mX1_addRain hY (is_X1_of hd) h) rfl rfl ⟨Nat.le_of_ble_eq_true rfl, Nat.le_of_ble_eq_true rfl⟩ (Nat.le_of_ble_eq_true rfl) (fun r78 σ77 h => ?_)
          refine vv_if_eq (pc := 221) C 228 dX4_takeItem_221 (by decide) (fun hc79 => ?_) (fun hc79 => ?_)
          · replace h := h.1 hc79
            refine vv_sub [] (L' := []) rfl ?_
            exact hJk228_74 _ h
          · replace h := h.2 hc79
            refine vv_iconst C dX4_takeItem_224 ki_1 ?_
            refine vv_goto (pc := 225) (tgt := 229) C dX4_takeItem_225 (by decide) ?_
            refine vv_sub [] (L' := []) rfl ?_
            exact hJk229_72 _ _ h
  replace h := h.2
  replace h := h ⟨hc9, hc19, hc29, hc39, hc49, hc60, hc70⟩
  have hgap : ∀ n : Nat, n < 18 → ((#[129, 107, 85, 259, 259, 151, 259, 259, 259, 225, 259, 259, 259, 259, 259, 203, 259, 176] : Array Int)[n]? = some (259) ∨ ((97 : Int) + n = 97 ∨ (97 : Int) + n = 98 ∨ (97 : Int) + n = 99 ∨ (97 : Int) + n = 102 ∨ (97 : Int) + n = 106 ∨ (97 : Int) + n = 112 ∨ (97 : Int) + n = 114)) := by decide
  refine vv_tabD (pc := 27) C 286 dX4_takeItem_27 (fun n hn hx => by
      rcases hgap n (by omega) with h9 | h9
      · exact h9
      · exfalso; have nhc9 := lv_neT (a := 97) hc9 (by decide); have nhc19 := lv_neT (a := 98) hc19 (by decide); have nhc29 := lv_neT (a := 99) hc29 (by decide); have nhc39 := lv_neT (a := 102) hc39 (by decide); have nhc49 := lv_neT (a := 106) hc49 (by decide); have nhc60 := lv_neT (a := 112) hc60 (by decide); have nhc70 := lv_neT (a := 114) hc70 (by decide); omega) (by decide) ?_
  refine vv_iconst C dX4_takeItem_286 ki_0 ?_
  exact vv_zret C (Or.inl rfl) dX4_takeItem_287 h
set_option maxHeartbeats 2000000 in
set_option maxRecDepth 100000 in
theorem mX4_readFrom {Y : vv_Y} (hY : Y.2.2.2.2 = wC) {d : Nat} (hd : is_X4 d) {σ : vv_S} {post : Int32 → vv_S → Prop} (h : wX4_readFrom d σ post) : vv_MI Y yX4_readFrom cX4_readFrom 5 (some .int) 4 90 [.ref (vv_q Y d), .ref (vv_q Y 1)] σ post := by
  refine vv_ofI (by decide) (Nat.le_of_ble_eq_true rfl) (fun X C => ?_)
  have C : VC Y X RX4 cX4_readFrom 5 (some .int) 4 90 := C
  refine vv_sub [0, 1] (L' := [(0, .ref (vv_q Y d)), (1, .ref (vv_q Y 1))]) rfl ?_
  refine vv_aload_n C 0 dX4_readFrom_0 rfl rfl ?_
  refine vv_callV (rest := []) C yk_X4_clear vk_X4_clear lk_X4_32 kc_X4.1 (s_X4 hY hd) dX4_readFrom_1 (mX4_clear hY hd h) rfl rfl ⟨Nat.le_of_ble_eq_true rfl, Nat.le_of_ble_eq_true rfl⟩ (Nat.le_of_ble_eq_true rfl) (fun σ1 h => ?_)
  refine vv_iconst C dX4_readFrom_4 ki_0 ?_
  refine vv_istore_n (L' := [(2, .int (0 : Int32)), (0, .ref (vv_q Y d)), (1, .ref (vv_q Y 1))]) C dX4_readFrom_5 rfl (by decide) rfl ?_
  refine vv_iconst C dX4_readFrom_6 ki_0 ?_
  refine vv_istore_n (L' := [(3, .int (0 : Int32)), (2, .int (0 : Int32)), (0, .ref (vv_q Y d)), (1, .ref (vv_q Y 1))]) C dX4_readFrom_7 rfl (by decide) rfl ?_
  refine vv_join (fun k => ∀ (σ2 : vv_S), k σ2 → VJ Y X (va_Qi post (vv_B Y) X.2) 5 61 [(0, .ref (vv_q Y d))] [] σ2) h (fun σ2 h => ?_) (fun k61_2 hJk61_2 h => ?_)
  · refine vv_aload_n C 0 dX4_readFrom_61 rfl rfl ?_
    refine vv_getr (r := (d + 3)) C kc_X4 (s_X4 hY hd) 7 (by decide) rfl fk_X4_21 dX4_readFrom_62 ?_
    refine vv_callV (rest := []) C yk_X1_settle vk_X1_settle lk_X4_52 kc_X1.1 (s_X1 hY (is_X1_of hd)) dX4_readFrom_65 (mX1_settle hY (is_X1_of hd) h) rfl rfl ⟨Nat.le_of_ble_eq_true rfl, Nat.le_of_ble_eq_true rfl⟩ (Nat.le_of_ble_eq_true rfl) (fun σ4 h => ?_)
    refine vv_bipush C dX4_readFrom_68 kb_m4 ?_
    exact vv_iret C dX4_readFrom_70 h
  · refine vv_join (fun k => ∀ (v5 : Int32) (σ6 : vv_S), k v5 σ6 → VJ Y X (va_Qi post (vv_B Y) X.2) 5 50 [(2, .int v5)] [] σ6) h (fun v5 σ6 h => ?_) (fun k50_6 hJk50_6 h => ?_)
    · refine vv_iload_n C 0 dX4_readFrom_50 rfl rfl ?_
      exact vv_iret C dX4_readFrom_51 h
    · obtain ⟨n11, h⟩ := h
      have hl1 : ∀ (n11 : Nat) (v8 : Int32) (v9 : Int32) (σ10 : vv_S), lX4_readFrom_1 k61_2 k50_6 d n11 v8 v9 σ10 → VJ Y X (va_Qi post (vv_B Y) X.2) 5 8 [(0, .ref (vv_q Y d)), (1, .ref (vv_q Y 1)), (2, .int v8), (3, .int v9)] [] σ10 := by
        clear h
        intro n11
        induction n11 with
        | zero => intro v8 v9 σ10 h; exact False.elim h
        | succ n11 ih1 =>
          intro v8 v9 σ10 h
          refine vv_iload_n C 3 dX4_readFrom_8 rfl rfl ?_
          refine vv_sipush C dX4_readFrom_9 ks_200 ?_
          refine vv_icmp_ge (pc := 12) C 61 dX4_readFrom_12 (by decide) (fun hc12 => ?_) (fun hc12 => ?_)
          · replace h := h.1 hc12
            refine vv_sub [0] (L' := [(0, .ref (vv_q Y d))]) rfl ?_
            exact hJk61_2 _ h
          · replace h := h.2 hc12
            refine vv_iload_n C 2 dX4_readFrom_15 rfl rfl ?_
            refine vv_aload_n C 1 dX4_readFrom_16 rfl rfl ?_
            refine vv_callI (rest := [.int v8]) C yk_X7_size vk_X7_size lk_X4_35 kc_X7.1 (s_X7 hY) dX4_readFrom_17 (mX7_size hY h) rfl rfl ⟨Nat.le_of_ble_eq_true rfl, Nat.le_of_ble_eq_true rfl⟩ (Nat.le_of_ble_eq_true rfl) (fun r14 σ13 h => ?_)
            refine vv_icmp_ge (pc := 20) C 61 dX4_readFrom_20 (by decide) (fun hc15 => ?_) (fun hc15 => ?_)
            · replace h := h.1 hc15
              refine vv_sub [0] (L' := [(0, .ref (vv_q Y d))]) rfl ?_
              exact hJk61_2 _ h
            · replace h := h.2 hc15
              refine vv_aload_n C 1 dX4_readFrom_23 rfl rfl ?_
              refine vv_iload_n C 2 dX4_readFrom_24 rfl rfl ?_
              refine vv_callI (rest := []) C yk_X7_readItem vk_X7_readItem lk_X4_41 kc_X7.1 (s_X7 hY) dX4_readFrom_25 (mX7_readItem hY h) rfl rfl ⟨Nat.le_of_ble_eq_true rfl, Nat.le_of_ble_eq_true rfl⟩ (Nat.le_of_ble_eq_true rfl) (fun r17 σ16 h => ?_)
              refine vv_istore (L' := [(4, .int r17), (0, .ref (vv_q Y d)), (1, .ref (vv_q Y 1)), (2, .int v8), (3, .int v9)]) C dX4_readFrom_28 (by decide) rfl ?_
              refine vv_iload C 0 dX4_readFrom_30 rfl ?_
              refine vv_bipush C dX4_readFrom_32 kb_m4 ?_
              refine vv_icmp_eq (pc := 34) C 50 dX4_readFrom_34 (by decide) (fun hc18 => ?_) (fun hc18 => ?_)
              · replace h := h.1 hc18
                refine vv_sub [3] (L' := [(2, .int v8)]) rfl ?_
                exact hJk50_6 _ _ h
              · replace h := h.2 hc18
                refine vv_aload_n C 1 dX4_readFrom_37 rfl rfl ?_
                refine vv_aload_n C 2 dX4_readFrom_38 rfl rfl ?_
                refine vv_iload_n C 3 dX4_readFrom_39 rfl rfl ?_
                refine vv_callI (rest := [.ref (vv_q Y d)]) C yk_X7_letterAt vk_X7_letterAt lk_X4_45 kc_X7.1 (s_X7 hY) dX4_readFrom_40 (mX7_letterAt hY h) rfl rfl ⟨Nat.le_of_ble_eq_true rfl, Nat.le_of_ble_eq_true rfl⟩ (Nat.le_of_ble_eq_true rfl) (fun r20 σ19 h => ?_)
                refine vv_aload_n C 2 dX4_readFrom_43 rfl rfl ?_
                refine vv_callI (rest := []) C yk_X4_takeItem vk_X4_takeItem lk_X4_48 kc_X4.1 (s_X4 hY hd) dX4_readFrom_44 (mX4_takeItem hY hd h) rfl rfl ⟨Nat.le_of_ble_eq_true rfl, Nat.le_of_ble_eq_true rfl⟩ (Nat.le_of_ble_eq_true rfl) (fun r22 σ21 h => ?_)
                refine vv_if_ne (pc := 47) C 52 dX4_readFrom_47 (by decide) (fun hc23 => ?_) (fun hc23 => ?_)
                · replace h := h.1 hc23
                  refine vv_iload C 0 dX4_readFrom_52 rfl ?_
                  refine vv_istore_n (L' := [(2, .int r17), (4, .int r17), (0, .ref (vv_q Y d)), (1, .ref (vv_q Y 1)), (3, .int v9)]) C dX4_readFrom_54 rfl (by decide) rfl ?_
                  obtain ⟨v24, ev24⟩ : ∃ z : Int32, z = v9 + (1 : Int32) := ⟨_, rfl⟩
                  replace h := h v24 ev24
                  refine vv_iinc (v := v24) (L' := [(3, .int v24), (2, .int r17), (4, .int r17), (0, .ref (vv_q Y d)), (1, .ref (vv_q Y 1))]) C 4 dX4_readFrom_55 rfl ((kinc ki_1).trans ev24.symm) (by decide) rfl ?_
                  refine vv_goto (pc := 58) (tgt := 8) C dX4_readFrom_58 (by decide) ?_
                  refine vv_sub [3, 4, 1, 0] (L' := [(0, .ref (vv_q Y d)), (1, .ref (vv_q Y 1)), (2, .int r17), (3, .int v24)]) rfl ?_
                  exact ih1 _ _ _ h
                · replace h := h.2 hc23
                  refine vv_sub [3] (L' := [(2, .int v8)]) rfl ?_
                  exact hJk50_6 _ _ h
      refine vv_sub [2, 3, 1, 0] (L' := [(0, .ref (vv_q Y d)), (1, .ref (vv_q Y 1)), (2, .int (0 : Int32)), (3, .int (0 : Int32))]) rfl ?_
      exact hl1 n11 _ _ _ h
set_option maxHeartbeats 2000000 in
set_option maxRecDepth 100000 in
theorem mX4_crew {Y : vv_Y} (hY : Y.2.2.2.2 = wC) {d : Nat} (hd : is_X4 d) {σ : vv_S} {post : vv_S → Prop} (h : wX4_crew d σ post) : vv_MR Y yX4_crew cX4_crew 1 (some (.object "DamOfTurf$Crew")) 0 0 [.ref (vv_q Y d)] σ (d + 10) post := by
  refine vv_ofR (by decide) (Nat.le_of_ble_eq_true rfl) (fun X C => ?_)
  have C : VC Y X RX4 cX4_crew 1 (some (.object "DamOfTurf$Crew")) 0 0 := C
  refine vv_sub [0] (L' := [(0, .ref (vv_q Y d))]) rfl ?_
  refine vv_aload_n C 0 dX4_crew_0 rfl rfl ?_
  refine vv_getr (r := (d + 10)) C kc_X4 (s_X4 hY hd) 8 (by decide) rfl fk_X4_28 dX4_crew_1 ?_
  exact vv_aret C dX4_crew_4 h
set_option maxHeartbeats 2000000 in
set_option maxRecDepth 100000 in
theorem mX5_start {Y : vv_Y} (hY : Y.2.2.2.2 = wC) {d : Nat} (hd : is_X5 d) {a1 : Int32} {a2 : Int32} {σ : vv_S} {post : vv_S → Prop} (h : wX5_start d a1 a2 σ post) : vv_MV Y yX5_start cX5_start 4 none 1 14 [.ref (vv_q Y d), .int a1, .int a2] σ post := by
  refine vv_ofV (by decide) (Nat.le_of_ble_eq_true rfl) (fun X C => ?_)
  have C : VC Y X RX5 cX5_start 4 none 1 14 := C
  refine vv_sub [0, 1, 2] (L' := [(0, .ref (vv_q Y d)), (1, .int a1), (2, .int a2)]) rfl ?_
  refine vv_iconst C dX5_start_0 ki_0 ?_
  refine vv_istore_n (L' := [(3, .int (0 : Int32)), (0, .ref (vv_q Y d)), (1, .int a1), (2, .int a2)]) C dX5_start_1 rfl (by decide) rfl ?_
  refine vv_join (fun k => ∀ (σ1 : vv_S), k σ1 → VJ Y X (va_Qv post (vv_B Y) X.2) 4 21 [(0, .ref (vv_q Y d)), (1, .int a1), (2, .int a2)] [] σ1) h (fun σ1 h => ?_) (fun k21_1 hJk21_1 h => ?_)
  · refine vv_aload_n C 0 dX5_start_21 rfl rfl ?_
    refine vv_getr (r := (d + 1)) C kc_X5 (s_X5 hY hd) 0 (by decide) rfl fk_X5_9 dX5_start_22 ?_
    refine vv_iconst C dX5_start_25 ki_0 ?_
    refine vv_iload_n C 1 dX5_start_26 rfl rfl ?_
    refine vv_iast C (a_X5_inches hY hd) kv_0_8 kn_0 dX5_start_27 (fun σ3 eσ3 => ?_)
    replace h := h σ3 eσ3
    refine vv_aload_n C 0 dX5_start_28 rfl rfl ?_
    refine vv_iload_n C 2 dX5_start_29 rfl rfl ?_
    refine vv_bipush C dX5_start_30 kb_8 ?_
    refine vv_min C lk_X5_15 mk_min (by decide) (Nat.le_of_ble_eq_true rfl) dX5_start_32 ?_
    refine vv_puti C kc_X5 (s_X5 hY hd) 1 (by decide) rfl pf_X5_1 fk_X5_21 dX5_start_35 (fun σ4 eσ4 => ?_)
    replace h := h σ4 eσ4
    exact vv_vret C dX5_start_38 h
  · obtain ⟨n7, h⟩ := h
    have hl1 : ∀ (n7 : Nat) (v5 : Int32) (σ6 : vv_S), lX5_start_1 k21_1 d n7 v5 σ6 → VJ Y X (va_Qv post (vv_B Y) X.2) 4 2 [(0, .ref (vv_q Y d)), (1, .int a1), (2, .int a2), (3, .int v5)] [] σ6 := by
      clear h
      intro n7
      induction n7 with
      | zero => intro v5 σ6 h; exact False.elim h
      | succ n7 ih1 =>
        intro v5 σ6 h
        refine vv_iload_n C 3 dX5_start_2 rfl rfl ?_
        refine vv_bipush C dX5_start_3 kb_8 ?_
        refine vv_icmp_ge (pc := 5) C 21 dX5_start_5 (by decide) (fun hc8 => ?_) (fun hc8 => ?_)
        · replace h := h.1 hc8
          refine vv_sub [0, 1, 2] (L' := [(0, .ref (vv_q Y d)), (1, .int a1), (2, .int a2)]) rfl ?_
          exact hJk21_1 _ h
        · replace h := h.2 hc8
          refine vv_aload_n C 0 dX5_start_8 rfl rfl ?_
          refine vv_getr (r := (d + 1)) C kc_X5 (s_X5 hY hd) 0 (by decide) rfl fk_X5_9 dX5_start_9 ?_
          refine vv_iload_n C 3 dX5_start_12 rfl rfl ?_
          refine vv_iconst C dX5_start_13 ki_0 ?_
          obtain ⟨hi9, h⟩ := h
          refine vv_iast C (a_X5_inches hY hd) hi9 rfl dX5_start_14 (fun σ10 eσ10 => ?_)
          replace h := h σ10 eσ10
          obtain ⟨v11, ev11⟩ : ∃ z : Int32, z = v5 + (1 : Int32) := ⟨_, rfl⟩
          replace h := h v11 ev11
          refine vv_iinc (v := v11) (L' := [(3, .int v11), (0, .ref (vv_q Y d)), (1, .int a1), (2, .int a2)]) C 3 dX5_start_15 rfl ((kinc ki_1).trans ev11.symm) (by decide) rfl ?_
          refine vv_goto (pc := 18) (tgt := 2) C dX5_start_18 (by decide) ?_
          refine vv_sub [1, 2, 3, 0] (L' := [(0, .ref (vv_q Y d)), (1, .int a1), (2, .int a2), (3, .int v11)]) rfl ?_
          exact ih1 _ _ h
    refine vv_sub [1, 2, 3, 0] (L' := [(0, .ref (vv_q Y d)), (1, .int a1), (2, .int a2), (3, .int (0 : Int32))]) rfl ?_
    exact hl1 n7 _ _ h
set_option maxHeartbeats 2000000 in
set_option maxRecDepth 100000 in
theorem mX5_next {Y : vv_Y} (hY : Y.2.2.2.2 = wC) {d : Nat} (hd : is_X5 d) {σ : vv_S} {post : Int32 → vv_S → Prop} (h : wX5_next d σ post) : vv_MI Y yX5_next cX5_next 4 (some .boolean) 0 0 [.ref (vv_q Y d)] σ post := by
  refine vv_ofI (by decide) (Nat.le_of_ble_eq_true rfl) (fun X C => ?_)
  have C : VC Y X RX5 cX5_next 4 (some .boolean) 0 0 := C
  refine vv_sub [0] (L' := [(0, .ref (vv_q Y d))]) rfl ?_
  refine vv_aload_n C 0 dX5_next_0 rfl rfl ?_
  refine vv_geti C kc_X5 (s_X5 hY hd) 1 (by decide) rfl fk_X5_21 dX5_next_1 ?_
  refine vv_iconst C dX5_next_4 ki_1 ?_
  refine vv_isub C dX5_next_5 ?_
  refine vv_nm (fun v1 ev1 => ?_)
  replace h := h v1 ev1
  refine vv_istore_n (L' := [(1, .int v1), (0, .ref (vv_q Y d))]) C dX5_next_6 rfl (by decide) rfl ?_
  refine vv_iload_n C 0 dX5_next_7 rfl rfl ?_
  refine vv_iconst C dX5_next_8 ki_1 ?_
  refine vv_isub C dX5_next_9 ?_
  refine vv_nm (fun v2 ev2 => ?_)
  replace h := h v2 ev2
  refine vv_istore_n (L' := [(2, .int v2), (1, .int v1), (0, .ref (vv_q Y d))]) C dX5_next_10 rfl (by decide) rfl ?_
  refine vv_join (fun k => ∀ (v3 : Int32), k v3 → VJ Y X (va_Qi post (vv_B Y) X.2) 4 24 [(0, .ref (vv_q Y d)), (1, .int v1), (2, .int v3)] [] σ) h (fun v3 h => ?_) (fun k24_3 hJk24_3 h => ?_)
  · refine vv_aload_n C 0 dX5_next_24 rfl rfl ?_
    refine vv_getr (r := (d + 1)) C kc_X5 (s_X5 hY hd) 0 (by decide) rfl fk_X5_9 dX5_next_25 ?_
    refine vv_iload_n C 1 dX5_next_28 rfl rfl ?_
    obtain ⟨hi5, h⟩ := h
    refine vv_iald C (a_X5_inches hY hd) hi5 rfl dX5_next_29 ?_
    refine vv_iconst C dX5_next_30 ki_1 ?_
    refine vv_iadd C dX5_next_31 ?_
    refine vv_nm (fun v6 ev6 => ?_)
    replace h := h v6 ev6
    refine vv_istore_n (L' := [(3, .int v6), (0, .ref (vv_q Y d)), (1, .int v1), (2, .int v3)]) C dX5_next_32 rfl (by decide) rfl ?_
    refine vv_aload_n C 1 dX5_next_33 rfl rfl ?_
    refine vv_getr (r := (d + 1)) C kc_X5 (s_X5 hY hd) 0 (by decide) rfl fk_X5_9 dX5_next_34 ?_
    refine vv_iload_n C 2 dX5_next_37 rfl rfl ?_
    refine vv_iconst C dX5_next_38 ki_0 ?_
    obtain ⟨hi7, h⟩ := h
    refine vv_iast C (a_X5_inches hY hd) hi7 rfl dX5_next_39 (fun σ8 eσ8 => ?_)
    replace h := h σ8 eσ8
    refine vv_aload_n C 1 dX5_next_40 rfl rfl ?_
    refine vv_getr (r := (d + 1)) C kc_X5 (s_X5 hY hd) 0 (by decide) rfl fk_X5_9 dX5_next_41 ?_
    refine vv_iload_n C 3 dX5_next_44 rfl rfl ?_
    refine vv_dup2 C dX5_next_45 rfl rfl ?_
    obtain ⟨hi9, h⟩ := h
    refine vv_iald C (a_X5_inches hY hd) hi9 rfl dX5_next_46 ?_
    refine vv_iconst C dX5_next_47 ki_1 ?_
    refine vv_isub C dX5_next_48 ?_
    obtain ⟨hi10, h⟩ := h
    refine vv_iast C (a_X5_inches hY hd) hi10 rfl dX5_next_49 (fun σ11 eσ11 => ?_)
    replace h := h σ11 eσ11
    refine vv_aload_n C 1 dX5_next_50 rfl rfl ?_
    refine vv_getr (r := (d + 1)) C kc_X5 (s_X5 hY hd) 0 (by decide) rfl fk_X5_9 dX5_next_51 ?_
    refine vv_iload_n C 3 dX5_next_54 rfl rfl ?_
    refine vv_iconst C dX5_next_55 ki_1 ?_
    refine vv_iadd C dX5_next_56 ?_
    refine vv_iload_n C 0 dX5_next_57 rfl rfl ?_
    obtain ⟨hi12, h⟩ := h
    refine vv_iast C (a_X5_inches hY hd) hi12 rfl dX5_next_58 (fun σ13 eσ13 => ?_)
    replace h := h σ13 eσ13
    refine vv_iconst C dX5_next_59 ki_1 ?_
    exact vv_zret C (Or.inr rfl) dX5_next_60 h
  · obtain ⟨n15, h⟩ := h
    have hl1 : ∀ (n15 : Nat) (v14 : Int32), lX5_next_1 post σ d k24_3 n15 v14 → VJ Y X (va_Qi post (vv_B Y) X.2) 4 11 [(0, .ref (vv_q Y d)), (1, .int v1), (2, .int v14)] [] σ := by
      clear h
      intro n15
      induction n15 with
      | zero => intro v14 h; exact False.elim h
      | succ n15 ih1 =>
        intro v14 h
        refine vv_iload_n C 2 dX5_next_11 rfl rfl ?_
        refine vv_if_lt (pc := 12) C 67 dX5_next_12 (by decide) (fun hc16 => ?_) (fun hc16 => ?_)
        · replace h := h.1 hc16
          refine vv_iconst C dX5_next_67 ki_0 ?_
          exact vv_zret C (Or.inl rfl) dX5_next_68 h
        · replace h := h.2 hc16
          refine vv_aload_n C 0 dX5_next_15 rfl rfl ?_
          refine vv_getr (r := (d + 1)) C kc_X5 (s_X5 hY hd) 0 (by decide) rfl fk_X5_9 dX5_next_16 ?_
          refine vv_iload_n C 2 dX5_next_19 rfl rfl ?_
          obtain ⟨hi17, h⟩ := h
          refine vv_iald C (a_X5_inches hY hd) hi17 rfl dX5_next_20 ?_
          refine vv_if_le (pc := 21) C 61 dX5_next_21 (by decide) (fun hc18 => ?_) (fun hc18 => ?_)
          · replace h := h.1 hc18
            obtain ⟨v19, ev19⟩ : ∃ z : Int32, z = v14 + (-1 : Int32) := ⟨_, rfl⟩
            replace h := h v19 ev19
            refine vv_iinc (v := v19) (L' := [(2, .int v19), (0, .ref (vv_q Y d)), (1, .int v1)]) C 2 dX5_next_61 rfl ((kinc ki_m1).trans ev19.symm) (by decide) rfl ?_
            refine vv_goto (pc := 64) (tgt := 11) C dX5_next_64 (by decide) ?_
            refine vv_sub [1, 2, 0] (L' := [(0, .ref (vv_q Y d)), (1, .int v1), (2, .int v19)]) rfl ?_
            exact ih1 _ h
          · replace h := h.2 hc18
            refine vv_sub [0, 1, 2] (L' := [(0, .ref (vv_q Y d)), (1, .int v1), (2, .int v14)]) rfl ?_
            exact hJk24_3 _ h
    refine vv_sub [2, 1, 0] (L' := [(0, .ref (vv_q Y d)), (1, .int v1), (2, .int v2)]) rfl ?_
    exact hl1 n15 _ h
set_option maxHeartbeats 2000000 in
set_option maxRecDepth 100000 in
theorem mX5_inchesAt {Y : vv_Y} (hY : Y.2.2.2.2 = wC) {d : Nat} (hd : is_X5 d) {a1 : Int32} {σ : vv_S} {post : Int32 → vv_S → Prop} (h : wX5_inchesAt d a1 σ post) : vv_MI Y yX5_inchesAt cX5_inchesAt 2 (some .int) 0 0 [.ref (vv_q Y d), .int a1] σ post := by
  refine vv_ofI (by decide) (Nat.le_of_ble_eq_true rfl) (fun X C => ?_)
  have C : VC Y X RX5 cX5_inchesAt 2 (some .int) 0 0 := C
  refine vv_sub [0, 1] (L' := [(0, .ref (vv_q Y d)), (1, .int a1)]) rfl ?_
  refine vv_iload_n C 1 dX5_inchesAt_0 rfl rfl ?_
  refine vv_join (fun k => ∀ (v1 : Int32), k v1 → VJ Y X (va_Qi post (vv_B Y) X.2) 2 20 [] [.int v1] σ) h (fun v1 h => ?_) (fun k20_1 hJk20_1 h => ?_)
  · exact vv_iret C dX5_inchesAt_20 h
  · refine vv_join (fun k =>  k → VJ Y X (va_Qi post (vv_B Y) X.2) 2 19 [] [] σ) h (fun h => ?_) (fun k19_2 hJk19_2 h => ?_)
    · refine vv_iconst C dX5_inchesAt_19 ki_0 ?_
      refine vv_sub [] (L' := []) rfl ?_
      exact hJk20_1 _ h
    · refine vv_if_lt (pc := 1) C 19 dX5_inchesAt_1 (by decide) (fun hc4 => ?_) (fun hc4 => ?_)
      · replace h := h.1 hc4
        refine vv_sub [] (L' := []) rfl ?_
        exact hJk19_2 h
      · replace h := h.2 hc4
        refine vv_iload_n C 1 dX5_inchesAt_4 rfl rfl ?_
        refine vv_bipush C dX5_inchesAt_5 kb_8 ?_
        refine vv_icmp_ge (pc := 7) C 19 dX5_inchesAt_7 (by decide) (fun hc5 => ?_) (fun hc5 => ?_)
        · replace h := h.1 hc5
          refine vv_sub [] (L' := []) rfl ?_
          exact hJk19_2 h
        · replace h := h.2 hc5
          refine vv_aload_n C 0 dX5_inchesAt_10 rfl rfl ?_
          refine vv_getr (r := (d + 1)) C kc_X5 (s_X5 hY hd) 0 (by decide) rfl fk_X5_9 dX5_inchesAt_11 ?_
          refine vv_iload_n C 1 dX5_inchesAt_14 rfl rfl ?_
          obtain ⟨hi6, h⟩ := h
          refine vv_iald C (a_X5_inches hY hd) hi6 rfl dX5_inchesAt_15 ?_
          refine vv_goto (pc := 16) (tgt := 20) C dX5_inchesAt_16 (by decide) ?_
          refine vv_sub [] (L' := []) rfl ?_
          exact hJk20_1 _ h
set_option maxHeartbeats 2000000 in
set_option maxRecDepth 100000 in
theorem mX5_copyFrom {Y : vv_Y} (hY : Y.2.2.2.2 = wC) {d : Nat} (hd : is_X5 d) {o1 : Nat} (ho1 : is_X5 o1) {σ : vv_S} {post : vv_S → Prop} (h : wX5_copyFrom d o1 σ post) : vv_MV Y yX5_copyFrom cX5_copyFrom 3 none 0 0 [.ref (vv_q Y d), .ref (vv_q Y o1)] σ post := by
  refine vv_ofV (by decide) (Nat.le_of_ble_eq_true rfl) (fun X C => ?_)
  have C : VC Y X RX5 cX5_copyFrom 3 none 0 0 := C
  refine vv_sub [0, 1] (L' := [(0, .ref (vv_q Y d)), (1, .ref (vv_q Y o1))]) rfl ?_
  refine vv_iconst C dX5_copyFrom_0 ki_0 ?_
  refine vv_istore_n (L' := [(2, .int (0 : Int32)), (0, .ref (vv_q Y d)), (1, .ref (vv_q Y o1))]) C dX5_copyFrom_1 rfl (by decide) rfl ?_
  refine vv_join (fun k => ∀ (σ1 : vv_S), k σ1 → VJ Y X (va_Qv post (vv_B Y) X.2) 3 26 [(0, .ref (vv_q Y d)), (1, .ref (vv_q Y o1))] [] σ1) h (fun σ1 h => ?_) (fun k26_1 hJk26_1 h => ?_)
  · refine vv_aload_n C 0 dX5_copyFrom_26 rfl rfl ?_
    refine vv_aload_n C 1 dX5_copyFrom_27 rfl rfl ?_
    refine vv_geti C kc_X5 (s_X5 hY ho1) 1 (by decide) rfl fk_X5_21 dX5_copyFrom_28 ?_
    refine vv_puti C kc_X5 (s_X5 hY hd) 1 (by decide) rfl pf_X5_1 fk_X5_21 dX5_copyFrom_31 (fun σ3 eσ3 => ?_)
    replace h := h σ3 eσ3
    exact vv_vret C dX5_copyFrom_34 h
  · obtain ⟨n6, h⟩ := h
    have hl1 : ∀ (n6 : Nat) (v4 : Int32) (σ5 : vv_S), lX5_copyFrom_1 k26_1 d o1 n6 v4 σ5 → VJ Y X (va_Qv post (vv_B Y) X.2) 3 2 [(0, .ref (vv_q Y d)), (1, .ref (vv_q Y o1)), (2, .int v4)] [] σ5 := by
      clear h
      intro n6
      induction n6 with
      | zero => intro v4 σ5 h; exact False.elim h
      | succ n6 ih1 =>
        intro v4 σ5 h
        refine vv_iload_n C 2 dX5_copyFrom_2 rfl rfl ?_
        refine vv_bipush C dX5_copyFrom_3 kb_8 ?_
        refine vv_icmp_ge (pc := 5) C 26 dX5_copyFrom_5 (by decide) (fun hc7 => ?_) (fun hc7 => ?_)
        · replace h := h.1 hc7
          refine vv_sub [0, 1] (L' := [(0, .ref (vv_q Y d)), (1, .ref (vv_q Y o1))]) rfl ?_
          exact hJk26_1 _ h
        · replace h := h.2 hc7
          refine vv_aload_n C 0 dX5_copyFrom_8 rfl rfl ?_
          refine vv_getr (r := (d + 1)) C kc_X5 (s_X5 hY hd) 0 (by decide) rfl fk_X5_9 dX5_copyFrom_9 ?_
          refine vv_iload_n C 2 dX5_copyFrom_12 rfl rfl ?_
          refine vv_aload_n C 1 dX5_copyFrom_13 rfl rfl ?_
          refine vv_getr (r := (o1 + 1)) C kc_X5 (s_X5 hY ho1) 0 (by decide) rfl fk_X5_9 dX5_copyFrom_14 ?_
          refine vv_iload_n C 2 dX5_copyFrom_17 rfl rfl ?_
          obtain ⟨hi8, h⟩ := h
          refine vv_iald C (a_X5_inches hY ho1) hi8 rfl dX5_copyFrom_18 ?_
          obtain ⟨hi9, h⟩ := h
          refine vv_iast C (a_X5_inches hY hd) hi9 rfl dX5_copyFrom_19 (fun σ10 eσ10 => ?_)
          replace h := h σ10 eσ10
          obtain ⟨v11, ev11⟩ : ∃ z : Int32, z = v4 + (1 : Int32) := ⟨_, rfl⟩
          replace h := h v11 ev11
          refine vv_iinc (v := v11) (L' := [(2, .int v11), (0, .ref (vv_q Y d)), (1, .ref (vv_q Y o1))]) C 2 dX5_copyFrom_20 rfl ((kinc ki_1).trans ev11.symm) (by decide) rfl ?_
          refine vv_goto (pc := 23) (tgt := 2) C dX5_copyFrom_23 (by decide) ?_
          refine vv_sub [1, 2, 0] (L' := [(0, .ref (vv_q Y d)), (1, .ref (vv_q Y o1)), (2, .int v11)]) rfl ?_
          exact ih1 _ _ h
    refine vv_sub [1, 2, 0] (L' := [(0, .ref (vv_q Y d)), (1, .ref (vv_q Y o1)), (2, .int (0 : Int32))]) rfl ?_
    exact hl1 n6 _ _ h
set_option maxHeartbeats 2000000 in
set_option maxRecDepth 100000 in
theorem mX6_size {Y : vv_Y} (hY : Y.2.2.2.2 = wC)  {σ : vv_S} {post : Int32 → vv_S → Prop} (h : wX6_size σ post) : vv_MI Y yX6_size cX6_size 1 (some .int) 0 0 [.ref (vv_q Y 66)] σ post := by
  refine vv_ofI (by decide) (Nat.le_of_ble_eq_true rfl) (fun X C => ?_)
  have C : VC Y X RX6 cX6_size 1 (some .int) 0 0 := C
  refine vv_sub [0] (L' := [(0, .ref (vv_q Y 66))]) rfl ?_
  refine vv_aload_n C 0 dX6_size_0 rfl rfl ?_
  refine vv_geti C kc_X6 (s_X6 hY) 2 (by decide) rfl fk_X6_18 dX6_size_1 ?_
  exact vv_iret C dX6_size_4 h
set_option maxHeartbeats 2000000 in
set_option maxRecDepth 100000 in
theorem mX6_clear {Y : vv_Y} (hY : Y.2.2.2.2 = wC)  {σ : vv_S} {post : vv_S → Prop} (h : wX6_clear σ post) : vv_MV Y yX6_clear cX6_clear 1 none 0 0 [.ref (vv_q Y 66)] σ post := by
  refine vv_ofV (by decide) (Nat.le_of_ble_eq_true rfl) (fun X C => ?_)
  have C : VC Y X RX6 cX6_clear 1 none 0 0 := C
  refine vv_sub [0] (L' := [(0, .ref (vv_q Y 66))]) rfl ?_
  refine vv_aload_n C 0 dX6_clear_0 rfl rfl ?_
  refine vv_iconst C dX6_clear_1 ki_0 ?_
  refine vv_puti C kc_X6 (s_X6 hY) 2 (by decide) rfl pf_X6_2 fk_X6_18 dX6_clear_2 (fun σ1 eσ1 => ?_)
  replace h := h σ1 eσ1
  exact vv_vret C dX6_clear_5 h
set_option maxHeartbeats 2000000 in
set_option maxRecDepth 100000 in
theorem mX6_add {Y : vv_Y} (hY : Y.2.2.2.2 = wC) {a1 : Int32} {a2 : Int32} {σ : vv_S} {post : Int32 → vv_S → Prop} (h : wX6_add a1 a2 σ post) : vv_MI Y yX6_add cX6_add 3 (some .boolean) 0 0 [.ref (vv_q Y 66), .int a1, .int a2] σ post := by
  refine vv_ofI (by decide) (Nat.le_of_ble_eq_true rfl) (fun X C => ?_)
  have C : VC Y X RX6 cX6_add 3 (some .boolean) 0 0 := C
  refine vv_sub [0, 1, 2] (L' := [(0, .ref (vv_q Y 66)), (1, .int a1), (2, .int a2)]) rfl ?_
  refine vv_aload_n C 0 dX6_add_0 rfl rfl ?_
  refine vv_geti C kc_X6 (s_X6 hY) 2 (by decide) rfl fk_X6_18 dX6_add_1 ?_
  refine vv_join (fun k =>  k → VJ Y X (va_Qi post (vv_B Y) X.2) 3 16 [] [] σ) h (fun h => ?_) (fun k16_0 hJk16_0 h => ?_)
  · refine vv_iconst C dX6_add_16 ki_0 ?_
    exact vv_zret C (Or.inl rfl) dX6_add_17 h
  · refine vv_if_lt (pc := 4) C 16 dX6_add_4 (by decide) (fun hc2 => ?_) (fun hc2 => ?_)
    · replace h := h.1 hc2
      refine vv_sub [] (L' := []) rfl ?_
      exact hJk16_0 h
    · replace h := h.2 hc2
      refine vv_aload_n C 0 dX6_add_7 rfl rfl ?_
      refine vv_geti C kc_X6 (s_X6 hY) 2 (by decide) rfl fk_X6_18 dX6_add_8 ?_
      refine vv_bipush C dX6_add_11 kb_8 ?_
      refine vv_icmp_lt (pc := 13) C 18 dX6_add_13 (by decide) (fun hc3 => ?_) (fun hc3 => ?_)
      · replace h := h.1 hc3
        refine vv_aload_n C 0 dX6_add_18 rfl rfl ?_
        refine vv_getr (r := 67) C kc_X6 (s_X6 hY) 0 (by decide) rfl fk_X6_9 dX6_add_19 ?_
        refine vv_aload_n C 0 dX6_add_22 rfl rfl ?_
        refine vv_geti C kc_X6 (s_X6 hY) 2 (by decide) rfl fk_X6_18 dX6_add_23 ?_
        refine vv_iload_n C 1 dX6_add_26 rfl rfl ?_
        obtain ⟨hi4, h⟩ := h
        refine vv_iast C (a_X6_levels hY) hi4 rfl dX6_add_27 (fun σ5 eσ5 => ?_)
        replace h := h σ5 eσ5
        refine vv_aload_n C 0 dX6_add_28 rfl rfl ?_
        refine vv_getr (r := 68) C kc_X6 (s_X6 hY) 1 (by decide) rfl fk_X6_15 dX6_add_29 ?_
        refine vv_aload_n C 0 dX6_add_32 rfl rfl ?_
        refine vv_geti C kc_X6 (s_X6 hY) 2 (by decide) rfl fk_X6_18 dX6_add_33 ?_
        refine vv_iload_n C 2 dX6_add_36 rfl rfl ?_
        obtain ⟨hi6, h⟩ := h
        refine vv_iast C (a_X6_times hY) hi6 rfl dX6_add_37 (fun σ7 eσ7 => ?_)
        replace h := h σ7 eσ7
        refine vv_aload_n C 0 dX6_add_38 rfl rfl ?_
        refine vv_dup C dX6_add_39 rfl ?_
        refine vv_geti C kc_X6 (s_X6 hY) 2 (by decide) rfl fk_X6_18 dX6_add_40 ?_
        refine vv_iconst C dX6_add_43 ki_1 ?_
        refine vv_iadd C dX6_add_44 ?_
        refine vv_puti C kc_X6 (s_X6 hY) 2 (by decide) rfl pf_X6_2 fk_X6_18 dX6_add_45 (fun σ8 eσ8 => ?_)
        replace h := h σ8 eσ8
        refine vv_iconst C dX6_add_48 ki_1 ?_
        exact vv_zret C (Or.inr rfl) dX6_add_49 h
      · replace h := h.2 hc3
        refine vv_sub [] (L' := []) rfl ?_
        exact hJk16_0 h
set_option maxHeartbeats 2000000 in
set_option maxRecDepth 100000 in
theorem mX6_agreeWith {Y : vv_Y} (hY : Y.2.2.2.2 = wC) {a1 : Int32} {o2 : Nat} (ho2 : is_X4 o2) {σ : vv_S} {post : Int32 → vv_S → Prop} (h : wX6_agreeWith a1 o2 σ post) : vv_MI Y yX6_agreeWith cX6_agreeWith 4 (some .boolean) 2 45 [.ref (vv_q Y 66), .int a1, .ref (vv_q Y o2)] σ post := by
  refine vv_ofI (by decide) (Nat.le_of_ble_eq_true rfl) (fun X C => ?_)
  have C : VC Y X RX6 cX6_agreeWith 4 (some .boolean) 2 45 := C
  refine vv_sub [0, 1, 2] (L' := [(0, .ref (vv_q Y 66)), (1, .int a1), (2, .ref (vv_q Y o2))]) rfl ?_
  refine vv_iconst C dX6_agreeWith_0 ki_0 ?_
  refine vv_istore_n (L' := [(3, .int (0 : Int32)), (0, .ref (vv_q Y 66)), (1, .int a1), (2, .ref (vv_q Y o2))]) C dX6_agreeWith_1 rfl (by decide) rfl ?_
  refine vv_join (fun k => ∀ (σ1 : vv_S), k σ1 → VJ Y X (va_Qi post (vv_B Y) X.2) 4 45 [] [] σ1) h (fun σ1 h => ?_) (fun k45_1 hJk45_1 h => ?_)
  · refine vv_iconst C dX6_agreeWith_45 ki_1 ?_
    exact vv_zret C (Or.inr rfl) dX6_agreeWith_46 h
  · obtain ⟨n5, h⟩ := h
    have hl1 : ∀ (n5 : Nat) (v3 : Int32) (σ4 : vv_S), lX6_agreeWith_1 k45_1 o2 a1 post n5 v3 σ4 → VJ Y X (va_Qi post (vv_B Y) X.2) 4 2 [(0, .ref (vv_q Y 66)), (1, .int a1), (2, .ref (vv_q Y o2)), (3, .int v3)] [] σ4 := by
      clear h
      intro n5
      induction n5 with
      | zero => intro v3 σ4 h; exact False.elim h
      | succ n5 ih1 =>
        intro v3 σ4 h
        refine vv_iload_n C 3 dX6_agreeWith_2 rfl rfl ?_
        refine vv_aload_n C 0 dX6_agreeWith_3 rfl rfl ?_
        refine vv_geti C kc_X6 (s_X6 hY) 2 (by decide) rfl fk_X6_18 dX6_agreeWith_4 ?_
        refine vv_icmp_ge (pc := 7) C 45 dX6_agreeWith_7 (by decide) (fun hc6 => ?_) (fun hc6 => ?_)
        · replace h := h.1 hc6
          refine vv_sub [] (L' := []) rfl ?_
          exact hJk45_1 _ h
        · replace h := h.2 hc6
          refine vv_iload_n C 3 dX6_agreeWith_10 rfl rfl ?_
          refine vv_bipush C dX6_agreeWith_11 kb_8 ?_
          refine vv_icmp_ge (pc := 13) C 45 dX6_agreeWith_13 (by decide) (fun hc7 => ?_) (fun hc7 => ?_)
          · replace h := h.1 hc7
            refine vv_sub [] (L' := []) rfl ?_
            exact hJk45_1 _ h
          · replace h := h.2 hc7
            refine vv_aload_n C 2 dX6_agreeWith_16 rfl rfl ?_
            refine vv_iload_n C 1 dX6_agreeWith_17 rfl rfl ?_
            refine vv_aload_n C 0 dX6_agreeWith_18 rfl rfl ?_
            refine vv_getr (r := 68) C kc_X6 (s_X6 hY) 1 (by decide) rfl fk_X6_15 dX6_agreeWith_19 ?_
            refine vv_iload_n C 3 dX6_agreeWith_22 rfl rfl ?_
            obtain ⟨hi8, h⟩ := h
            refine vv_iald C (a_X6_times hY) hi8 rfl dX6_agreeWith_23 ?_
            refine vv_imul C dX6_agreeWith_24 ?_
            refine vv_callI (rest := []) C yk_X4_levelOf vk_X4_levelOf lk_X6_22 kc_X4.1 (s_X4 hY ho2) dX6_agreeWith_25 (mX4_levelOf hY ho2 h) rfl rfl ⟨Nat.le_of_ble_eq_true rfl, Nat.le_of_ble_eq_true rfl⟩ (Nat.le_of_ble_eq_true rfl) (fun r10 σ9 h => ?_)
            refine vv_aload_n C 0 dX6_agreeWith_28 rfl rfl ?_
            refine vv_getr (r := 67) C kc_X6 (s_X6 hY) 0 (by decide) rfl fk_X6_9 dX6_agreeWith_29 ?_
            refine vv_iload_n C 3 dX6_agreeWith_32 rfl rfl ?_
            obtain ⟨hi11, h⟩ := h
            refine vv_iald C (a_X6_levels hY) hi11 rfl dX6_agreeWith_33 ?_
            refine vv_icmp_eq (pc := 34) C 39 dX6_agreeWith_34 (by decide) (fun hc12 => ?_) (fun hc12 => ?_)
            · replace h := h.1 hc12
              obtain ⟨v13, ev13⟩ : ∃ z : Int32, z = v3 + (1 : Int32) := ⟨_, rfl⟩
              replace h := h v13 ev13
              refine vv_iinc (v := v13) (L' := [(3, .int v13), (0, .ref (vv_q Y 66)), (1, .int a1), (2, .ref (vv_q Y o2))]) C 3 dX6_agreeWith_39 rfl ((kinc ki_1).trans ev13.symm) (by decide) rfl ?_
              refine vv_goto (pc := 42) (tgt := 2) C dX6_agreeWith_42 (by decide) ?_
              refine vv_sub [1, 2, 3, 0] (L' := [(0, .ref (vv_q Y 66)), (1, .int a1), (2, .ref (vv_q Y o2)), (3, .int v13)]) rfl ?_
              exact ih1 _ _ h
            · replace h := h.2 hc12
              refine vv_iconst C dX6_agreeWith_37 ki_0 ?_
              exact vv_zret C (Or.inl rfl) dX6_agreeWith_38 h
    refine vv_sub [1, 2, 3, 0] (L' := [(0, .ref (vv_q Y 66)), (1, .int a1), (2, .ref (vv_q Y o2)), (3, .int (0 : Int32))]) rfl ?_
    exact hl1 n5 _ _ h
set_option maxHeartbeats 2000000 in
set_option maxRecDepth 100000 in
theorem mX7_clear {Y : vv_Y} (hY : Y.2.2.2.2 = wC)  {σ : vv_S} {post : vv_S → Prop} (h : wX7_clear σ post) : vv_MV Y yX7_clear cX7_clear 1 none 0 0 [.ref (vv_q Y 1)] σ post := by
  refine vv_ofV (by decide) (Nat.le_of_ble_eq_true rfl) (fun X C => ?_)
  have C : VC Y X RX7 cX7_clear 1 none 0 0 := C
  refine vv_sub [0] (L' := [(0, .ref (vv_q Y 1))]) rfl ?_
  refine vv_aload_n C 0 dX7_clear_0 rfl rfl ?_
  refine vv_iconst C dX7_clear_1 ki_0 ?_
  refine vv_puti C kc_X7 (s_X7 hY) 1 (by decide) rfl pf_X7_1 fk_X7_18 dX7_clear_2 (fun σ1 eσ1 => ?_)
  replace h := h σ1 eσ1
  exact vv_vret C dX7_clear_5 h
set_option maxHeartbeats 2000000 in
set_option maxRecDepth 100000 in
theorem mX7_add {Y : vv_Y} (hY : Y.2.2.2.2 = wC) {a1 : Int32} {σ : vv_S} {post : Int32 → vv_S → Prop} (h : wX7_add a1 σ post) : vv_MI Y yX7_add cX7_add 2 (some .boolean) 0 0 [.ref (vv_q Y 1), .int a1] σ post := by
  refine vv_ofI (by decide) (Nat.le_of_ble_eq_true rfl) (fun X C => ?_)
  have C : VC Y X RX7 cX7_add 2 (some .boolean) 0 0 := C
  refine vv_sub [0, 1] (L' := [(0, .ref (vv_q Y 1)), (1, .int a1)]) rfl ?_
  refine vv_aload_n C 0 dX7_add_0 rfl rfl ?_
  refine vv_geti C kc_X7 (s_X7 hY) 1 (by decide) rfl fk_X7_18 dX7_add_1 ?_
  refine vv_join (fun k =>  k → VJ Y X (va_Qi post (vv_B Y) X.2) 2 17 [] [] σ) h (fun h => ?_) (fun k17_0 hJk17_0 h => ?_)
  · refine vv_iconst C dX7_add_17 ki_0 ?_
    exact vv_zret C (Or.inl rfl) dX7_add_18 h
  · refine vv_if_lt (pc := 4) C 17 dX7_add_4 (by decide) (fun hc2 => ?_) (fun hc2 => ?_)
    · replace h := h.1 hc2
      refine vv_sub [] (L' := []) rfl ?_
      exact hJk17_0 h
    · replace h := h.2 hc2
      refine vv_aload_n C 0 dX7_add_7 rfl rfl ?_
      refine vv_geti C kc_X7 (s_X7 hY) 1 (by decide) rfl fk_X7_18 dX7_add_8 ?_
      refine vv_sipush C dX7_add_11 ks_200 ?_
      refine vv_icmp_lt (pc := 14) C 19 dX7_add_14 (by decide) (fun hc3 => ?_) (fun hc3 => ?_)
      · replace h := h.1 hc3
        refine vv_aload_n C 0 dX7_add_19 rfl rfl ?_
        refine vv_getr (r := 2) C kc_X7 (s_X7 hY) 0 (by decide) rfl fk_X7_9 dX7_add_20 ?_
        refine vv_aload_n C 0 dX7_add_23 rfl rfl ?_
        refine vv_geti C kc_X7 (s_X7 hY) 1 (by decide) rfl fk_X7_18 dX7_add_24 ?_
        refine vv_iload_n C 1 dX7_add_27 rfl rfl ?_
        obtain ⟨hi4, h⟩ := h
        refine vv_iast C (a_X7_letters hY) hi4 rfl dX7_add_28 (fun σ5 eσ5 => ?_)
        replace h := h σ5 eσ5
        refine vv_aload_n C 0 dX7_add_29 rfl rfl ?_
        refine vv_dup C dX7_add_30 rfl ?_
        refine vv_geti C kc_X7 (s_X7 hY) 1 (by decide) rfl fk_X7_18 dX7_add_31 ?_
        refine vv_iconst C dX7_add_34 ki_1 ?_
        refine vv_iadd C dX7_add_35 ?_
        refine vv_puti C kc_X7 (s_X7 hY) 1 (by decide) rfl pf_X7_1 fk_X7_18 dX7_add_36 (fun σ6 eσ6 => ?_)
        replace h := h σ6 eσ6
        refine vv_iconst C dX7_add_39 ki_1 ?_
        exact vv_zret C (Or.inr rfl) dX7_add_40 h
      · replace h := h.2 hc3
        refine vv_sub [] (L' := []) rfl ?_
        exact hJk17_0 h

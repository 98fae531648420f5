set_option maxHeartbeats 2000000 in
set_option maxRecDepth 100000 in
theorem mX9_in {Y : vv_Y} (hY : Y.2.2.2.2 = wM) {a1 : Int64} {a2 : Int64} {a3 : Int64} {σ : vv_S} {post : Int32 → vv_S → Prop} (h : wX9_in a1 a2 a3 σ post) : vv_MI Y yX9_in cX9_in 6 (some .boolean) 0 0 [.long a1, .long a2, .long a3] σ post := by
  refine vv_ofI (by decide) (Nat.le_of_ble_eq_true rfl) (fun X C => ?_)
  have C : VC Y X RX9 cX9_in 6 (some .boolean) 0 0 := C
  refine vv_sub [0, 1, 2] (L' := [(0, .long a1), (2, .long a2), (4, .long a3)]) rfl ?_
  refine vv_lload_n C 0 dX9_in_0 rfl rfl ?_
  refine vv_lload_n C 1 dX9_in_1 rfl rfl ?_
  refine vv_lcmp C dX9_in_2 ?_
  refine vv_join (fun k => ∀ (v1 : Int32), k v1 → VJ Y X (va_Qi post (vv_B Y) X.2) 6 18 [] [.int v1] σ) h (fun v1 h => ?_) (fun k18_1 hJk18_1 h => ?_)
  · exact vv_zret C h.1 dX9_in_18 h.2
  · refine vv_join (fun k =>  k → VJ Y X (va_Qi post (vv_B Y) X.2) 6 17 [] [] σ) h (fun h => ?_) (fun k17_2 hJk17_2 h => ?_)
    · refine vv_iconst C dX9_in_17 ki_0 ?_
      refine vv_sub [] (L' := []) rfl ?_
      exact hJk18_1 _ h
    · refine vv_if_lt (pc := 3) C 17 dX9_in_3 (by decide) (fun hc4 => ?_) (fun hc4 => ?_)
      · replace h := h.1 hc4
        refine vv_sub [] (L' := []) rfl ?_
        exact hJk17_2 h
      · replace h := h.2 hc4
        refine vv_lload_n C 0 dX9_in_6 rfl rfl ?_
        refine vv_lload C 2 dX9_in_7 rfl ?_
        refine vv_lcmp C dX9_in_9 ?_
        refine vv_if_gt (pc := 10) C 17 dX9_in_10 (by decide) (fun hc5 => ?_) (fun hc5 => ?_)
        · replace h := h.1 hc5
          refine vv_sub [] (L' := []) rfl ?_
          exact hJk17_2 h
        · replace h := h.2 hc5
          refine vv_iconst C dX9_in_13 ki_1 ?_
          refine vv_goto (pc := 14) (tgt := 18) C dX9_in_14 (by decide) ?_
          refine vv_sub [] (L' := []) rfl ?_
          exact hJk18_1 _ h
set_option maxHeartbeats 2000000 in
set_option maxRecDepth 100000 in
theorem mX9_noDam {Y : vv_Y} (hY : Y.2.2.2.2 = wM) {a1 : Int32} {σ : vv_S} {post : vv_S → Prop} (h : wX9_noDam a1 σ post) : vv_MV Y yX9_noDam cX9_noDam 2 none 0 0 [.ref (vv_q Y 0), .int a1] σ post := by
  refine vv_ofV (by decide) (Nat.le_of_ble_eq_true rfl) (fun X C => ?_)
  have C : VC Y X RX9 cX9_noDam 2 none 0 0 := C
  refine vv_sub [0, 1] (L' := [(0, .ref (vv_q Y 0)), (1, .int a1)]) rfl ?_
  refine vv_aload_n C 0 dX9_noDam_0 rfl rfl ?_
  refine vv_getr (r := 2) C kc_X9 (s_X9 hY) 2 (by decide) rfl fk_X9_13 dX9_noDam_1 ?_
  refine vv_iload_n C 1 dX9_noDam_4 rfl rfl ?_
  refine vv_iconst C dX9_noDam_5 ki_0 ?_
  obtain ⟨hi1, h⟩ := h
  refine vv_iast C (a_X9_cells hY) hi1 rfl dX9_noDam_6 (fun σ2 eσ2 => ?_)
  replace h := h σ2 eσ2
  refine vv_aload_n C 0 dX9_noDam_7 rfl rfl ?_
  refine vv_getr (r := 5) C kc_X9 (s_X9 hY) 5 (by decide) rfl fk_X9_22 dX9_noDam_8 ?_
  refine vv_iconst C dX9_noDam_11 ki_2 ?_
  refine vv_iload_n C 1 dX9_noDam_12 rfl rfl ?_
  refine vv_imul C dX9_noDam_13 ?_
  refine vv_bipush C dX9_noDam_14 kb_20 ?_
  obtain ⟨hi3, h⟩ := h
  refine vv_iast C (a_X9_banks hY) hi3 rfl dX9_noDam_16 (fun σ4 eσ4 => ?_)
  replace h := h σ4 eσ4
  refine vv_aload_n C 0 dX9_noDam_17 rfl rfl ?_
  refine vv_getr (r := 5) C kc_X9 (s_X9 hY) 5 (by decide) rfl fk_X9_22 dX9_noDam_18 ?_
  refine vv_iconst C dX9_noDam_21 ki_2 ?_
  refine vv_iload_n C 1 dX9_noDam_22 rfl rfl ?_
  refine vv_imul C dX9_noDam_23 ?_
  refine vv_iconst C dX9_noDam_24 ki_1 ?_
  refine vv_iadd C dX9_noDam_25 ?_
  refine vv_bipush C dX9_noDam_26 kb_20 ?_
  obtain ⟨hi5, h⟩ := h
  refine vv_iast C (a_X9_banks hY) hi5 rfl dX9_noDam_28 (fun σ6 eσ6 => ?_)
  replace h := h σ6 eσ6
  refine vv_aload_n C 0 dX9_noDam_29 rfl rfl ?_
  refine vv_getr (r := 6) C kc_X9 (s_X9 hY) 6 (by decide) rfl fk_X9_25 dX9_noDam_30 ?_
  refine vv_iconst C dX9_noDam_33 ki_2 ?_
  refine vv_iload_n C 1 dX9_noDam_34 rfl rfl ?_
  refine vv_imul C dX9_noDam_35 ?_
  refine vv_bipush C dX9_noDam_36 kb_6 ?_
  obtain ⟨hi7, h⟩ := h
  refine vv_iast C (a_X9_basin hY) hi7 rfl dX9_noDam_38 (fun σ8 eσ8 => ?_)
  replace h := h σ8 eσ8
  refine vv_aload_n C 0 dX9_noDam_39 rfl rfl ?_
  refine vv_getr (r := 6) C kc_X9 (s_X9 hY) 6 (by decide) rfl fk_X9_25 dX9_noDam_40 ?_
  refine vv_iconst C dX9_noDam_43 ki_2 ?_
  refine vv_iload_n C 1 dX9_noDam_44 rfl rfl ?_
  refine vv_imul C dX9_noDam_45 ?_
  refine vv_iconst C dX9_noDam_46 ki_1 ?_
  refine vv_iadd C dX9_noDam_47 ?_
  refine vv_iconst C dX9_noDam_48 ki_1 ?_
  obtain ⟨hi9, h⟩ := h
  refine vv_iast C (a_X9_basin hY) hi9 rfl dX9_noDam_49 (fun σ10 eσ10 => ?_)
  replace h := h σ10 eσ10
  refine vv_aload_n C 0 dX9_noDam_50 rfl rfl ?_
  refine vv_getr (r := 7) C kc_X9 (s_X9 hY) 7 (by decide) rfl fk_X9_28 dX9_noDam_51 ?_
  refine vv_iload_n C 1 dX9_noDam_54 rfl rfl ?_
  refine vv_iconst C dX9_noDam_55 ki_0 ?_
  obtain ⟨hi11, h⟩ := h
  refine vv_iast C (a_X9_flows hY) hi11 rfl dX9_noDam_56 (fun σ12 eσ12 => ?_)
  replace h := h σ12 eσ12
  refine vv_aload_n C 0 dX9_noDam_57 rfl rfl ?_
  refine vv_getr (r := 10) C kc_X9 (s_X9 hY) 10 (by decide) rfl fk_X9_37 dX9_noDam_58 ?_
  refine vv_iload_n C 1 dX9_noDam_61 rfl rfl ?_
  refine vv_iconst C dX9_noDam_62 ki_0 ?_
  obtain ⟨hi13, h⟩ := h
  refine vv_iast C (a_X9_rains hY) hi13 rfl dX9_noDam_63 (fun σ14 eσ14 => ?_)
  replace h := h σ14 eσ14
  refine vv_aload_n C 0 dX9_noDam_64 rfl rfl ?_
  refine vv_getr (r := 14) C kc_X9 (s_X9 hY) 14 (by decide) rfl fk_X9_49 dX9_noDam_65 ?_
  refine vv_iload_n C 1 dX9_noDam_68 rfl rfl ?_
  refine vv_iconst C dX9_noDam_69 ki_0 ?_
  obtain ⟨hi15, h⟩ := h
  refine vv_iast C (a_X9_children hY) hi15 rfl dX9_noDam_70 (fun σ16 eσ16 => ?_)
  replace h := h σ16 eσ16
  refine vv_aload_n C 0 dX9_noDam_71 rfl rfl ?_
  refine vv_getr (r := 16) C kc_X9 (s_X9 hY) 16 (by decide) rfl fk_X9_55 dX9_noDam_72 ?_
  refine vv_iload_n C 1 dX9_noDam_75 rfl rfl ?_
  refine vv_iconst C dX9_noDam_76 ki_0 ?_
  obtain ⟨hi17, h⟩ := h
  refine vv_iast C (a_X9_jobs hY) hi17 rfl dX9_noDam_77 (fun σ18 eσ18 => ?_)
  replace h := h σ18 eσ18
  exact vv_vret C dX9_noDam_78 h
set_option maxHeartbeats 2000000 in
set_option maxRecDepth 100000 in
theorem mX9_write {Y : vv_Y} (hY : Y.2.2.2.2 = wM) {a1 : Int32} {σ : vv_S} {post : Int32 → vv_S → Prop} (h : wX9_write a1 σ post) : vv_MI Y yX9_write cX9_write 2 (some .int) 1 25 [.ref (vv_q Y 0), .int a1] σ post := by
  refine vv_ofI (by decide) (Nat.le_of_ble_eq_true rfl) (fun X C => ?_)
  have C : VC Y X RX9 cX9_write 2 (some .int) 1 25 := C
  refine vv_sub [0, 1] (L' := [(0, .ref (vv_q Y 0)), (1, .int a1)]) rfl ?_
  refine vv_iload_n C 1 dX9_write_0 rfl rfl ?_
  refine vv_i2l C dX9_write_1 ?_
  refine vv_ldc2 C lc_X9_134 dX9_write_2 ?_
  refine vv_ldc2 C lc_X9_136 dX9_write_5 ?_
  refine vv_callS (rest := []) C yk_X9_in sk_X9_in lk_X9_138 dX9_write_8 (mX9_in hY h) rfl rfl ⟨Nat.le_of_ble_eq_true rfl, Nat.le_of_ble_eq_true rfl⟩ (Nat.le_of_ble_eq_true rfl) (fun r2 σ1 h => ?_)
  refine vv_if_ne (pc := 11) C 16 dX9_write_11 (by decide) (fun hc3 => ?_) (fun hc3 => ?_)
  · replace h := h.1 hc3
    refine vv_aload_n C 0 dX9_write_16 rfl rfl ?_
    refine vv_geti C kc_X9 (s_X9 hY) 0 (by decide) rfl fk_X9_142 dX9_write_17 ?_
    refine vv_sipush C dX9_write_20 ks_200 ?_
    refine vv_icmp_ne (pc := 23) C 29 dX9_write_23 (by decide) (fun hc4 => ?_) (fun hc4 => ?_)
    · replace h := h.1 hc4
      refine vv_aload_n C 0 dX9_write_29 rfl rfl ?_
      refine vv_getr (r := 1) C kc_X9 (s_X9 hY) 1 (by decide) rfl fk_X9_7 dX9_write_30 ?_
      refine vv_aload_n C 0 dX9_write_33 rfl rfl ?_
      refine vv_geti C kc_X9 (s_X9 hY) 0 (by decide) rfl fk_X9_142 dX9_write_34 ?_
      refine vv_iload_n C 1 dX9_write_37 rfl rfl ?_
      obtain ⟨hi5, h⟩ := h
      refine vv_iast C (a_X9_text hY) hi5 rfl dX9_write_38 (fun σ6 eσ6 => ?_)
      replace h := h σ6 eσ6
      refine vv_aload_n C 0 dX9_write_39 rfl rfl ?_
      refine vv_dup C dX9_write_40 rfl ?_
      refine vv_geti C kc_X9 (s_X9 hY) 0 (by decide) rfl fk_X9_142 dX9_write_41 ?_
      refine vv_iconst C dX9_write_44 ki_1 ?_
      refine vv_iadd C dX9_write_45 ?_
      refine vv_puti C kc_X9 (s_X9 hY) 0 (by decide) rfl pf_X9_0 fk_X9_142 dX9_write_46 (fun σ7 eσ7 => ?_)
      replace h := h σ7 eσ7
      refine vv_aload_n C 0 dX9_write_49 rfl rfl ?_
      refine vv_geti C kc_X9 (s_X9 hY) 0 (by decide) rfl fk_X9_142 dX9_write_50 ?_
      exact vv_iret C dX9_write_53 h
    · replace h := h.2 hc4
      refine vv_bipush C dX9_write_26 kb_m3 ?_
      exact vv_iret C dX9_write_28 h
  · replace h := h.2 hc3
    refine vv_iconst C dX9_write_14 ki_m1 ?_
    exact vv_iret C dX9_write_15 h
set_option maxHeartbeats 2000000 in
set_option maxRecDepth 100000 in
theorem mX9_wipe {Y : vv_Y} (hY : Y.2.2.2.2 = wM)  {σ : vv_S} {post : Int32 → vv_S → Prop} (h : wX9_wipe σ post) : vv_MI Y yX9_wipe cX9_wipe 2 (some .int) 0 0 [.ref (vv_q Y 0)] σ post := by
  refine vv_ofI (by decide) (Nat.le_of_ble_eq_true rfl) (fun X C => ?_)
  have C : VC Y X RX9 cX9_wipe 2 (some .int) 0 0 := C
  refine vv_sub [0] (L' := [(0, .ref (vv_q Y 0))]) rfl ?_
  refine vv_aload_n C 0 dX9_wipe_0 rfl rfl ?_
  refine vv_geti C kc_X9 (s_X9 hY) 0 (by decide) rfl fk_X9_142 dX9_wipe_1 ?_
  refine vv_nm (fun v1 ev1 => ?_)
  replace h := h v1 ev1
  refine vv_istore_n (L' := [(1, .int v1), (0, .ref (vv_q Y 0))]) C dX9_wipe_4 rfl (by decide) rfl ?_
  refine vv_aload_n C 1 dX9_wipe_5 rfl rfl ?_
  refine vv_iconst C dX9_wipe_6 ki_0 ?_
  refine vv_puti C kc_X9 (s_X9 hY) 0 (by decide) rfl pf_X9_0 fk_X9_142 dX9_wipe_7 (fun σ2 eσ2 => ?_)
  replace h := h σ2 eσ2
  refine vv_iload_n C 0 dX9_wipe_10 rfl rfl ?_
  exact vv_iret C dX9_wipe_11 h
set_option maxHeartbeats 2000000 in
set_option maxRecDepth 100000 in
theorem mX9_letterAt {Y : vv_Y} (hY : Y.2.2.2.2 = wM) {a1 : Int32} {σ : vv_S} {post : Int32 → vv_S → Prop} (h : wX9_letterAt a1 σ post) : vv_MI Y yX9_letterAt cX9_letterAt 2 (some .int) 0 0 [.ref (vv_q Y 0), .int a1] σ post := by
  refine vv_ofI (by decide) (Nat.le_of_ble_eq_true rfl) (fun X C => ?_)
  have C : VC Y X RX9 cX9_letterAt 2 (some .int) 0 0 := C
  refine vv_sub [0, 1] (L' := [(0, .ref (vv_q Y 0)), (1, .int a1)]) rfl ?_
  refine vv_iload_n C 1 dX9_letterAt_0 rfl rfl ?_
  refine vv_aload_n C 0 dX9_letterAt_1 rfl rfl ?_
  refine vv_geti C kc_X9 (s_X9 hY) 0 (by decide) rfl fk_X9_142 dX9_letterAt_2 ?_
  refine vv_join (fun k => ∀ (v1 : Int32), k v1 → VJ Y X (va_Qi post (vv_B Y) X.2) 2 18 [] [.int v1] σ) h (fun v1 h => ?_) (fun k18_1 hJk18_1 h => ?_)
  · exact vv_iret C dX9_letterAt_18 h
  · refine vv_icmp_ge (pc := 5) C 17 dX9_letterAt_5 (by decide) (fun hc3 => ?_) (fun hc3 => ?_)
    · replace h := h.1 hc3
      refine vv_iconst C dX9_letterAt_17 ki_0 ?_
      refine vv_sub [] (L' := []) rfl ?_
      exact hJk18_1 _ h
    · replace h := h.2 hc3
      refine vv_aload_n C 0 dX9_letterAt_8 rfl rfl ?_
      refine vv_getr (r := 1) C kc_X9 (s_X9 hY) 1 (by decide) rfl fk_X9_7 dX9_letterAt_9 ?_
      refine vv_iload_n C 1 dX9_letterAt_12 rfl rfl ?_
      obtain ⟨hi4, h⟩ := h
      refine vv_iald C (a_X9_text hY) hi4 rfl dX9_letterAt_13 ?_
      refine vv_goto (pc := 14) (tgt := 18) C dX9_letterAt_14 (by decide) ?_
      refine vv_sub [] (L' := []) rfl ?_
      exact hJk18_1 _ h
set_option maxHeartbeats 2000000 in
set_option maxRecDepth 100000 in
theorem mX9_figures {Y : vv_Y} (hY : Y.2.2.2.2 = wM) {a1 : Int32} {σ : vv_S} {post : Int32 → vv_S → Prop} (h : wX9_figures a1 σ post) : vv_MI Y yX9_figures cX9_figures 5 (some .boolean) 1 25 [.ref (vv_q Y 0), .int a1] σ post := by
  refine vv_ofI (by decide) (Nat.le_of_ble_eq_true rfl) (fun X C => ?_)
  have C : VC Y X RX9 cX9_figures 5 (some .boolean) 1 25 := C
  refine vv_sub [0, 1] (L' := [(0, .ref (vv_q Y 0)), (1, .int a1)]) rfl ?_
  refine vv_iconst C dX9_figures_0 ki_0 ?_
  refine vv_istore_n (L' := [(2, .int (0 : Int32)), (0, .ref (vv_q Y 0)), (1, .int a1)]) C dX9_figures_1 rfl (by decide) rfl ?_
  refine vv_join (fun k => ∀ (σ1 : vv_S), k σ1 → VJ Y X (va_Qi post (vv_B Y) X.2) 5 110 [] [] σ1) h (fun σ1 h => ?_) (fun k110_1 hJk110_1 h => ?_)
  · refine vv_iconst C dX9_figures_110 ki_0 ?_
    exact vv_zret C (Or.inl rfl) dX9_figures_111 h
  · obtain ⟨n5, h⟩ := h
    have hl1 : ∀ (n5 : Nat) (v3 : Int32) (σ4 : vv_S), lX9_figures_1 a1 post k110_1 n5 v3 σ4 → VJ Y X (va_Qi post (vv_B Y) X.2) 5 2 [(0, .ref (vv_q Y 0)), (1, .int a1), (2, .int v3)] [] σ4 := by
      clear h
      intro n5
      induction n5 with
      | zero => intro v3 σ4 h; exact False.elim h
      | succ n5 ih1 =>
        intro v3 σ4 h
        refine vv_iload_n C 2 dX9_figures_2 rfl rfl ?_
        refine vv_iload_n C 1 dX9_figures_3 rfl rfl ?_
        refine vv_icmp_ge (pc := 4) C 136 dX9_figures_4 (by decide) (fun hc6 => ?_) (fun hc6 => ?_)
        · replace h := h.1 hc6
          refine vv_iconst C dX9_figures_136 ki_1 ?_
          exact vv_zret C (Or.inr rfl) dX9_figures_137 h
        · replace h := h.2 hc6
          refine vv_iconst C dX9_figures_7 ki_0 ?_
          refine vv_istore_n (L' := [(3, .int (0 : Int32)), (0, .ref (vv_q Y 0)), (1, .int a1), (2, .int v3)]) C dX9_figures_8 rfl (by decide) rfl ?_
          refine vv_iconst C dX9_figures_9 ki_0 ?_
          refine vv_istore (L' := [(4, .int (0 : Int32)), (3, .int (0 : Int32)), (0, .ref (vv_q Y 0)), (1, .int a1), (2, .int v3)]) C dX9_figures_10 (by decide) rfl ?_
          refine vv_join (fun k => ∀ (v7 : Int32) (v8 : Int32) (σ9 : vv_S), k v7 v8 σ9 → VJ Y X (va_Qi post (vv_B Y) X.2) 5 73 [(0, .ref (vv_q Y 0)), (1, .int a1), (2, .int v3), (3, .int v7), (4, .int v8)] [] σ9) h (fun v7 v8 σ9 h => ?_) (fun k73_9 hJk73_9 h => ?_)
          · refine vv_iload_n C 3 dX9_figures_73 rfl rfl ?_
            refine vv_i2l C dX9_figures_74 ?_
            refine vv_lconst (v := 1) C dX9_figures_75 (by decide) ?_
            refine vv_ldc2 C lc_X9_157 dX9_figures_76 ?_
            refine vv_callS (rest := []) C yk_X9_in sk_X9_in lk_X9_138 dX9_figures_79 (mX9_in hY h) rfl rfl ⟨Nat.le_of_ble_eq_true rfl, Nat.le_of_ble_eq_true rfl⟩ (Nat.le_of_ble_eq_true rfl) (fun r12 σ11 h => ?_)
            refine vv_if_eq (pc := 82) C 110 dX9_figures_82 (by decide) (fun hc13 => ?_) (fun hc13 => ?_)
            · replace h := h.1 hc13
              refine vv_sub [] (L' := []) rfl ?_
              exact hJk110_1 _ h
            · replace h := h.2 hc13
              refine vv_aload_n C 0 dX9_figures_85 rfl rfl ?_
              refine vv_aload_n C 0 dX9_figures_86 rfl rfl ?_
              refine vv_geti C kc_X9 (s_X9 hY) 29 (by decide) rfl fk_X9_146 dX9_figures_87 ?_
              refine vv_callI (rest := []) C yk_X9_letterAt vk_X9_letterAt lk_X9_149 kc_X9.1 (s_X9 hY) dX9_figures_90 (mX9_letterAt hY h) rfl rfl ⟨Nat.le_of_ble_eq_true rfl, Nat.le_of_ble_eq_true rfl⟩ (Nat.le_of_ble_eq_true rfl) (fun r15 σ14 h => ?_)
              refine vv_iload_n C 2 dX9_figures_93 rfl rfl ?_
              refine vv_iload_n C 1 dX9_figures_94 rfl rfl ?_
              refine vv_iconst C dX9_figures_95 ki_1 ?_
              refine vv_isub C dX9_figures_96 ?_
              refine vv_join (fun k => ∀ (v16 : Int32), k v16 → VJ Y X (va_Qi post (vv_B Y) X.2) 5 107 [(0, .ref (vv_q Y 0)), (1, .int a1), (2, .int v3), (4, .int v8)] [.int v16, .int r15] σ14) h (fun v16 h => ?_) (fun k107_16 hJk107_16 h => ?_)
              · refine vv_icmp_eq (pc := 107) C 112 dX9_figures_107 (by decide) (fun hc18 => ?_) (fun hc18 => ?_)
                · replace h := h.1 hc18
                  refine vv_aload_n C 0 dX9_figures_112 rfl rfl ?_
                  refine vv_getr (r := 27) C kc_X9 (s_X9 hY) 30 (by decide) rfl fk_X9_88 dX9_figures_113 ?_
                  refine vv_iload_n C 2 dX9_figures_116 rfl rfl ?_
                  refine vv_iload C 3 dX9_figures_117 rfl ?_
                  obtain ⟨hi19, h⟩ := h
                  refine vv_iast C (a_X9_told hY) hi19 rfl dX9_figures_119 (fun σ20 eσ20 => ?_)
                  replace h := h σ20 eσ20
                  refine vv_aload_n C 0 dX9_figures_120 rfl rfl ?_
                  refine vv_dup C dX9_figures_121 rfl ?_
                  refine vv_geti C kc_X9 (s_X9 hY) 29 (by decide) rfl fk_X9_146 dX9_figures_122 ?_
                  refine vv_iconst C dX9_figures_125 ki_1 ?_
                  refine vv_iadd C dX9_figures_126 ?_
                  refine vv_puti C kc_X9 (s_X9 hY) 29 (by decide) rfl pf_X9_29 fk_X9_146 dX9_figures_127 (fun σ21 eσ21 => ?_)
                  replace h := h σ21 eσ21
                  obtain ⟨v22, ev22⟩ : ∃ z : Int32, z = v3 + (1 : Int32) := ⟨_, rfl⟩
                  replace h := h v22 ev22
                  refine vv_iinc (v := v22) (L' := [(2, .int v22), (0, .ref (vv_q Y 0)), (1, .int a1), (4, .int v8)]) C 2 dX9_figures_130 rfl ((kinc ki_1).trans ev22.symm) (by decide) rfl ?_
                  refine vv_goto (pc := 133) (tgt := 2) C dX9_figures_133 (by decide) ?_
                  refine vv_sub [1, 2, 0] (L' := [(0, .ref (vv_q Y 0)), (1, .int a1), (2, .int v22)]) rfl ?_
                  exact ih1 _ _ h
                · replace h := h.2 hc18
                  refine vv_sub [] (L' := []) rfl ?_
                  exact hJk110_1 _ h
              · refine vv_icmp_ge (pc := 97) C 105 dX9_figures_97 (by decide) (fun hc23 => ?_) (fun hc23 => ?_)
                · replace h := h.1 hc23
                  refine vv_bipush C dX9_figures_105 kb_59 ?_
                  refine vv_sub [0, 1, 2, 4] (L' := [(0, .ref (vv_q Y 0)), (1, .int a1), (2, .int v3), (4, .int v8)]) rfl ?_
                  exact hJk107_16 _ h
                · replace h := h.2 hc23
                  refine vv_bipush C dX9_figures_100 kb_44 ?_
                  refine vv_goto (pc := 102) (tgt := 107) C dX9_figures_102 (by decide) ?_
                  refine vv_sub [0, 1, 2, 4] (L' := [(0, .ref (vv_q Y 0)), (1, .int a1), (2, .int v3), (4, .int v8)]) rfl ?_
                  exact hJk107_16 _ h
          · obtain ⟨n27, h⟩ := h
            have hl2 : ∀ (n27 : Nat) (v24 : Int32) (v25 : Int32) (σ26 : vv_S), lX9_figures_2 k73_9 n27 v24 v25 σ26 → VJ Y X (va_Qi post (vv_B Y) X.2) 5 12 [(0, .ref (vv_q Y 0)), (1, .int a1), (2, .int v3), (3, .int v24), (4, .int v25)] [] σ26 := by
              clear h
              intro n27
              induction n27 with
              | zero => intro v24 v25 σ26 h; exact False.elim h
              | succ n27 ih2 =>
                intro v24 v25 σ26 h
                refine vv_aload_n C 0 dX9_figures_12 rfl rfl ?_
                refine vv_aload_n C 0 dX9_figures_13 rfl rfl ?_
                refine vv_geti C kc_X9 (s_X9 hY) 29 (by decide) rfl fk_X9_146 dX9_figures_14 ?_
                refine vv_callI (rest := []) C yk_X9_letterAt vk_X9_letterAt lk_X9_149 kc_X9.1 (s_X9 hY) dX9_figures_17 (mX9_letterAt hY h) rfl rfl ⟨Nat.le_of_ble_eq_true rfl, Nat.le_of_ble_eq_true rfl⟩ (Nat.le_of_ble_eq_true rfl) (fun r29 σ28 h => ?_)
                refine vv_i2l C dX9_figures_20 ?_
                refine vv_ldc2 C lc_X9_153 dX9_figures_21 ?_
                refine vv_ldc2 C lc_X9_155 dX9_figures_24 ?_
                refine vv_callS (rest := []) C yk_X9_in sk_X9_in lk_X9_138 dX9_figures_27 (mX9_in hY h) rfl rfl ⟨Nat.le_of_ble_eq_true rfl, Nat.le_of_ble_eq_true rfl⟩ (Nat.le_of_ble_eq_true rfl) (fun r31 σ30 h => ?_)
                refine vv_if_eq (pc := 30) C 73 dX9_figures_30 (by decide) (fun hc32 => ?_) (fun hc32 => ?_)
                · replace h := h.1 hc32
                  refine vv_sub [0, 1, 2, 3, 4] (L' := [(0, .ref (vv_q Y 0)), (1, .int a1), (2, .int v3), (3, .int v24), (4, .int v25)]) rfl ?_
                  exact hJk73_9 _ _ _ h
                · replace h := h.2 hc32
                  refine vv_iload_n C 3 dX9_figures_33 rfl rfl ?_
                  refine vv_iconst C dX9_figures_34 ki_3 ?_
                  refine vv_icmp_ge (pc := 35) C 73 dX9_figures_35 (by decide) (fun hc33 => ?_) (fun hc33 => ?_)
                  · replace h := h.1 hc33
                    refine vv_sub [0, 1, 2, 3, 4] (L' := [(0, .ref (vv_q Y 0)), (1, .int a1), (2, .int v3), (3, .int v24), (4, .int v25)]) rfl ?_
                    exact hJk73_9 _ _ _ h
                  · replace h := h.2 hc33
                    refine vv_bipush C dX9_figures_38 kb_10 ?_
                    refine vv_iload C 4 dX9_figures_40 rfl ?_
                    refine vv_imul C dX9_figures_42 ?_
                    refine vv_aload_n C 0 dX9_figures_43 rfl rfl ?_
                    refine vv_aload_n C 0 dX9_figures_44 rfl rfl ?_
                    refine vv_geti C kc_X9 (s_X9 hY) 29 (by decide) rfl fk_X9_146 dX9_figures_45 ?_
                    refine vv_callI (rest := [.int ((10 : Int32) * v25)]) C yk_X9_letterAt vk_X9_letterAt lk_X9_149 kc_X9.1 (s_X9 hY) dX9_figures_48 (mX9_letterAt hY h) rfl rfl ⟨Nat.le_of_ble_eq_true rfl, Nat.le_of_ble_eq_true rfl⟩ (Nat.le_of_ble_eq_true rfl) (fun r35 σ34 h => ?_)
                    refine vv_iadd C dX9_figures_51 ?_
                    refine vv_bipush C dX9_figures_52 kb_48 ?_
                    refine vv_isub C dX9_figures_54 ?_
                    refine vv_nm (fun v36 ev36 => ?_)
                    replace h := h v36 ev36
                    refine vv_istore (L' := [(4, .int v36), (0, .ref (vv_q Y 0)), (1, .int a1), (2, .int v3), (3, .int v24)]) C dX9_figures_55 (by decide) rfl ?_
                    obtain ⟨v37, ev37⟩ : ∃ z : Int32, z = v24 + (1 : Int32) := ⟨_, rfl⟩
                    replace h := h v37 ev37
                    refine vv_iinc (v := v37) (L' := [(3, .int v37), (4, .int v36), (0, .ref (vv_q Y 0)), (1, .int a1), (2, .int v3)]) C 4 dX9_figures_57 rfl ((kinc ki_1).trans ev37.symm) (by decide) rfl ?_
                    refine vv_aload_n C 2 dX9_figures_60 rfl rfl ?_
                    refine vv_dup C dX9_figures_61 rfl ?_
                    refine vv_geti C kc_X9 (s_X9 hY) 29 (by decide) rfl fk_X9_146 dX9_figures_62 ?_
                    refine vv_iconst C dX9_figures_65 ki_1 ?_
                    refine vv_iadd C dX9_figures_66 ?_
                    refine vv_puti C kc_X9 (s_X9 hY) 29 (by decide) rfl pf_X9_29 fk_X9_146 dX9_figures_67 (fun σ38 eσ38 => ?_)
                    replace h := h σ38 eσ38
                    refine vv_goto (pc := 70) (tgt := 12) C dX9_figures_70 (by decide) ?_
                    refine vv_sub [2, 3, 4, 0, 1] (L' := [(0, .ref (vv_q Y 0)), (1, .int a1), (2, .int v3), (3, .int v37), (4, .int v36)]) rfl ?_
                    exact ih2 _ _ _ h
            refine vv_sub [2, 3, 4, 1, 0] (L' := [(0, .ref (vv_q Y 0)), (1, .int a1), (2, .int v3), (3, .int (0 : Int32)), (4, .int (0 : Int32))]) rfl ?_
            exact hl2 n27 _ _ _ h
    refine vv_sub [1, 2, 0] (L' := [(0, .ref (vv_q Y 0)), (1, .int a1), (2, .int (0 : Int32))]) rfl ?_
    exact hl1 n5 _ _ h
set_option maxHeartbeats 2000000 in
set_option maxRecDepth 100000 in
theorem mX9_cellItem {Y : vv_Y} (hY : Y.2.2.2.2 = wM)  {σ : vv_S} {post : Int32 → vv_S → Prop} (h : wX9_cellItem σ post) : vv_MI Y yX9_cellItem cX9_cellItem 1 (some .boolean) 2 49 [.ref (vv_q Y 0)] σ post := by
  refine vv_ofI (by decide) (Nat.le_of_ble_eq_true rfl) (fun X C => ?_)
  have C : VC Y X RX9 cX9_cellItem 1 (some .boolean) 2 49 := C
  refine vv_sub [0] (L' := [(0, .ref (vv_q Y 0))]) rfl ?_
  refine vv_aload_n C 0 dX9_cellItem_0 rfl rfl ?_
  refine vv_iconst C dX9_cellItem_1 ki_2 ?_
  refine vv_callI (rest := []) C yk_X9_figures vk_X9_figures lk_X9_159 kc_X9.1 (s_X9 hY) dX9_cellItem_2 (mX9_figures hY h) rfl rfl ⟨Nat.le_of_ble_eq_true rfl, Nat.le_of_ble_eq_true rfl⟩ (Nat.le_of_ble_eq_true rfl) (fun r2 σ1 h => ?_)
  refine vv_join (fun k =>  k → VJ Y X (va_Qi post (vv_B Y) X.2) 1 40 [] [] σ1) h (fun h => ?_) (fun k40_2 hJk40_2 h => ?_)
  · refine vv_iconst C dX9_cellItem_40 ki_0 ?_
    exact vv_zret C (Or.inl rfl) dX9_cellItem_41 h
  · refine vv_if_eq (pc := 5) C 40 dX9_cellItem_5 (by decide) (fun hc4 => ?_) (fun hc4 => ?_)
    · replace h := h.1 hc4
      refine vv_sub [] (L' := []) rfl ?_
      exact hJk40_2 h
    · replace h := h.2 hc4
      refine vv_aload_n C 0 dX9_cellItem_8 rfl rfl ?_
      refine vv_getr (r := 2) C kc_X9 (s_X9 hY) 2 (by decide) rfl fk_X9_13 dX9_cellItem_9 ?_
      refine vv_iconst C dX9_cellItem_12 ki_1 ?_
      refine vv_iald C (a_X9_cells hY) kv_1_2 kn_1 dX9_cellItem_13 ?_
      refine vv_bipush C dX9_cellItem_14 kb_8 ?_
      refine vv_icmp_eq (pc := 16) C 40 dX9_cellItem_16 (by decide) (fun hc5 => ?_) (fun hc5 => ?_)
      · replace h := h.1 hc5
        refine vv_sub [] (L' := []) rfl ?_
        exact hJk40_2 h
      · replace h := h.2 hc5
        refine vv_aload_n C 0 dX9_cellItem_19 rfl rfl ?_
        refine vv_getr (r := 27) C kc_X9 (s_X9 hY) 30 (by decide) rfl fk_X9_88 dX9_cellItem_20 ?_
        refine vv_iconst C dX9_cellItem_23 ki_0 ?_
        refine vv_iald C (a_X9_told hY) kv_0_4 kn_0 dX9_cellItem_24 ?_
        refine vv_bipush C dX9_cellItem_25 kb_40 ?_
        refine vv_icmp_gt (pc := 27) C 40 dX9_cellItem_27 (by decide) (fun hc6 => ?_) (fun hc6 => ?_)
        · replace h := h.1 hc6
          refine vv_sub [] (L' := []) rfl ?_
          exact hJk40_2 h
        · replace h := h.2 hc6
          refine vv_aload_n C 0 dX9_cellItem_30 rfl rfl ?_
          refine vv_getr (r := 27) C kc_X9 (s_X9 hY) 30 (by decide) rfl fk_X9_88 dX9_cellItem_31 ?_
          refine vv_iconst C dX9_cellItem_34 ki_1 ?_
          refine vv_iald C (a_X9_told hY) kv_1_4 kn_1 dX9_cellItem_35 ?_
          refine vv_iconst C dX9_cellItem_36 ki_3 ?_
          refine vv_icmp_le (pc := 37) C 42 dX9_cellItem_37 (by decide) (fun hc7 => ?_) (fun hc7 => ?_)
          · replace h := h.1 hc7
            refine vv_aload_n C 0 dX9_cellItem_42 rfl rfl ?_
            refine vv_getr (r := 3) C kc_X9 (s_X9 hY) 3 (by decide) rfl fk_X9_16 dX9_cellItem_43 ?_
            refine vv_bipush C dX9_cellItem_46 kb_8 ?_
            refine vv_aload_n C 0 dX9_cellItem_48 rfl rfl ?_
            refine vv_getr (r := 2) C kc_X9 (s_X9 hY) 2 (by decide) rfl fk_X9_13 dX9_cellItem_49 ?_
            refine vv_iconst C dX9_cellItem_52 ki_1 ?_
            refine vv_iald C (a_X9_cells hY) kv_1_2 kn_1 dX9_cellItem_53 ?_
            refine vv_iadd C dX9_cellItem_54 ?_
            refine vv_aload_n C 0 dX9_cellItem_55 rfl rfl ?_
            refine vv_getr (r := 27) C kc_X9 (s_X9 hY) 30 (by decide) rfl fk_X9_88 dX9_cellItem_56 ?_
            refine vv_iconst C dX9_cellItem_59 ki_0 ?_
            refine vv_iald C (a_X9_told hY) kv_0_4 kn_0 dX9_cellItem_60 ?_
            obtain ⟨hi8, h⟩ := h
            refine vv_iast C (a_X9_tall hY) hi8 rfl dX9_cellItem_61 (fun σ9 eσ9 => ?_)
            replace h := h σ9 eσ9
            refine vv_aload_n C 0 dX9_cellItem_62 rfl rfl ?_
            refine vv_getr (r := 4) C kc_X9 (s_X9 hY) 4 (by decide) rfl fk_X9_19 dX9_cellItem_63 ?_
            refine vv_bipush C dX9_cellItem_66 kb_8 ?_
            refine vv_aload_n C 0 dX9_cellItem_68 rfl rfl ?_
            refine vv_getr (r := 2) C kc_X9 (s_X9 hY) 2 (by decide) rfl fk_X9_13 dX9_cellItem_69 ?_
            refine vv_iconst C dX9_cellItem_72 ki_1 ?_
            refine vv_iald C (a_X9_cells hY) kv_1_2 kn_1 dX9_cellItem_73 ?_
            refine vv_iadd C dX9_cellItem_74 ?_
            refine vv_aload_n C 0 dX9_cellItem_75 rfl rfl ?_
            refine vv_getr (r := 27) C kc_X9 (s_X9 hY) 30 (by decide) rfl fk_X9_88 dX9_cellItem_76 ?_
            refine vv_iconst C dX9_cellItem_79 ki_1 ?_
            refine vv_iald C (a_X9_told hY) kv_1_4 kn_1 dX9_cellItem_80 ?_
            obtain ⟨hi10, h⟩ := h
            refine vv_iast C (a_X9_stuffs hY) hi10 rfl dX9_cellItem_81 (fun σ11 eσ11 => ?_)
            replace h := h σ11 eσ11
            refine vv_aload_n C 0 dX9_cellItem_82 rfl rfl ?_
            refine vv_getr (r := 2) C kc_X9 (s_X9 hY) 2 (by decide) rfl fk_X9_13 dX9_cellItem_83 ?_
            refine vv_iconst C dX9_cellItem_86 ki_1 ?_
            refine vv_dup2 C dX9_cellItem_87 rfl rfl ?_
            refine vv_iald C (a_X9_cells hY) kv_1_2 kn_1 dX9_cellItem_88 ?_
            refine vv_iconst C dX9_cellItem_89 ki_1 ?_
            refine vv_iadd C dX9_cellItem_90 ?_
            refine vv_iast C (a_X9_cells hY) kv_1_2 kn_1 dX9_cellItem_91 (fun σ12 eσ12 => ?_)
            replace h := h σ12 eσ12
            refine vv_iconst C dX9_cellItem_92 ki_1 ?_
            exact vv_zret C (Or.inr rfl) dX9_cellItem_93 h
          · replace h := h.2 hc7
            refine vv_sub [] (L' := []) rfl ?_
            exact hJk40_2 h
set_option maxHeartbeats 2000000 in
set_option maxRecDepth 100000 in
theorem mX9_flowItem {Y : vv_Y} (hY : Y.2.2.2.2 = wM)  {σ : vv_S} {post : Int32 → vv_S → Prop} (h : wX9_flowItem σ post) : vv_MI Y yX9_flowItem cX9_flowItem 1 (some .boolean) 2 49 [.ref (vv_q Y 0)] σ post := by
  refine vv_ofI (by decide) (Nat.le_of_ble_eq_true rfl) (fun X C => ?_)
  have C : VC Y X RX9 cX9_flowItem 1 (some .boolean) 2 49 := C
  refine vv_sub [0] (L' := [(0, .ref (vv_q Y 0))]) rfl ?_
  refine vv_aload_n C 0 dX9_flowItem_0 rfl rfl ?_
  refine vv_iconst C dX9_flowItem_1 ki_2 ?_
  refine vv_callI (rest := []) C yk_X9_figures vk_X9_figures lk_X9_159 kc_X9.1 (s_X9 hY) dX9_flowItem_2 (mX9_figures hY h) rfl rfl ⟨Nat.le_of_ble_eq_true rfl, Nat.le_of_ble_eq_true rfl⟩ (Nat.le_of_ble_eq_true rfl) (fun r2 σ1 h => ?_)
  refine vv_join (fun k =>  k → VJ Y X (va_Qi post (vv_B Y) X.2) 1 29 [] [] σ1) h (fun h => ?_) (fun k29_2 hJk29_2 h => ?_)
  · refine vv_iconst C dX9_flowItem_29 ki_0 ?_
    exact vv_zret C (Or.inl rfl) dX9_flowItem_30 h
  · refine vv_if_eq (pc := 5) C 29 dX9_flowItem_5 (by decide) (fun hc4 => ?_) (fun hc4 => ?_)
    · replace h := h.1 hc4
      refine vv_sub [] (L' := []) rfl ?_
      exact hJk29_2 h
    · replace h := h.2 hc4
      refine vv_aload_n C 0 dX9_flowItem_8 rfl rfl ?_
      refine vv_getr (r := 7) C kc_X9 (s_X9 hY) 7 (by decide) rfl fk_X9_28 dX9_flowItem_9 ?_
      refine vv_iconst C dX9_flowItem_12 ki_1 ?_
      refine vv_iald C (a_X9_flows hY) kv_1_2 kn_1 dX9_flowItem_13 ?_
      refine vv_iconst C dX9_flowItem_14 ki_4 ?_
      refine vv_icmp_eq (pc := 15) C 29 dX9_flowItem_15 (by decide) (fun hc5 => ?_) (fun hc5 => ?_)
      · replace h := h.1 hc5
        refine vv_sub [] (L' := []) rfl ?_
        exact hJk29_2 h
      · replace h := h.2 hc5
        refine vv_aload_n C 0 dX9_flowItem_18 rfl rfl ?_
        refine vv_getr (r := 27) C kc_X9 (s_X9 hY) 30 (by decide) rfl fk_X9_88 dX9_flowItem_19 ?_
        refine vv_iconst C dX9_flowItem_22 ki_1 ?_
        refine vv_iald C (a_X9_told hY) kv_1_4 kn_1 dX9_flowItem_23 ?_
        refine vv_bipush C dX9_flowItem_24 kb_60 ?_
        refine vv_icmp_le (pc := 26) C 31 dX9_flowItem_26 (by decide) (fun hc6 => ?_) (fun hc6 => ?_)
        · replace h := h.1 hc6
          refine vv_aload_n C 0 dX9_flowItem_31 rfl rfl ?_
          refine vv_getr (r := 8) C kc_X9 (s_X9 hY) 8 (by decide) rfl fk_X9_31 dX9_flowItem_32 ?_
          refine vv_iconst C dX9_flowItem_35 ki_4 ?_
          refine vv_aload_n C 0 dX9_flowItem_36 rfl rfl ?_
          refine vv_getr (r := 7) C kc_X9 (s_X9 hY) 7 (by decide) rfl fk_X9_28 dX9_flowItem_37 ?_
          refine vv_iconst C dX9_flowItem_40 ki_1 ?_
          refine vv_iald C (a_X9_flows hY) kv_1_2 kn_1 dX9_flowItem_41 ?_
          refine vv_iadd C dX9_flowItem_42 ?_
          refine vv_aload_n C 0 dX9_flowItem_43 rfl rfl ?_
          refine vv_getr (r := 27) C kc_X9 (s_X9 hY) 30 (by decide) rfl fk_X9_88 dX9_flowItem_44 ?_
          refine vv_iconst C dX9_flowItem_47 ki_0 ?_
          refine vv_iald C (a_X9_told hY) kv_0_4 kn_0 dX9_flowItem_48 ?_
          obtain ⟨hi7, h⟩ := h
          refine vv_iast C (a_X9_flowFrom hY) hi7 rfl dX9_flowItem_49 (fun σ8 eσ8 => ?_)
          replace h := h σ8 eσ8
          refine vv_aload_n C 0 dX9_flowItem_50 rfl rfl ?_
          refine vv_getr (r := 9) C kc_X9 (s_X9 hY) 9 (by decide) rfl fk_X9_34 dX9_flowItem_51 ?_
          refine vv_iconst C dX9_flowItem_54 ki_4 ?_
          refine vv_aload_n C 0 dX9_flowItem_55 rfl rfl ?_
          refine vv_getr (r := 7) C kc_X9 (s_X9 hY) 7 (by decide) rfl fk_X9_28 dX9_flowItem_56 ?_
          refine vv_iconst C dX9_flowItem_59 ki_1 ?_
          refine vv_iald C (a_X9_flows hY) kv_1_2 kn_1 dX9_flowItem_60 ?_
          refine vv_iadd C dX9_flowItem_61 ?_
          refine vv_aload_n C 0 dX9_flowItem_62 rfl rfl ?_
          refine vv_getr (r := 27) C kc_X9 (s_X9 hY) 30 (by decide) rfl fk_X9_88 dX9_flowItem_63 ?_
          refine vv_iconst C dX9_flowItem_66 ki_1 ?_
          refine vv_iald C (a_X9_told hY) kv_1_4 kn_1 dX9_flowItem_67 ?_
          obtain ⟨hi9, h⟩ := h
          refine vv_iast C (a_X9_flowBy hY) hi9 rfl dX9_flowItem_68 (fun σ10 eσ10 => ?_)
          replace h := h σ10 eσ10
          refine vv_aload_n C 0 dX9_flowItem_69 rfl rfl ?_
          refine vv_getr (r := 7) C kc_X9 (s_X9 hY) 7 (by decide) rfl fk_X9_28 dX9_flowItem_70 ?_
          refine vv_iconst C dX9_flowItem_73 ki_1 ?_
          refine vv_dup2 C dX9_flowItem_74 rfl rfl ?_
          refine vv_iald C (a_X9_flows hY) kv_1_2 kn_1 dX9_flowItem_75 ?_
          refine vv_iconst C dX9_flowItem_76 ki_1 ?_
          refine vv_iadd C dX9_flowItem_77 ?_
          refine vv_iast C (a_X9_flows hY) kv_1_2 kn_1 dX9_flowItem_78 (fun σ11 eσ11 => ?_)
          replace h := h σ11 eσ11
          refine vv_iconst C dX9_flowItem_79 ki_1 ?_
          exact vv_zret C (Or.inr rfl) dX9_flowItem_80 h
        · replace h := h.2 hc6
          refine vv_sub [] (L' := []) rfl ?_
          exact hJk29_2 h
set_option maxHeartbeats 2000000 in
set_option maxRecDepth 100000 in
theorem mX9_rainItem {Y : vv_Y} (hY : Y.2.2.2.2 = wM)  {σ : vv_S} {post : Int32 → vv_S → Prop} (h : wX9_rainItem σ post) : vv_MI Y yX9_rainItem cX9_rainItem 1 (some .boolean) 2 49 [.ref (vv_q Y 0)] σ post := by
  refine vv_ofI (by decide) (Nat.le_of_ble_eq_true rfl) (fun X C => ?_)
  have C : VC Y X RX9 cX9_rainItem 1 (some .boolean) 2 49 := C
  refine vv_sub [0] (L' := [(0, .ref (vv_q Y 0))]) rfl ?_
  refine vv_aload_n C 0 dX9_rainItem_0 rfl rfl ?_
  refine vv_iconst C dX9_rainItem_1 ki_3 ?_
  refine vv_callI (rest := []) C yk_X9_figures vk_X9_figures lk_X9_159 kc_X9.1 (s_X9 hY) dX9_rainItem_2 (mX9_figures hY h) rfl rfl ⟨Nat.le_of_ble_eq_true rfl, Nat.le_of_ble_eq_true rfl⟩ (Nat.le_of_ble_eq_true rfl) (fun r2 σ1 h => ?_)
  refine vv_join (fun k =>  k → VJ Y X (va_Qi post (vv_B Y) X.2) 1 44 [] [] σ1) h (fun h => ?_) (fun k44_2 hJk44_2 h => ?_)
  · refine vv_iconst C dX9_rainItem_44 ki_0 ?_
    exact vv_zret C (Or.inl rfl) dX9_rainItem_45 h
  · refine vv_if_eq (pc := 5) C 44 dX9_rainItem_5 (by decide) (fun hc4 => ?_) (fun hc4 => ?_)
    · replace h := h.1 hc4
      refine vv_sub [] (L' := []) rfl ?_
      exact hJk44_2 h
    · replace h := h.2 hc4
      refine vv_aload_n C 0 dX9_rainItem_8 rfl rfl ?_
      refine vv_getr (r := 10) C kc_X9 (s_X9 hY) 10 (by decide) rfl fk_X9_37 dX9_rainItem_9 ?_
      refine vv_iconst C dX9_rainItem_12 ki_1 ?_
      refine vv_iald C (a_X9_rains hY) kv_1_2 kn_1 dX9_rainItem_13 ?_
      refine vv_iconst C dX9_rainItem_14 ki_4 ?_
      refine vv_icmp_eq (pc := 15) C 44 dX9_rainItem_15 (by decide) (fun hc5 => ?_) (fun hc5 => ?_)
      · replace h := h.1 hc5
        refine vv_sub [] (L' := []) rfl ?_
        exact hJk44_2 h
      · replace h := h.2 hc5
        refine vv_aload_n C 0 dX9_rainItem_18 rfl rfl ?_
        refine vv_getr (r := 27) C kc_X9 (s_X9 hY) 30 (by decide) rfl fk_X9_88 dX9_rainItem_19 ?_
        refine vv_iconst C dX9_rainItem_22 ki_0 ?_
        refine vv_iald C (a_X9_told hY) kv_0_4 kn_0 dX9_rainItem_23 ?_
        refine vv_aload_n C 0 dX9_rainItem_24 rfl rfl ?_
        refine vv_getr (r := 27) C kc_X9 (s_X9 hY) 30 (by decide) rfl fk_X9_88 dX9_rainItem_25 ?_
        refine vv_iconst C dX9_rainItem_28 ki_1 ?_
        refine vv_iald C (a_X9_told hY) kv_1_4 kn_1 dX9_rainItem_29 ?_
        refine vv_icmp_gt (pc := 30) C 44 dX9_rainItem_30 (by decide) (fun hc6 => ?_) (fun hc6 => ?_)
        · replace h := h.1 hc6
          refine vv_sub [] (L' := []) rfl ?_
          exact hJk44_2 h
        · replace h := h.2 hc6
          refine vv_aload_n C 0 dX9_rainItem_33 rfl rfl ?_
          refine vv_getr (r := 27) C kc_X9 (s_X9 hY) 30 (by decide) rfl fk_X9_88 dX9_rainItem_34 ?_
          refine vv_iconst C dX9_rainItem_37 ki_2 ?_
          refine vv_iald C (a_X9_told hY) kv_2_4 kn_2 dX9_rainItem_38 ?_
          refine vv_bipush C dX9_rainItem_39 kb_30 ?_
          refine vv_icmp_le (pc := 41) C 46 dX9_rainItem_41 (by decide) (fun hc7 => ?_) (fun hc7 => ?_)
          · replace h := h.1 hc7
            refine vv_aload_n C 0 dX9_rainItem_46 rfl rfl ?_
            refine vv_getr (r := 11) C kc_X9 (s_X9 hY) 11 (by decide) rfl fk_X9_40 dX9_rainItem_47 ?_
            refine vv_iconst C dX9_rainItem_50 ki_4 ?_
            refine vv_aload_n C 0 dX9_rainItem_51 rfl rfl ?_
            refine vv_getr (r := 10) C kc_X9 (s_X9 hY) 10 (by decide) rfl fk_X9_37 dX9_rainItem_52 ?_
            refine vv_iconst C dX9_rainItem_55 ki_1 ?_
            refine vv_iald C (a_X9_rains hY) kv_1_2 kn_1 dX9_rainItem_56 ?_
            refine vv_iadd C dX9_rainItem_57 ?_
            refine vv_aload_n C 0 dX9_rainItem_58 rfl rfl ?_
            refine vv_getr (r := 27) C kc_X9 (s_X9 hY) 30 (by decide) rfl fk_X9_88 dX9_rainItem_59 ?_
            refine vv_iconst C dX9_rainItem_62 ki_0 ?_
            refine vv_iald C (a_X9_told hY) kv_0_4 kn_0 dX9_rainItem_63 ?_
            obtain ⟨hi8, h⟩ := h
            refine vv_iast C (a_X9_rainFrom hY) hi8 rfl dX9_rainItem_64 (fun σ9 eσ9 => ?_)
            replace h := h σ9 eσ9
            refine vv_aload_n C 0 dX9_rainItem_65 rfl rfl ?_
            refine vv_getr (r := 12) C kc_X9 (s_X9 hY) 12 (by decide) rfl fk_X9_43 dX9_rainItem_66 ?_
            refine vv_iconst C dX9_rainItem_69 ki_4 ?_
            refine vv_aload_n C 0 dX9_rainItem_70 rfl rfl ?_
            refine vv_getr (r := 10) C kc_X9 (s_X9 hY) 10 (by decide) rfl fk_X9_37 dX9_rainItem_71 ?_
            refine vv_iconst C dX9_rainItem_74 ki_1 ?_
            refine vv_iald C (a_X9_rains hY) kv_1_2 kn_1 dX9_rainItem_75 ?_
            refine vv_iadd C dX9_rainItem_76 ?_
            refine vv_aload_n C 0 dX9_rainItem_77 rfl rfl ?_
            refine vv_getr (r := 27) C kc_X9 (s_X9 hY) 30 (by decide) rfl fk_X9_88 dX9_rainItem_78 ?_
            refine vv_iconst C dX9_rainItem_81 ki_1 ?_
            refine vv_iald C (a_X9_told hY) kv_1_4 kn_1 dX9_rainItem_82 ?_
            obtain ⟨hi10, h⟩ := h
            refine vv_iast C (a_X9_rainTo hY) hi10 rfl dX9_rainItem_83 (fun σ11 eσ11 => ?_)
            replace h := h σ11 eσ11
            refine vv_aload_n C 0 dX9_rainItem_84 rfl rfl ?_
            refine vv_getr (r := 13) C kc_X9 (s_X9 hY) 13 (by decide) rfl fk_X9_46 dX9_rainItem_85 ?_
            refine vv_iconst C dX9_rainItem_88 ki_4 ?_
            refine vv_aload_n C 0 dX9_rainItem_89 rfl rfl ?_
            refine vv_getr (r := 10) C kc_X9 (s_X9 hY) 10 (by decide) rfl fk_X9_37 dX9_rainItem_90 ?_
            refine vv_iconst C dX9_rainItem_93 ki_1 ?_
            refine vv_iald C (a_X9_rains hY) kv_1_2 kn_1 dX9_rainItem_94 ?_
            refine vv_iadd C dX9_rainItem_95 ?_
            refine vv_aload_n C 0 dX9_rainItem_96 rfl rfl ?_
            refine vv_getr (r := 27) C kc_X9 (s_X9 hY) 30 (by decide) rfl fk_X9_88 dX9_rainItem_97 ?_
            refine vv_iconst C dX9_rainItem_100 ki_2 ?_
            refine vv_iald C (a_X9_told hY) kv_2_4 kn_2 dX9_rainItem_101 ?_
            obtain ⟨hi12, h⟩ := h
            refine vv_iast C (a_X9_rainBy hY) hi12 rfl dX9_rainItem_102 (fun σ13 eσ13 => ?_)
            replace h := h σ13 eσ13
            refine vv_aload_n C 0 dX9_rainItem_103 rfl rfl ?_
            refine vv_getr (r := 10) C kc_X9 (s_X9 hY) 10 (by decide) rfl fk_X9_37 dX9_rainItem_104 ?_
            refine vv_iconst C dX9_rainItem_107 ki_1 ?_
            refine vv_dup2 C dX9_rainItem_108 rfl rfl ?_
            refine vv_iald C (a_X9_rains hY) kv_1_2 kn_1 dX9_rainItem_109 ?_
            refine vv_iconst C dX9_rainItem_110 ki_1 ?_
            refine vv_iadd C dX9_rainItem_111 ?_
            refine vv_iast C (a_X9_rains hY) kv_1_2 kn_1 dX9_rainItem_112 (fun σ14 eσ14 => ?_)
            replace h := h σ14 eσ14
            refine vv_iconst C dX9_rainItem_113 ki_1 ?_
            exact vv_zret C (Or.inr rfl) dX9_rainItem_114 h
          · replace h := h.2 hc7
            refine vv_sub [] (L' := []) rfl ?_
            exact hJk44_2 h
set_option maxHeartbeats 2000000 in
set_option maxRecDepth 100000 in
theorem mX9_childItem {Y : vv_Y} (hY : Y.2.2.2.2 = wM)  {σ : vv_S} {post : Int32 → vv_S → Prop} (h : wX9_childItem σ post) : vv_MI Y yX9_childItem cX9_childItem 3 (some .boolean) 2 49 [.ref (vv_q Y 0)] σ post := by
  refine vv_ofI (by decide) (Nat.le_of_ble_eq_true rfl) (fun X C => ?_)
  have C : VC Y X RX9 cX9_childItem 3 (some .boolean) 2 49 := C
  refine vv_sub [0] (L' := [(0, .ref (vv_q Y 0))]) rfl ?_
  refine vv_aload_n C 0 dX9_childItem_0 rfl rfl ?_
  refine vv_iconst C dX9_childItem_1 ki_4 ?_
  refine vv_callI (rest := []) C yk_X9_figures vk_X9_figures lk_X9_159 kc_X9.1 (s_X9 hY) dX9_childItem_2 (mX9_figures hY h) rfl rfl ⟨Nat.le_of_ble_eq_true rfl, Nat.le_of_ble_eq_true rfl⟩ (Nat.le_of_ble_eq_true rfl) (fun r2 σ1 h => ?_)
  refine vv_join (fun k => ∀ (v3 : Int32), k v3 → VJ Y X (va_Qi post (vv_B Y) X.2) 3 23 [(0, .ref (vv_q Y 0))] [.int v3] σ1) h (fun v3 h => ?_) (fun k23_3 hJk23_3 h => ?_)
  · refine vv_istore_n (L' := [(1, .int v3), (0, .ref (vv_q Y 0))]) C dX9_childItem_23 rfl (by decide) rfl ?_
    refine vv_iconst C dX9_childItem_24 ki_0 ?_
    refine vv_istore_n (L' := [(2, .int (0 : Int32)), (1, .int v3), (0, .ref (vv_q Y 0))]) C dX9_childItem_25 rfl (by decide) rfl ?_
    refine vv_join (fun k => ∀ (v5 : Int32) (σ6 : vv_S), k v5 σ6 → VJ Y X (va_Qi post (vv_B Y) X.2) 3 82 [(0, .ref (vv_q Y 0)), (1, .int v5)] [] σ6) h (fun v5 σ6 h => ?_) (fun k82_6 hJk82_6 h => ?_)
    · refine vv_aload_n C 0 dX9_childItem_82 rfl rfl ?_
      refine vv_getr (r := 14) C kc_X9 (s_X9 hY) 14 (by decide) rfl fk_X9_49 dX9_childItem_83 ?_
      refine vv_iconst C dX9_childItem_86 ki_1 ?_
      refine vv_dup2 C dX9_childItem_87 rfl rfl ?_
      refine vv_iald C (a_X9_children hY) kv_1_2 kn_1 dX9_childItem_88 ?_
      refine vv_iload_n C 1 dX9_childItem_89 rfl rfl ?_
      refine vv_join (fun k => ∀ (v8 : Int32), k v8 → VJ Y X (va_Qi post (vv_B Y) X.2) 3 98 [(1, .int v5)] [.int v8, .int (σ6 14 1), .int (1 : Int32), .ref (vv_q Y 14)] σ6) h (fun v8 h => ?_) (fun k98_8 hJk98_8 h => ?_)
      · refine vv_iadd C dX9_childItem_98 ?_
        refine vv_iast C (a_X9_children hY) kv_1_2 kn_1 dX9_childItem_99 (fun σ10 eσ10 => ?_)
        replace h := h σ10 eσ10
        refine vv_iload_n C 0 dX9_childItem_100 rfl rfl ?_
        exact vv_zret C h.1 dX9_childItem_101 h.2
      · refine vv_if_eq (pc := 90) C 97 dX9_childItem_90 (by decide) (fun hc11 => ?_) (fun hc11 => ?_)
        · replace h := h.1 hc11
          refine vv_iconst C dX9_childItem_97 ki_0 ?_
          refine vv_sub [1] (L' := [(1, .int v5)]) rfl ?_
          exact hJk98_8 _ h
        · replace h := h.2 hc11
          refine vv_iconst C dX9_childItem_93 ki_1 ?_
          refine vv_goto (pc := 94) (tgt := 98) C dX9_childItem_94 (by decide) ?_
          refine vv_sub [1] (L' := [(1, .int v5)]) rfl ?_
          exact hJk98_8 _ h
    · obtain ⟨n15, h⟩ := h
      have hl1 : ∀ (n15 : Nat) (v12 : Int32) (v13 : Int32) (σ14 : vv_S), lX9_childItem_1 k82_6 n15 v12 v13 σ14 → VJ Y X (va_Qi post (vv_B Y) X.2) 3 26 [(0, .ref (vv_q Y 0)), (1, .int v12), (2, .int v13)] [] σ14 := by
        clear h
        intro n15
        induction n15 with
        | zero => intro v12 v13 σ14 h; exact False.elim h
        | succ n15 ih1 =>
          intro v12 v13 σ14 h
          refine vv_iload_n C 2 dX9_childItem_26 rfl rfl ?_
          refine vv_iconst C dX9_childItem_27 ki_4 ?_
          refine vv_icmp_ge (pc := 28) C 82 dX9_childItem_28 (by decide) (fun hc16 => ?_) (fun hc16 => ?_)
          · replace h := h.1 hc16
            refine vv_sub [0, 1] (L' := [(0, .ref (vv_q Y 0)), (1, .int v12)]) rfl ?_
            exact hJk82_6 _ _ h
          · replace h := h.2 hc16
            refine vv_iload_n C 1 dX9_childItem_31 rfl rfl ?_
            refine vv_if_eq (pc := 32) C 82 dX9_childItem_32 (by decide) (fun hc17 => ?_) (fun hc17 => ?_)
            · replace h := h.1 hc17
              refine vv_sub [0, 1] (L' := [(0, .ref (vv_q Y 0)), (1, .int v12)]) rfl ?_
              exact hJk82_6 _ _ h
            · replace h := h.2 hc17
              refine vv_aload_n C 0 dX9_childItem_35 rfl rfl ?_
              refine vv_getr (r := 27) C kc_X9 (s_X9 hY) 30 (by decide) rfl fk_X9_88 dX9_childItem_36 ?_
              refine vv_iload_n C 2 dX9_childItem_39 rfl rfl ?_
              obtain ⟨hi18, h⟩ := h
              refine vv_iald C (a_X9_told hY) hi18 rfl dX9_childItem_40 ?_
              refine vv_bipush C dX9_childItem_41 kb_10 ?_
              refine vv_join (fun k => ∀ (v19 : Int32), k v19 → VJ Y X (va_Qi post (vv_B Y) X.2) 3 51 [(0, .ref (vv_q Y 0)), (2, .int v13)] [.int v19] σ14) h (fun v19 h => ?_) (fun k51_19 hJk51_19 h => ?_)
              · refine vv_istore_n (L' := [(1, .int v19), (0, .ref (vv_q Y 0)), (2, .int v13)]) C dX9_childItem_51 rfl (by decide) rfl ?_
                refine vv_aload_n C 1 dX9_childItem_52 rfl rfl ?_
                refine vv_getr (r := 15) C kc_X9 (s_X9 hY) 15 (by decide) rfl fk_X9_52 dX9_childItem_53 ?_
                refine vv_bipush C dX9_childItem_56 kb_16 ?_
                refine vv_iconst C dX9_childItem_58 ki_4 ?_
                refine vv_aload_n C 1 dX9_childItem_59 rfl rfl ?_
                refine vv_getr (r := 14) C kc_X9 (s_X9 hY) 14 (by decide) rfl fk_X9_49 dX9_childItem_60 ?_
                refine vv_iconst C dX9_childItem_63 ki_1 ?_
                refine vv_iald C (a_X9_children hY) kv_1_2 kn_1 dX9_childItem_64 ?_
                refine vv_imul C dX9_childItem_65 ?_
                refine vv_iadd C dX9_childItem_66 ?_
                refine vv_iload_n C 2 dX9_childItem_67 rfl rfl ?_
                refine vv_iadd C dX9_childItem_68 ?_
                refine vv_aload_n C 1 dX9_childItem_69 rfl rfl ?_
                refine vv_getr (r := 27) C kc_X9 (s_X9 hY) 30 (by decide) rfl fk_X9_88 dX9_childItem_70 ?_
                refine vv_iload_n C 2 dX9_childItem_73 rfl rfl ?_
                obtain ⟨hi21, h⟩ := h
                refine vv_iald C (a_X9_told hY) hi21 rfl dX9_childItem_74 ?_
                obtain ⟨hi22, h⟩ := h
                refine vv_iast C (a_X9_lays hY) hi22 rfl dX9_childItem_75 (fun σ23 eσ23 => ?_)
                replace h := h σ23 eσ23
                obtain ⟨v24, ev24⟩ : ∃ z : Int32, z = v13 + (1 : Int32) := ⟨_, rfl⟩
                replace h := h v24 ev24
                refine vv_iinc (v := v24) (L' := [(2, .int v24), (1, .int v19), (0, .ref (vv_q Y 0))]) C 2 dX9_childItem_76 rfl ((kinc ki_1).trans ev24.symm) (by decide) rfl ?_
                refine vv_goto (pc := 79) (tgt := 26) C dX9_childItem_79 (by decide) ?_
                refine vv_sub [2, 1, 0] (L' := [(0, .ref (vv_q Y 0)), (1, .int v19), (2, .int v24)]) rfl ?_
                exact ih1 _ _ _ h
              · refine vv_icmp_ge (pc := 43) C 50 dX9_childItem_43 (by decide) (fun hc25 => ?_) (fun hc25 => ?_)
                · replace h := h.1 hc25
                  refine vv_iconst C dX9_childItem_50 ki_0 ?_
                  refine vv_sub [0, 2] (L' := [(0, .ref (vv_q Y 0)), (2, .int v13)]) rfl ?_
                  exact hJk51_19 _ h
                · replace h := h.2 hc25
                  refine vv_iconst C dX9_childItem_46 ki_1 ?_
                  refine vv_goto (pc := 47) (tgt := 51) C dX9_childItem_47 (by decide) ?_
                  refine vv_sub [0, 2] (L' := [(0, .ref (vv_q Y 0)), (2, .int v13)]) rfl ?_
                  exact hJk51_19 _ h
      refine vv_sub [2, 1, 0] (L' := [(0, .ref (vv_q Y 0)), (1, .int v3), (2, .int (0 : Int32))]) rfl ?_
      exact hl1 n15 _ _ _ h
  · refine vv_join (fun k =>  k → VJ Y X (va_Qi post (vv_B Y) X.2) 3 22 [(0, .ref (vv_q Y 0))] [] σ1) h (fun h => ?_) (fun k22_25 hJk22_25 h => ?_)
    · refine vv_iconst C dX9_childItem_22 ki_0 ?_
      refine vv_sub [0] (L' := [(0, .ref (vv_q Y 0))]) rfl ?_
      exact hJk23_3 _ h
    · refine vv_if_eq (pc := 5) C 22 dX9_childItem_5 (by decide) (fun hc27 => ?_) (fun hc27 => ?_)
      · replace h := h.1 hc27
        refine vv_sub [0] (L' := [(0, .ref (vv_q Y 0))]) rfl ?_
        exact hJk22_25 h
      · replace h := h.2 hc27
        refine vv_aload_n C 0 dX9_childItem_8 rfl rfl ?_
        refine vv_getr (r := 14) C kc_X9 (s_X9 hY) 14 (by decide) rfl fk_X9_49 dX9_childItem_9 ?_
        refine vv_iconst C dX9_childItem_12 ki_1 ?_
        refine vv_iald C (a_X9_children hY) kv_1_2 kn_1 dX9_childItem_13 ?_
        refine vv_iconst C dX9_childItem_14 ki_4 ?_
        refine vv_icmp_ge (pc := 15) C 22 dX9_childItem_15 (by decide) (fun hc28 => ?_) (fun hc28 => ?_)
        · replace h := h.1 hc28
          refine vv_sub [0] (L' := [(0, .ref (vv_q Y 0))]) rfl ?_
          exact hJk22_25 h
        · replace h := h.2 hc28
          refine vv_iconst C dX9_childItem_18 ki_1 ?_
          refine vv_goto (pc := 19) (tgt := 23) C dX9_childItem_19 (by decide) ?_
          refine vv_sub [0] (L' := [(0, .ref (vv_q Y 0))]) rfl ?_
          exact hJk23_3 _ h
set_option maxHeartbeats 2000000 in
set_option maxRecDepth 100000 in
theorem mX9_jobItem {Y : vv_Y} (hY : Y.2.2.2.2 = wM)  {σ : vv_S} {post : Int32 → vv_S → Prop} (h : wX9_jobItem σ post) : vv_MI Y yX9_jobItem cX9_jobItem 1 (some .boolean) 2 49 [.ref (vv_q Y 0)] σ post := by
  refine vv_ofI (by decide) (Nat.le_of_ble_eq_true rfl) (fun X C => ?_)
  have C : VC Y X RX9 cX9_jobItem 1 (some .boolean) 2 49 := C
  refine vv_sub [0] (L' := [(0, .ref (vv_q Y 0))]) rfl ?_
  refine vv_aload_n C 0 dX9_jobItem_0 rfl rfl ?_
  refine vv_iconst C dX9_jobItem_1 ki_3 ?_
  refine vv_callI (rest := []) C yk_X9_figures vk_X9_figures lk_X9_159 kc_X9.1 (s_X9 hY) dX9_jobItem_2 (mX9_figures hY h) rfl rfl ⟨Nat.le_of_ble_eq_true rfl, Nat.le_of_ble_eq_true rfl⟩ (Nat.le_of_ble_eq_true rfl) (fun r2 σ1 h => ?_)
  refine vv_join (fun k => ∀ (σ3 : vv_S), k σ3 → VJ Y X (va_Qi post (vv_B Y) X.2) 1 60 [] [] σ3) h (fun σ3 h => ?_) (fun k60_3 hJk60_3 h => ?_)
  · refine vv_iconst C dX9_jobItem_60 ki_0 ?_
    exact vv_zret C (Or.inl rfl) dX9_jobItem_61 h
  · refine vv_if_eq (pc := 5) C 60 dX9_jobItem_5 (by decide) (fun hc5 => ?_) (fun hc5 => ?_)
    · replace h := h.1 hc5
      refine vv_sub [] (L' := []) rfl ?_
      exact hJk60_3 _ h
    · replace h := h.2 hc5
      refine vv_aload_n C 0 dX9_jobItem_8 rfl rfl ?_
      refine vv_getr (r := 16) C kc_X9 (s_X9 hY) 16 (by decide) rfl fk_X9_55 dX9_jobItem_9 ?_
      refine vv_iconst C dX9_jobItem_12 ki_1 ?_
      refine vv_iald C (a_X9_jobs hY) kv_1_2 kn_1 dX9_jobItem_13 ?_
      refine vv_iconst C dX9_jobItem_14 ki_5 ?_
      refine vv_icmp_eq (pc := 15) C 60 dX9_jobItem_15 (by decide) (fun hc6 => ?_) (fun hc6 => ?_)
      · replace h := h.1 hc6
        refine vv_sub [] (L' := []) rfl ?_
        exact hJk60_3 _ h
      · replace h := h.2 hc6
        refine vv_aload_n C 0 dX9_jobItem_18 rfl rfl ?_
        refine vv_getr (r := 27) C kc_X9 (s_X9 hY) 30 (by decide) rfl fk_X9_88 dX9_jobItem_19 ?_
        refine vv_iconst C dX9_jobItem_22 ki_0 ?_
        refine vv_iald C (a_X9_told hY) kv_0_4 kn_0 dX9_jobItem_23 ?_
        refine vv_aload_n C 0 dX9_jobItem_24 rfl rfl ?_
        refine vv_getr (r := 2) C kc_X9 (s_X9 hY) 2 (by decide) rfl fk_X9_13 dX9_jobItem_25 ?_
        refine vv_iconst C dX9_jobItem_28 ki_1 ?_
        refine vv_iald C (a_X9_cells hY) kv_1_2 kn_1 dX9_jobItem_29 ?_
        refine vv_icmp_ge (pc := 30) C 60 dX9_jobItem_30 (by decide) (fun hc7 => ?_) (fun hc7 => ?_)
        · replace h := h.1 hc7
          refine vv_sub [] (L' := []) rfl ?_
          exact hJk60_3 _ h
        · replace h := h.2 hc7
          refine vv_aload_n C 0 dX9_jobItem_33 rfl rfl ?_
          refine vv_getr (r := 27) C kc_X9 (s_X9 hY) 30 (by decide) rfl fk_X9_88 dX9_jobItem_34 ?_
          refine vv_iconst C dX9_jobItem_37 ki_1 ?_
          refine vv_iald C (a_X9_told hY) kv_1_4 kn_1 dX9_jobItem_38 ?_
          refine vv_iconst C dX9_jobItem_39 ki_3 ?_
          refine vv_icmp_gt (pc := 40) C 60 dX9_jobItem_40 (by decide) (fun hc8 => ?_) (fun hc8 => ?_)
          · replace h := h.1 hc8
            refine vv_sub [] (L' := []) rfl ?_
            exact hJk60_3 _ h
          · replace h := h.2 hc8
            refine vv_aload_n C 0 dX9_jobItem_43 rfl rfl ?_
            refine vv_getr (r := 27) C kc_X9 (s_X9 hY) 30 (by decide) rfl fk_X9_88 dX9_jobItem_44 ?_
            refine vv_iconst C dX9_jobItem_47 ki_2 ?_
            refine vv_iald C (a_X9_told hY) kv_2_4 kn_2 dX9_jobItem_48 ?_
            refine vv_i2l C dX9_jobItem_49 ?_
            refine vv_lconst (v := 1) C dX9_jobItem_50 (by decide) ?_
            refine vv_ldc2 C lc_X9_163 dX9_jobItem_51 ?_
            refine vv_callS (rest := []) C yk_X9_in sk_X9_in lk_X9_138 dX9_jobItem_54 (mX9_in hY h) rfl rfl ⟨Nat.le_of_ble_eq_true rfl, Nat.le_of_ble_eq_true rfl⟩ (Nat.le_of_ble_eq_true rfl) (fun r10 σ9 h => ?_)
            refine vv_if_ne (pc := 57) C 62 dX9_jobItem_57 (by decide) (fun hc11 => ?_) (fun hc11 => ?_)
            · replace h := h.1 hc11
              refine vv_aload_n C 0 dX9_jobItem_62 rfl rfl ?_
              refine vv_getr (r := 17) C kc_X9 (s_X9 hY) 17 (by decide) rfl fk_X9_58 dX9_jobItem_63 ?_
              refine vv_iconst C dX9_jobItem_66 ki_5 ?_
              refine vv_aload_n C 0 dX9_jobItem_67 rfl rfl ?_
              refine vv_getr (r := 16) C kc_X9 (s_X9 hY) 16 (by decide) rfl fk_X9_55 dX9_jobItem_68 ?_
              refine vv_iconst C dX9_jobItem_71 ki_1 ?_
              refine vv_iald C (a_X9_jobs hY) kv_1_2 kn_1 dX9_jobItem_72 ?_
              refine vv_iadd C dX9_jobItem_73 ?_
              refine vv_aload_n C 0 dX9_jobItem_74 rfl rfl ?_
              refine vv_getr (r := 27) C kc_X9 (s_X9 hY) 30 (by decide) rfl fk_X9_88 dX9_jobItem_75 ?_
              refine vv_iconst C dX9_jobItem_78 ki_0 ?_
              refine vv_iald C (a_X9_told hY) kv_0_4 kn_0 dX9_jobItem_79 ?_
              obtain ⟨hi12, h⟩ := h
              refine vv_iast C (a_X9_jobCell hY) hi12 rfl dX9_jobItem_80 (fun σ13 eσ13 => ?_)
              replace h := h σ13 eσ13
              refine vv_aload_n C 0 dX9_jobItem_81 rfl rfl ?_
              refine vv_getr (r := 18) C kc_X9 (s_X9 hY) 18 (by decide) rfl fk_X9_61 dX9_jobItem_82 ?_
              refine vv_iconst C dX9_jobItem_85 ki_5 ?_
              refine vv_aload_n C 0 dX9_jobItem_86 rfl rfl ?_
              refine vv_getr (r := 16) C kc_X9 (s_X9 hY) 16 (by decide) rfl fk_X9_55 dX9_jobItem_87 ?_
              refine vv_iconst C dX9_jobItem_90 ki_1 ?_
              refine vv_iald C (a_X9_jobs hY) kv_1_2 kn_1 dX9_jobItem_91 ?_
              refine vv_iadd C dX9_jobItem_92 ?_
              refine vv_aload_n C 0 dX9_jobItem_93 rfl rfl ?_
              refine vv_getr (r := 27) C kc_X9 (s_X9 hY) 30 (by decide) rfl fk_X9_88 dX9_jobItem_94 ?_
              refine vv_iconst C dX9_jobItem_97 ki_1 ?_
              refine vv_iald C (a_X9_told hY) kv_1_4 kn_1 dX9_jobItem_98 ?_
              obtain ⟨hi14, h⟩ := h
              refine vv_iast C (a_X9_jobStuff hY) hi14 rfl dX9_jobItem_99 (fun σ15 eσ15 => ?_)
              replace h := h σ15 eσ15
              refine vv_aload_n C 0 dX9_jobItem_100 rfl rfl ?_
              refine vv_getr (r := 19) C kc_X9 (s_X9 hY) 19 (by decide) rfl fk_X9_64 dX9_jobItem_101 ?_
              refine vv_iconst C dX9_jobItem_104 ki_5 ?_
              refine vv_aload_n C 0 dX9_jobItem_105 rfl rfl ?_
              refine vv_getr (r := 16) C kc_X9 (s_X9 hY) 16 (by decide) rfl fk_X9_55 dX9_jobItem_106 ?_
              refine vv_iconst C dX9_jobItem_109 ki_1 ?_
              refine vv_iald C (a_X9_jobs hY) kv_1_2 kn_1 dX9_jobItem_110 ?_
              refine vv_iadd C dX9_jobItem_111 ?_
              refine vv_aload_n C 0 dX9_jobItem_112 rfl rfl ?_
              refine vv_getr (r := 27) C kc_X9 (s_X9 hY) 30 (by decide) rfl fk_X9_88 dX9_jobItem_113 ?_
              refine vv_iconst C dX9_jobItem_116 ki_2 ?_
              refine vv_iald C (a_X9_told hY) kv_2_4 kn_2 dX9_jobItem_117 ?_
              obtain ⟨hi16, h⟩ := h
              refine vv_iast C (a_X9_jobInches hY) hi16 rfl dX9_jobItem_118 (fun σ17 eσ17 => ?_)
              replace h := h σ17 eσ17
              refine vv_aload_n C 0 dX9_jobItem_119 rfl rfl ?_
              refine vv_getr (r := 16) C kc_X9 (s_X9 hY) 16 (by decide) rfl fk_X9_55 dX9_jobItem_120 ?_
              refine vv_iconst C dX9_jobItem_123 ki_1 ?_
              refine vv_dup2 C dX9_jobItem_124 rfl rfl ?_
              refine vv_iald C (a_X9_jobs hY) kv_1_2 kn_1 dX9_jobItem_125 ?_
              refine vv_iconst C dX9_jobItem_126 ki_1 ?_
              refine vv_iadd C dX9_jobItem_127 ?_
              refine vv_iast C (a_X9_jobs hY) kv_1_2 kn_1 dX9_jobItem_128 (fun σ18 eσ18 => ?_)
              replace h := h σ18 eσ18
              refine vv_iconst C dX9_jobItem_129 ki_1 ?_
              exact vv_zret C (Or.inr rfl) dX9_jobItem_130 h
            · replace h := h.2 hc11
              refine vv_sub [] (L' := []) rfl ?_
              exact hJk60_3 _ h
set_option maxHeartbeats 2000000 in
set_option maxRecDepth 100000 in
theorem mX9_item {Y : vv_Y} (hY : Y.2.2.2.2 = wM)  {σ : vv_S} {post : Int32 → vv_S → Prop} (h : wX9_item σ post) : vv_MI Y yX9_item cX9_item 2 (some .boolean) 3 71 [.ref (vv_q Y 0)] σ post := by
  refine vv_ofI (by decide) (Nat.le_of_ble_eq_true rfl) (fun X C => ?_)
  have C : VC Y X RX9 cX9_item 2 (some .boolean) 3 71 := C
  refine vv_sub [0] (L' := [(0, .ref (vv_q Y 0))]) rfl ?_
  refine vv_aload_n C 0 dX9_item_0 rfl rfl ?_
  refine vv_aload_n C 0 dX9_item_1 rfl rfl ?_
  refine vv_geti C kc_X9 (s_X9 hY) 29 (by decide) rfl fk_X9_146 dX9_item_2 ?_
  refine vv_callI (rest := []) C yk_X9_letterAt vk_X9_letterAt lk_X9_149 kc_X9.1 (s_X9 hY) dX9_item_5 (mX9_letterAt hY h) rfl rfl ⟨Nat.le_of_ble_eq_true rfl, Nat.le_of_ble_eq_true rfl⟩ (Nat.le_of_ble_eq_true rfl) (fun r2 σ1 h => ?_)
  refine vv_istore_n (L' := [(1, .int r2), (0, .ref (vv_q Y 0))]) C dX9_item_8 rfl (by decide) rfl ?_
  refine vv_aload_n C 1 dX9_item_9 rfl rfl ?_
  refine vv_dup C dX9_item_10 rfl ?_
  refine vv_geti C kc_X9 (s_X9 hY) 29 (by decide) rfl fk_X9_146 dX9_item_11 ?_
  refine vv_iconst C dX9_item_14 ki_1 ?_
  refine vv_iadd C dX9_item_15 ?_
  refine vv_puti C kc_X9 (s_X9 hY) 29 (by decide) rfl pf_X9_29 fk_X9_146 dX9_item_16 (fun σ3 eσ3 => ?_)
  replace h := h σ3 eσ3
  refine vv_iload_n C 0 dX9_item_19 rfl rfl ?_
  by_cases hc4 : r2 = (97 : Int32)
  · replace h := h.1 hc4
    refine vv_tab (pc := 20) C 171 dX9_item_20 hc4 (by decide) (by decide) rfl (by decide) ?_
    refine vv_aload_n C 1 dX9_item_171 rfl rfl ?_
    refine vv_iconst C dX9_item_172 ki_2 ?_
    refine vv_callI (rest := []) C yk_X9_figures vk_X9_figures lk_X9_159 kc_X9.1 (s_X9 hY) dX9_item_173 (mX9_figures hY h) rfl rfl ⟨Nat.le_of_ble_eq_true rfl, Nat.le_of_ble_eq_true rfl⟩ (Nat.le_of_ble_eq_true rfl) (fun r6 σ5 h => ?_)
    refine vv_join (fun k => ∀ (σ7 : vv_S), k σ7 → VJ Y X (va_Qi post (vv_B Y) X.2) 2 206 [] [] σ7) h (fun σ7 h => ?_) (fun k206_7 hJk206_7 h => ?_)
    · refine vv_iconst C dX9_item_206 ki_0 ?_
      exact vv_zret C (Or.inl rfl) dX9_item_207 h
    · refine vv_if_eq (pc := 176) C 206 dX9_item_176 (by decide) (fun hc9 => ?_) (fun hc9 => ?_)
      · replace h := h.1 hc9
        refine vv_sub [] (L' := []) rfl ?_
        exact hJk206_7 _ h
      · replace h := h.2 hc9
        refine vv_aload_n C 1 dX9_item_179 rfl rfl ?_
        refine vv_getr (r := 27) C kc_X9 (s_X9 hY) 30 (by decide) rfl fk_X9_88 dX9_item_180 ?_
        refine vv_iconst C dX9_item_183 ki_0 ?_
        refine vv_iald C (a_X9_told hY) kv_0_4 kn_0 dX9_item_184 ?_
        refine vv_i2l C dX9_item_185 ?_
        refine vv_lconst (v := 1) C dX9_item_186 (by decide) ?_
        refine vv_ldc2 C lc_X9_169 dX9_item_187 ?_
        refine vv_callS (rest := []) C yk_X9_in sk_X9_in lk_X9_138 dX9_item_190 (mX9_in hY h) rfl rfl ⟨Nat.le_of_ble_eq_true rfl, Nat.le_of_ble_eq_true rfl⟩ (Nat.le_of_ble_eq_true rfl) (fun r11 σ10 h => ?_)
        refine vv_if_eq (pc := 193) C 206 dX9_item_193 (by decide) (fun hc12 => ?_) (fun hc12 => ?_)
        · replace h := h.1 hc12
          refine vv_sub [] (L' := []) rfl ?_
          exact hJk206_7 _ h
        · replace h := h.2 hc12
          refine vv_aload_n C 1 dX9_item_196 rfl rfl ?_
          refine vv_getr (r := 27) C kc_X9 (s_X9 hY) 30 (by decide) rfl fk_X9_88 dX9_item_197 ?_
          refine vv_iconst C dX9_item_200 ki_1 ?_
          refine vv_iald C (a_X9_told hY) kv_1_4 kn_1 dX9_item_201 ?_
          refine vv_iconst C dX9_item_202 ki_5 ?_
          refine vv_icmp_le (pc := 203) C 208 dX9_item_203 (by decide) (fun hc13 => ?_) (fun hc13 => ?_)
          · replace h := h.1 hc13
            refine vv_aload_n C 1 dX9_item_208 rfl rfl ?_
            refine vv_getr (r := 6) C kc_X9 (s_X9 hY) 6 (by decide) rfl fk_X9_25 dX9_item_209 ?_
            refine vv_iconst C dX9_item_212 ki_2 ?_
            refine vv_aload_n C 1 dX9_item_213 rfl rfl ?_
            refine vv_getr (r := 27) C kc_X9 (s_X9 hY) 30 (by decide) rfl fk_X9_88 dX9_item_214 ?_
            refine vv_iconst C dX9_item_217 ki_0 ?_
            refine vv_iald C (a_X9_told hY) kv_0_4 kn_0 dX9_item_218 ?_
            refine vv_iast C (a_X9_basin hY) kv_2_4 kn_2 dX9_item_219 (fun σ14 eσ14 => ?_)
            replace h := h σ14 eσ14
            refine vv_aload_n C 1 dX9_item_220 rfl rfl ?_
            refine vv_getr (r := 6) C kc_X9 (s_X9 hY) 6 (by decide) rfl fk_X9_25 dX9_item_221 ?_
            refine vv_iconst C dX9_item_224 ki_3 ?_
            refine vv_aload_n C 1 dX9_item_225 rfl rfl ?_
            refine vv_getr (r := 27) C kc_X9 (s_X9 hY) 30 (by decide) rfl fk_X9_88 dX9_item_226 ?_
            refine vv_iconst C dX9_item_229 ki_1 ?_
            refine vv_iald C (a_X9_told hY) kv_1_4 kn_1 dX9_item_230 ?_
            refine vv_iast C (a_X9_basin hY) kv_3_4 kn_3 dX9_item_231 (fun σ15 eσ15 => ?_)
            replace h := h σ15 eσ15
            refine vv_iconst C dX9_item_232 ki_1 ?_
            exact vv_zret C (Or.inr rfl) dX9_item_233 h
          · replace h := h.2 hc13
            refine vv_sub [] (L' := []) rfl ?_
            exact hJk206_7 _ h
  replace h := h.2
  by_cases hc16 : r2 = (98 : Int32)
  · replace h := h.1 hc16
    refine vv_tab (pc := 20) C 113 dX9_item_20 hc16 (by decide) (by decide) rfl (by decide) ?_
    refine vv_aload_n C 1 dX9_item_113 rfl rfl ?_
    refine vv_iconst C dX9_item_114 ki_2 ?_
    refine vv_callI (rest := []) C yk_X9_figures vk_X9_figures lk_X9_159 kc_X9.1 (s_X9 hY) dX9_item_115 (mX9_figures hY h) rfl rfl ⟨Nat.le_of_ble_eq_true rfl, Nat.le_of_ble_eq_true rfl⟩ (Nat.le_of_ble_eq_true rfl) (fun r18 σ17 h => ?_)
    refine vv_join (fun k =>  k → VJ Y X (va_Qi post (vv_B Y) X.2) 2 143 [] [] σ17) h (fun h => ?_) (fun k143_18 hJk143_18 h => ?_)
    · refine vv_iconst C dX9_item_143 ki_0 ?_
      exact vv_zret C (Or.inl rfl) dX9_item_144 h
    · refine vv_if_eq (pc := 118) C 143 dX9_item_118 (by decide) (fun hc20 => ?_) (fun hc20 => ?_)
      · replace h := h.1 hc20
        refine vv_sub [] (L' := []) rfl ?_
        exact hJk143_18 h
      · replace h := h.2 hc20
        refine vv_aload_n C 1 dX9_item_121 rfl rfl ?_
        refine vv_getr (r := 27) C kc_X9 (s_X9 hY) 30 (by decide) rfl fk_X9_88 dX9_item_122 ?_
        refine vv_iconst C dX9_item_125 ki_0 ?_
        refine vv_iald C (a_X9_told hY) kv_0_4 kn_0 dX9_item_126 ?_
        refine vv_bipush C dX9_item_127 kb_50 ?_
        refine vv_icmp_gt (pc := 129) C 143 dX9_item_129 (by decide) (fun hc21 => ?_) (fun hc21 => ?_)
        · replace h := h.1 hc21
          refine vv_sub [] (L' := []) rfl ?_
          exact hJk143_18 h
        · replace h := h.2 hc21
          refine vv_aload_n C 1 dX9_item_132 rfl rfl ?_
          refine vv_getr (r := 27) C kc_X9 (s_X9 hY) 30 (by decide) rfl fk_X9_88 dX9_item_133 ?_
          refine vv_iconst C dX9_item_136 ki_1 ?_
          refine vv_iald C (a_X9_told hY) kv_1_4 kn_1 dX9_item_137 ?_
          refine vv_bipush C dX9_item_138 kb_50 ?_
          refine vv_icmp_le (pc := 140) C 145 dX9_item_140 (by decide) (fun hc22 => ?_) (fun hc22 => ?_)
          · replace h := h.1 hc22
            refine vv_aload_n C 1 dX9_item_145 rfl rfl ?_
            refine vv_getr (r := 5) C kc_X9 (s_X9 hY) 5 (by decide) rfl fk_X9_22 dX9_item_146 ?_
            refine vv_iconst C dX9_item_149 ki_2 ?_
            refine vv_aload_n C 1 dX9_item_150 rfl rfl ?_
            refine vv_getr (r := 27) C kc_X9 (s_X9 hY) 30 (by decide) rfl fk_X9_88 dX9_item_151 ?_
            refine vv_iconst C dX9_item_154 ki_0 ?_
            refine vv_iald C (a_X9_told hY) kv_0_4 kn_0 dX9_item_155 ?_
            refine vv_iast C (a_X9_banks hY) kv_2_4 kn_2 dX9_item_156 (fun σ23 eσ23 => ?_)
            replace h := h σ23 eσ23
            refine vv_aload_n C 1 dX9_item_157 rfl rfl ?_
            refine vv_getr (r := 5) C kc_X9 (s_X9 hY) 5 (by decide) rfl fk_X9_22 dX9_item_158 ?_
            refine vv_iconst C dX9_item_161 ki_3 ?_
            refine vv_aload_n C 1 dX9_item_162 rfl rfl ?_
            refine vv_getr (r := 27) C kc_X9 (s_X9 hY) 30 (by decide) rfl fk_X9_88 dX9_item_163 ?_
            refine vv_iconst C dX9_item_166 ki_1 ?_
            refine vv_iald C (a_X9_told hY) kv_1_4 kn_1 dX9_item_167 ?_
            refine vv_iast C (a_X9_banks hY) kv_3_4 kn_3 dX9_item_168 (fun σ24 eσ24 => ?_)
            replace h := h σ24 eσ24
            refine vv_iconst C dX9_item_169 ki_1 ?_
            exact vv_zret C (Or.inr rfl) dX9_item_170 h
          · replace h := h.2 hc22
            refine vv_sub [] (L' := []) rfl ?_
            exact hJk143_18 h
  replace h := h.2
  by_cases hc25 : r2 = (99 : Int32)
  · replace h := h.1 hc25
    refine vv_tab (pc := 20) C 108 dX9_item_20 hc25 (by decide) (by decide) rfl (by decide) ?_
    refine vv_aload_n C 1 dX9_item_108 rfl rfl ?_
    refine vv_callI (rest := []) C yk_X9_cellItem vk_X9_cellItem lk_X9_165 kc_X9.1 (s_X9 hY) dX9_item_109 (mX9_cellItem hY h) rfl rfl ⟨Nat.le_of_ble_eq_true rfl, Nat.le_of_ble_eq_true rfl⟩ (Nat.le_of_ble_eq_true rfl) (fun r27 σ26 h => ?_)
    exact vv_zret C h.1 dX9_item_112 h.2
  replace h := h.2
  by_cases hc28 : r2 = (102 : Int32)
  · replace h := h.1 hc28
    refine vv_tab (pc := 20) C 234 dX9_item_20 hc28 (by decide) (by decide) rfl (by decide) ?_
    refine vv_aload_n C 1 dX9_item_234 rfl rfl ?_
    refine vv_callI (rest := []) C yk_X9_flowItem vk_X9_flowItem lk_X9_171 kc_X9.1 (s_X9 hY) dX9_item_235 (mX9_flowItem hY h) rfl rfl ⟨Nat.le_of_ble_eq_true rfl, Nat.le_of_ble_eq_true rfl⟩ (Nat.le_of_ble_eq_true rfl) (fun r30 σ29 h => ?_)
    exact vv_zret C h.1 dX9_item_238 h.2
  replace h := h.2
  by_cases hc31 : r2 = (106 : Int32)
  · replace h := h.1 hc31
    refine vv_tab (pc := 20) C 249 dX9_item_20 hc31 (by decide) (by decide) rfl (by decide) ?_
    refine vv_aload_n C 1 dX9_item_249 rfl rfl ?_
    refine vv_callI (rest := []) C yk_X9_jobItem vk_X9_jobItem lk_X9_180 kc_X9.1 (s_X9 hY) dX9_item_250 (mX9_jobItem hY h) rfl rfl ⟨Nat.le_of_ble_eq_true rfl, Nat.le_of_ble_eq_true rfl⟩ (Nat.le_of_ble_eq_true rfl) (fun r33 σ32 h => ?_)
    exact vv_zret C h.1 dX9_item_253 h.2
  replace h := h.2
  by_cases hc34 : r2 = (112 : Int32)
  · replace h := h.1 hc34
    refine vv_tab (pc := 20) C 244 dX9_item_20 hc34 (by decide) (by decide) rfl (by decide) ?_
    refine vv_aload_n C 1 dX9_item_244 rfl rfl ?_
    refine vv_callI (rest := []) C yk_X9_childItem vk_X9_childItem lk_X9_177 kc_X9.1 (s_X9 hY) dX9_item_245 (mX9_childItem hY h) rfl rfl ⟨Nat.le_of_ble_eq_true rfl, Nat.le_of_ble_eq_true rfl⟩ (Nat.le_of_ble_eq_true rfl) (fun r36 σ35 h => ?_)
    exact vv_zret C h.1 dX9_item_248 h.2
  replace h := h.2
  by_cases hc37 : r2 = (114 : Int32)
  · replace h := h.1 hc37
    refine vv_tab (pc := 20) C 239 dX9_item_20 hc37 (by decide) (by decide) rfl (by decide) ?_
    refine vv_aload_n C 1 dX9_item_239 rfl rfl ?_
    refine vv_callI (rest := []) C yk_X9_rainItem vk_X9_rainItem lk_X9_174 kc_X9.1 (s_X9 hY) dX9_item_240 (mX9_rainItem hY h) rfl rfl ⟨Nat.le_of_ble_eq_true rfl, Nat.le_of_ble_eq_true rfl⟩ (Nat.le_of_ble_eq_true rfl) (fun r39 σ38 h => ?_)
    exact vv_zret C h.1 dX9_item_243 h.2
  replace h := h.2
  replace h := h ⟨hc4, hc16, hc25, hc28, hc31, hc34, hc37⟩
  have hgap : ∀ n : Nat, n < 18 → ((#[151, 93, 88, 234, 234, 214, 234, 234, 234, 229, 234, 234, 234, 234, 234, 224, 234, 219] : Array Int)[n]? = some (234) ∨ ((97 : Int) + n = 97 ∨ (97 : Int) + n = 98 ∨ (97 : Int) + n = 99 ∨ (97 : Int) + n = 102 ∨ (97 : Int) + n = 106 ∨ (97 : Int) + n = 112 ∨ (97 : Int) + n = 114)) := by decide
  refine vv_tabD (pc := 20) C 254 dX9_item_20 (fun n hn hx => by
      rcases hgap n (by omega) with h9 | h9
      · exact h9
      · exfalso; have nhc4 := lv_neT (a := 97) hc4 (by decide); have nhc16 := lv_neT (a := 98) hc16 (by decide); have nhc25 := lv_neT (a := 99) hc25 (by decide); have nhc28 := lv_neT (a := 102) hc28 (by decide); have nhc31 := lv_neT (a := 106) hc31 (by decide); have nhc34 := lv_neT (a := 112) hc34 (by decide); have nhc37 := lv_neT (a := 114) hc37 (by decide); omega) (by decide) ?_
  refine vv_iconst C dX9_item_254 ki_0 ?_
  exact vv_zret C (Or.inl rfl) dX9_item_255 h
set_option maxHeartbeats 2000000 in
set_option maxRecDepth 100000 in
theorem mX9_readAll {Y : vv_Y} (hY : Y.2.2.2.2 = wM)  {σ : vv_S} {post : Int32 → vv_S → Prop} (h : wX9_readAll σ post) : vv_MI Y yX9_readAll cX9_readAll 2 (some .int) 4 92 [.ref (vv_q Y 0)] σ post := by
  refine vv_ofI (by decide) (Nat.le_of_ble_eq_true rfl) (fun X C => ?_)
  have C : VC Y X RX9 cX9_readAll 2 (some .int) 4 92 := C
  refine vv_sub [0] (L' := [(0, .ref (vv_q Y 0))]) rfl ?_
  refine vv_aload_n C 0 dX9_readAll_0 rfl rfl ?_
  refine vv_iconst C dX9_readAll_1 ki_1 ?_
  refine vv_callV (rest := []) C yk_X9_noDam vk_X9_noDam lk_X9_127 kc_X9.1 (s_X9 hY) dX9_readAll_2 (mX9_noDam hY h) rfl rfl ⟨Nat.le_of_ble_eq_true rfl, Nat.le_of_ble_eq_true rfl⟩ (Nat.le_of_ble_eq_true rfl) (fun σ1 h => ?_)
  refine vv_aload_n C 0 dX9_readAll_5 rfl rfl ?_
  refine vv_iconst C dX9_readAll_6 ki_0 ?_
  refine vv_puti C kc_X9 (s_X9 hY) 29 (by decide) rfl pf_X9_29 fk_X9_146 dX9_readAll_7 (fun σ2 eσ2 => ?_)
  replace h := h σ2 eσ2
  obtain ⟨n4, h⟩ := h
  have hl1 : ∀ (n4 : Nat) (σ3 : vv_S), lX9_readAll_1 post n4 σ3 → VJ Y X (va_Qi post (vv_B Y) X.2) 2 10 [(0, .ref (vv_q Y 0))] [] σ3 := by
    clear h
    intro n4
    induction n4 with
    | zero => intro σ3 h; exact False.elim h
    | succ n4 ih1 =>
      intro σ3 h
      refine vv_aload_n C 0 dX9_readAll_10 rfl rfl ?_
      refine vv_geti C kc_X9 (s_X9 hY) 29 (by decide) rfl fk_X9_146 dX9_readAll_11 ?_
      refine vv_aload_n C 0 dX9_readAll_14 rfl rfl ?_
      refine vv_geti C kc_X9 (s_X9 hY) 0 (by decide) rfl fk_X9_142 dX9_readAll_15 ?_
      refine vv_icmp_ge (pc := 18) C 38 dX9_readAll_18 (by decide) (fun hc5 => ?_) (fun hc5 => ?_)
      · replace h := h.1 hc5
        refine vv_bipush C dX9_readAll_38 kb_m4 ?_
        exact vv_iret C dX9_readAll_40 h
      · replace h := h.2 hc5
        refine vv_aload_n C 0 dX9_readAll_21 rfl rfl ?_
        refine vv_geti C kc_X9 (s_X9 hY) 29 (by decide) rfl fk_X9_146 dX9_readAll_22 ?_
        refine vv_nm (fun v6 ev6 => ?_)
        replace h := h v6 ev6
        refine vv_istore_n (L' := [(1, .int v6), (0, .ref (vv_q Y 0))]) C dX9_readAll_25 rfl (by decide) rfl ?_
        refine vv_aload_n C 1 dX9_readAll_26 rfl rfl ?_
        refine vv_callI (rest := []) C yk_X9_item vk_X9_item lk_X9_183 kc_X9.1 (s_X9 hY) dX9_readAll_27 (mX9_item hY h) rfl rfl ⟨Nat.le_of_ble_eq_true rfl, Nat.le_of_ble_eq_true rfl⟩ (Nat.le_of_ble_eq_true rfl) (fun r8 σ7 h => ?_)
        refine vv_if_ne (pc := 30) C 35 dX9_readAll_30 (by decide) (fun hc9 => ?_) (fun hc9 => ?_)
        · replace h := h.1 hc9
          refine vv_goto (pc := 35) (tgt := 10) C dX9_readAll_35 (by decide) ?_
          refine vv_sub [1] (L' := [(0, .ref (vv_q Y 0))]) rfl ?_
          exact ih1 _ h
        · replace h := h.2 hc9
          refine vv_iload_n C 0 dX9_readAll_33 rfl rfl ?_
          exact vv_iret C dX9_readAll_34 h
  refine vv_sub [0] (L' := [(0, .ref (vv_q Y 0))]) rfl ?_
  exact hl1 n4 _ h
set_option maxHeartbeats 2000000 in
set_option maxRecDepth 100000 in
theorem mX9_fault {Y : vv_Y} (hY : Y.2.2.2.2 = wM)  {σ : vv_S} {post : Int32 → vv_S → Prop} (h : wX9_fault σ post) : vv_MI Y yX9_fault cX9_fault 1 (some .int) 5 113 [.ref (vv_q Y 0)] σ post := by
  refine vv_ofI (by decide) (Nat.le_of_ble_eq_true rfl) (fun X C => ?_)
  have C : VC Y X RX9 cX9_fault 1 (some .int) 5 113 := C
  refine vv_sub [0] (L' := [(0, .ref (vv_q Y 0))]) rfl ?_
  refine vv_aload_n C 0 dX9_fault_0 rfl rfl ?_
  refine vv_callI (rest := []) C yk_X9_readAll vk_X9_readAll lk_X9_186 kc_X9.1 (s_X9 hY) dX9_fault_1 (mX9_readAll hY h) rfl rfl ⟨Nat.le_of_ble_eq_true rfl, Nat.le_of_ble_eq_true rfl⟩ (Nat.le_of_ble_eq_true rfl) (fun r2 σ1 h => ?_)
  exact vv_iret C dX9_fault_4 h
set_option maxHeartbeats 2000000 in
set_option maxRecDepth 100000 in
theorem mX9_canDo {Y : vv_Y} (hY : Y.2.2.2.2 = wM) {a1 : Int32} {a2 : Int32} {σ : vv_S} {post : Int32 → vv_S → Prop} (h : wX9_canDo a1 a2 σ post) : vv_MI Y yX9_canDo cX9_canDo 4 (some .boolean) 0 0 [.ref (vv_q Y 0), .int a1, .int a2] σ post := by
  refine vv_ofI (by decide) (Nat.le_of_ble_eq_true rfl) (fun X C => ?_)
  have C : VC Y X RX9 cX9_canDo 4 (some .boolean) 0 0 := C
  refine vv_sub [0, 1, 2] (L' := [(0, .ref (vv_q Y 0)), (1, .int a1), (2, .int a2)]) rfl ?_
  refine vv_bipush C dX9_canDo_0 kb_8 ?_
  refine vv_iload_n C 1 dX9_canDo_2 rfl rfl ?_
  refine vv_imul C dX9_canDo_3 ?_
  refine vv_aload_n C 0 dX9_canDo_4 rfl rfl ?_
  refine vv_getr (r := 22) C kc_X9 (s_X9 hY) 22 (by decide) rfl fk_X9_73 dX9_canDo_5 ?_
  refine vv_iload_n C 2 dX9_canDo_8 rfl rfl ?_
  obtain ⟨hi1, h⟩ := h
  refine vv_iald C (a_X9_actCell hY) hi1 rfl dX9_canDo_9 ?_
  refine vv_iadd C dX9_canDo_10 ?_
  refine vv_nm (fun v2 ev2 => ?_)
  replace h := h v2 ev2
  refine vv_istore_n (L' := [(3, .int v2), (0, .ref (vv_q Y 0)), (1, .int a1), (2, .int a2)]) C dX9_canDo_11 rfl (by decide) rfl ?_
  refine vv_aload_n C 1 dX9_canDo_12 rfl rfl ?_
  refine vv_getr (r := 21) C kc_X9 (s_X9 hY) 21 (by decide) rfl fk_X9_70 dX9_canDo_13 ?_
  refine vv_iload_n C 3 dX9_canDo_16 rfl rfl ?_
  obtain ⟨hi3, h⟩ := h
  refine vv_iald C (a_X9_actKind hY) hi3 rfl dX9_canDo_17 ?_
  refine vv_join (fun k => ∀ (v4 : Int32), k v4 → VJ Y X (va_Qi post (vv_B Y) X.2) 4 77 [] [.int v4] σ) h (fun v4 h => ?_) (fun k77_4 hJk77_4 h => ?_)
  · exact vv_zret C h.1 dX9_canDo_77 h.2
  · refine vv_if_ne (pc := 18) C 47 dX9_canDo_18 (by decide) (fun hc6 => ?_) (fun hc6 => ?_)
    · replace h := h.1 hc6
      refine vv_aload_n C 1 dX9_canDo_47 rfl rfl ?_
      refine vv_getr (r := 21) C kc_X9 (s_X9 hY) 21 (by decide) rfl fk_X9_70 dX9_canDo_48 ?_
      refine vv_iload_n C 3 dX9_canDo_51 rfl rfl ?_
      obtain ⟨hi7, h⟩ := h
      refine vv_iald C (a_X9_actKind hY) hi7 rfl dX9_canDo_52 ?_
      refine vv_iconst C dX9_canDo_53 ki_1 ?_
      refine vv_join (fun k =>  k → VJ Y X (va_Qi post (vv_B Y) X.2) 4 72 [] [] σ) h (fun h => ?_) (fun k72_7 hJk72_7 h => ?_)
      · refine vv_iconst C dX9_canDo_72 ki_1 ?_
        refine vv_goto (pc := 73) (tgt := 77) C dX9_canDo_73 (by decide) ?_
        refine vv_sub [] (L' := []) rfl ?_
        exact hJk77_4 _ h
      · refine vv_icmp_ne (pc := 54) C 72 dX9_canDo_54 (by decide) (fun hc9 => ?_) (fun hc9 => ?_)
        · replace h := h.1 hc9
          refine vv_sub [] (L' := []) rfl ?_
          exact hJk72_7 h
        · replace h := h.2 hc9
          refine vv_aload_n C 1 dX9_canDo_57 rfl rfl ?_
          refine vv_getr (r := 28) C kc_X9 (s_X9 hY) 31 (by decide) rfl fk_X9_91 dX9_canDo_58 ?_
          refine vv_iload_n C 0 dX9_canDo_61 rfl rfl ?_
          obtain ⟨hi10, h⟩ := h
          refine vv_iald C (a_X9_high hY) hi10 rfl dX9_canDo_62 ?_
          refine vv_aload_n C 1 dX9_canDo_63 rfl rfl ?_
          refine vv_getr (r := 24) C kc_X9 (s_X9 hY) 24 (by decide) rfl fk_X9_79 dX9_canDo_64 ?_
          refine vv_iload_n C 3 dX9_canDo_67 rfl rfl ?_
          obtain ⟨hi11, h⟩ := h
          refine vv_iald C (a_X9_actMany hY) hi11 rfl dX9_canDo_68 ?_
          refine vv_icmp_lt (pc := 69) C 76 dX9_canDo_69 (by decide) (fun hc12 => ?_) (fun hc12 => ?_)
          · replace h := h.1 hc12
            refine vv_iconst C dX9_canDo_76 ki_0 ?_
            refine vv_sub [] (L' := []) rfl ?_
            exact hJk77_4 _ h
          · replace h := h.2 hc12
            refine vv_sub [] (L' := []) rfl ?_
            exact hJk72_7 h
    · replace h := h.2 hc6
      refine vv_aload_n C 1 dX9_canDo_21 rfl rfl ?_
      refine vv_getr (r := 28) C kc_X9 (s_X9 hY) 31 (by decide) rfl fk_X9_91 dX9_canDo_22 ?_
      refine vv_iload_n C 0 dX9_canDo_25 rfl rfl ?_
      obtain ⟨hi13, h⟩ := h
      refine vv_iald C (a_X9_high hY) hi13 rfl dX9_canDo_26 ?_
      refine vv_aload_n C 1 dX9_canDo_27 rfl rfl ?_
      refine vv_getr (r := 24) C kc_X9 (s_X9 hY) 24 (by decide) rfl fk_X9_79 dX9_canDo_28 ?_
      refine vv_iload_n C 3 dX9_canDo_31 rfl rfl ?_
      obtain ⟨hi14, h⟩ := h
      refine vv_iald C (a_X9_actMany hY) hi14 rfl dX9_canDo_32 ?_
      refine vv_iadd C dX9_canDo_33 ?_
      refine vv_bipush C dX9_canDo_34 kb_40 ?_
      refine vv_icmp_gt (pc := 36) C 43 dX9_canDo_36 (by decide) (fun hc15 => ?_) (fun hc15 => ?_)
      · replace h := h.1 hc15
        refine vv_iconst C dX9_canDo_43 ki_0 ?_
        refine vv_goto (pc := 44) (tgt := 77) C dX9_canDo_44 (by decide) ?_
        refine vv_sub [] (L' := []) rfl ?_
        exact hJk77_4 _ h
      · replace h := h.2 hc15
        refine vv_iconst C dX9_canDo_39 ki_1 ?_
        refine vv_goto (pc := 40) (tgt := 77) C dX9_canDo_40 (by decide) ?_
        refine vv_sub [] (L' := []) rfl ?_
        exact hJk77_4 _ h
set_option maxHeartbeats 2000000 in
set_option maxRecDepth 100000 in
theorem mX9_comesIn {Y : vv_Y} (hY : Y.2.2.2.2 = wM) {a1 : Int32} {σ : vv_S} {post : Int32 → vv_S → Prop} (h : wX9_comesIn a1 σ post) : vv_MI Y yX9_comesIn cX9_comesIn 5 (some .int) 1 25 [.ref (vv_q Y 0), .int a1] σ post := by
  refine vv_ofI (by decide) (Nat.le_of_ble_eq_true rfl) (fun X C => ?_)
  have C : VC Y X RX9 cX9_comesIn 5 (some .int) 1 25 := C
  refine vv_sub [0, 1] (L' := [(0, .ref (vv_q Y 0)), (1, .int a1)]) rfl ?_
  refine vv_iconst C dX9_comesIn_0 ki_m1 ?_
  refine vv_istore_n (L' := [(2, .int (-1 : Int32)), (0, .ref (vv_q Y 0)), (1, .int a1)]) C dX9_comesIn_1 rfl (by decide) rfl ?_
  refine vv_iconst C dX9_comesIn_2 ki_0 ?_
  refine vv_istore_n (L' := [(3, .int (0 : Int32)), (2, .int (-1 : Int32)), (0, .ref (vv_q Y 0)), (1, .int a1)]) C dX9_comesIn_3 rfl (by decide) rfl ?_
  refine vv_iconst C dX9_comesIn_4 ki_0 ?_
  refine vv_istore (L' := [(4, .int (0 : Int32)), (3, .int (0 : Int32)), (2, .int (-1 : Int32)), (0, .ref (vv_q Y 0)), (1, .int a1)]) C dX9_comesIn_5 (by decide) rfl ?_
  refine vv_join (fun k => ∀ (v1 : Int32), k v1 → VJ Y X (va_Qi post (vv_B Y) X.2) 5 62 [(0, .ref (vv_q Y 0)), (1, .int a1), (3, .int v1)] [] σ) h (fun v1 h => ?_) (fun k62_1 hJk62_1 h => ?_)
  · refine vv_iconst C dX9_comesIn_62 ki_0 ?_
    refine vv_istore (L' := [(4, .int (0 : Int32)), (0, .ref (vv_q Y 0)), (1, .int a1), (3, .int v1)]) C dX9_comesIn_63 (by decide) rfl ?_
    obtain ⟨n6, h⟩ := h
    have hl1 : ∀ (n6 : Nat) (v3 : Int32) (v4 : Int32) (σ5 : vv_S), lX9_comesIn_1 post a1 n6 v3 v4 σ5 → VJ Y X (va_Qi post (vv_B Y) X.2) 5 65 [(0, .ref (vv_q Y 0)), (1, .int a1), (3, .int v3), (4, .int v4)] [] σ5 := by
      clear h
      intro n6
      induction n6 with
      | zero => intro v3 v4 σ5 h; exact False.elim h
      | succ n6 ih1 =>
        intro v3 v4 σ5 h
        refine vv_iload C 3 dX9_comesIn_65 rfl ?_
        refine vv_aload_n C 0 dX9_comesIn_67 rfl rfl ?_
        refine vv_getr (r := 10) C kc_X9 (s_X9 hY) 10 (by decide) rfl fk_X9_37 dX9_comesIn_68 ?_
        refine vv_iconst C dX9_comesIn_71 ki_0 ?_
        refine vv_iald C (a_X9_rains hY) kv_0_2 kn_0 dX9_comesIn_72 ?_
        refine vv_icmp_ge (pc := 73) C 120 dX9_comesIn_73 (by decide) (fun hc7 => ?_) (fun hc7 => ?_)
        · replace h := h.1 hc7
          refine vv_iload_n C 2 dX9_comesIn_120 rfl rfl ?_
          exact vv_iret C dX9_comesIn_121 h
        · replace h := h.2 hc7
          refine vv_iload_n C 2 dX9_comesIn_76 rfl rfl ?_
          refine vv_iload_n C 1 dX9_comesIn_77 rfl rfl ?_
          refine vv_i2l C dX9_comesIn_78 ?_
          refine vv_aload_n C 0 dX9_comesIn_79 rfl rfl ?_
          refine vv_getr (r := 11) C kc_X9 (s_X9 hY) 11 (by decide) rfl fk_X9_40 dX9_comesIn_80 ?_
          refine vv_iload C 3 dX9_comesIn_83 rfl ?_
          obtain ⟨hi8, h⟩ := h
          refine vv_iald C (a_X9_rainFrom hY) hi8 rfl dX9_comesIn_85 ?_
          refine vv_i2l C dX9_comesIn_86 ?_
          refine vv_aload_n C 0 dX9_comesIn_87 rfl rfl ?_
          refine vv_getr (r := 12) C kc_X9 (s_X9 hY) 12 (by decide) rfl fk_X9_43 dX9_comesIn_88 ?_
          refine vv_iload C 3 dX9_comesIn_91 rfl ?_
          obtain ⟨hi9, h⟩ := h
          refine vv_iald C (a_X9_rainTo hY) hi9 rfl dX9_comesIn_93 ?_
          refine vv_i2l C dX9_comesIn_94 ?_
          refine vv_callS (rest := [.int v3]) C yk_X9_in sk_X9_in lk_X9_138 dX9_comesIn_95 (mX9_in hY h) rfl rfl ⟨Nat.le_of_ble_eq_true rfl, Nat.le_of_ble_eq_true rfl⟩ (Nat.le_of_ble_eq_true rfl) (fun r11 σ10 h => ?_)
          refine vv_join (fun k => ∀ (v12 : Int32), k v12 → VJ Y X (va_Qi post (vv_B Y) X.2) 5 112 [(0, .ref (vv_q Y 0)), (1, .int a1), (4, .int v4)] [.int v12, .int v3] σ10) h (fun v12 h => ?_) (fun k112_12 hJk112_12 h => ?_)
          · refine vv_iadd C dX9_comesIn_112 ?_
            refine vv_nm (fun v14 ev14 => ?_)
            replace h := h v14 ev14
            refine vv_istore_n (L' := [(3, .int v14), (0, .ref (vv_q Y 0)), (1, .int a1), (4, .int v4)]) C dX9_comesIn_113 rfl (by decide) rfl ?_
            obtain ⟨v15, ev15⟩ : ∃ z : Int32, z = v4 + (1 : Int32) := ⟨_, rfl⟩
            replace h := h v15 ev15
            refine vv_iinc (v := v15) (L' := [(4, .int v15), (3, .int v14), (0, .ref (vv_q Y 0)), (1, .int a1)]) C 3 dX9_comesIn_114 rfl ((kinc ki_1).trans ev15.symm) (by decide) rfl ?_
            refine vv_goto (pc := 117) (tgt := 65) C dX9_comesIn_117 (by decide) ?_
            refine vv_sub [2, 3, 1, 0] (L' := [(0, .ref (vv_q Y 0)), (1, .int a1), (3, .int v14), (4, .int v15)]) rfl ?_
            exact ih1 _ _ _ h
          · refine vv_if_eq (pc := 98) C 111 dX9_comesIn_98 (by decide) (fun hc16 => ?_) (fun hc16 => ?_)
            · replace h := h.1 hc16
              refine vv_iconst C dX9_comesIn_111 ki_0 ?_
              refine vv_sub [0, 1, 3] (L' := [(0, .ref (vv_q Y 0)), (1, .int a1), (4, .int v4)]) rfl ?_
              exact hJk112_12 _ h
            · replace h := h.2 hc16
              refine vv_aload_n C 0 dX9_comesIn_101 rfl rfl ?_
              refine vv_getr (r := 13) C kc_X9 (s_X9 hY) 13 (by decide) rfl fk_X9_46 dX9_comesIn_102 ?_
              refine vv_iload C 3 dX9_comesIn_105 rfl ?_
              obtain ⟨hi17, h⟩ := h
              refine vv_iald C (a_X9_rainBy hY) hi17 rfl dX9_comesIn_107 ?_
              refine vv_goto (pc := 108) (tgt := 112) C dX9_comesIn_108 (by decide) ?_
              refine vv_sub [0, 1, 3] (L' := [(0, .ref (vv_q Y 0)), (1, .int a1), (4, .int v4)]) rfl ?_
              exact hJk112_12 _ h
    refine vv_sub [1, 2, 3, 0] (L' := [(0, .ref (vv_q Y 0)), (1, .int a1), (3, .int v1), (4, .int (0 : Int32))]) rfl ?_
    exact hl1 n6 _ _ _ h
  · obtain ⟨n21, h⟩ := h
    have hl2 : ∀ (n21 : Nat) (v18 : Int32) (v19 : Int32) (v20 : Int32), lX9_comesIn_2 σ k62_1 a1 n21 v18 v19 v20 → VJ Y X (va_Qi post (vv_B Y) X.2) 5 7 [(0, .ref (vv_q Y 0)), (1, .int a1), (2, .int v18), (3, .int v19), (4, .int v20)] [] σ := by
      clear h
      intro n21
      induction n21 with
      | zero => intro v18 v19 v20 h; exact False.elim h
      | succ n21 ih2 =>
        intro v18 v19 v20 h
        refine vv_iload C 4 dX9_comesIn_7 rfl ?_
        refine vv_aload_n C 0 dX9_comesIn_9 rfl rfl ?_
        refine vv_getr (r := 7) C kc_X9 (s_X9 hY) 7 (by decide) rfl fk_X9_28 dX9_comesIn_10 ?_
        refine vv_iconst C dX9_comesIn_13 ki_0 ?_
        refine vv_iald C (a_X9_flows hY) kv_0_2 kn_0 dX9_comesIn_14 ?_
        refine vv_icmp_ge (pc := 15) C 62 dX9_comesIn_15 (by decide) (fun hc22 => ?_) (fun hc22 => ?_)
        · replace h := h.1 hc22
          refine vv_sub [0, 1, 3] (L' := [(0, .ref (vv_q Y 0)), (1, .int a1), (3, .int v19)]) rfl ?_
          exact hJk62_1 _ h
        · replace h := h.2 hc22
          refine vv_aload_n C 0 dX9_comesIn_18 rfl rfl ?_
          refine vv_getr (r := 8) C kc_X9 (s_X9 hY) 8 (by decide) rfl fk_X9_31 dX9_comesIn_19 ?_
          refine vv_iload C 4 dX9_comesIn_22 rfl ?_
          obtain ⟨hi23, h⟩ := h
          refine vv_iald C (a_X9_flowFrom hY) hi23 rfl dX9_comesIn_24 ?_
          refine vv_iload_n C 1 dX9_comesIn_25 rfl rfl ?_
          refine vv_join (fun k => ∀ (v24 : Int32) (v25 : Int32), k v24 v25 → VJ Y X (va_Qi post (vv_B Y) X.2) 5 56 [(0, .ref (vv_q Y 0)), (1, .int a1), (2, .int v24), (3, .int v25), (4, .int v20)] [] σ) h (fun v24 v25 h => ?_) (fun k56_25 hJk56_25 h => ?_)
          · obtain ⟨v27, ev27⟩ : ∃ z : Int32, z = v20 + (1 : Int32) := ⟨_, rfl⟩
            replace h := h v27 ev27
            refine vv_iinc (v := v27) (L' := [(4, .int v27), (0, .ref (vv_q Y 0)), (1, .int a1), (2, .int v24), (3, .int v25)]) C 4 dX9_comesIn_56 rfl ((kinc ki_1).trans ev27.symm) (by decide) rfl ?_
            refine vv_goto (pc := 59) (tgt := 7) C dX9_comesIn_59 (by decide) ?_
            refine vv_sub [1, 2, 3, 4, 0] (L' := [(0, .ref (vv_q Y 0)), (1, .int a1), (2, .int v24), (3, .int v25), (4, .int v27)]) rfl ?_
            exact ih2 _ _ _ h
          · refine vv_icmp_gt (pc := 26) C 56 dX9_comesIn_26 (by decide) (fun hc28 => ?_) (fun hc28 => ?_)
            · replace h := h.1 hc28
              refine vv_sub [0, 1, 2, 3, 4] (L' := [(0, .ref (vv_q Y 0)), (1, .int a1), (2, .int v18), (3, .int v19), (4, .int v20)]) rfl ?_
              exact hJk56_25 _ _ h
            · replace h := h.2 hc28
              refine vv_aload_n C 0 dX9_comesIn_29 rfl rfl ?_
              refine vv_getr (r := 8) C kc_X9 (s_X9 hY) 8 (by decide) rfl fk_X9_31 dX9_comesIn_30 ?_
              refine vv_iload C 4 dX9_comesIn_33 rfl ?_
              obtain ⟨hi29, h⟩ := h
              refine vv_iald C (a_X9_flowFrom hY) hi29 rfl dX9_comesIn_35 ?_
              refine vv_iload_n C 2 dX9_comesIn_36 rfl rfl ?_
              refine vv_icmp_lt (pc := 37) C 56 dX9_comesIn_37 (by decide) (fun hc30 => ?_) (fun hc30 => ?_)
              · replace h := h.1 hc30
                refine vv_sub [0, 1, 2, 3, 4] (L' := [(0, .ref (vv_q Y 0)), (1, .int a1), (2, .int v18), (3, .int v19), (4, .int v20)]) rfl ?_
                exact hJk56_25 _ _ h
              · replace h := h.2 hc30
                refine vv_aload_n C 0 dX9_comesIn_40 rfl rfl ?_
                refine vv_getr (r := 8) C kc_X9 (s_X9 hY) 8 (by decide) rfl fk_X9_31 dX9_comesIn_41 ?_
                refine vv_iload C 4 dX9_comesIn_44 rfl ?_
                obtain ⟨hi31, h⟩ := h
                refine vv_iald C (a_X9_flowFrom hY) hi31 rfl dX9_comesIn_46 ?_
                refine vv_nm (fun v32 ev32 => ?_)
                replace h := h v32 ev32
                refine vv_istore_n (L' := [(2, .int v32), (0, .ref (vv_q Y 0)), (1, .int a1), (3, .int v19), (4, .int v20)]) C dX9_comesIn_47 rfl (by decide) rfl ?_
                refine vv_aload_n C 1 dX9_comesIn_48 rfl rfl ?_
                refine vv_getr (r := 9) C kc_X9 (s_X9 hY) 9 (by decide) rfl fk_X9_34 dX9_comesIn_49 ?_
                refine vv_iload C 4 dX9_comesIn_52 rfl ?_
                obtain ⟨hi33, h⟩ := h
                refine vv_iald C (a_X9_flowBy hY) hi33 rfl dX9_comesIn_54 ?_
                refine vv_nm (fun v34 ev34 => ?_)
                replace h := h v34 ev34
                refine vv_istore_n (L' := [(3, .int v34), (2, .int v32), (0, .ref (vv_q Y 0)), (1, .int a1), (4, .int v20)]) C dX9_comesIn_55 rfl (by decide) rfl ?_
                refine vv_sub [2, 3, 1, 0, 4] (L' := [(0, .ref (vv_q Y 0)), (1, .int a1), (2, .int v32), (3, .int v34), (4, .int v20)]) rfl ?_
                exact hJk56_25 _ _ h
    refine vv_sub [3, 4, 2, 1, 0] (L' := [(0, .ref (vv_q Y 0)), (1, .int a1), (2, .int (-1 : Int32)), (3, .int (0 : Int32)), (4, .int (0 : Int32))]) rfl ?_
    exact hl2 n21 _ _ _ h
set_option maxHeartbeats 2000000 in
set_option maxRecDepth 100000 in
theorem mX9_takes {Y : vv_Y} (hY : Y.2.2.2.2 = wM) {a1 : Int32} {σ : vv_S} {post : Int32 → vv_S → Prop} (h : wX9_takes a1 σ post) : vv_MI Y yX9_takes cX9_takes 4 (some .int) 0 0 [.ref (vv_q Y 0), .int a1] σ post := by
  refine vv_ofI (by decide) (Nat.le_of_ble_eq_true rfl) (fun X C => ?_)
  have C : VC Y X RX9 cX9_takes 4 (some .int) 0 0 := C
  refine vv_sub [0, 1] (L' := [(0, .ref (vv_q Y 0)), (1, .int a1)]) rfl ?_
  refine vv_iconst C dX9_takes_0 ki_0 ?_
  refine vv_istore_n (L' := [(2, .int (0 : Int32)), (0, .ref (vv_q Y 0)), (1, .int a1)]) C dX9_takes_1 rfl (by decide) rfl ?_
  refine vv_iconst C dX9_takes_2 ki_1 ?_
  refine vv_istore_n (L' := [(3, .int (1 : Int32)), (2, .int (0 : Int32)), (0, .ref (vv_q Y 0)), (1, .int a1)]) C dX9_takes_3 rfl (by decide) rfl ?_
  obtain ⟨n3, h⟩ := h
  have hl1 : ∀ (n3 : Nat) (v1 : Int32) (v2 : Int32), lX9_takes_1 a1 post σ n3 v1 v2 → VJ Y X (va_Qi post (vv_B Y) X.2) 4 4 [(0, .ref (vv_q Y 0)), (1, .int a1), (2, .int v1), (3, .int v2)] [] σ := by
    clear h
    intro n3
    induction n3 with
    | zero => intro v1 v2 h; exact False.elim h
    | succ n3 ih1 =>
      intro v1 v2 h
      refine vv_iload_n C 3 dX9_takes_4 rfl rfl ?_
      refine vv_iload_n C 1 dX9_takes_5 rfl rfl ?_
      refine vv_icmp_gt (pc := 6) C 33 dX9_takes_6 (by decide) (fun hc4 => ?_) (fun hc4 => ?_)
      · replace h := h.1 hc4
        refine vv_iload_n C 2 dX9_takes_33 rfl rfl ?_
        exact vv_iret C dX9_takes_34 h
      · replace h := h.2 hc4
        refine vv_iload_n C 2 dX9_takes_9 rfl rfl ?_
        refine vv_aload_n C 0 dX9_takes_10 rfl rfl ?_
        refine vv_getr (r := 6) C kc_X9 (s_X9 hY) 6 (by decide) rfl fk_X9_25 dX9_takes_11 ?_
        refine vv_iconst C dX9_takes_14 ki_0 ?_
        refine vv_iald C (a_X9_basin hY) kv_0_4 kn_0 dX9_takes_15 ?_
        refine vv_aload_n C 0 dX9_takes_16 rfl rfl ?_
        refine vv_getr (r := 6) C kc_X9 (s_X9 hY) 6 (by decide) rfl fk_X9_25 dX9_takes_17 ?_
        refine vv_iconst C dX9_takes_20 ki_1 ?_
        refine vv_iald C (a_X9_basin hY) kv_1_4 kn_1 dX9_takes_21 ?_
        refine vv_iload_n C 3 dX9_takes_22 rfl rfl ?_
        refine vv_imul C dX9_takes_23 ?_
        refine vv_iadd C dX9_takes_24 ?_
        refine vv_iadd C dX9_takes_25 ?_
        refine vv_nm (fun v5 ev5 => ?_)
        replace h := h v5 ev5
        refine vv_istore_n (L' := [(2, .int v5), (0, .ref (vv_q Y 0)), (1, .int a1), (3, .int v2)]) C dX9_takes_26 rfl (by decide) rfl ?_
        obtain ⟨v6, ev6⟩ : ∃ z : Int32, z = v2 + (1 : Int32) := ⟨_, rfl⟩
        replace h := h v6 ev6
        refine vv_iinc (v := v6) (L' := [(3, .int v6), (2, .int v5), (0, .ref (vv_q Y 0)), (1, .int a1)]) C 3 dX9_takes_27 rfl ((kinc ki_1).trans ev6.symm) (by decide) rfl ?_
        refine vv_goto (pc := 30) (tgt := 4) C dX9_takes_30 (by decide) ?_
        refine vv_sub [2, 3, 1, 0] (L' := [(0, .ref (vv_q Y 0)), (1, .int a1), (2, .int v5), (3, .int v6)]) rfl ?_
        exact ih1 _ _ h
  refine vv_sub [2, 3, 1, 0] (L' := [(0, .ref (vv_q Y 0)), (1, .int a1), (2, .int (0 : Int32)), (3, .int (1 : Int32))]) rfl ?_
  exact hl1 n3 _ _ h
set_option maxHeartbeats 2000000 in
set_option maxRecDepth 100000 in
theorem mX9_levelOf {Y : vv_Y} (hY : Y.2.2.2.2 = wM) {a1 : Int32} {σ : vv_S} {post : Int32 → vv_S → Prop} (h : wX9_levelOf a1 σ post) : vv_MI Y yX9_levelOf cX9_levelOf 3 (some .int) 1 23 [.ref (vv_q Y 0), .int a1] σ post := by
  refine vv_ofI (by decide) (Nat.le_of_ble_eq_true rfl) (fun X C => ?_)
  have C : VC Y X RX9 cX9_levelOf 3 (some .int) 1 23 := C
  refine vv_sub [0, 1] (L' := [(0, .ref (vv_q Y 0)), (1, .int a1)]) rfl ?_
  refine vv_iconst C dX9_levelOf_0 ki_0 ?_
  refine vv_istore_n (L' := [(2, .int (0 : Int32)), (0, .ref (vv_q Y 0)), (1, .int a1)]) C dX9_levelOf_1 rfl (by decide) rfl ?_
  refine vv_join (fun k => ∀ (v1 : Int32) (σ2 : vv_S), k v1 σ2 → VJ Y X (va_Qi post (vv_B Y) X.2) 3 25 [(2, .int v1)] [] σ2) h (fun v1 σ2 h => ?_) (fun k25_2 hJk25_2 h => ?_)
  · refine vv_iload_n C 0 dX9_levelOf_25 rfl rfl ?_
    exact vv_iret C dX9_levelOf_26 h
  · obtain ⟨n6, h⟩ := h
    have hl1 : ∀ (n6 : Nat) (v4 : Int32) (σ5 : vv_S), lX9_levelOf_1 k25_2 a1 n6 v4 σ5 → VJ Y X (va_Qi post (vv_B Y) X.2) 3 2 [(0, .ref (vv_q Y 0)), (1, .int a1), (2, .int v4)] [] σ5 := by
      clear h
      intro n6
      induction n6 with
      | zero => intro v4 σ5 h; exact False.elim h
      | succ n6 ih1 =>
        intro v4 σ5 h
        refine vv_iload_n C 2 dX9_levelOf_2 rfl rfl ?_
        refine vv_bipush C dX9_levelOf_3 kb_60 ?_
        refine vv_icmp_ge (pc := 5) C 25 dX9_levelOf_5 (by decide) (fun hc7 => ?_) (fun hc7 => ?_)
        · replace h := h.1 hc7
          refine vv_sub [2] (L' := [(2, .int v4)]) rfl ?_
          exact hJk25_2 _ _ h
        · replace h := h.2 hc7
          refine vv_aload_n C 0 dX9_levelOf_8 rfl rfl ?_
          refine vv_iload_n C 2 dX9_levelOf_9 rfl rfl ?_
          refine vv_iconst C dX9_levelOf_10 ki_1 ?_
          refine vv_iadd C dX9_levelOf_11 ?_
          refine vv_callI (rest := []) C yk_X9_takes vk_X9_takes lk_X9_196 kc_X9.1 (s_X9 hY) dX9_levelOf_12 (mX9_takes hY h) rfl rfl ⟨Nat.le_of_ble_eq_true rfl, Nat.le_of_ble_eq_true rfl⟩ (Nat.le_of_ble_eq_true rfl) (fun r9 σ8 h => ?_)
          refine vv_iload_n C 1 dX9_levelOf_15 rfl rfl ?_
          refine vv_icmp_gt (pc := 16) C 25 dX9_levelOf_16 (by decide) (fun hc10 => ?_) (fun hc10 => ?_)
          · replace h := h.1 hc10
            refine vv_sub [2] (L' := [(2, .int v4)]) rfl ?_
            exact hJk25_2 _ _ h
          · replace h := h.2 hc10
            obtain ⟨v11, ev11⟩ : ∃ z : Int32, z = v4 + (1 : Int32) := ⟨_, rfl⟩
            replace h := h v11 ev11
            refine vv_iinc (v := v11) (L' := [(2, .int v11), (0, .ref (vv_q Y 0)), (1, .int a1)]) C 2 dX9_levelOf_19 rfl ((kinc ki_1).trans ev11.symm) (by decide) rfl ?_
            refine vv_goto (pc := 22) (tgt := 2) C dX9_levelOf_22 (by decide) ?_
            refine vv_sub [1, 2, 0] (L' := [(0, .ref (vv_q Y 0)), (1, .int a1), (2, .int v11)]) rfl ?_
            exact ih1 _ _ h
    refine vv_sub [1, 2, 0] (L' := [(0, .ref (vv_q Y 0)), (1, .int a1), (2, .int (0 : Int32))]) rfl ?_
    exact hl1 n6 _ _ h
set_option maxHeartbeats 2000000 in
set_option maxRecDepth 100000 in
theorem mX9_edgeOf {Y : vv_Y} (hY : Y.2.2.2.2 = wM) {a1 : Int32} {σ : vv_S} {post : Int32 → vv_S → Prop} (h : wX9_edgeOf a1 σ post) : vv_MI Y yX9_edgeOf cX9_edgeOf 4 (some .int) 0 0 [.ref (vv_q Y 0), .int a1] σ post := by
  refine vv_ofI (by decide) (Nat.le_of_ble_eq_true rfl) (fun X C => ?_)
  have C : VC Y X RX9 cX9_edgeOf 4 (some .int) 0 0 := C
  refine vv_sub [0, 1] (L' := [(0, .ref (vv_q Y 0)), (1, .int a1)]) rfl ?_
  refine vv_aload_n C 0 dX9_edgeOf_0 rfl rfl ?_
  refine vv_getr (r := 5) C kc_X9 (s_X9 hY) 5 (by decide) rfl fk_X9_22 dX9_edgeOf_1 ?_
  refine vv_iconst C dX9_edgeOf_4 ki_0 ?_
  refine vv_iald C (a_X9_banks hY) kv_0_4 kn_0 dX9_edgeOf_5 ?_
  refine vv_aload_n C 0 dX9_edgeOf_6 rfl rfl ?_
  refine vv_getr (r := 5) C kc_X9 (s_X9 hY) 5 (by decide) rfl fk_X9_22 dX9_edgeOf_7 ?_
  refine vv_iconst C dX9_edgeOf_10 ki_1 ?_
  refine vv_iald C (a_X9_banks hY) kv_1_4 kn_1 dX9_edgeOf_11 ?_
  refine vv_join (fun k => ∀ (v1 : Int32), k v1 → VJ Y X (va_Qi post (vv_B Y) X.2) 4 30 [(0, .ref (vv_q Y 0)), (1, .int a1)] [.int v1] σ) h (fun v1 h => ?_) (fun k30_1 hJk30_1 h => ?_)
  · refine vv_istore_n (L' := [(2, .int v1), (0, .ref (vv_q Y 0)), (1, .int a1)]) C dX9_edgeOf_30 rfl (by decide) rfl ?_
    refine vv_iconst C dX9_edgeOf_31 ki_0 ?_
    refine vv_istore_n (L' := [(3, .int (0 : Int32)), (2, .int v1), (0, .ref (vv_q Y 0)), (1, .int a1)]) C dX9_edgeOf_32 rfl (by decide) rfl ?_
    obtain ⟨n5, h⟩ := h
    have hl1 : ∀ (n5 : Nat) (v3 : Int32) (v4 : Int32), lX9_edgeOf_1 σ post a1 n5 v3 v4 → VJ Y X (va_Qi post (vv_B Y) X.2) 4 33 [(0, .ref (vv_q Y 0)), (1, .int a1), (2, .int v3), (3, .int v4)] [] σ := by
      clear h
      intro n5
      induction n5 with
      | zero => intro v3 v4 h; exact False.elim h
      | succ n5 ih1 =>
        intro v3 v4 h
        refine vv_iload_n C 3 dX9_edgeOf_33 rfl rfl ?_
        refine vv_aload_n C 0 dX9_edgeOf_34 rfl rfl ?_
        refine vv_getr (r := 2) C kc_X9 (s_X9 hY) 2 (by decide) rfl fk_X9_13 dX9_edgeOf_35 ?_
        refine vv_iconst C dX9_edgeOf_38 ki_0 ?_
        refine vv_iald C (a_X9_cells hY) kv_0_2 kn_0 dX9_edgeOf_39 ?_
        refine vv_icmp_ge (pc := 40) C 80 dX9_edgeOf_40 (by decide) (fun hc6 => ?_) (fun hc6 => ?_)
        · replace h := h.1 hc6
          refine vv_iload_n C 2 dX9_edgeOf_80 rfl rfl ?_
          exact vv_iret C dX9_edgeOf_81 h
        · replace h := h.2 hc6
          refine vv_aload_n C 0 dX9_edgeOf_43 rfl rfl ?_
          refine vv_getr (r := 28) C kc_X9 (s_X9 hY) 31 (by decide) rfl fk_X9_91 dX9_edgeOf_44 ?_
          refine vv_bipush C dX9_edgeOf_47 kb_8 ?_
          refine vv_iload_n C 1 dX9_edgeOf_49 rfl rfl ?_
          refine vv_imul C dX9_edgeOf_50 ?_
          refine vv_iload_n C 3 dX9_edgeOf_51 rfl rfl ?_
          refine vv_iadd C dX9_edgeOf_52 ?_
          obtain ⟨hi7, h⟩ := h
          refine vv_iald C (a_X9_high hY) hi7 rfl dX9_edgeOf_53 ?_
          refine vv_iload_n C 2 dX9_edgeOf_54 rfl rfl ?_
          refine vv_join (fun k => ∀ (v8 : Int32), k v8 → VJ Y X (va_Qi post (vv_B Y) X.2) 4 73 [(0, .ref (vv_q Y 0)), (1, .int a1), (3, .int v4)] [.int v8] σ) h (fun v8 h => ?_) (fun k73_8 hJk73_8 h => ?_)
          · refine vv_istore_n (L' := [(2, .int v8), (0, .ref (vv_q Y 0)), (1, .int a1), (3, .int v4)]) C dX9_edgeOf_73 rfl (by decide) rfl ?_
            obtain ⟨v10, ev10⟩ : ∃ z : Int32, z = v4 + (1 : Int32) := ⟨_, rfl⟩
            replace h := h v10 ev10
            refine vv_iinc (v := v10) (L' := [(3, .int v10), (2, .int v8), (0, .ref (vv_q Y 0)), (1, .int a1)]) C 3 dX9_edgeOf_74 rfl ((kinc ki_1).trans ev10.symm) (by decide) rfl ?_
            refine vv_goto (pc := 77) (tgt := 33) C dX9_edgeOf_77 (by decide) ?_
            refine vv_sub [2, 3, 1, 0] (L' := [(0, .ref (vv_q Y 0)), (1, .int a1), (2, .int v8), (3, .int v10)]) rfl ?_
            exact ih1 _ _ h
          · refine vv_icmp_ge (pc := 55) C 72 dX9_edgeOf_55 (by decide) (fun hc11 => ?_) (fun hc11 => ?_)
            · replace h := h.1 hc11
              refine vv_iload_n C 2 dX9_edgeOf_72 rfl rfl ?_
              refine vv_sub [0, 1, 3] (L' := [(0, .ref (vv_q Y 0)), (1, .int a1), (3, .int v4)]) rfl ?_
              exact hJk73_8 _ h
            · replace h := h.2 hc11
              refine vv_aload_n C 0 dX9_edgeOf_58 rfl rfl ?_
              refine vv_getr (r := 28) C kc_X9 (s_X9 hY) 31 (by decide) rfl fk_X9_91 dX9_edgeOf_59 ?_
              refine vv_bipush C dX9_edgeOf_62 kb_8 ?_
              refine vv_iload_n C 1 dX9_edgeOf_64 rfl rfl ?_
              refine vv_imul C dX9_edgeOf_65 ?_
              refine vv_iload_n C 3 dX9_edgeOf_66 rfl rfl ?_
              refine vv_iadd C dX9_edgeOf_67 ?_
              obtain ⟨hi12, h⟩ := h
              refine vv_iald C (a_X9_high hY) hi12 rfl dX9_edgeOf_68 ?_
              refine vv_goto (pc := 69) (tgt := 73) C dX9_edgeOf_69 (by decide) ?_
              refine vv_sub [0, 1, 3] (L' := [(0, .ref (vv_q Y 0)), (1, .int a1), (3, .int v4)]) rfl ?_
              exact hJk73_8 _ h
    refine vv_sub [2, 3, 1, 0] (L' := [(0, .ref (vv_q Y 0)), (1, .int a1), (2, .int v1), (3, .int (0 : Int32))]) rfl ?_
    exact hl1 n5 _ _ h
  · refine vv_icmp_ge (pc := 12) C 24 dX9_edgeOf_12 (by decide) (fun hc13 => ?_) (fun hc13 => ?_)
    · replace h := h.1 hc13
      refine vv_aload_n C 0 dX9_edgeOf_24 rfl rfl ?_
      refine vv_getr (r := 5) C kc_X9 (s_X9 hY) 5 (by decide) rfl fk_X9_22 dX9_edgeOf_25 ?_
      refine vv_iconst C dX9_edgeOf_28 ki_1 ?_
      refine vv_iald C (a_X9_banks hY) kv_1_4 kn_1 dX9_edgeOf_29 ?_
      refine vv_sub [0, 1] (L' := [(0, .ref (vv_q Y 0)), (1, .int a1)]) rfl ?_
      exact hJk30_1 _ h
    · replace h := h.2 hc13
      refine vv_aload_n C 0 dX9_edgeOf_15 rfl rfl ?_
      refine vv_getr (r := 5) C kc_X9 (s_X9 hY) 5 (by decide) rfl fk_X9_22 dX9_edgeOf_16 ?_
      refine vv_iconst C dX9_edgeOf_19 ki_0 ?_
      refine vv_iald C (a_X9_banks hY) kv_0_4 kn_0 dX9_edgeOf_20 ?_
      refine vv_goto (pc := 21) (tgt := 30) C dX9_edgeOf_21 (by decide) ?_
      refine vv_sub [0, 1] (L' := [(0, .ref (vv_q Y 0)), (1, .int a1)]) rfl ?_
      exact hJk30_1 _ h
set_option maxHeartbeats 2000000 in
set_option maxRecDepth 100000 in
theorem mX9_placeOf {Y : vv_Y} (hY : Y.2.2.2.2 = wM) {a1 : Int32} {σ : vv_S} {post : Int32 → vv_S → Prop} (h : wX9_placeOf a1 σ post) : vv_MI Y yX9_placeOf cX9_placeOf 4 (some .int) 1 23 [.ref (vv_q Y 0), .int a1] σ post := by
  refine vv_ofI (by decide) (Nat.le_of_ble_eq_true rfl) (fun X C => ?_)
  have C : VC Y X RX9 cX9_placeOf 4 (some .int) 1 23 := C
  refine vv_sub [0, 1] (L' := [(0, .ref (vv_q Y 0)), (1, .int a1)]) rfl ?_
  refine vv_aload_n C 0 dX9_placeOf_0 rfl rfl ?_
  refine vv_iload_n C 1 dX9_placeOf_1 rfl rfl ?_
  refine vv_callI (rest := []) C yk_X9_edgeOf vk_X9_edgeOf lk_X9_199 kc_X9.1 (s_X9 hY) dX9_placeOf_2 (mX9_edgeOf hY h) rfl rfl ⟨Nat.le_of_ble_eq_true rfl, Nat.le_of_ble_eq_true rfl⟩ (Nat.le_of_ble_eq_true rfl) (fun r2 σ1 h => ?_)
  refine vv_istore_n (L' := [(2, .int r2), (0, .ref (vv_q Y 0)), (1, .int a1)]) C dX9_placeOf_5 rfl (by decide) rfl ?_
  refine vv_iconst C dX9_placeOf_6 ki_0 ?_
  refine vv_istore_n (L' := [(3, .int (0 : Int32)), (2, .int r2), (0, .ref (vv_q Y 0)), (1, .int a1)]) C dX9_placeOf_7 rfl (by decide) rfl ?_
  refine vv_join (fun k =>  k → VJ Y X (va_Qi post (vv_B Y) X.2) 4 41 [(0, .ref (vv_q Y 0)), (2, .int r2)] [] σ1) h (fun h => ?_) (fun k41_2 hJk41_2 h => ?_)
  · refine vv_aload_n C 0 dX9_placeOf_41 rfl rfl ?_
    refine vv_getr (r := 5) C kc_X9 (s_X9 hY) 5 (by decide) rfl fk_X9_22 dX9_placeOf_42 ?_
    refine vv_iconst C dX9_placeOf_45 ki_0 ?_
    refine vv_iald C (a_X9_banks hY) kv_0_4 kn_0 dX9_placeOf_46 ?_
    refine vv_iload_n C 1 dX9_placeOf_47 rfl rfl ?_
    refine vv_join (fun k => ∀ (v4 : Int32), k v4 → VJ Y X (va_Qi post (vv_B Y) X.2) 4 58 [] [.int v4] σ1) h (fun v4 h => ?_) (fun k58_4 hJk58_4 h => ?_)
    · exact vv_iret C dX9_placeOf_58 h
    · refine vv_icmp_ne (pc := 48) C 56 dX9_placeOf_48 (by decide) (fun hc6 => ?_) (fun hc6 => ?_)
      · replace h := h.1 hc6
        refine vv_bipush C dX9_placeOf_56 kb_9 ?_
        refine vv_sub [] (L' := []) rfl ?_
        exact hJk58_4 _ h
      · replace h := h.2 hc6
        refine vv_bipush C dX9_placeOf_51 kb_8 ?_
        refine vv_goto (pc := 53) (tgt := 58) C dX9_placeOf_53 (by decide) ?_
        refine vv_sub [] (L' := []) rfl ?_
        exact hJk58_4 _ h
  · obtain ⟨n8, h⟩ := h
    have hl1 : ∀ (n8 : Nat) (v7 : Int32), lX9_placeOf_1 σ1 k41_2 a1 r2 post n8 v7 → VJ Y X (va_Qi post (vv_B Y) X.2) 4 8 [(0, .ref (vv_q Y 0)), (1, .int a1), (2, .int r2), (3, .int v7)] [] σ1 := by
      clear h
      intro n8
      induction n8 with
      | zero => intro v7 h; exact False.elim h
      | succ n8 ih1 =>
        intro v7 h
        refine vv_iload_n C 3 dX9_placeOf_8 rfl rfl ?_
        refine vv_aload_n C 0 dX9_placeOf_9 rfl rfl ?_
        refine vv_getr (r := 2) C kc_X9 (s_X9 hY) 2 (by decide) rfl fk_X9_13 dX9_placeOf_10 ?_
        refine vv_iconst C dX9_placeOf_13 ki_0 ?_
        refine vv_iald C (a_X9_cells hY) kv_0_2 kn_0 dX9_placeOf_14 ?_
        refine vv_icmp_ge (pc := 15) C 41 dX9_placeOf_15 (by decide) (fun hc9 => ?_) (fun hc9 => ?_)
        · replace h := h.1 hc9
          refine vv_sub [0, 2] (L' := [(0, .ref (vv_q Y 0)), (2, .int r2)]) rfl ?_
          exact hJk41_2 h
        · replace h := h.2 hc9
          refine vv_aload_n C 0 dX9_placeOf_18 rfl rfl ?_
          refine vv_getr (r := 28) C kc_X9 (s_X9 hY) 31 (by decide) rfl fk_X9_91 dX9_placeOf_19 ?_
          refine vv_bipush C dX9_placeOf_22 kb_8 ?_
          refine vv_iload_n C 1 dX9_placeOf_24 rfl rfl ?_
          refine vv_imul C dX9_placeOf_25 ?_
          refine vv_iload_n C 3 dX9_placeOf_26 rfl rfl ?_
          refine vv_iadd C dX9_placeOf_27 ?_
          obtain ⟨hi10, h⟩ := h
          refine vv_iald C (a_X9_high hY) hi10 rfl dX9_placeOf_28 ?_
          refine vv_iload_n C 2 dX9_placeOf_29 rfl rfl ?_
          refine vv_icmp_ne (pc := 30) C 35 dX9_placeOf_30 (by decide) (fun hc11 => ?_) (fun hc11 => ?_)
          · replace h := h.1 hc11
            obtain ⟨v12, ev12⟩ : ∃ z : Int32, z = v7 + (1 : Int32) := ⟨_, rfl⟩
            replace h := h v12 ev12
            refine vv_iinc (v := v12) (L' := [(3, .int v12), (0, .ref (vv_q Y 0)), (1, .int a1), (2, .int r2)]) C 3 dX9_placeOf_35 rfl ((kinc ki_1).trans ev12.symm) (by decide) rfl ?_
            refine vv_goto (pc := 38) (tgt := 8) C dX9_placeOf_38 (by decide) ?_
            refine vv_sub [1, 2, 3, 0] (L' := [(0, .ref (vv_q Y 0)), (1, .int a1), (2, .int r2), (3, .int v12)]) rfl ?_
            exact ih1 _ h
          · replace h := h.2 hc11
            refine vv_iload_n C 3 dX9_placeOf_33 rfl rfl ?_
            exact vv_iret C dX9_placeOf_34 h
    refine vv_sub [2, 3, 1, 0] (L' := [(0, .ref (vv_q Y 0)), (1, .int a1), (2, .int r2), (3, .int (0 : Int32))]) rfl ?_
    exact hl1 n8 _ h
set_option maxHeartbeats 2000000 in
set_option maxRecDepth 100000 in
theorem mX9_wear {Y : vv_Y} (hY : Y.2.2.2.2 = wM) {a1 : Int32} {a2 : Int32} {σ : vv_S} {post : vv_S → Prop} (h : wX9_wear a1 a2 σ post) : vv_MV Y yX9_wear cX9_wear 6 none 0 0 [.ref (vv_q Y 0), .int a1, .int a2] σ post := by
  refine vv_ofV (by decide) (Nat.le_of_ble_eq_true rfl) (fun X C => ?_)
  have C : VC Y X RX9 cX9_wear 6 none 0 0 := C
  refine vv_sub [0, 1, 2] (L' := [(0, .ref (vv_q Y 0)), (1, .int a1), (2, .int a2)]) rfl ?_
  refine vv_bipush C dX9_wear_0 kb_8 ?_
  refine vv_iload_n C 1 dX9_wear_2 rfl rfl ?_
  refine vv_imul C dX9_wear_3 ?_
  refine vv_iload_n C 2 dX9_wear_4 rfl rfl ?_
  refine vv_iadd C dX9_wear_5 ?_
  refine vv_nm (fun v1 ev1 => ?_)
  replace h := h v1 ev1
  refine vv_istore_n (L' := [(3, .int v1), (0, .ref (vv_q Y 0)), (1, .int a1), (2, .int a2)]) C dX9_wear_6 rfl (by decide) rfl ?_
  refine vv_aload_n C 1 dX9_wear_7 rfl rfl ?_
  refine vv_getr (r := 29) C kc_X9 (s_X9 hY) 32 (by decide) rfl fk_X9_94 dX9_wear_8 ?_
  refine vv_iload_n C 0 dX9_wear_11 rfl rfl ?_
  obtain ⟨hi2, h⟩ := h
  refine vv_iald C (a_X9_of hY) hi2 rfl dX9_wear_12 ?_
  refine vv_join (fun k => ∀ (v3 : Int32), k v3 → VJ Y X (va_Qv post (vv_B Y) X.2) 6 46 [(0, .ref (vv_q Y 0)), (2, .int a2), (3, .int v1)] [.int v3] σ) h (fun v3 h => ?_) (fun k46_3 hJk46_3 h => ?_)
  · refine vv_istore (L' := [(4, .int v3), (0, .ref (vv_q Y 0)), (2, .int a2), (3, .int v1)]) C dX9_wear_46 (by decide) rfl ?_
    refine vv_aload_n C 1 dX9_wear_48 rfl rfl ?_
    refine vv_getr (r := 28) C kc_X9 (s_X9 hY) 31 (by decide) rfl fk_X9_91 dX9_wear_49 ?_
    refine vv_iload_n C 3 dX9_wear_52 rfl rfl ?_
    obtain ⟨hi5, h⟩ := h
    refine vv_iald C (a_X9_high hY) hi5 rfl dX9_wear_53 ?_
    refine vv_nm (fun v6 ev6 => ?_)
    replace h := h v6 ev6
    refine vv_istore (L' := [(5, .int v6), (4, .int v3), (0, .ref (vv_q Y 0)), (2, .int a2), (3, .int v1)]) C dX9_wear_54 (by decide) rfl ?_
    refine vv_aload_n C 2 dX9_wear_56 rfl rfl ?_
    refine vv_getr (r := 28) C kc_X9 (s_X9 hY) 31 (by decide) rfl fk_X9_91 dX9_wear_57 ?_
    refine vv_iload_n C 4 dX9_wear_60 rfl rfl ?_
    refine vv_iload C 0 dX9_wear_61 rfl ?_
    refine vv_iload C 1 dX9_wear_63 rfl ?_
    refine vv_join (fun k => ∀ (v7 : Int32), k v7 → VJ Y X (va_Qv post (vv_B Y) X.2) 6 77 [(0, .ref (vv_q Y 0)), (2, .int a2), (3, .int v1), (5, .int v6)] [.int v7, .int v1, .ref (vv_q Y 28)] σ) h (fun v7 h => ?_) (fun k77_7 hJk77_7 h => ?_)
    · obtain ⟨hi9, h⟩ := h
      refine vv_iast C (a_X9_high hY) hi9 rfl dX9_wear_77 (fun σ10 eσ10 => ?_)
      replace h := h σ10 eσ10
      refine vv_iload C 3 dX9_wear_78 rfl ?_
      refine vv_join (fun k => ∀ (σ11 : vv_S), k σ11 → VJ Y X (va_Qv post (vv_B Y) X.2) 6 107 [] [] σ11) h (fun σ11 h => ?_) (fun k107_11 hJk107_11 h => ?_)
      · exact vv_vret C dX9_wear_107 h
      · refine vv_if_le (pc := 80) C 107 dX9_wear_80 (by decide) (fun hc13 => ?_) (fun hc13 => ?_)
        · replace h := h.1 hc13
          refine vv_sub [] (L' := []) rfl ?_
          exact hJk107_11 _ h
        · replace h := h.2 hc13
          refine vv_aload_n C 0 dX9_wear_83 rfl rfl ?_
          refine vv_getr (r := 28) C kc_X9 (s_X9 hY) 31 (by decide) rfl fk_X9_91 dX9_wear_84 ?_
          refine vv_iload_n C 2 dX9_wear_87 rfl rfl ?_
          obtain ⟨hi14, h⟩ := h
          refine vv_iald C (a_X9_high hY) hi14 rfl dX9_wear_88 ?_
          refine vv_if_ne (pc := 89) C 107 dX9_wear_89 (by decide) (fun hc15 => ?_) (fun hc15 => ?_)
          · replace h := h.1 hc15
            refine vv_sub [] (L' := []) rfl ?_
            exact hJk107_11 _ h
          · replace h := h.2 hc15
            refine vv_aload_n C 0 dX9_wear_92 rfl rfl ?_
            refine vv_getr (r := 30) C kc_X9 (s_X9 hY) 33 (by decide) rfl fk_X9_97 dX9_wear_93 ?_
            refine vv_iload_n C 2 dX9_wear_96 rfl rfl ?_
            refine vv_dup2 C dX9_wear_97 rfl rfl ?_
            obtain ⟨hi16, h⟩ := h
            refine vv_iald C (a_X9_breached hY) hi16 rfl dX9_wear_98 ?_
            refine vv_iconst C dX9_wear_99 ki_1 ?_
            refine vv_iadd C dX9_wear_100 ?_
            obtain ⟨hi17, h⟩ := h
            refine vv_iast C (a_X9_breached hY) hi17 rfl dX9_wear_101 (fun σ18 eσ18 => ?_)
            replace h := h σ18 eσ18
            refine vv_aload_n C 0 dX9_wear_102 rfl rfl ?_
            refine vv_iload_n C 1 dX9_wear_103 rfl rfl ?_
            refine vv_puti C kc_X9 (s_X9 hY) 40 (by decide) rfl pf_X9_40 fk_X9_202 dX9_wear_104 (fun σ19 eσ19 => ?_)
            replace h := h σ19 eσ19
            refine vv_sub [] (L' := []) rfl ?_
            exact hJk107_11 _ h
    · refine vv_icmp_le (pc := 65) C 76 dX9_wear_65 (by decide) (fun hc20 => ?_) (fun hc20 => ?_)
      · replace h := h.1 hc20
        refine vv_iconst C dX9_wear_76 ki_0 ?_
        refine vv_sub [2, 3, 4, 0] (L' := [(0, .ref (vv_q Y 0)), (2, .int a2), (3, .int v1), (5, .int v6)]) rfl ?_
        exact hJk77_7 _ h
      · replace h := h.2 hc20
        refine vv_iload C 0 dX9_wear_68 rfl ?_
        refine vv_iload C 1 dX9_wear_70 rfl ?_
        refine vv_isub C dX9_wear_72 ?_
        refine vv_goto (pc := 73) (tgt := 77) C dX9_wear_73 (by decide) ?_
        refine vv_sub [2, 3, 4, 0] (L' := [(0, .ref (vv_q Y 0)), (2, .int a2), (3, .int v1), (5, .int v6)]) rfl ?_
        exact hJk77_7 _ h
  · refine vv_if_ne (pc := 13) C 20 dX9_wear_13 (by decide) (fun hc21 => ?_) (fun hc21 => ?_)
    · replace h := h.1 hc21
      refine vv_aload_n C 1 dX9_wear_20 rfl rfl ?_
      refine vv_getr (r := 29) C kc_X9 (s_X9 hY) 32 (by decide) rfl fk_X9_94 dX9_wear_21 ?_
      refine vv_iload_n C 0 dX9_wear_24 rfl rfl ?_
      obtain ⟨hi22, h⟩ := h
      refine vv_iald C (a_X9_of hY) hi22 rfl dX9_wear_25 ?_
      refine vv_iconst C dX9_wear_26 ki_1 ?_
      refine vv_join (fun k =>  k → VJ Y X (va_Qv post (vv_B Y) X.2) 6 45 [(0, .ref (vv_q Y 0)), (2, .int a2), (3, .int v1)] [] σ) h (fun h => ?_) (fun k45_22 hJk45_22 h => ?_)
      · refine vv_iconst C dX9_wear_45 ki_0 ?_
        refine vv_sub [0, 1, 2] (L' := [(0, .ref (vv_q Y 0)), (2, .int a2), (3, .int v1)]) rfl ?_
        exact hJk46_3 _ h
      · refine vv_icmp_ne (pc := 27) C 45 dX9_wear_27 (by decide) (fun hc24 => ?_) (fun hc24 => ?_)
        · replace h := h.1 hc24
          refine vv_sub [1, 3, 0] (L' := [(0, .ref (vv_q Y 0)), (2, .int a2), (3, .int v1)]) rfl ?_
          exact hJk45_22 h
        · replace h := h.2 hc24
          refine vv_aload_n C 1 dX9_wear_30 rfl rfl ?_
          refine vv_getr (r := 32) C kc_X9 (s_X9 hY) 35 (by decide) rfl fk_X9_103 dX9_wear_31 ?_
          refine vv_iload_n C 2 dX9_wear_34 rfl rfl ?_
          obtain ⟨hi25, h⟩ := h
          refine vv_iald C (a_X9_minutes hY) hi25 rfl dX9_wear_35 ?_
          refine vv_iconst C dX9_wear_36 ki_2 ?_
          refine vv_irem C dX9_wear_37 (by decide) ?_
          refine vv_if_ne (pc := 38) C 45 dX9_wear_38 (by decide) (fun hc26 => ?_) (fun hc26 => ?_)
          · replace h := h.1 hc26
            refine vv_sub [1, 3, 0] (L' := [(0, .ref (vv_q Y 0)), (2, .int a2), (3, .int v1)]) rfl ?_
            exact hJk45_22 h
          · replace h := h.2 hc26
            refine vv_iconst C dX9_wear_41 ki_1 ?_
            refine vv_goto (pc := 42) (tgt := 46) C dX9_wear_42 (by decide) ?_
            refine vv_sub [1, 3, 0] (L' := [(0, .ref (vv_q Y 0)), (2, .int a2), (3, .int v1)]) rfl ?_
            exact hJk46_3 _ h
    · replace h := h.2 hc21
      refine vv_iconst C dX9_wear_16 ki_2 ?_
      refine vv_goto (pc := 17) (tgt := 46) C dX9_wear_17 (by decide) ?_
      refine vv_sub [1, 3, 0] (L' := [(0, .ref (vv_q Y 0)), (2, .int a2), (3, .int v1)]) rfl ?_
      exact hJk46_3 _ h
set_option maxHeartbeats 2000000 in
set_option maxRecDepth 100000 in
theorem mX9_go {Y : vv_Y} (hY : Y.2.2.2.2 = wM) {a1 : Int32} {a2 : Int32} {σ : vv_S} {post : vv_S → Prop} (h : wX9_go a1 a2 σ post) : vv_MV Y yX9_go cX9_go 7 none 2 49 [.ref (vv_q Y 0), .int a1, .int a2] σ post := by
  refine vv_ofV (by decide) (Nat.le_of_ble_eq_true rfl) (fun X C => ?_)
  have C : VC Y X RX9 cX9_go 7 none 2 49 := C
  refine vv_sub [0, 1, 2] (L' := [(0, .ref (vv_q Y 0)), (1, .int a1), (2, .int a2)]) rfl ?_
  refine vv_aload_n C 0 dX9_go_0 rfl rfl ?_
  refine vv_getr (r := 32) C kc_X9 (s_X9 hY) 35 (by decide) rfl fk_X9_103 dX9_go_1 ?_
  refine vv_iload_n C 1 dX9_go_4 rfl rfl ?_
  refine vv_dup2 C dX9_go_5 rfl rfl ?_
  obtain ⟨hi1, h⟩ := h
  refine vv_iald C (a_X9_minutes hY) hi1 rfl dX9_go_6 ?_
  refine vv_iconst C dX9_go_7 ki_1 ?_
  refine vv_iadd C dX9_go_8 ?_
  obtain ⟨hi2, h⟩ := h
  refine vv_iast C (a_X9_minutes hY) hi2 rfl dX9_go_9 (fun σ3 eσ3 => ?_)
  replace h := h σ3 eσ3
  refine vv_aload_n C 0 dX9_go_10 rfl rfl ?_
  refine vv_getr (r := 31) C kc_X9 (s_X9 hY) 34 (by decide) rfl fk_X9_100 dX9_go_11 ?_
  refine vv_iload_n C 1 dX9_go_14 rfl rfl ?_
  refine vv_dup2 C dX9_go_15 rfl rfl ?_
  obtain ⟨hi4, h⟩ := h
  refine vv_iald C (a_X9_water hY) hi4 rfl dX9_go_16 ?_
  refine vv_aload_n C 0 dX9_go_17 rfl rfl ?_
  refine vv_aload_n C 0 dX9_go_18 rfl rfl ?_
  refine vv_getr (r := 32) C kc_X9 (s_X9 hY) 35 (by decide) rfl fk_X9_103 dX9_go_19 ?_
  refine vv_iload_n C 1 dX9_go_22 rfl rfl ?_
  obtain ⟨hi5, h⟩ := h
  refine vv_iald C (a_X9_minutes hY) hi5 rfl dX9_go_23 ?_
  refine vv_callI (rest := [.int (σ3 31 a1.toNatClampNeg), .int a1, .ref (vv_q Y 31)]) C yk_X9_comesIn vk_X9_comesIn lk_X9_205 kc_X9.1 (s_X9 hY) dX9_go_24 (mX9_comesIn hY h) rfl rfl ⟨Nat.le_of_ble_eq_true rfl, Nat.le_of_ble_eq_true rfl⟩ (Nat.le_of_ble_eq_true rfl) (fun r7 σ6 h => ?_)
  refine vv_iload_n C 2 dX9_go_27 rfl rfl ?_
  refine vv_iadd C dX9_go_28 ?_
  refine vv_iadd C dX9_go_29 ?_
  obtain ⟨hi8, h⟩ := h
  refine vv_iast C (a_X9_water hY) hi8 rfl dX9_go_30 (fun σ9 eσ9 => ?_)
  replace h := h σ9 eσ9
  refine vv_aload_n C 0 dX9_go_31 rfl rfl ?_
  refine vv_aload_n C 0 dX9_go_32 rfl rfl ?_
  refine vv_getr (r := 31) C kc_X9 (s_X9 hY) 34 (by decide) rfl fk_X9_100 dX9_go_33 ?_
  refine vv_iload_n C 1 dX9_go_36 rfl rfl ?_
  obtain ⟨hi10, h⟩ := h
  refine vv_iald C (a_X9_water hY) hi10 rfl dX9_go_37 ?_
  refine vv_callI (rest := []) C yk_X9_levelOf vk_X9_levelOf lk_X9_208 kc_X9.1 (s_X9 hY) dX9_go_38 (mX9_levelOf hY h) rfl rfl ⟨Nat.le_of_ble_eq_true rfl, Nat.le_of_ble_eq_true rfl⟩ (Nat.le_of_ble_eq_true rfl) (fun r12 σ11 h => ?_)
  refine vv_istore_n (L' := [(3, .int r12), (0, .ref (vv_q Y 0)), (1, .int a1), (2, .int a2)]) C dX9_go_41 rfl (by decide) rfl ?_
  refine vv_iconst C dX9_go_42 ki_0 ?_
  refine vv_istore (L' := [(4, .int (0 : Int32)), (3, .int r12), (0, .ref (vv_q Y 0)), (1, .int a1), (2, .int a2)]) C dX9_go_43 (by decide) rfl ?_
  refine vv_iconst C dX9_go_45 ki_0 ?_
  refine vv_istore (L' := [(5, .int (0 : Int32)), (4, .int (0 : Int32)), (3, .int r12), (0, .ref (vv_q Y 0)), (1, .int a1), (2, .int a2)]) C dX9_go_46 (by decide) rfl ?_
  refine vv_join (fun k => ∀ (v13 : Int32), k v13 → VJ Y X (va_Qv post (vv_B Y) X.2) 7 129 [(0, .ref (vv_q Y 0)), (1, .int a1), (4, .int v13)] [] σ11) h (fun v13 h => ?_) (fun k129_13 hJk129_13 h => ?_)
  · refine vv_iload C 2 dX9_go_129 rfl ?_
    refine vv_aload_n C 0 dX9_go_131 rfl rfl ?_
    refine vv_getr (r := 31) C kc_X9 (s_X9 hY) 34 (by decide) rfl fk_X9_100 dX9_go_132 ?_
    refine vv_iload_n C 1 dX9_go_135 rfl rfl ?_
    obtain ⟨hi15, h⟩ := h
    refine vv_iald C (a_X9_water hY) hi15 rfl dX9_go_136 ?_
    refine vv_join (fun k => ∀ (v16 : Int32), k v16 → VJ Y X (va_Qv post (vv_B Y) X.2) 7 151 [(0, .ref (vv_q Y 0)), (1, .int a1)] [.int v16] σ11) h (fun v16 h => ?_) (fun k151_16 hJk151_16 h => ?_)
    · refine vv_istore (L' := [(4, .int v16), (0, .ref (vv_q Y 0)), (1, .int a1)]) C dX9_go_151 (by decide) rfl ?_
      refine vv_aload_n C 1 dX9_go_153 rfl rfl ?_
      refine vv_getr (r := 31) C kc_X9 (s_X9 hY) 34 (by decide) rfl fk_X9_100 dX9_go_154 ?_
      refine vv_iload_n C 2 dX9_go_157 rfl rfl ?_
      refine vv_dup2 C dX9_go_158 rfl rfl ?_
      obtain ⟨hi18, h⟩ := h
      refine vv_iald C (a_X9_water hY) hi18 rfl dX9_go_159 ?_
      refine vv_iload C 0 dX9_go_160 rfl ?_
      refine vv_isub C dX9_go_162 ?_
      obtain ⟨hi19, h⟩ := h
      refine vv_iast C (a_X9_water hY) hi19 rfl dX9_go_163 (fun σ20 eσ20 => ?_)
      replace h := h σ20 eσ20
      refine vv_aload_n C 1 dX9_go_164 rfl rfl ?_
      refine vv_getr (r := 34) C kc_X9 (s_X9 hY) 37 (by decide) rfl fk_X9_109 dX9_go_165 ?_
      refine vv_iload_n C 2 dX9_go_168 rfl rfl ?_
      refine vv_dup2 C dX9_go_169 rfl rfl ?_
      obtain ⟨hi21, h⟩ := h
      refine vv_iald C (a_X9_seepAll hY) hi21 rfl dX9_go_170 ?_
      refine vv_iload C 0 dX9_go_171 rfl ?_
      refine vv_iadd C dX9_go_173 ?_
      obtain ⟨hi22, h⟩ := h
      refine vv_iast C (a_X9_seepAll hY) hi22 rfl dX9_go_174 (fun σ23 eσ23 => ?_)
      replace h := h σ23 eσ23
      refine vv_aload_n C 1 dX9_go_175 rfl rfl ?_
      refine vv_aload_n C 1 dX9_go_176 rfl rfl ?_
      refine vv_iload_n C 2 dX9_go_177 rfl rfl ?_
      refine vv_callI (rest := [.ref (vv_q Y 0)]) C yk_X9_edgeOf vk_X9_edgeOf lk_X9_199 kc_X9.1 (s_X9 hY) dX9_go_178 (mX9_edgeOf hY h) rfl rfl ⟨Nat.le_of_ble_eq_true rfl, Nat.le_of_ble_eq_true rfl⟩ (Nat.le_of_ble_eq_true rfl) (fun r25 σ24 h => ?_)
      refine vv_callI (rest := []) C yk_X9_takes vk_X9_takes lk_X9_196 kc_X9.1 (s_X9 hY) dX9_go_181 (mX9_takes hY h) rfl rfl ⟨Nat.le_of_ble_eq_true rfl, Nat.le_of_ble_eq_true rfl⟩ (Nat.le_of_ble_eq_true rfl) (fun r27 σ26 h => ?_)
      refine vv_istore (L' := [(5, .int r27), (4, .int v16), (0, .ref (vv_q Y 0)), (1, .int a1)]) C dX9_go_184 (by decide) rfl ?_
      refine vv_aload_n C 2 dX9_go_186 rfl rfl ?_
      refine vv_aload_n C 2 dX9_go_187 rfl rfl ?_
      refine vv_getr (r := 31) C kc_X9 (s_X9 hY) 34 (by decide) rfl fk_X9_100 dX9_go_188 ?_
      refine vv_iload_n C 3 dX9_go_191 rfl rfl ?_
      obtain ⟨hi28, h⟩ := h
      refine vv_iald C (a_X9_water hY) hi28 rfl dX9_go_192 ?_
      refine vv_iload C 0 dX9_go_193 rfl ?_
      refine vv_join (fun k => ∀ (v29 : Int32), k v29 → VJ Y X (va_Qv post (vv_B Y) X.2) 7 211 [(0, .ref (vv_q Y 0)), (1, .int a1)] [.int v29, .ref (vv_q Y 0)] σ26) h (fun v29 h => ?_) (fun k211_29 hJk211_29 h => ?_)
      · refine vv_puti C kc_X9 (s_X9 hY) 38 (by decide) rfl pf_X9_38 fk_X9_211 dX9_go_211 (fun σ31 eσ31 => ?_)
        replace h := h σ31 eσ31
        refine vv_aload_n C 0 dX9_go_214 rfl rfl ?_
        refine vv_aload_n C 0 dX9_go_215 rfl rfl ?_
        refine vv_iload_n C 1 dX9_go_216 rfl rfl ?_
        refine vv_callI (rest := [.ref (vv_q Y 0)]) C yk_X9_placeOf vk_X9_placeOf lk_X9_214 kc_X9.1 (s_X9 hY) dX9_go_217 (mX9_placeOf hY h) rfl rfl ⟨Nat.le_of_ble_eq_true rfl, Nat.le_of_ble_eq_true rfl⟩ (Nat.le_of_ble_eq_true rfl) (fun r33 σ32 h => ?_)
        refine vv_puti C kc_X9 (s_X9 hY) 39 (by decide) rfl pf_X9_39 fk_X9_217 dX9_go_220 (fun σ34 eσ34 => ?_)
        replace h := h σ34 eσ34
        refine vv_aload_n C 0 dX9_go_223 rfl rfl ?_
        refine vv_bipush C dX9_go_224 kb_m4 ?_
        refine vv_puti C kc_X9 (s_X9 hY) 40 (by decide) rfl pf_X9_40 fk_X9_202 dX9_go_226 (fun σ35 eσ35 => ?_)
        replace h := h σ35 eσ35
        refine vv_aload_n C 0 dX9_go_229 rfl rfl ?_
        refine vv_getr (r := 31) C kc_X9 (s_X9 hY) 34 (by decide) rfl fk_X9_100 dX9_go_230 ?_
        refine vv_iload_n C 1 dX9_go_233 rfl rfl ?_
        refine vv_dup2 C dX9_go_234 rfl rfl ?_
        obtain ⟨hi36, h⟩ := h
        refine vv_iald C (a_X9_water hY) hi36 rfl dX9_go_235 ?_
        refine vv_aload_n C 0 dX9_go_236 rfl rfl ?_
        refine vv_geti C kc_X9 (s_X9 hY) 38 (by decide) rfl fk_X9_211 dX9_go_237 ?_
        refine vv_isub C dX9_go_240 ?_
        obtain ⟨hi37, h⟩ := h
        refine vv_iast C (a_X9_water hY) hi37 rfl dX9_go_241 (fun σ38 eσ38 => ?_)
        replace h := h σ38 eσ38
        refine vv_aload_n C 0 dX9_go_242 rfl rfl ?_
        refine vv_getr (r := 33) C kc_X9 (s_X9 hY) 36 (by decide) rfl fk_X9_106 dX9_go_243 ?_
        refine vv_iload_n C 1 dX9_go_246 rfl rfl ?_
        refine vv_dup2 C dX9_go_247 rfl rfl ?_
        obtain ⟨hi39, h⟩ := h
        refine vv_iald C (a_X9_overAll hY) hi39 rfl dX9_go_248 ?_
        refine vv_aload_n C 0 dX9_go_249 rfl rfl ?_
        refine vv_geti C kc_X9 (s_X9 hY) 38 (by decide) rfl fk_X9_211 dX9_go_250 ?_
        refine vv_iadd C dX9_go_253 ?_
        obtain ⟨hi40, h⟩ := h
        refine vv_iast C (a_X9_overAll hY) hi40 rfl dX9_go_254 (fun σ41 eσ41 => ?_)
        replace h := h σ41 eσ41
        refine vv_aload_n C 0 dX9_go_255 rfl rfl ?_
        refine vv_geti C kc_X9 (s_X9 hY) 38 (by decide) rfl fk_X9_211 dX9_go_256 ?_
        refine vv_join (fun k => ∀ (σ42 : vv_S), k σ42 → VJ Y X (va_Qv post (vv_B Y) X.2) 7 280 [] [] σ42) h (fun σ42 h => ?_) (fun k280_42 hJk280_42 h => ?_)
        · exact vv_vret C dX9_go_280 h
        · refine vv_if_le (pc := 259) C 280 dX9_go_259 (by decide) (fun hc44 => ?_) (fun hc44 => ?_)
          · replace h := h.1 hc44
            refine vv_sub [] (L' := []) rfl ?_
            exact hJk280_42 _ h
          · replace h := h.2 hc44
            refine vv_aload_n C 0 dX9_go_262 rfl rfl ?_
            refine vv_geti C kc_X9 (s_X9 hY) 39 (by decide) rfl fk_X9_217 dX9_go_263 ?_
            refine vv_bipush C dX9_go_266 kb_8 ?_
            refine vv_icmp_ge (pc := 268) C 280 dX9_go_268 (by decide) (fun hc45 => ?_) (fun hc45 => ?_)
            · replace h := h.1 hc45
              refine vv_sub [] (L' := []) rfl ?_
              exact hJk280_42 _ h
            · replace h := h.2 hc45
              refine vv_aload_n C 0 dX9_go_271 rfl rfl ?_
              refine vv_iload_n C 1 dX9_go_272 rfl rfl ?_
              refine vv_aload_n C 0 dX9_go_273 rfl rfl ?_
              refine vv_geti C kc_X9 (s_X9 hY) 39 (by decide) rfl fk_X9_217 dX9_go_274 ?_
              refine vv_callV (rest := []) C yk_X9_wear vk_X9_wear lk_X9_220 kc_X9.1 (s_X9 hY) dX9_go_277 (mX9_wear hY h) rfl rfl ⟨Nat.le_of_ble_eq_true rfl, Nat.le_of_ble_eq_true rfl⟩ (Nat.le_of_ble_eq_true rfl) (fun σ46 h => ?_)
              refine vv_sub [] (L' := []) rfl ?_
              exact hJk280_42 _ h
      · refine vv_icmp_le (pc := 195) C 210 dX9_go_195 (by decide) (fun hc47 => ?_) (fun hc47 => ?_)
        · replace h := h.1 hc47
          refine vv_iconst C dX9_go_210 ki_0 ?_
          refine vv_sub [2, 3] (L' := [(0, .ref (vv_q Y 0)), (1, .int a1)]) rfl ?_
          exact hJk211_29 _ h
        · replace h := h.2 hc47
          refine vv_aload_n C 2 dX9_go_198 rfl rfl ?_
          refine vv_getr (r := 31) C kc_X9 (s_X9 hY) 34 (by decide) rfl fk_X9_100 dX9_go_199 ?_
          refine vv_iload_n C 3 dX9_go_202 rfl rfl ?_
          obtain ⟨hi48, h⟩ := h
          refine vv_iald C (a_X9_water hY) hi48 rfl dX9_go_203 ?_
          refine vv_iload C 0 dX9_go_204 rfl ?_
          refine vv_isub C dX9_go_206 ?_
          refine vv_goto (pc := 207) (tgt := 211) C dX9_go_207 (by decide) ?_
          refine vv_sub [2, 3] (L' := [(0, .ref (vv_q Y 0)), (1, .int a1)]) rfl ?_
          exact hJk211_29 _ h
    · refine vv_icmp_ge (pc := 137) C 145 dX9_go_137 (by decide) (fun hc49 => ?_) (fun hc49 => ?_)
      · replace h := h.1 hc49
        refine vv_aload_n C 0 dX9_go_145 rfl rfl ?_
        refine vv_getr (r := 31) C kc_X9 (s_X9 hY) 34 (by decide) rfl fk_X9_100 dX9_go_146 ?_
        refine vv_iload_n C 1 dX9_go_149 rfl rfl ?_
        obtain ⟨hi50, h⟩ := h
        refine vv_iald C (a_X9_water hY) hi50 rfl dX9_go_150 ?_
        refine vv_sub [0, 1] (L' := [(0, .ref (vv_q Y 0)), (1, .int a1)]) rfl ?_
        exact hJk151_16 _ h
      · replace h := h.2 hc49
        refine vv_iload C 2 dX9_go_140 rfl ?_
        refine vv_goto (pc := 142) (tgt := 151) C dX9_go_142 (by decide) ?_
        refine vv_sub [0, 1] (L' := [(0, .ref (vv_q Y 0)), (1, .int a1)]) rfl ?_
        exact hJk151_16 _ h
  · obtain ⟨n53, h⟩ := h
    have hl1 : ∀ (n53 : Nat) (v51 : Int32) (v52 : Int32), lX9_go_1 σ11 k129_13 a1 r12 n53 v51 v52 → VJ Y X (va_Qv post (vv_B Y) X.2) 7 48 [(0, .ref (vv_q Y 0)), (1, .int a1), (3, .int r12), (4, .int v51), (5, .int v52)] [] σ11 := by
      clear h
      intro n53
      induction n53 with
      | zero => intro v51 v52 h; exact False.elim h
      | succ n53 ih1 =>
        intro v51 v52 h
        refine vv_iload C 4 dX9_go_48 rfl ?_
        refine vv_aload_n C 0 dX9_go_50 rfl rfl ?_
        refine vv_getr (r := 2) C kc_X9 (s_X9 hY) 2 (by decide) rfl fk_X9_13 dX9_go_51 ?_
        refine vv_iconst C dX9_go_54 ki_0 ?_
        refine vv_iald C (a_X9_cells hY) kv_0_2 kn_0 dX9_go_55 ?_
        refine vv_icmp_ge (pc := 56) C 129 dX9_go_56 (by decide) (fun hc54 => ?_) (fun hc54 => ?_)
        · replace h := h.1 hc54
          refine vv_sub [0, 1, 3] (L' := [(0, .ref (vv_q Y 0)), (1, .int a1), (4, .int v51)]) rfl ?_
          exact hJk129_13 _ h
        · replace h := h.2 hc54
          refine vv_bipush C dX9_go_59 kb_8 ?_
          refine vv_iload_n C 1 dX9_go_61 rfl rfl ?_
          refine vv_imul C dX9_go_62 ?_
          refine vv_iload C 4 dX9_go_63 rfl ?_
          refine vv_iadd C dX9_go_65 ?_
          refine vv_nm (fun v55 ev55 => ?_)
          replace h := h v55 ev55
          refine vv_istore (L' := [(6, .int v55), (0, .ref (vv_q Y 0)), (1, .int a1), (3, .int r12), (4, .int v51), (5, .int v52)]) C dX9_go_66 (by decide) rfl ?_
          refine vv_iload C 4 dX9_go_68 rfl ?_
          refine vv_aload_n C 1 dX9_go_70 rfl rfl ?_
          refine vv_getr (r := 28) C kc_X9 (s_X9 hY) 31 (by decide) rfl fk_X9_91 dX9_go_71 ?_
          refine vv_iload C 0 dX9_go_74 rfl ?_
          obtain ⟨hi56, h⟩ := h
          refine vv_iald C (a_X9_high hY) hi56 rfl dX9_go_76 ?_
          refine vv_join (fun k => ∀ (v57 : Int32), k v57 → VJ Y X (va_Qv post (vv_B Y) X.2) 7 120 [(0, .ref (vv_q Y 0)), (1, .int a1), (3, .int r12), (5, .int v52)] [.int v57, .int v51] σ11) h (fun v57 h => ?_) (fun k120_57 hJk120_57 h => ?_)
          · refine vv_iadd C dX9_go_120 ?_
            refine vv_nm (fun v59 ev59 => ?_)
            replace h := h v59 ev59
            refine vv_istore (L' := [(4, .int v59), (0, .ref (vv_q Y 0)), (1, .int a1), (3, .int r12), (5, .int v52)]) C dX9_go_121 (by decide) rfl ?_
            obtain ⟨v60, ev60⟩ : ∃ z : Int32, z = v52 + (1 : Int32) := ⟨_, rfl⟩
            replace h := h v60 ev60
            refine vv_iinc (v := v60) (L' := [(5, .int v60), (4, .int v59), (0, .ref (vv_q Y 0)), (1, .int a1), (3, .int r12)]) C 4 dX9_go_123 rfl ((kinc ki_1).trans ev60.symm) (by decide) rfl ?_
            refine vv_goto (pc := 126) (tgt := 48) C dX9_go_126 (by decide) ?_
            refine vv_sub [2, 3, 4, 1, 0] (L' := [(0, .ref (vv_q Y 0)), (1, .int a1), (3, .int r12), (4, .int v59), (5, .int v60)]) rfl ?_
            exact ih1 _ _ h
          · refine vv_if_ne (pc := 77) C 84 dX9_go_77 (by decide) (fun hc61 => ?_) (fun hc61 => ?_)
            · replace h := h.1 hc61
              refine vv_aload_n C 1 dX9_go_84 rfl rfl ?_
              refine vv_getr (r := 29) C kc_X9 (s_X9 hY) 32 (by decide) rfl fk_X9_94 dX9_go_85 ?_
              refine vv_iload C 0 dX9_go_88 rfl ?_
              obtain ⟨hi62, h⟩ := h
              refine vv_iald C (a_X9_of hY) hi62 rfl dX9_go_90 ?_
              refine vv_iconst C dX9_go_91 ki_1 ?_
              refine vv_icmp_ne (pc := 92) C 102 dX9_go_92 (by decide) (fun hc63 => ?_) (fun hc63 => ?_)
              · replace h := h.1 hc63
                refine vv_aload_n C 1 dX9_go_102 rfl rfl ?_
                refine vv_getr (r := 29) C kc_X9 (s_X9 hY) 32 (by decide) rfl fk_X9_94 dX9_go_103 ?_
                refine vv_iload C 0 dX9_go_106 rfl ?_
                obtain ⟨hi64, h⟩ := h
                refine vv_iald C (a_X9_of hY) hi64 rfl dX9_go_108 ?_
                refine vv_iconst C dX9_go_109 ki_3 ?_
                refine vv_icmp_ne (pc := 110) C 119 dX9_go_110 (by decide) (fun hc65 => ?_) (fun hc65 => ?_)
                · replace h := h.1 hc65
                  refine vv_iconst C dX9_go_119 ki_0 ?_
                  refine vv_sub [1, 2, 3, 5] (L' := [(0, .ref (vv_q Y 0)), (1, .int a1), (3, .int r12), (5, .int v52)]) rfl ?_
                  exact hJk120_57 _ h
                · replace h := h.2 hc65
                  refine vv_iload_n C 3 dX9_go_113 rfl rfl ?_
                  refine vv_iconst C dX9_go_114 ki_3 ?_
                  refine vv_idiv C dX9_go_115 (by decide) ?_
                  refine vv_goto (pc := 116) (tgt := 120) C dX9_go_116 (by decide) ?_
                  refine vv_sub [1, 2, 3, 5] (L' := [(0, .ref (vv_q Y 0)), (1, .int a1), (3, .int r12), (5, .int v52)]) rfl ?_
                  exact hJk120_57 _ h
              · replace h := h.2 hc63
                refine vv_iload_n C 3 dX9_go_95 rfl rfl ?_
                refine vv_bipush C dX9_go_96 kb_8 ?_
                refine vv_idiv C dX9_go_98 (by decide) ?_
                refine vv_goto (pc := 99) (tgt := 120) C dX9_go_99 (by decide) ?_
                refine vv_sub [1, 2, 3, 5] (L' := [(0, .ref (vv_q Y 0)), (1, .int a1), (3, .int r12), (5, .int v52)]) rfl ?_
                exact hJk120_57 _ h
            · replace h := h.2 hc61
              refine vv_iconst C dX9_go_80 ki_0 ?_
              refine vv_goto (pc := 81) (tgt := 120) C dX9_go_81 (by decide) ?_
              refine vv_sub [1, 2, 3, 5] (L' := [(0, .ref (vv_q Y 0)), (1, .int a1), (3, .int r12), (5, .int v52)]) rfl ?_
              exact hJk120_57 _ h
    refine vv_sub [3, 4, 2, 1, 0] (L' := [(0, .ref (vv_q Y 0)), (1, .int a1), (3, .int r12), (4, .int (0 : Int32)), (5, .int (0 : Int32))]) rfl ?_
    exact hl1 n53 _ _ h
set_option maxHeartbeats 2000000 in
set_option maxRecDepth 100000 in
theorem mX9_doAct {Y : vv_Y} (hY : Y.2.2.2.2 = wM) {a1 : Int32} {a2 : Int32} {σ : vv_S} {post : vv_S → Prop} (h : wX9_doAct a1 a2 σ post) : vv_MV Y yX9_doAct cX9_doAct 5 none 3 75 [.ref (vv_q Y 0), .int a1, .int a2] σ post := by
  refine vv_ofV (by decide) (Nat.le_of_ble_eq_true rfl) (fun X C => ?_)
  have C : VC Y X RX9 cX9_doAct 5 none 3 75 := C
  refine vv_sub [0, 1, 2] (L' := [(0, .ref (vv_q Y 0)), (1, .int a1), (2, .int a2)]) rfl ?_
  refine vv_bipush C dX9_doAct_0 kb_8 ?_
  refine vv_iload_n C 1 dX9_doAct_2 rfl rfl ?_
  refine vv_imul C dX9_doAct_3 ?_
  refine vv_aload_n C 0 dX9_doAct_4 rfl rfl ?_
  refine vv_getr (r := 22) C kc_X9 (s_X9 hY) 22 (by decide) rfl fk_X9_73 dX9_doAct_5 ?_
  refine vv_iload_n C 2 dX9_doAct_8 rfl rfl ?_
  obtain ⟨hi1, h⟩ := h
  refine vv_iald C (a_X9_actCell hY) hi1 rfl dX9_doAct_9 ?_
  refine vv_iadd C dX9_doAct_10 ?_
  refine vv_nm (fun v2 ev2 => ?_)
  replace h := h v2 ev2
  refine vv_istore_n (L' := [(3, .int v2), (0, .ref (vv_q Y 0)), (1, .int a1), (2, .int a2)]) C dX9_doAct_11 rfl (by decide) rfl ?_
  refine vv_aload_n C 1 dX9_doAct_12 rfl rfl ?_
  refine vv_getr (r := 21) C kc_X9 (s_X9 hY) 21 (by decide) rfl fk_X9_70 dX9_doAct_13 ?_
  refine vv_iload_n C 3 dX9_doAct_16 rfl rfl ?_
  obtain ⟨hi3, h⟩ := h
  refine vv_iald C (a_X9_actKind hY) hi3 rfl dX9_doAct_17 ?_
  refine vv_join (fun k => ∀ (σ4 : vv_S), k σ4 → VJ Y X (va_Qv post (vv_B Y) X.2) 5 118 [] [] σ4) h (fun σ4 h => ?_) (fun k118_4 hJk118_4 h => ?_)
  · exact vv_vret C dX9_doAct_118 h
  · by_cases hc6 : (σ 21 a2.toNatClampNeg) = (0 : Int32)
    · replace h := h.1 hc6
      refine vv_lkp (pc := 18) (off := 26) C 44 dX9_doAct_18 hc6 (by decide) (by decide) (by decide) ?_
      refine vv_aload_n C 1 dX9_doAct_44 rfl rfl ?_
      refine vv_getr (r := 28) C kc_X9 (s_X9 hY) 31 (by decide) rfl fk_X9_91 dX9_doAct_45 ?_
      refine vv_iload_n C 0 dX9_doAct_48 rfl rfl ?_
      refine vv_dup2 C dX9_doAct_49 rfl rfl ?_
      obtain ⟨hi7, h⟩ := h
      refine vv_iald C (a_X9_high hY) hi7 rfl dX9_doAct_50 ?_
      refine vv_aload_n C 1 dX9_doAct_51 rfl rfl ?_
      refine vv_getr (r := 24) C kc_X9 (s_X9 hY) 24 (by decide) rfl fk_X9_79 dX9_doAct_52 ?_
      refine vv_iload_n C 3 dX9_doAct_55 rfl rfl ?_
      obtain ⟨hi8, h⟩ := h
      refine vv_iald C (a_X9_actMany hY) hi8 rfl dX9_doAct_56 ?_
      refine vv_iadd C dX9_doAct_57 ?_
      obtain ⟨hi9, h⟩ := h
      refine vv_iast C (a_X9_high hY) hi9 rfl dX9_doAct_58 (fun σ10 eσ10 => ?_)
      replace h := h σ10 eσ10
      refine vv_aload_n C 1 dX9_doAct_59 rfl rfl ?_
      refine vv_getr (r := 29) C kc_X9 (s_X9 hY) 32 (by decide) rfl fk_X9_94 dX9_doAct_60 ?_
      refine vv_iload_n C 0 dX9_doAct_63 rfl rfl ?_
      refine vv_aload_n C 1 dX9_doAct_64 rfl rfl ?_
      refine vv_getr (r := 23) C kc_X9 (s_X9 hY) 23 (by decide) rfl fk_X9_76 dX9_doAct_65 ?_
      refine vv_iload_n C 3 dX9_doAct_68 rfl rfl ?_
      obtain ⟨hi11, h⟩ := h
      refine vv_iald C (a_X9_actStuff hY) hi11 rfl dX9_doAct_69 ?_
      obtain ⟨hi12, h⟩ := h
      refine vv_iast C (a_X9_of hY) hi12 rfl dX9_doAct_70 (fun σ13 eσ13 => ?_)
      replace h := h σ13 eσ13
      refine vv_goto (pc := 71) (tgt := 118) C dX9_doAct_71 (by decide) ?_
      refine vv_sub [] (L' := []) rfl ?_
      exact hJk118_4 _ h
    replace h := h.2
    by_cases hc14 : (σ 21 a2.toNatClampNeg) = (1 : Int32)
    · replace h := h.1 hc14
      refine vv_lkp (pc := 18) (off := 56) C 74 dX9_doAct_18 hc14 (by decide) (by decide) (by decide) ?_
      refine vv_aload_n C 1 dX9_doAct_74 rfl rfl ?_
      refine vv_getr (r := 28) C kc_X9 (s_X9 hY) 31 (by decide) rfl fk_X9_91 dX9_doAct_75 ?_
      refine vv_iload_n C 0 dX9_doAct_78 rfl rfl ?_
      refine vv_dup2 C dX9_doAct_79 rfl rfl ?_
      obtain ⟨hi15, h⟩ := h
      refine vv_iald C (a_X9_high hY) hi15 rfl dX9_doAct_80 ?_
      refine vv_aload_n C 1 dX9_doAct_81 rfl rfl ?_
      refine vv_getr (r := 24) C kc_X9 (s_X9 hY) 24 (by decide) rfl fk_X9_79 dX9_doAct_82 ?_
      refine vv_iload_n C 3 dX9_doAct_85 rfl rfl ?_
      obtain ⟨hi16, h⟩ := h
      refine vv_iald C (a_X9_actMany hY) hi16 rfl dX9_doAct_86 ?_
      refine vv_isub C dX9_doAct_87 ?_
      obtain ⟨hi17, h⟩ := h
      refine vv_iast C (a_X9_high hY) hi17 rfl dX9_doAct_88 (fun σ18 eσ18 => ?_)
      replace h := h σ18 eσ18
      refine vv_goto (pc := 89) (tgt := 118) C dX9_doAct_89 (by decide) ?_
      refine vv_sub [] (L' := []) rfl ?_
      exact hJk118_4 _ h
    replace h := h.2
    replace h := h ⟨hc6, hc14⟩
    refine vv_lookup (pc := 18) (off := 74) C 92 dX9_doAct_18 (by decide) ((lv_osw hc6 (by decide)) |>.trans (lv_osw hc14 (by decide))) (by decide) ?_
    refine vv_iconst C dX9_doAct_92 ki_0 ?_
    refine vv_istore (L' := [(4, .int (0 : Int32)), (3, .int v2), (0, .ref (vv_q Y 0)), (1, .int a1), (2, .int a2)]) C dX9_doAct_93 (by decide) rfl ?_
    obtain ⟨n21, h⟩ := h
    have hl1 : ∀ (n21 : Nat) (v19 : Int32) (σ20 : vv_S), lX9_doAct_1 a2 k118_4 a1 n21 v19 σ20 → VJ Y X (va_Qv post (vv_B Y) X.2) 5 95 [(0, .ref (vv_q Y 0)), (1, .int a1), (2, .int a2), (4, .int v19)] [] σ20 := by
      clear h
      intro n21
      induction n21 with
      | zero => intro v19 σ20 h; exact False.elim h
      | succ n21 ih1 =>
        intro v19 σ20 h
        refine vv_iload C 3 dX9_doAct_95 rfl ?_
        refine vv_aload_n C 0 dX9_doAct_97 rfl rfl ?_
        refine vv_getr (r := 24) C kc_X9 (s_X9 hY) 24 (by decide) rfl fk_X9_79 dX9_doAct_98 ?_
        refine vv_iload_n C 2 dX9_doAct_101 rfl rfl ?_
        obtain ⟨hi22, h⟩ := h
        refine vv_iald C (a_X9_actMany hY) hi22 rfl dX9_doAct_102 ?_
        refine vv_icmp_ge (pc := 103) C 118 dX9_doAct_103 (by decide) (fun hc23 => ?_) (fun hc23 => ?_)
        · replace h := h.1 hc23
          refine vv_sub [] (L' := []) rfl ?_
          exact hJk118_4 _ h
        · replace h := h.2 hc23
          refine vv_aload_n C 0 dX9_doAct_106 rfl rfl ?_
          refine vv_iload_n C 1 dX9_doAct_107 rfl rfl ?_
          refine vv_iconst C dX9_doAct_108 ki_0 ?_
          refine vv_callV (rest := []) C yk_X9_go vk_X9_go lk_X9_224 kc_X9.1 (s_X9 hY) dX9_doAct_109 (mX9_go hY h) rfl rfl ⟨Nat.le_of_ble_eq_true rfl, Nat.le_of_ble_eq_true rfl⟩ (Nat.le_of_ble_eq_true rfl) (fun σ24 h => ?_)
          obtain ⟨v25, ev25⟩ : ∃ z : Int32, z = v19 + (1 : Int32) := ⟨_, rfl⟩
          replace h := h v25 ev25
          refine vv_iinc (v := v25) (L' := [(4, .int v25), (0, .ref (vv_q Y 0)), (1, .int a1), (2, .int a2)]) C 3 dX9_doAct_112 rfl ((kinc ki_1).trans ev25.symm) (by decide) rfl ?_
          refine vv_goto (pc := 115) (tgt := 95) C dX9_doAct_115 (by decide) ?_
          refine vv_sub [1, 2, 3, 0] (L' := [(0, .ref (vv_q Y 0)), (1, .int a1), (2, .int a2), (4, .int v25)]) rfl ?_
          exact ih1 _ _ h
    refine vv_sub [2, 3, 4, 0] (L' := [(0, .ref (vv_q Y 0)), (1, .int a1), (2, .int a2), (4, .int (0 : Int32))]) rfl ?_
    exact hl1 n21 _ _ h
set_option maxHeartbeats 2000000 in
set_option maxRecDepth 100000 in
theorem mX9_beginBut {Y : vv_Y} (hY : Y.2.2.2.2 = wM) {a1 : Int32} {a2 : Int32} {σ : vv_S} {post : vv_S → Prop} (h : wX9_beginBut a1 a2 σ post) : vv_MV Y yX9_beginBut cX9_beginBut 4 none 4 99 [.ref (vv_q Y 0), .int a1, .int a2] σ post := by
  refine vv_ofV (by decide) (Nat.le_of_ble_eq_true rfl) (fun X C => ?_)
  have C : VC Y X RX9 cX9_beginBut 4 none 4 99 := C
  refine vv_sub [0, 1, 2] (L' := [(0, .ref (vv_q Y 0)), (1, .int a1), (2, .int a2)]) rfl ?_
  refine vv_iconst C dX9_beginBut_0 ki_0 ?_
  refine vv_istore_n (L' := [(3, .int (0 : Int32)), (0, .ref (vv_q Y 0)), (1, .int a1), (2, .int a2)]) C dX9_beginBut_1 rfl (by decide) rfl ?_
  refine vv_join (fun k => ∀ (σ1 : vv_S), k σ1 → VJ Y X (va_Qv post (vv_B Y) X.2) 4 60 [(0, .ref (vv_q Y 0)), (1, .int a1), (2, .int a2)] [] σ1) h (fun σ1 h => ?_) (fun k60_1 hJk60_1 h => ?_)
  · refine vv_aload_n C 0 dX9_beginBut_60 rfl rfl ?_
    refine vv_getr (r := 31) C kc_X9 (s_X9 hY) 34 (by decide) rfl fk_X9_100 dX9_beginBut_61 ?_
    refine vv_iload_n C 1 dX9_beginBut_64 rfl rfl ?_
    refine vv_iconst C dX9_beginBut_65 ki_0 ?_
    obtain ⟨hi3, h⟩ := h
    refine vv_iast C (a_X9_water hY) hi3 rfl dX9_beginBut_66 (fun σ4 eσ4 => ?_)
    replace h := h σ4 eσ4
    refine vv_aload_n C 0 dX9_beginBut_67 rfl rfl ?_
    refine vv_getr (r := 32) C kc_X9 (s_X9 hY) 35 (by decide) rfl fk_X9_103 dX9_beginBut_68 ?_
    refine vv_iload_n C 1 dX9_beginBut_71 rfl rfl ?_
    refine vv_iconst C dX9_beginBut_72 ki_0 ?_
    obtain ⟨hi5, h⟩ := h
    refine vv_iast C (a_X9_minutes hY) hi5 rfl dX9_beginBut_73 (fun σ6 eσ6 => ?_)
    replace h := h σ6 eσ6
    refine vv_aload_n C 0 dX9_beginBut_74 rfl rfl ?_
    refine vv_getr (r := 33) C kc_X9 (s_X9 hY) 36 (by decide) rfl fk_X9_106 dX9_beginBut_75 ?_
    refine vv_iload_n C 1 dX9_beginBut_78 rfl rfl ?_
    refine vv_iconst C dX9_beginBut_79 ki_0 ?_
    obtain ⟨hi7, h⟩ := h
    refine vv_iast C (a_X9_overAll hY) hi7 rfl dX9_beginBut_80 (fun σ8 eσ8 => ?_)
    replace h := h σ8 eσ8
    refine vv_aload_n C 0 dX9_beginBut_81 rfl rfl ?_
    refine vv_getr (r := 34) C kc_X9 (s_X9 hY) 37 (by decide) rfl fk_X9_109 dX9_beginBut_82 ?_
    refine vv_iload_n C 1 dX9_beginBut_85 rfl rfl ?_
    refine vv_iconst C dX9_beginBut_86 ki_0 ?_
    obtain ⟨hi9, h⟩ := h
    refine vv_iast C (a_X9_seepAll hY) hi9 rfl dX9_beginBut_87 (fun σ10 eσ10 => ?_)
    replace h := h σ10 eσ10
    refine vv_iconst C dX9_beginBut_88 ki_0 ?_
    refine vv_istore_n (L' := [(3, .int (0 : Int32)), (0, .ref (vv_q Y 0)), (1, .int a1), (2, .int a2)]) C dX9_beginBut_89 rfl (by decide) rfl ?_
    obtain ⟨n13, h⟩ := h
    have hl1 : ∀ (n13 : Nat) (v11 : Int32) (σ12 : vv_S), lX9_beginBut_1 post a2 a1 n13 v11 σ12 → VJ Y X (va_Qv post (vv_B Y) X.2) 4 90 [(0, .ref (vv_q Y 0)), (1, .int a1), (2, .int a2), (3, .int v11)] [] σ12 := by
      clear h
      intro n13
      induction n13 with
      | zero => intro v11 σ12 h; exact False.elim h
      | succ n13 ih1 =>
        intro v11 σ12 h
        refine vv_iload_n C 3 dX9_beginBut_90 rfl rfl ?_
        refine vv_aload_n C 0 dX9_beginBut_91 rfl rfl ?_
        refine vv_getr (r := 20) C kc_X9 (s_X9 hY) 20 (by decide) rfl fk_X9_67 dX9_beginBut_92 ?_
        refine vv_iconst C dX9_beginBut_95 ki_0 ?_
        refine vv_iald C (a_X9_acts hY) kv_0_3 kn_0 dX9_beginBut_96 ?_
        refine vv_icmp_ge (pc := 97) C 126 dX9_beginBut_97 (by decide) (fun hc14 => ?_) (fun hc14 => ?_)
        · replace h := h.1 hc14
          exact vv_vret C dX9_beginBut_126 h
        · replace h := h.2 hc14
          refine vv_iload_n C 3 dX9_beginBut_100 rfl rfl ?_
          refine vv_iload_n C 2 dX9_beginBut_101 rfl rfl ?_
          refine vv_join (fun k => ∀ (σ15 : vv_S), k σ15 → VJ Y X (va_Qv post (vv_B Y) X.2) 4 120 [(0, .ref (vv_q Y 0)), (1, .int a1), (2, .int a2), (3, .int v11)] [] σ15) h (fun σ15 h => ?_) (fun k120_15 hJk120_15 h => ?_)
          · obtain ⟨v17, ev17⟩ : ∃ z : Int32, z = v11 + (1 : Int32) := ⟨_, rfl⟩
            replace h := h v17 ev17
            refine vv_iinc (v := v17) (L' := [(3, .int v17), (0, .ref (vv_q Y 0)), (1, .int a1), (2, .int a2)]) C 3 dX9_beginBut_120 rfl ((kinc ki_1).trans ev17.symm) (by decide) rfl ?_
            refine vv_goto (pc := 123) (tgt := 90) C dX9_beginBut_123 (by decide) ?_
            refine vv_sub [1, 2, 3, 0] (L' := [(0, .ref (vv_q Y 0)), (1, .int a1), (2, .int a2), (3, .int v17)]) rfl ?_
            exact ih1 _ _ h
          · refine vv_icmp_eq (pc := 102) C 120 dX9_beginBut_102 (by decide) (fun hc18 => ?_) (fun hc18 => ?_)
            · replace h := h.1 hc18
              refine vv_sub [0, 1, 2, 3] (L' := [(0, .ref (vv_q Y 0)), (1, .int a1), (2, .int a2), (3, .int v11)]) rfl ?_
              exact hJk120_15 _ h
            · replace h := h.2 hc18
              refine vv_aload_n C 0 dX9_beginBut_105 rfl rfl ?_
              refine vv_iload_n C 1 dX9_beginBut_106 rfl rfl ?_
              refine vv_iload_n C 3 dX9_beginBut_107 rfl rfl ?_
              refine vv_callI (rest := []) C yk_X9_canDo vk_X9_canDo lk_X9_227 kc_X9.1 (s_X9 hY) dX9_beginBut_108 (mX9_canDo hY h) rfl rfl ⟨Nat.le_of_ble_eq_true rfl, Nat.le_of_ble_eq_true rfl⟩ (Nat.le_of_ble_eq_true rfl) (fun r20 σ19 h => ?_)
              refine vv_if_eq (pc := 111) C 120 dX9_beginBut_111 (by decide) (fun hc21 => ?_) (fun hc21 => ?_)
              · replace h := h.1 hc21
                refine vv_sub [0, 1, 2, 3] (L' := [(0, .ref (vv_q Y 0)), (1, .int a1), (2, .int a2), (3, .int v11)]) rfl ?_
                exact hJk120_15 _ h
              · replace h := h.2 hc21
                refine vv_aload_n C 0 dX9_beginBut_114 rfl rfl ?_
                refine vv_iload_n C 1 dX9_beginBut_115 rfl rfl ?_
                refine vv_iload_n C 3 dX9_beginBut_116 rfl rfl ?_
                refine vv_callV (rest := []) C yk_X9_doAct vk_X9_doAct lk_X9_231 kc_X9.1 (s_X9 hY) dX9_beginBut_117 (mX9_doAct hY h) rfl rfl ⟨Nat.le_of_ble_eq_true rfl, Nat.le_of_ble_eq_true rfl⟩ (Nat.le_of_ble_eq_true rfl) (fun σ22 h => ?_)
                refine vv_sub [0, 1, 2, 3] (L' := [(0, .ref (vv_q Y 0)), (1, .int a1), (2, .int a2), (3, .int v11)]) rfl ?_
                exact hJk120_15 _ h
    refine vv_sub [1, 2, 3, 0] (L' := [(0, .ref (vv_q Y 0)), (1, .int a1), (2, .int a2), (3, .int (0 : Int32))]) rfl ?_
    exact hl1 n13 _ _ h
  · obtain ⟨n25, h⟩ := h
    have hl2 : ∀ (n25 : Nat) (v23 : Int32) (σ24 : vv_S), lX9_beginBut_2 k60_1 a1 n25 v23 σ24 → VJ Y X (va_Qv post (vv_B Y) X.2) 4 2 [(0, .ref (vv_q Y 0)), (1, .int a1), (2, .int a2), (3, .int v23)] [] σ24 := by
      clear h
      intro n25
      induction n25 with
      | zero => intro v23 σ24 h; exact False.elim h
      | succ n25 ih2 =>
        intro v23 σ24 h
        refine vv_iload_n C 3 dX9_beginBut_2 rfl rfl ?_
        refine vv_bipush C dX9_beginBut_3 kb_8 ?_
        refine vv_icmp_ge (pc := 5) C 60 dX9_beginBut_5 (by decide) (fun hc26 => ?_) (fun hc26 => ?_)
        · replace h := h.1 hc26
          refine vv_sub [0, 1, 2] (L' := [(0, .ref (vv_q Y 0)), (1, .int a1), (2, .int a2)]) rfl ?_
          exact hJk60_1 _ h
        · replace h := h.2 hc26
          refine vv_aload_n C 0 dX9_beginBut_8 rfl rfl ?_
          refine vv_getr (r := 28) C kc_X9 (s_X9 hY) 31 (by decide) rfl fk_X9_91 dX9_beginBut_9 ?_
          refine vv_bipush C dX9_beginBut_12 kb_8 ?_
          refine vv_iload_n C 1 dX9_beginBut_14 rfl rfl ?_
          refine vv_imul C dX9_beginBut_15 ?_
          refine vv_iload_n C 3 dX9_beginBut_16 rfl rfl ?_
          refine vv_iadd C dX9_beginBut_17 ?_
          refine vv_aload_n C 0 dX9_beginBut_18 rfl rfl ?_
          refine vv_getr (r := 3) C kc_X9 (s_X9 hY) 3 (by decide) rfl fk_X9_16 dX9_beginBut_19 ?_
          refine vv_iload_n C 3 dX9_beginBut_22 rfl rfl ?_
          obtain ⟨hi27, h⟩ := h
          refine vv_iald C (a_X9_tall hY) hi27 rfl dX9_beginBut_23 ?_
          obtain ⟨hi28, h⟩ := h
          refine vv_iast C (a_X9_high hY) hi28 rfl dX9_beginBut_24 (fun σ29 eσ29 => ?_)
          replace h := h σ29 eσ29
          refine vv_aload_n C 0 dX9_beginBut_25 rfl rfl ?_
          refine vv_getr (r := 29) C kc_X9 (s_X9 hY) 32 (by decide) rfl fk_X9_94 dX9_beginBut_26 ?_
          refine vv_bipush C dX9_beginBut_29 kb_8 ?_
          refine vv_iload_n C 1 dX9_beginBut_31 rfl rfl ?_
          refine vv_imul C dX9_beginBut_32 ?_
          refine vv_iload_n C 3 dX9_beginBut_33 rfl rfl ?_
          refine vv_iadd C dX9_beginBut_34 ?_
          refine vv_aload_n C 0 dX9_beginBut_35 rfl rfl ?_
          refine vv_getr (r := 4) C kc_X9 (s_X9 hY) 4 (by decide) rfl fk_X9_19 dX9_beginBut_36 ?_
          refine vv_iload_n C 3 dX9_beginBut_39 rfl rfl ?_
          obtain ⟨hi30, h⟩ := h
          refine vv_iald C (a_X9_stuffs hY) hi30 rfl dX9_beginBut_40 ?_
          obtain ⟨hi31, h⟩ := h
          refine vv_iast C (a_X9_of hY) hi31 rfl dX9_beginBut_41 (fun σ32 eσ32 => ?_)
          replace h := h σ32 eσ32
          refine vv_aload_n C 0 dX9_beginBut_42 rfl rfl ?_
          refine vv_getr (r := 30) C kc_X9 (s_X9 hY) 33 (by decide) rfl fk_X9_97 dX9_beginBut_43 ?_
          refine vv_bipush C dX9_beginBut_46 kb_8 ?_
          refine vv_iload_n C 1 dX9_beginBut_48 rfl rfl ?_
          refine vv_imul C dX9_beginBut_49 ?_
          refine vv_iload_n C 3 dX9_beginBut_50 rfl rfl ?_
          refine vv_iadd C dX9_beginBut_51 ?_
          refine vv_iconst C dX9_beginBut_52 ki_0 ?_
          obtain ⟨hi33, h⟩ := h
          refine vv_iast C (a_X9_breached hY) hi33 rfl dX9_beginBut_53 (fun σ34 eσ34 => ?_)
          replace h := h σ34 eσ34
          obtain ⟨v35, ev35⟩ : ∃ z : Int32, z = v23 + (1 : Int32) := ⟨_, rfl⟩
          replace h := h v35 ev35
          refine vv_iinc (v := v35) (L' := [(3, .int v35), (0, .ref (vv_q Y 0)), (1, .int a1), (2, .int a2)]) C 3 dX9_beginBut_54 rfl ((kinc ki_1).trans ev35.symm) (by decide) rfl ?_
          refine vv_goto (pc := 57) (tgt := 2) C dX9_beginBut_57 (by decide) ?_
          refine vv_sub [1, 2, 3, 0] (L' := [(0, .ref (vv_q Y 0)), (1, .int a1), (2, .int a2), (3, .int v35)]) rfl ?_
          exact ih2 _ _ h
    refine vv_sub [1, 2, 3, 0] (L' := [(0, .ref (vv_q Y 0)), (1, .int a1), (2, .int a2), (3, .int (0 : Int32))]) rfl ?_
    exact hl2 n25 _ _ h
set_option maxHeartbeats 2000000 in
set_option maxRecDepth 100000 in
theorem mX9_begin {Y : vv_Y} (hY : Y.2.2.2.2 = wM)  {σ : vv_S} {post : vv_S → Prop} (h : wX9_begin σ post) : vv_MV Y yX9_begin cX9_begin 1 none 5 122 [.ref (vv_q Y 0)] σ post := by
  refine vv_ofV (by decide) (Nat.le_of_ble_eq_true rfl) (fun X C => ?_)
  have C : VC Y X RX9 cX9_begin 1 none 5 122 := C
  refine vv_sub [0] (L' := [(0, .ref (vv_q Y 0))]) rfl ?_
  refine vv_aload_n C 0 dX9_begin_0 rfl rfl ?_
  refine vv_iconst C dX9_begin_1 ki_0 ?_
  refine vv_bipush C dX9_begin_2 kb_m4 ?_
  refine vv_callV (rest := []) C yk_X9_beginBut vk_X9_beginBut lk_X9_234 kc_X9.1 (s_X9 hY) dX9_begin_4 (mX9_beginBut hY h) rfl rfl ⟨Nat.le_of_ble_eq_true rfl, Nat.le_of_ble_eq_true rfl⟩ (Nat.le_of_ble_eq_true rfl) (fun σ1 h => ?_)
  exact vv_vret C dX9_begin_7 h
set_option maxHeartbeats 2000000 in
set_option maxRecDepth 100000 in
theorem mX9_laid {Y : vv_Y} (hY : Y.2.2.2.2 = wM)  {σ : vv_S} {post : Int32 → vv_S → Prop} (h : wX9_laid σ post) : vv_MI Y yX9_laid cX9_laid 2 (some .int) 6 142 [.ref (vv_q Y 0)] σ post := by
  refine vv_ofI (by decide) (Nat.le_of_ble_eq_true rfl) (fun X C => ?_)
  have C : VC Y X RX9 cX9_laid 2 (some .int) 6 142 := C
  refine vv_sub [0] (L' := [(0, .ref (vv_q Y 0))]) rfl ?_
  refine vv_aload_n C 0 dX9_laid_0 rfl rfl ?_
  refine vv_callI (rest := []) C yk_X9_readAll vk_X9_readAll lk_X9_186 kc_X9.1 (s_X9 hY) dX9_laid_1 (mX9_readAll hY h) rfl rfl ⟨Nat.le_of_ble_eq_true rfl, Nat.le_of_ble_eq_true rfl⟩ (Nat.le_of_ble_eq_true rfl) (fun r2 σ1 h => ?_)
  refine vv_bipush C dX9_laid_4 kb_m4 ?_
  refine vv_join (fun k =>  k → VJ Y X (va_Qi post (vv_B Y) X.2) 2 18 [] [] σ1) h (fun h => ?_) (fun k18_2 hJk18_2 h => ?_)
  · refine vv_bipush C dX9_laid_18 kb_m2 ?_
    exact vv_iret C dX9_laid_20 h
  · refine vv_icmp_ne (pc := 6) C 18 dX9_laid_6 (by decide) (fun hc4 => ?_) (fun hc4 => ?_)
    · replace h := h.1 hc4
      refine vv_sub [] (L' := []) rfl ?_
      exact hJk18_2 h
    · replace h := h.2 hc4
      refine vv_aload_n C 0 dX9_laid_9 rfl rfl ?_
      refine vv_getr (r := 2) C kc_X9 (s_X9 hY) 2 (by decide) rfl fk_X9_13 dX9_laid_10 ?_
      refine vv_iconst C dX9_laid_13 ki_1 ?_
      refine vv_iald C (a_X9_cells hY) kv_1_2 kn_1 dX9_laid_14 ?_
      refine vv_if_ne (pc := 15) C 21 dX9_laid_15 (by decide) (fun hc5 => ?_) (fun hc5 => ?_)
      · replace h := h.1 hc5
        refine vv_aload_n C 0 dX9_laid_21 rfl rfl ?_
        refine vv_getr (r := 2) C kc_X9 (s_X9 hY) 2 (by decide) rfl fk_X9_13 dX9_laid_22 ?_
        refine vv_iconst C dX9_laid_25 ki_0 ?_
        refine vv_aload_n C 0 dX9_laid_26 rfl rfl ?_
        refine vv_getr (r := 2) C kc_X9 (s_X9 hY) 2 (by decide) rfl fk_X9_13 dX9_laid_27 ?_
        refine vv_iconst C dX9_laid_30 ki_1 ?_
        refine vv_iald C (a_X9_cells hY) kv_1_2 kn_1 dX9_laid_31 ?_
        refine vv_iast C (a_X9_cells hY) kv_0_2 kn_0 dX9_laid_32 (fun σ6 eσ6 => ?_)
        replace h := h σ6 eσ6
        refine vv_aload_n C 0 dX9_laid_33 rfl rfl ?_
        refine vv_getr (r := 7) C kc_X9 (s_X9 hY) 7 (by decide) rfl fk_X9_28 dX9_laid_34 ?_
        refine vv_iconst C dX9_laid_37 ki_0 ?_
        refine vv_aload_n C 0 dX9_laid_38 rfl rfl ?_
        refine vv_getr (r := 7) C kc_X9 (s_X9 hY) 7 (by decide) rfl fk_X9_28 dX9_laid_39 ?_
        refine vv_iconst C dX9_laid_42 ki_1 ?_
        refine vv_iald C (a_X9_flows hY) kv_1_2 kn_1 dX9_laid_43 ?_
        refine vv_iast C (a_X9_flows hY) kv_0_2 kn_0 dX9_laid_44 (fun σ7 eσ7 => ?_)
        replace h := h σ7 eσ7
        refine vv_aload_n C 0 dX9_laid_45 rfl rfl ?_
        refine vv_getr (r := 10) C kc_X9 (s_X9 hY) 10 (by decide) rfl fk_X9_37 dX9_laid_46 ?_
        refine vv_iconst C dX9_laid_49 ki_0 ?_
        refine vv_aload_n C 0 dX9_laid_50 rfl rfl ?_
        refine vv_getr (r := 10) C kc_X9 (s_X9 hY) 10 (by decide) rfl fk_X9_37 dX9_laid_51 ?_
        refine vv_iconst C dX9_laid_54 ki_1 ?_
        refine vv_iald C (a_X9_rains hY) kv_1_2 kn_1 dX9_laid_55 ?_
        refine vv_iast C (a_X9_rains hY) kv_0_2 kn_0 dX9_laid_56 (fun σ8 eσ8 => ?_)
        replace h := h σ8 eσ8
        refine vv_aload_n C 0 dX9_laid_57 rfl rfl ?_
        refine vv_getr (r := 14) C kc_X9 (s_X9 hY) 14 (by decide) rfl fk_X9_49 dX9_laid_58 ?_
        refine vv_iconst C dX9_laid_61 ki_0 ?_
        refine vv_aload_n C 0 dX9_laid_62 rfl rfl ?_
        refine vv_getr (r := 14) C kc_X9 (s_X9 hY) 14 (by decide) rfl fk_X9_49 dX9_laid_63 ?_
        refine vv_iconst C dX9_laid_66 ki_1 ?_
        refine vv_iald C (a_X9_children hY) kv_1_2 kn_1 dX9_laid_67 ?_
        refine vv_iast C (a_X9_children hY) kv_0_2 kn_0 dX9_laid_68 (fun σ9 eσ9 => ?_)
        replace h := h σ9 eσ9
        refine vv_aload_n C 0 dX9_laid_69 rfl rfl ?_
        refine vv_getr (r := 16) C kc_X9 (s_X9 hY) 16 (by decide) rfl fk_X9_55 dX9_laid_70 ?_
        refine vv_iconst C dX9_laid_73 ki_0 ?_
        refine vv_aload_n C 0 dX9_laid_74 rfl rfl ?_
        refine vv_getr (r := 16) C kc_X9 (s_X9 hY) 16 (by decide) rfl fk_X9_55 dX9_laid_75 ?_
        refine vv_iconst C dX9_laid_78 ki_1 ?_
        refine vv_iald C (a_X9_jobs hY) kv_1_2 kn_1 dX9_laid_79 ?_
        refine vv_iast C (a_X9_jobs hY) kv_0_2 kn_0 dX9_laid_80 (fun σ10 eσ10 => ?_)
        replace h := h σ10 eσ10
        refine vv_iconst C dX9_laid_81 ki_0 ?_
        refine vv_istore_n (L' := [(1, .int (0 : Int32)), (0, .ref (vv_q Y 0))]) C dX9_laid_82 rfl (by decide) rfl ?_
        refine vv_join (fun k => ∀ (σ11 : vv_S), k σ11 → VJ Y X (va_Qi post (vv_B Y) X.2) 2 122 [(0, .ref (vv_q Y 0))] [] σ11) h (fun σ11 h => ?_) (fun k122_11 hJk122_11 h => ?_)
        · refine vv_iconst C dX9_laid_122 ki_0 ?_
          refine vv_istore_n (L' := [(1, .int (0 : Int32)), (0, .ref (vv_q Y 0))]) C dX9_laid_123 rfl (by decide) rfl ?_
          refine vv_join (fun k => ∀ (σ13 : vv_S), k σ13 → VJ Y X (va_Qi post (vv_B Y) X.2) 2 166 [(0, .ref (vv_q Y 0))] [] σ13) h (fun σ13 h => ?_) (fun k166_13 hJk166_13 h => ?_)
          · refine vv_iconst C dX9_laid_166 ki_0 ?_
            refine vv_istore_n (L' := [(1, .int (0 : Int32)), (0, .ref (vv_q Y 0))]) C dX9_laid_167 rfl (by decide) rfl ?_
            refine vv_join (fun k => ∀ (σ15 : vv_S), k σ15 → VJ Y X (va_Qi post (vv_B Y) X.2) 2 249 [(0, .ref (vv_q Y 0))] [] σ15) h (fun σ15 h => ?_) (fun k249_15 hJk249_15 h => ?_)
            · refine vv_iconst C dX9_laid_249 ki_0 ?_
              refine vv_istore_n (L' := [(1, .int (0 : Int32)), (0, .ref (vv_q Y 0))]) C dX9_laid_250 rfl (by decide) rfl ?_
              refine vv_join (fun k => ∀ (σ17 : vv_S), k σ17 → VJ Y X (va_Qi post (vv_B Y) X.2) 2 278 [(0, .ref (vv_q Y 0))] [] σ17) h (fun σ17 h => ?_) (fun k278_17 hJk278_17 h => ?_)
              · refine vv_iconst C dX9_laid_278 ki_0 ?_
                refine vv_istore_n (L' := [(1, .int (0 : Int32)), (0, .ref (vv_q Y 0))]) C dX9_laid_279 rfl (by decide) rfl ?_
                refine vv_join (fun k => ∀ (σ19 : vv_S), k σ19 → VJ Y X (va_Qi post (vv_B Y) X.2) 2 333 [(0, .ref (vv_q Y 0))] [] σ19) h (fun σ19 h => ?_) (fun k333_19 hJk333_19 h => ?_)
                · refine vv_aload_n C 0 dX9_laid_333 rfl rfl ?_
                  refine vv_getr (r := 20) C kc_X9 (s_X9 hY) 20 (by decide) rfl fk_X9_67 dX9_laid_334 ?_
                  refine vv_iconst C dX9_laid_337 ki_0 ?_
                  refine vv_iconst C dX9_laid_338 ki_0 ?_
                  refine vv_iast C (a_X9_acts hY) kv_0_3 kn_0 dX9_laid_339 (fun σ21 eσ21 => ?_)
                  replace h := h σ21 eσ21
                  refine vv_aload_n C 0 dX9_laid_340 rfl rfl ?_
                  refine vv_iconst C dX9_laid_341 ki_0 ?_
                  refine vv_puti C kc_X9 (s_X9 hY) 25 (by decide) rfl pf_X9_25 fk_X9_190 dX9_laid_342 (fun σ22 eσ22 => ?_)
                  replace h := h σ22 eσ22
                  refine vv_aload_n C 0 dX9_laid_345 rfl rfl ?_
                  refine vv_iconst C dX9_laid_346 ki_0 ?_
                  refine vv_puti C kc_X9 (s_X9 hY) 26 (by decide) rfl pf_X9_26 fk_X9_193 dX9_laid_347 (fun σ23 eσ23 => ?_)
                  replace h := h σ23 eσ23
                  refine vv_aload_n C 0 dX9_laid_350 rfl rfl ?_
                  refine vv_callV (rest := []) C yk_X9_begin vk_X9_begin lk_X9_131 kc_X9.1 (s_X9 hY) dX9_laid_351 (mX9_begin hY h) rfl rfl ⟨Nat.le_of_ble_eq_true rfl, Nat.le_of_ble_eq_true rfl⟩ (Nat.le_of_ble_eq_true rfl) (fun σ24 h => ?_)
                  refine vv_aload_n C 0 dX9_laid_354 rfl rfl ?_
                  refine vv_getr (r := 2) C kc_X9 (s_X9 hY) 2 (by decide) rfl fk_X9_13 dX9_laid_355 ?_
                  refine vv_iconst C dX9_laid_358 ki_0 ?_
                  refine vv_iald C (a_X9_cells hY) kv_0_2 kn_0 dX9_laid_359 ?_
                  exact vv_iret C dX9_laid_360 h
                · obtain ⟨n27, h⟩ := h
                  have hl1 : ∀ (n27 : Nat) (v25 : Int32) (σ26 : vv_S), lX9_laid_1 k333_19 n27 v25 σ26 → VJ Y X (va_Qi post (vv_B Y) X.2) 2 280 [(0, .ref (vv_q Y 0)), (1, .int v25)] [] σ26 := by
                    clear h
                    intro n27
                    induction n27 with
                    | zero => intro v25 σ26 h; exact False.elim h
                    | succ n27 ih1 =>
                      intro v25 σ26 h
                      refine vv_iload_n C 1 dX9_laid_280 rfl rfl ?_
                      refine vv_iconst C dX9_laid_281 ki_5 ?_
                      refine vv_icmp_ge (pc := 282) C 333 dX9_laid_282 (by decide) (fun hc28 => ?_) (fun hc28 => ?_)
                      · replace h := h.1 hc28
                        refine vv_sub [0] (L' := [(0, .ref (vv_q Y 0))]) rfl ?_
                        exact hJk333_19 _ h
                      · replace h := h.2 hc28
                        refine vv_aload_n C 0 dX9_laid_285 rfl rfl ?_
                        refine vv_getr (r := 17) C kc_X9 (s_X9 hY) 17 (by decide) rfl fk_X9_58 dX9_laid_286 ?_
                        refine vv_iload_n C 1 dX9_laid_289 rfl rfl ?_
                        refine vv_aload_n C 0 dX9_laid_290 rfl rfl ?_
                        refine vv_getr (r := 17) C kc_X9 (s_X9 hY) 17 (by decide) rfl fk_X9_58 dX9_laid_291 ?_
                        refine vv_iconst C dX9_laid_294 ki_5 ?_
                        refine vv_iload_n C 1 dX9_laid_295 rfl rfl ?_
                        refine vv_iadd C dX9_laid_296 ?_
                        obtain ⟨hi29, h⟩ := h
                        refine vv_iald C (a_X9_jobCell hY) hi29 rfl dX9_laid_297 ?_
                        obtain ⟨hi30, h⟩ := h
                        refine vv_iast C (a_X9_jobCell hY) hi30 rfl dX9_laid_298 (fun σ31 eσ31 => ?_)
                        replace h := h σ31 eσ31
                        refine vv_aload_n C 0 dX9_laid_299 rfl rfl ?_
                        refine vv_getr (r := 18) C kc_X9 (s_X9 hY) 18 (by decide) rfl fk_X9_61 dX9_laid_300 ?_
                        refine vv_iload_n C 1 dX9_laid_303 rfl rfl ?_
                        refine vv_aload_n C 0 dX9_laid_304 rfl rfl ?_
                        refine vv_getr (r := 18) C kc_X9 (s_X9 hY) 18 (by decide) rfl fk_X9_61 dX9_laid_305 ?_
                        refine vv_iconst C dX9_laid_308 ki_5 ?_
                        refine vv_iload_n C 1 dX9_laid_309 rfl rfl ?_
                        refine vv_iadd C dX9_laid_310 ?_
                        obtain ⟨hi32, h⟩ := h
                        refine vv_iald C (a_X9_jobStuff hY) hi32 rfl dX9_laid_311 ?_
                        obtain ⟨hi33, h⟩ := h
                        refine vv_iast C (a_X9_jobStuff hY) hi33 rfl dX9_laid_312 (fun σ34 eσ34 => ?_)
                        replace h := h σ34 eσ34
                        refine vv_aload_n C 0 dX9_laid_313 rfl rfl ?_
                        refine vv_getr (r := 19) C kc_X9 (s_X9 hY) 19 (by decide) rfl fk_X9_64 dX9_laid_314 ?_
                        refine vv_iload_n C 1 dX9_laid_317 rfl rfl ?_
                        refine vv_aload_n C 0 dX9_laid_318 rfl rfl ?_
                        refine vv_getr (r := 19) C kc_X9 (s_X9 hY) 19 (by decide) rfl fk_X9_64 dX9_laid_319 ?_
                        refine vv_iconst C dX9_laid_322 ki_5 ?_
                        refine vv_iload_n C 1 dX9_laid_323 rfl rfl ?_
                        refine vv_iadd C dX9_laid_324 ?_
                        obtain ⟨hi35, h⟩ := h
                        refine vv_iald C (a_X9_jobInches hY) hi35 rfl dX9_laid_325 ?_
                        obtain ⟨hi36, h⟩ := h
                        refine vv_iast C (a_X9_jobInches hY) hi36 rfl dX9_laid_326 (fun σ37 eσ37 => ?_)
                        replace h := h σ37 eσ37
                        obtain ⟨v38, ev38⟩ : ∃ z : Int32, z = v25 + (1 : Int32) := ⟨_, rfl⟩
                        replace h := h v38 ev38
                        refine vv_iinc (v := v38) (L' := [(1, .int v38), (0, .ref (vv_q Y 0))]) C 1 dX9_laid_327 rfl ((kinc ki_1).trans ev38.symm) (by decide) rfl ?_
                        refine vv_goto (pc := 330) (tgt := 280) C dX9_laid_330 (by decide) ?_
                        refine vv_sub [1, 0] (L' := [(0, .ref (vv_q Y 0)), (1, .int v38)]) rfl ?_
                        exact ih1 _ _ h
                  refine vv_sub [1, 0] (L' := [(0, .ref (vv_q Y 0)), (1, .int (0 : Int32))]) rfl ?_
                  exact hl1 n27 _ _ h
              · obtain ⟨n41, h⟩ := h
                have hl2 : ∀ (n41 : Nat) (v39 : Int32) (σ40 : vv_S), lX9_laid_2 k278_17 n41 v39 σ40 → VJ Y X (va_Qi post (vv_B Y) X.2) 2 251 [(0, .ref (vv_q Y 0)), (1, .int v39)] [] σ40 := by
                  clear h
                  intro n41
                  induction n41 with
                  | zero => intro v39 σ40 h; exact False.elim h
                  | succ n41 ih2 =>
                    intro v39 σ40 h
                    refine vv_iload_n C 1 dX9_laid_251 rfl rfl ?_
                    refine vv_bipush C dX9_laid_252 kb_16 ?_
                    refine vv_icmp_ge (pc := 254) C 278 dX9_laid_254 (by decide) (fun hc42 => ?_) (fun hc42 => ?_)
                    · replace h := h.1 hc42
                      refine vv_sub [0] (L' := [(0, .ref (vv_q Y 0))]) rfl ?_
                      exact hJk278_17 _ h
                    · replace h := h.2 hc42
                      refine vv_aload_n C 0 dX9_laid_257 rfl rfl ?_
                      refine vv_getr (r := 15) C kc_X9 (s_X9 hY) 15 (by decide) rfl fk_X9_52 dX9_laid_258 ?_
                      refine vv_iload_n C 1 dX9_laid_261 rfl rfl ?_
                      refine vv_aload_n C 0 dX9_laid_262 rfl rfl ?_
                      refine vv_getr (r := 15) C kc_X9 (s_X9 hY) 15 (by decide) rfl fk_X9_52 dX9_laid_263 ?_
                      refine vv_bipush C dX9_laid_266 kb_16 ?_
                      refine vv_iload_n C 1 dX9_laid_268 rfl rfl ?_
                      refine vv_iadd C dX9_laid_269 ?_
                      obtain ⟨hi43, h⟩ := h
                      refine vv_iald C (a_X9_lays hY) hi43 rfl dX9_laid_270 ?_
                      obtain ⟨hi44, h⟩ := h
                      refine vv_iast C (a_X9_lays hY) hi44 rfl dX9_laid_271 (fun σ45 eσ45 => ?_)
                      replace h := h σ45 eσ45
                      obtain ⟨v46, ev46⟩ : ∃ z : Int32, z = v39 + (1 : Int32) := ⟨_, rfl⟩
                      replace h := h v46 ev46
                      refine vv_iinc (v := v46) (L' := [(1, .int v46), (0, .ref (vv_q Y 0))]) C 1 dX9_laid_272 rfl ((kinc ki_1).trans ev46.symm) (by decide) rfl ?_
                      refine vv_goto (pc := 275) (tgt := 251) C dX9_laid_275 (by decide) ?_
                      refine vv_sub [1, 0] (L' := [(0, .ref (vv_q Y 0)), (1, .int v46)]) rfl ?_
                      exact ih2 _ _ h
                refine vv_sub [1, 0] (L' := [(0, .ref (vv_q Y 0)), (1, .int (0 : Int32))]) rfl ?_
                exact hl2 n41 _ _ h
            · obtain ⟨n49, h⟩ := h
              have hl3 : ∀ (n49 : Nat) (v47 : Int32) (σ48 : vv_S), lX9_laid_3 k249_15 n49 v47 σ48 → VJ Y X (va_Qi post (vv_B Y) X.2) 2 168 [(0, .ref (vv_q Y 0)), (1, .int v47)] [] σ48 := by
                clear h
                intro n49
                induction n49 with
                | zero => intro v47 σ48 h; exact False.elim h
                | succ n49 ih3 =>
                  intro v47 σ48 h
                  refine vv_iload_n C 1 dX9_laid_168 rfl rfl ?_
                  refine vv_iconst C dX9_laid_169 ki_4 ?_
                  refine vv_icmp_ge (pc := 170) C 249 dX9_laid_170 (by decide) (fun hc50 => ?_) (fun hc50 => ?_)
                  · replace h := h.1 hc50
                    refine vv_sub [0] (L' := [(0, .ref (vv_q Y 0))]) rfl ?_
                    exact hJk249_15 _ h
                  · replace h := h.2 hc50
                    refine vv_aload_n C 0 dX9_laid_173 rfl rfl ?_
                    refine vv_getr (r := 8) C kc_X9 (s_X9 hY) 8 (by decide) rfl fk_X9_31 dX9_laid_174 ?_
                    refine vv_iload_n C 1 dX9_laid_177 rfl rfl ?_
                    refine vv_aload_n C 0 dX9_laid_178 rfl rfl ?_
                    refine vv_getr (r := 8) C kc_X9 (s_X9 hY) 8 (by decide) rfl fk_X9_31 dX9_laid_179 ?_
                    refine vv_iconst C dX9_laid_182 ki_4 ?_
                    refine vv_iload_n C 1 dX9_laid_183 rfl rfl ?_
                    refine vv_iadd C dX9_laid_184 ?_
                    obtain ⟨hi51, h⟩ := h
                    refine vv_iald C (a_X9_flowFrom hY) hi51 rfl dX9_laid_185 ?_
                    obtain ⟨hi52, h⟩ := h
                    refine vv_iast C (a_X9_flowFrom hY) hi52 rfl dX9_laid_186 (fun σ53 eσ53 => ?_)
                    replace h := h σ53 eσ53
                    refine vv_aload_n C 0 dX9_laid_187 rfl rfl ?_
                    refine vv_getr (r := 9) C kc_X9 (s_X9 hY) 9 (by decide) rfl fk_X9_34 dX9_laid_188 ?_
                    refine vv_iload_n C 1 dX9_laid_191 rfl rfl ?_
                    refine vv_aload_n C 0 dX9_laid_192 rfl rfl ?_
                    refine vv_getr (r := 9) C kc_X9 (s_X9 hY) 9 (by decide) rfl fk_X9_34 dX9_laid_193 ?_
                    refine vv_iconst C dX9_laid_196 ki_4 ?_
                    refine vv_iload_n C 1 dX9_laid_197 rfl rfl ?_
                    refine vv_iadd C dX9_laid_198 ?_
                    obtain ⟨hi54, h⟩ := h
                    refine vv_iald C (a_X9_flowBy hY) hi54 rfl dX9_laid_199 ?_
                    obtain ⟨hi55, h⟩ := h
                    refine vv_iast C (a_X9_flowBy hY) hi55 rfl dX9_laid_200 (fun σ56 eσ56 => ?_)
                    replace h := h σ56 eσ56
                    refine vv_aload_n C 0 dX9_laid_201 rfl rfl ?_
                    refine vv_getr (r := 11) C kc_X9 (s_X9 hY) 11 (by decide) rfl fk_X9_40 dX9_laid_202 ?_
                    refine vv_iload_n C 1 dX9_laid_205 rfl rfl ?_
                    refine vv_aload_n C 0 dX9_laid_206 rfl rfl ?_
                    refine vv_getr (r := 11) C kc_X9 (s_X9 hY) 11 (by decide) rfl fk_X9_40 dX9_laid_207 ?_
                    refine vv_iconst C dX9_laid_210 ki_4 ?_
                    refine vv_iload_n C 1 dX9_laid_211 rfl rfl ?_
                    refine vv_iadd C dX9_laid_212 ?_
                    obtain ⟨hi57, h⟩ := h
                    refine vv_iald C (a_X9_rainFrom hY) hi57 rfl dX9_laid_213 ?_
                    obtain ⟨hi58, h⟩ := h
                    refine vv_iast C (a_X9_rainFrom hY) hi58 rfl dX9_laid_214 (fun σ59 eσ59 => ?_)
                    replace h := h σ59 eσ59
                    refine vv_aload_n C 0 dX9_laid_215 rfl rfl ?_
                    refine vv_getr (r := 12) C kc_X9 (s_X9 hY) 12 (by decide) rfl fk_X9_43 dX9_laid_216 ?_
                    refine vv_iload_n C 1 dX9_laid_219 rfl rfl ?_
                    refine vv_aload_n C 0 dX9_laid_220 rfl rfl ?_
                    refine vv_getr (r := 12) C kc_X9 (s_X9 hY) 12 (by decide) rfl fk_X9_43 dX9_laid_221 ?_
                    refine vv_iconst C dX9_laid_224 ki_4 ?_
                    refine vv_iload_n C 1 dX9_laid_225 rfl rfl ?_
                    refine vv_iadd C dX9_laid_226 ?_
                    obtain ⟨hi60, h⟩ := h
                    refine vv_iald C (a_X9_rainTo hY) hi60 rfl dX9_laid_227 ?_
                    obtain ⟨hi61, h⟩ := h
                    refine vv_iast C (a_X9_rainTo hY) hi61 rfl dX9_laid_228 (fun σ62 eσ62 => ?_)
                    replace h := h σ62 eσ62
                    refine vv_aload_n C 0 dX9_laid_229 rfl rfl ?_
                    refine vv_getr (r := 13) C kc_X9 (s_X9 hY) 13 (by decide) rfl fk_X9_46 dX9_laid_230 ?_
                    refine vv_iload_n C 1 dX9_laid_233 rfl rfl ?_
                    refine vv_aload_n C 0 dX9_laid_234 rfl rfl ?_
                    refine vv_getr (r := 13) C kc_X9 (s_X9 hY) 13 (by decide) rfl fk_X9_46 dX9_laid_235 ?_
                    refine vv_iconst C dX9_laid_238 ki_4 ?_
                    refine vv_iload_n C 1 dX9_laid_239 rfl rfl ?_
                    refine vv_iadd C dX9_laid_240 ?_
                    obtain ⟨hi63, h⟩ := h
                    refine vv_iald C (a_X9_rainBy hY) hi63 rfl dX9_laid_241 ?_
                    obtain ⟨hi64, h⟩ := h
                    refine vv_iast C (a_X9_rainBy hY) hi64 rfl dX9_laid_242 (fun σ65 eσ65 => ?_)
                    replace h := h σ65 eσ65
                    obtain ⟨v66, ev66⟩ : ∃ z : Int32, z = v47 + (1 : Int32) := ⟨_, rfl⟩
                    replace h := h v66 ev66
                    refine vv_iinc (v := v66) (L' := [(1, .int v66), (0, .ref (vv_q Y 0))]) C 1 dX9_laid_243 rfl ((kinc ki_1).trans ev66.symm) (by decide) rfl ?_
                    refine vv_goto (pc := 246) (tgt := 168) C dX9_laid_246 (by decide) ?_
                    refine vv_sub [1, 0] (L' := [(0, .ref (vv_q Y 0)), (1, .int v66)]) rfl ?_
                    exact ih3 _ _ h
              refine vv_sub [1, 0] (L' := [(0, .ref (vv_q Y 0)), (1, .int (0 : Int32))]) rfl ?_
              exact hl3 n49 _ _ h
          · obtain ⟨n69, h⟩ := h
            have hl4 : ∀ (n69 : Nat) (v67 : Int32) (σ68 : vv_S), lX9_laid_4 k166_13 n69 v67 σ68 → VJ Y X (va_Qi post (vv_B Y) X.2) 2 124 [(0, .ref (vv_q Y 0)), (1, .int v67)] [] σ68 := by
              clear h
              intro n69
              induction n69 with
              | zero => intro v67 σ68 h; exact False.elim h
              | succ n69 ih4 =>
                intro v67 σ68 h
                refine vv_iload_n C 1 dX9_laid_124 rfl rfl ?_
                refine vv_bipush C dX9_laid_125 kb_8 ?_
                refine vv_icmp_ge (pc := 127) C 166 dX9_laid_127 (by decide) (fun hc70 => ?_) (fun hc70 => ?_)
                · replace h := h.1 hc70
                  refine vv_sub [0] (L' := [(0, .ref (vv_q Y 0))]) rfl ?_
                  exact hJk166_13 _ h
                · replace h := h.2 hc70
                  refine vv_aload_n C 0 dX9_laid_130 rfl rfl ?_
                  refine vv_getr (r := 3) C kc_X9 (s_X9 hY) 3 (by decide) rfl fk_X9_16 dX9_laid_131 ?_
                  refine vv_iload_n C 1 dX9_laid_134 rfl rfl ?_
                  refine vv_aload_n C 0 dX9_laid_135 rfl rfl ?_
                  refine vv_getr (r := 3) C kc_X9 (s_X9 hY) 3 (by decide) rfl fk_X9_16 dX9_laid_136 ?_
                  refine vv_bipush C dX9_laid_139 kb_8 ?_
                  refine vv_iload_n C 1 dX9_laid_141 rfl rfl ?_
                  refine vv_iadd C dX9_laid_142 ?_
                  obtain ⟨hi71, h⟩ := h
                  refine vv_iald C (a_X9_tall hY) hi71 rfl dX9_laid_143 ?_
                  obtain ⟨hi72, h⟩ := h
                  refine vv_iast C (a_X9_tall hY) hi72 rfl dX9_laid_144 (fun σ73 eσ73 => ?_)
                  replace h := h σ73 eσ73
                  refine vv_aload_n C 0 dX9_laid_145 rfl rfl ?_
                  refine vv_getr (r := 4) C kc_X9 (s_X9 hY) 4 (by decide) rfl fk_X9_19 dX9_laid_146 ?_
                  refine vv_iload_n C 1 dX9_laid_149 rfl rfl ?_
                  refine vv_aload_n C 0 dX9_laid_150 rfl rfl ?_
                  refine vv_getr (r := 4) C kc_X9 (s_X9 hY) 4 (by decide) rfl fk_X9_19 dX9_laid_151 ?_
                  refine vv_bipush C dX9_laid_154 kb_8 ?_
                  refine vv_iload_n C 1 dX9_laid_156 rfl rfl ?_
                  refine vv_iadd C dX9_laid_157 ?_
                  obtain ⟨hi74, h⟩ := h
                  refine vv_iald C (a_X9_stuffs hY) hi74 rfl dX9_laid_158 ?_
                  obtain ⟨hi75, h⟩ := h
                  refine vv_iast C (a_X9_stuffs hY) hi75 rfl dX9_laid_159 (fun σ76 eσ76 => ?_)
                  replace h := h σ76 eσ76
                  obtain ⟨v77, ev77⟩ : ∃ z : Int32, z = v67 + (1 : Int32) := ⟨_, rfl⟩
                  replace h := h v77 ev77
                  refine vv_iinc (v := v77) (L' := [(1, .int v77), (0, .ref (vv_q Y 0))]) C 1 dX9_laid_160 rfl ((kinc ki_1).trans ev77.symm) (by decide) rfl ?_
                  refine vv_goto (pc := 163) (tgt := 124) C dX9_laid_163 (by decide) ?_
                  refine vv_sub [1, 0] (L' := [(0, .ref (vv_q Y 0)), (1, .int v77)]) rfl ?_
                  exact ih4 _ _ h
            refine vv_sub [1, 0] (L' := [(0, .ref (vv_q Y 0)), (1, .int (0 : Int32))]) rfl ?_
            exact hl4 n69 _ _ h
        · obtain ⟨n80, h⟩ := h
          have hl5 : ∀ (n80 : Nat) (v78 : Int32) (σ79 : vv_S), lX9_laid_5 k122_11 n80 v78 σ79 → VJ Y X (va_Qi post (vv_B Y) X.2) 2 83 [(0, .ref (vv_q Y 0)), (1, .int v78)] [] σ79 := by
            clear h
            intro n80
            induction n80 with
            | zero => intro v78 σ79 h; exact False.elim h
            | succ n80 ih5 =>
              intro v78 σ79 h
              refine vv_iload_n C 1 dX9_laid_83 rfl rfl ?_
              refine vv_iconst C dX9_laid_84 ki_2 ?_
              refine vv_icmp_ge (pc := 85) C 122 dX9_laid_85 (by decide) (fun hc81 => ?_) (fun hc81 => ?_)
              · replace h := h.1 hc81
                refine vv_sub [0] (L' := [(0, .ref (vv_q Y 0))]) rfl ?_
                exact hJk122_11 _ h
              · replace h := h.2 hc81
                refine vv_aload_n C 0 dX9_laid_88 rfl rfl ?_
                refine vv_getr (r := 5) C kc_X9 (s_X9 hY) 5 (by decide) rfl fk_X9_22 dX9_laid_89 ?_
                refine vv_iload_n C 1 dX9_laid_92 rfl rfl ?_
                refine vv_aload_n C 0 dX9_laid_93 rfl rfl ?_
                refine vv_getr (r := 5) C kc_X9 (s_X9 hY) 5 (by decide) rfl fk_X9_22 dX9_laid_94 ?_
                refine vv_iconst C dX9_laid_97 ki_2 ?_
                refine vv_iload_n C 1 dX9_laid_98 rfl rfl ?_
                refine vv_iadd C dX9_laid_99 ?_
                obtain ⟨hi82, h⟩ := h
                refine vv_iald C (a_X9_banks hY) hi82 rfl dX9_laid_100 ?_
                obtain ⟨hi83, h⟩ := h
                refine vv_iast C (a_X9_banks hY) hi83 rfl dX9_laid_101 (fun σ84 eσ84 => ?_)
                replace h := h σ84 eσ84
                refine vv_aload_n C 0 dX9_laid_102 rfl rfl ?_
                refine vv_getr (r := 6) C kc_X9 (s_X9 hY) 6 (by decide) rfl fk_X9_25 dX9_laid_103 ?_
                refine vv_iload_n C 1 dX9_laid_106 rfl rfl ?_
                refine vv_aload_n C 0 dX9_laid_107 rfl rfl ?_
                refine vv_getr (r := 6) C kc_X9 (s_X9 hY) 6 (by decide) rfl fk_X9_25 dX9_laid_108 ?_
                refine vv_iconst C dX9_laid_111 ki_2 ?_
                refine vv_iload_n C 1 dX9_laid_112 rfl rfl ?_
                refine vv_iadd C dX9_laid_113 ?_
                obtain ⟨hi85, h⟩ := h
                refine vv_iald C (a_X9_basin hY) hi85 rfl dX9_laid_114 ?_
                obtain ⟨hi86, h⟩ := h
                refine vv_iast C (a_X9_basin hY) hi86 rfl dX9_laid_115 (fun σ87 eσ87 => ?_)
                replace h := h σ87 eσ87
                obtain ⟨v88, ev88⟩ : ∃ z : Int32, z = v78 + (1 : Int32) := ⟨_, rfl⟩
                replace h := h v88 ev88
                refine vv_iinc (v := v88) (L' := [(1, .int v88), (0, .ref (vv_q Y 0))]) C 1 dX9_laid_116 rfl ((kinc ki_1).trans ev88.symm) (by decide) rfl ?_
                refine vv_goto (pc := 119) (tgt := 83) C dX9_laid_119 (by decide) ?_
                refine vv_sub [1, 0] (L' := [(0, .ref (vv_q Y 0)), (1, .int v88)]) rfl ?_
                exact ih5 _ _ h
          refine vv_sub [1, 0] (L' := [(0, .ref (vv_q Y 0)), (1, .int (0 : Int32))]) rfl ?_
          exact hl5 n80 _ _ h
      · replace h := h.2 hc5
        refine vv_sub [] (L' := []) rfl ?_
        exact hJk18_2 h
set_option maxHeartbeats 2000000 in
set_option maxRecDepth 100000 in
theorem mX9_isCell {Y : vv_Y} (hY : Y.2.2.2.2 = wM) {a1 : Int32} {σ : vv_S} {post : Int32 → vv_S → Prop} (h : wX9_isCell a1 σ post) : vv_MI Y yX9_isCell cX9_isCell 2 (some .boolean) 1 25 [.ref (vv_q Y 0), .int a1] σ post := by
  refine vv_ofI (by decide) (Nat.le_of_ble_eq_true rfl) (fun X C => ?_)
  have C : VC Y X RX9 cX9_isCell 2 (some .boolean) 1 25 := C
  refine vv_sub [0, 1] (L' := [(0, .ref (vv_q Y 0)), (1, .int a1)]) rfl ?_
  refine vv_iload_n C 1 dX9_isCell_0 rfl rfl ?_
  refine vv_i2l C dX9_isCell_1 ?_
  refine vv_lconst (v := 0) C dX9_isCell_2 (by decide) ?_
  refine vv_aload_n C 0 dX9_isCell_3 rfl rfl ?_
  refine vv_getr (r := 2) C kc_X9 (s_X9 hY) 2 (by decide) rfl fk_X9_13 dX9_isCell_4 ?_
  refine vv_iconst C dX9_isCell_7 ki_0 ?_
  refine vv_iald C (a_X9_cells hY) kv_0_2 kn_0 dX9_isCell_8 ?_
  refine vv_iconst C dX9_isCell_9 ki_1 ?_
  refine vv_isub C dX9_isCell_10 ?_
  refine vv_i2l C dX9_isCell_11 ?_
  refine vv_callS (rest := []) C yk_X9_in sk_X9_in lk_X9_138 dX9_isCell_12 (mX9_in hY h) rfl rfl ⟨Nat.le_of_ble_eq_true rfl, Nat.le_of_ble_eq_true rfl⟩ (Nat.le_of_ble_eq_true rfl) (fun r2 σ1 h => ?_)
  exact vv_zret C h.1 dX9_isCell_15 h.2
set_option maxHeartbeats 2000000 in
set_option maxRecDepth 100000 in
theorem mX9_tryIt {Y : vv_Y} (hY : Y.2.2.2.2 = wM)  {σ : vv_S} {post : vv_S → Prop} (h : wX9_tryIt σ post) : vv_MV Y yX9_tryIt cX9_tryIt 2 none 0 0 [.ref (vv_q Y 0)] σ post := by
  refine vv_ofV (by decide) (Nat.le_of_ble_eq_true rfl) (fun X C => ?_)
  have C : VC Y X RX9 cX9_tryIt 2 none 0 0 := C
  refine vv_sub [0] (L' := [(0, .ref (vv_q Y 0))]) rfl ?_
  refine vv_iconst C dX9_tryIt_0 ki_0 ?_
  refine vv_istore_n (L' := [(1, .int (0 : Int32)), (0, .ref (vv_q Y 0))]) C dX9_tryIt_1 rfl (by decide) rfl ?_
  refine vv_join (fun k => ∀ (σ1 : vv_S), k σ1 → VJ Y X (va_Qv post (vv_B Y) X.2) 2 59 [(0, .ref (vv_q Y 0))] [] σ1) h (fun σ1 h => ?_) (fun k59_1 hJk59_1 h => ?_)
  · refine vv_aload_n C 0 dX9_tryIt_59 rfl rfl ?_
    refine vv_getr (r := 31) C kc_X9 (s_X9 hY) 34 (by decide) rfl fk_X9_100 dX9_tryIt_60 ?_
    refine vv_iconst C dX9_tryIt_63 ki_1 ?_
    refine vv_aload_n C 0 dX9_tryIt_64 rfl rfl ?_
    refine vv_getr (r := 31) C kc_X9 (s_X9 hY) 34 (by decide) rfl fk_X9_100 dX9_tryIt_65 ?_
    refine vv_iconst C dX9_tryIt_68 ki_0 ?_
    refine vv_iald C (a_X9_water hY) kv_0_2 kn_0 dX9_tryIt_69 ?_
    refine vv_iast C (a_X9_water hY) kv_1_2 kn_1 dX9_tryIt_70 (fun σ3 eσ3 => ?_)
    replace h := h σ3 eσ3
    refine vv_aload_n C 0 dX9_tryIt_71 rfl rfl ?_
    refine vv_getr (r := 32) C kc_X9 (s_X9 hY) 35 (by decide) rfl fk_X9_103 dX9_tryIt_72 ?_
    refine vv_iconst C dX9_tryIt_75 ki_1 ?_
    refine vv_aload_n C 0 dX9_tryIt_76 rfl rfl ?_
    refine vv_getr (r := 32) C kc_X9 (s_X9 hY) 35 (by decide) rfl fk_X9_103 dX9_tryIt_77 ?_
    refine vv_iconst C dX9_tryIt_80 ki_0 ?_
    refine vv_iald C (a_X9_minutes hY) kv_0_2 kn_0 dX9_tryIt_81 ?_
    refine vv_iast C (a_X9_minutes hY) kv_1_2 kn_1 dX9_tryIt_82 (fun σ4 eσ4 => ?_)
    replace h := h σ4 eσ4
    refine vv_aload_n C 0 dX9_tryIt_83 rfl rfl ?_
    refine vv_getr (r := 33) C kc_X9 (s_X9 hY) 36 (by decide) rfl fk_X9_106 dX9_tryIt_84 ?_
    refine vv_iconst C dX9_tryIt_87 ki_1 ?_
    refine vv_aload_n C 0 dX9_tryIt_88 rfl rfl ?_
    refine vv_getr (r := 33) C kc_X9 (s_X9 hY) 36 (by decide) rfl fk_X9_106 dX9_tryIt_89 ?_
    refine vv_iconst C dX9_tryIt_92 ki_0 ?_
    refine vv_iald C (a_X9_overAll hY) kv_0_2 kn_0 dX9_tryIt_93 ?_
    refine vv_iast C (a_X9_overAll hY) kv_1_2 kn_1 dX9_tryIt_94 (fun σ5 eσ5 => ?_)
    replace h := h σ5 eσ5
    refine vv_aload_n C 0 dX9_tryIt_95 rfl rfl ?_
    refine vv_getr (r := 34) C kc_X9 (s_X9 hY) 37 (by decide) rfl fk_X9_109 dX9_tryIt_96 ?_
    refine vv_iconst C dX9_tryIt_99 ki_1 ?_
    refine vv_aload_n C 0 dX9_tryIt_100 rfl rfl ?_
    refine vv_getr (r := 34) C kc_X9 (s_X9 hY) 37 (by decide) rfl fk_X9_109 dX9_tryIt_101 ?_
    refine vv_iconst C dX9_tryIt_104 ki_0 ?_
    refine vv_iald C (a_X9_seepAll hY) kv_0_2 kn_0 dX9_tryIt_105 ?_
    refine vv_iast C (a_X9_seepAll hY) kv_1_2 kn_1 dX9_tryIt_106 (fun σ6 eσ6 => ?_)
    replace h := h σ6 eσ6
    exact vv_vret C dX9_tryIt_107 h
  · obtain ⟨n9, h⟩ := h
    have hl1 : ∀ (n9 : Nat) (v7 : Int32) (σ8 : vv_S), lX9_tryIt_1 k59_1 n9 v7 σ8 → VJ Y X (va_Qv post (vv_B Y) X.2) 2 2 [(0, .ref (vv_q Y 0)), (1, .int v7)] [] σ8 := by
      clear h
      intro n9
      induction n9 with
      | zero => intro v7 σ8 h; exact False.elim h
      | succ n9 ih1 =>
        intro v7 σ8 h
        refine vv_iload_n C 1 dX9_tryIt_2 rfl rfl ?_
        refine vv_bipush C dX9_tryIt_3 kb_8 ?_
        refine vv_icmp_ge (pc := 5) C 59 dX9_tryIt_5 (by decide) (fun hc10 => ?_) (fun hc10 => ?_)
        · replace h := h.1 hc10
          refine vv_sub [0] (L' := [(0, .ref (vv_q Y 0))]) rfl ?_
          exact hJk59_1 _ h
        · replace h := h.2 hc10
          refine vv_aload_n C 0 dX9_tryIt_8 rfl rfl ?_
          refine vv_getr (r := 28) C kc_X9 (s_X9 hY) 31 (by decide) rfl fk_X9_91 dX9_tryIt_9 ?_
          refine vv_bipush C dX9_tryIt_12 kb_8 ?_
          refine vv_iload_n C 1 dX9_tryIt_14 rfl rfl ?_
          refine vv_iadd C dX9_tryIt_15 ?_
          refine vv_aload_n C 0 dX9_tryIt_16 rfl rfl ?_
          refine vv_getr (r := 28) C kc_X9 (s_X9 hY) 31 (by decide) rfl fk_X9_91 dX9_tryIt_17 ?_
          refine vv_iload_n C 1 dX9_tryIt_20 rfl rfl ?_
          obtain ⟨hi11, h⟩ := h
          refine vv_iald C (a_X9_high hY) hi11 rfl dX9_tryIt_21 ?_
          obtain ⟨hi12, h⟩ := h
          refine vv_iast C (a_X9_high hY) hi12 rfl dX9_tryIt_22 (fun σ13 eσ13 => ?_)
          replace h := h σ13 eσ13
          refine vv_aload_n C 0 dX9_tryIt_23 rfl rfl ?_
          refine vv_getr (r := 29) C kc_X9 (s_X9 hY) 32 (by decide) rfl fk_X9_94 dX9_tryIt_24 ?_
          refine vv_bipush C dX9_tryIt_27 kb_8 ?_
          refine vv_iload_n C 1 dX9_tryIt_29 rfl rfl ?_
          refine vv_iadd C dX9_tryIt_30 ?_
          refine vv_aload_n C 0 dX9_tryIt_31 rfl rfl ?_
          refine vv_getr (r := 29) C kc_X9 (s_X9 hY) 32 (by decide) rfl fk_X9_94 dX9_tryIt_32 ?_
          refine vv_iload_n C 1 dX9_tryIt_35 rfl rfl ?_
          obtain ⟨hi14, h⟩ := h
          refine vv_iald C (a_X9_of hY) hi14 rfl dX9_tryIt_36 ?_
          obtain ⟨hi15, h⟩ := h
          refine vv_iast C (a_X9_of hY) hi15 rfl dX9_tryIt_37 (fun σ16 eσ16 => ?_)
          replace h := h σ16 eσ16
          refine vv_aload_n C 0 dX9_tryIt_38 rfl rfl ?_
          refine vv_getr (r := 30) C kc_X9 (s_X9 hY) 33 (by decide) rfl fk_X9_97 dX9_tryIt_39 ?_
          refine vv_bipush C dX9_tryIt_42 kb_8 ?_
          refine vv_iload_n C 1 dX9_tryIt_44 rfl rfl ?_
          refine vv_iadd C dX9_tryIt_45 ?_
          refine vv_aload_n C 0 dX9_tryIt_46 rfl rfl ?_
          refine vv_getr (r := 30) C kc_X9 (s_X9 hY) 33 (by decide) rfl fk_X9_97 dX9_tryIt_47 ?_
          refine vv_iload_n C 1 dX9_tryIt_50 rfl rfl ?_
          obtain ⟨hi17, h⟩ := h
          refine vv_iald C (a_X9_breached hY) hi17 rfl dX9_tryIt_51 ?_
          obtain ⟨hi18, h⟩ := h
          refine vv_iast C (a_X9_breached hY) hi18 rfl dX9_tryIt_52 (fun σ19 eσ19 => ?_)
          replace h := h σ19 eσ19
          obtain ⟨v20, ev20⟩ : ∃ z : Int32, z = v7 + (1 : Int32) := ⟨_, rfl⟩
          replace h := h v20 ev20
          refine vv_iinc (v := v20) (L' := [(1, .int v20), (0, .ref (vv_q Y 0))]) C 1 dX9_tryIt_53 rfl ((kinc ki_1).trans ev20.symm) (by decide) rfl ?_
          refine vv_goto (pc := 56) (tgt := 2) C dX9_tryIt_56 (by decide) ?_
          refine vv_sub [1, 0] (L' := [(0, .ref (vv_q Y 0)), (1, .int v20)]) rfl ?_
          exact ih1 _ _ h
    refine vv_sub [1, 0] (L' := [(0, .ref (vv_q Y 0)), (1, .int (0 : Int32))]) rfl ?_
    exact hl1 n9 _ _ h
set_option maxHeartbeats 2000000 in
set_option maxRecDepth 100000 in
theorem mX9_cell {Y : vv_Y} (hY : Y.2.2.2.2 = wM) {a1 : Int32} {a2 : Int32} {σ : vv_S} {post : Int32 → vv_S → Prop} (h : wX9_cell a1 a2 σ post) : vv_MI Y yX9_cell cX9_cell 3 (some .int) 2 46 [.ref (vv_q Y 0), .int a1, .int a2] σ post := by
  refine vv_ofI (by decide) (Nat.le_of_ble_eq_true rfl) (fun X C => ?_)
  have C : VC Y X RX9 cX9_cell 3 (some .int) 2 46 := C
  refine vv_sub [0, 1, 2] (L' := [(0, .ref (vv_q Y 0)), (1, .int a1), (2, .int a2)]) rfl ?_
  refine vv_aload_n C 0 dX9_cell_0 rfl rfl ?_
  refine vv_iload_n C 1 dX9_cell_1 rfl rfl ?_
  refine vv_callI (rest := []) C yk_X9_isCell vk_X9_isCell lk_X9_237 kc_X9.1 (s_X9 hY) dX9_cell_2 (mX9_isCell hY h) rfl rfl ⟨Nat.le_of_ble_eq_true rfl, Nat.le_of_ble_eq_true rfl⟩ (Nat.le_of_ble_eq_true rfl) (fun r2 σ1 h => ?_)
  refine vv_join (fun k => ∀ (σ3 : vv_S), k σ3 → VJ Y X (va_Qi post (vv_B Y) X.2) 3 20 [] [] σ3) h (fun σ3 h => ?_) (fun k20_3 hJk20_3 h => ?_)
  · refine vv_iconst C dX9_cell_20 ki_m1 ?_
    exact vv_iret C dX9_cell_21 h
  · refine vv_if_eq (pc := 5) C 20 dX9_cell_5 (by decide) (fun hc5 => ?_) (fun hc5 => ?_)
    · replace h := h.1 hc5
      refine vv_sub [] (L' := []) rfl ?_
      exact hJk20_3 _ h
    · replace h := h.2 hc5
      refine vv_iload_n C 2 dX9_cell_8 rfl rfl ?_
      refine vv_i2l C dX9_cell_9 ?_
      refine vv_lconst (v := 0) C dX9_cell_10 (by decide) ?_
      refine vv_ldc2 C lc_X9_157 dX9_cell_11 ?_
      refine vv_callS (rest := []) C yk_X9_in sk_X9_in lk_X9_138 dX9_cell_14 (mX9_in hY h) rfl rfl ⟨Nat.le_of_ble_eq_true rfl, Nat.le_of_ble_eq_true rfl⟩ (Nat.le_of_ble_eq_true rfl) (fun r7 σ6 h => ?_)
      refine vv_if_ne (pc := 17) C 22 dX9_cell_17 (by decide) (fun hc8 => ?_) (fun hc8 => ?_)
      · replace h := h.1 hc8
        refine vv_iload_n C 2 dX9_cell_22 rfl rfl ?_
        refine vv_join (fun k => ∀ (v9 : Int32), k v9 → VJ Y X (va_Qi post (vv_B Y) X.2) 3 55 [] [.int v9] σ6) h (fun v9 h => ?_) (fun k55_9 hJk55_9 h => ?_)
        · exact vv_iret C dX9_cell_55 h
        · refine vv_if_ne (pc := 23) C 35 dX9_cell_23 (by decide) (fun hc11 => ?_) (fun hc11 => ?_)
          · replace h := h.1 hc11
            refine vv_iload_n C 2 dX9_cell_35 rfl rfl ?_
            refine vv_iconst C dX9_cell_36 ki_1 ?_
            refine vv_icmp_ne (pc := 37) C 49 dX9_cell_37 (by decide) (fun hc12 => ?_) (fun hc12 => ?_)
            · replace h := h.1 hc12
              refine vv_aload_n C 0 dX9_cell_49 rfl rfl ?_
              refine vv_getr (r := 30) C kc_X9 (s_X9 hY) 33 (by decide) rfl fk_X9_97 dX9_cell_50 ?_
              refine vv_iload_n C 1 dX9_cell_53 rfl rfl ?_
              obtain ⟨hi13, h⟩ := h
              refine vv_iald C (a_X9_breached hY) hi13 rfl dX9_cell_54 ?_
              refine vv_sub [] (L' := []) rfl ?_
              exact hJk55_9 _ h
            · replace h := h.2 hc12
              refine vv_aload_n C 0 dX9_cell_40 rfl rfl ?_
              refine vv_getr (r := 29) C kc_X9 (s_X9 hY) 32 (by decide) rfl fk_X9_94 dX9_cell_41 ?_
              refine vv_iload_n C 1 dX9_cell_44 rfl rfl ?_
              obtain ⟨hi14, h⟩ := h
              refine vv_iald C (a_X9_of hY) hi14 rfl dX9_cell_45 ?_
              refine vv_goto (pc := 46) (tgt := 55) C dX9_cell_46 (by decide) ?_
              refine vv_sub [] (L' := []) rfl ?_
              exact hJk55_9 _ h
          · replace h := h.2 hc11
            refine vv_aload_n C 0 dX9_cell_26 rfl rfl ?_
            refine vv_getr (r := 28) C kc_X9 (s_X9 hY) 31 (by decide) rfl fk_X9_91 dX9_cell_27 ?_
            refine vv_iload_n C 1 dX9_cell_30 rfl rfl ?_
            obtain ⟨hi15, h⟩ := h
            refine vv_iald C (a_X9_high hY) hi15 rfl dX9_cell_31 ?_
            refine vv_goto (pc := 32) (tgt := 55) C dX9_cell_32 (by decide) ?_
            refine vv_sub [] (L' := []) rfl ?_
            exact hJk55_9 _ h
      · replace h := h.2 hc8
        refine vv_sub [] (L' := []) rfl ?_
        exact hJk20_3 _ h
set_option maxHeartbeats 2000000 in
set_option maxRecDepth 100000 in
theorem mX9_lake {Y : vv_Y} (hY : Y.2.2.2.2 = wM) {a1 : Int32} {σ : vv_S} {post : Int32 → vv_S → Prop} (h : wX9_lake a1 σ post) : vv_MI Y yX9_lake cX9_lake 2 (some .int) 2 45 [.ref (vv_q Y 0), .int a1] σ post := by
  refine vv_ofI (by decide) (Nat.le_of_ble_eq_true rfl) (fun X C => ?_)
  have C : VC Y X RX9 cX9_lake 2 (some .int) 2 45 := C
  refine vv_sub [0, 1] (L' := [(0, .ref (vv_q Y 0)), (1, .int a1)]) rfl ?_
  refine vv_iload_n C 1 dX9_lake_0 rfl rfl ?_
  by_cases hc1 : a1 = (0 : Int32)
  · replace h := h.1 hc1
    refine vv_tab (pc := 1) C 36 dX9_lake_1 hc1 (by decide) (by decide) rfl (by decide) ?_
    refine vv_aload_n C 0 dX9_lake_36 rfl rfl ?_
    refine vv_aload_n C 0 dX9_lake_37 rfl rfl ?_
    refine vv_getr (r := 31) C kc_X9 (s_X9 hY) 34 (by decide) rfl fk_X9_100 dX9_lake_38 ?_
    refine vv_iconst C dX9_lake_41 ki_0 ?_
    refine vv_iald C (a_X9_water hY) kv_0_2 kn_0 dX9_lake_42 ?_
    refine vv_callI (rest := []) C yk_X9_levelOf vk_X9_levelOf lk_X9_208 kc_X9.1 (s_X9 hY) dX9_lake_43 (mX9_levelOf hY h) rfl rfl ⟨Nat.le_of_ble_eq_true rfl, Nat.le_of_ble_eq_true rfl⟩ (Nat.le_of_ble_eq_true rfl) (fun r3 σ2 h => ?_)
    exact vv_iret C dX9_lake_46 h
  replace h := h.2
  by_cases hc4 : a1 = (1 : Int32)
  · replace h := h.1 hc4
    refine vv_tab (pc := 1) C 47 dX9_lake_1 hc4 (by decide) (by decide) rfl (by decide) ?_
    refine vv_aload_n C 0 dX9_lake_47 rfl rfl ?_
    refine vv_getr (r := 31) C kc_X9 (s_X9 hY) 34 (by decide) rfl fk_X9_100 dX9_lake_48 ?_
    refine vv_iconst C dX9_lake_51 ki_0 ?_
    refine vv_iald C (a_X9_water hY) kv_0_2 kn_0 dX9_lake_52 ?_
    exact vv_iret C dX9_lake_53 h
  replace h := h.2
  by_cases hc5 : a1 = (2 : Int32)
  · replace h := h.1 hc5
    refine vv_tab (pc := 1) C 54 dX9_lake_1 hc5 (by decide) (by decide) rfl (by decide) ?_
    refine vv_aload_n C 0 dX9_lake_54 rfl rfl ?_
    refine vv_getr (r := 32) C kc_X9 (s_X9 hY) 35 (by decide) rfl fk_X9_103 dX9_lake_55 ?_
    refine vv_iconst C dX9_lake_58 ki_0 ?_
    refine vv_iald C (a_X9_minutes hY) kv_0_2 kn_0 dX9_lake_59 ?_
    exact vv_iret C dX9_lake_60 h
  replace h := h.2
  by_cases hc6 : a1 = (3 : Int32)
  · replace h := h.1 hc6
    refine vv_tab (pc := 1) C 61 dX9_lake_1 hc6 (by decide) (by decide) rfl (by decide) ?_
    refine vv_aload_n C 0 dX9_lake_61 rfl rfl ?_
    refine vv_getr (r := 33) C kc_X9 (s_X9 hY) 36 (by decide) rfl fk_X9_106 dX9_lake_62 ?_
    refine vv_iconst C dX9_lake_65 ki_0 ?_
    refine vv_iald C (a_X9_overAll hY) kv_0_2 kn_0 dX9_lake_66 ?_
    exact vv_iret C dX9_lake_67 h
  replace h := h.2
  by_cases hc7 : a1 = (4 : Int32)
  · replace h := h.1 hc7
    refine vv_tab (pc := 1) C 68 dX9_lake_1 hc7 (by decide) (by decide) rfl (by decide) ?_
    refine vv_aload_n C 0 dX9_lake_68 rfl rfl ?_
    refine vv_getr (r := 34) C kc_X9 (s_X9 hY) 37 (by decide) rfl fk_X9_109 dX9_lake_69 ?_
    refine vv_iconst C dX9_lake_72 ki_0 ?_
    refine vv_iald C (a_X9_seepAll hY) kv_0_2 kn_0 dX9_lake_73 ?_
    exact vv_iret C dX9_lake_74 h
  replace h := h.2
  replace h := h ⟨hc1, hc4, hc5, hc6, hc7⟩
  have hgap : ∀ n : Nat, n < 5 → ((#[35, 46, 53, 60, 67] : Array Int)[n]? = some (74) ∨ ((0 : Int) + n = 0 ∨ (0 : Int) + n = 1 ∨ (0 : Int) + n = 2 ∨ (0 : Int) + n = 3 ∨ (0 : Int) + n = 4)) := by decide
  refine vv_tabD (pc := 1) C 75 dX9_lake_1 (fun n hn hx => by
      rcases hgap n (by omega) with h9 | h9
      · exact h9
      · exfalso; have nhc1 := lv_neT (a := 0) hc1 (by decide); have nhc4 := lv_neT (a := 1) hc4 (by decide); have nhc5 := lv_neT (a := 2) hc5 (by decide); have nhc6 := lv_neT (a := 3) hc6 (by decide); have nhc7 := lv_neT (a := 4) hc7 (by decide); omega) (by decide) ?_
  refine vv_iconst C dX9_lake_75 ki_m1 ?_
  exact vv_iret C dX9_lake_76 h
set_option maxHeartbeats 2000000 in
set_option maxRecDepth 100000 in
theorem mX9_edge {Y : vv_Y} (hY : Y.2.2.2.2 = wM) {a1 : Int32} {σ : vv_S} {post : Int32 → vv_S → Prop} (h : wX9_edge a1 σ post) : vv_MI Y yX9_edge cX9_edge 2 (some .int) 2 46 [.ref (vv_q Y 0), .int a1] σ post := by
  refine vv_ofI (by decide) (Nat.le_of_ble_eq_true rfl) (fun X C => ?_)
  have C : VC Y X RX9 cX9_edge 2 (some .int) 2 46 := C
  refine vv_sub [0, 1] (L' := [(0, .ref (vv_q Y 0)), (1, .int a1)]) rfl ?_
  refine vv_iload_n C 1 dX9_edge_0 rfl rfl ?_
  refine vv_i2l C dX9_edge_1 ?_
  refine vv_lconst (v := 0) C dX9_edge_2 (by decide) ?_
  refine vv_lconst (v := 1) C dX9_edge_3 (by decide) ?_
  refine vv_callS (rest := []) C yk_X9_in sk_X9_in lk_X9_138 dX9_edge_4 (mX9_in hY h) rfl rfl ⟨Nat.le_of_ble_eq_true rfl, Nat.le_of_ble_eq_true rfl⟩ (Nat.le_of_ble_eq_true rfl) (fun r2 σ1 h => ?_)
  refine vv_join (fun k => ∀ (v3 : Int32) (σ4 : vv_S), k v3 σ4 → VJ Y X (va_Qi post (vv_B Y) X.2) 2 31 [] [.int v3] σ4) h (fun v3 σ4 h => ?_) (fun k31_4 hJk31_4 h => ?_)
  · exact vv_iret C dX9_edge_31 h
  · refine vv_if_ne (pc := 7) C 14 dX9_edge_7 (by decide) (fun hc6 => ?_) (fun hc6 => ?_)
    · replace h := h.1 hc6
      refine vv_iload_n C 1 dX9_edge_14 rfl rfl ?_
      refine vv_if_ne (pc := 15) C 26 dX9_edge_15 (by decide) (fun hc7 => ?_) (fun hc7 => ?_)
      · replace h := h.1 hc7
        refine vv_aload_n C 0 dX9_edge_26 rfl rfl ?_
        refine vv_iconst C dX9_edge_27 ki_0 ?_
        refine vv_callI (rest := []) C yk_X9_placeOf vk_X9_placeOf lk_X9_214 kc_X9.1 (s_X9 hY) dX9_edge_28 (mX9_placeOf hY h) rfl rfl ⟨Nat.le_of_ble_eq_true rfl, Nat.le_of_ble_eq_true rfl⟩ (Nat.le_of_ble_eq_true rfl) (fun r9 σ8 h => ?_)
        refine vv_sub [] (L' := []) rfl ?_
        exact hJk31_4 _ _ h
      · replace h := h.2 hc7
        refine vv_aload_n C 0 dX9_edge_18 rfl rfl ?_
        refine vv_iconst C dX9_edge_19 ki_0 ?_
        refine vv_callI (rest := []) C yk_X9_edgeOf vk_X9_edgeOf lk_X9_199 kc_X9.1 (s_X9 hY) dX9_edge_20 (mX9_edgeOf hY h) rfl rfl ⟨Nat.le_of_ble_eq_true rfl, Nat.le_of_ble_eq_true rfl⟩ (Nat.le_of_ble_eq_true rfl) (fun r11 σ10 h => ?_)
        refine vv_goto (pc := 23) (tgt := 31) C dX9_edge_23 (by decide) ?_
        refine vv_sub [] (L' := []) rfl ?_
        exact hJk31_4 _ _ h
    · replace h := h.2 hc6
      refine vv_iconst C dX9_edge_10 ki_m1 ?_
      refine vv_goto (pc := 11) (tgt := 31) C dX9_edge_11 (by decide) ?_
      refine vv_sub [] (L' := []) rfl ?_
      exact hJk31_4 _ _ h
set_option maxHeartbeats 2000000 in
set_option maxRecDepth 100000 in
theorem mX9_comes {Y : vv_Y} (hY : Y.2.2.2.2 = wM) {a1 : Int32} {σ : vv_S} {post : Int32 → vv_S → Prop} (h : wX9_comes a1 σ post) : vv_MI Y yX9_comes cX9_comes 2 (some .int) 2 49 [.ref (vv_q Y 0), .int a1] σ post := by
  refine vv_ofI (by decide) (Nat.le_of_ble_eq_true rfl) (fun X C => ?_)
  have C : VC Y X RX9 cX9_comes 2 (some .int) 2 49 := C
  refine vv_sub [0, 1] (L' := [(0, .ref (vv_q Y 0)), (1, .int a1)]) rfl ?_
  refine vv_iload_n C 1 dX9_comes_0 rfl rfl ?_
  refine vv_i2l C dX9_comes_1 ?_
  refine vv_lconst (v := 1) C dX9_comes_2 (by decide) ?_
  refine vv_ldc2 C lc_X9_240 dX9_comes_3 ?_
  refine vv_callS (rest := []) C yk_X9_in sk_X9_in lk_X9_138 dX9_comes_6 (mX9_in hY h) rfl rfl ⟨Nat.le_of_ble_eq_true rfl, Nat.le_of_ble_eq_true rfl⟩ (Nat.le_of_ble_eq_true rfl) (fun r2 σ1 h => ?_)
  refine vv_join (fun k => ∀ (v3 : Int32) (σ4 : vv_S), k v3 σ4 → VJ Y X (va_Qi post (vv_B Y) X.2) 2 21 [] [.int v3] σ4) h (fun v3 σ4 h => ?_) (fun k21_4 hJk21_4 h => ?_)
  · exact vv_iret C dX9_comes_21 h
  · refine vv_if_eq (pc := 9) C 20 dX9_comes_9 (by decide) (fun hc6 => ?_) (fun hc6 => ?_)
    · replace h := h.1 hc6
      refine vv_iconst C dX9_comes_20 ki_m1 ?_
      refine vv_sub [] (L' := []) rfl ?_
      exact hJk21_4 _ _ h
    · replace h := h.2 hc6
      refine vv_aload_n C 0 dX9_comes_12 rfl rfl ?_
      refine vv_iload_n C 1 dX9_comes_13 rfl rfl ?_
      refine vv_callI (rest := []) C yk_X9_comesIn vk_X9_comesIn lk_X9_205 kc_X9.1 (s_X9 hY) dX9_comes_14 (mX9_comesIn hY h) rfl rfl ⟨Nat.le_of_ble_eq_true rfl, Nat.le_of_ble_eq_true rfl⟩ (Nat.le_of_ble_eq_true rfl) (fun r8 σ7 h => ?_)
      refine vv_goto (pc := 17) (tgt := 21) C dX9_comes_17 (by decide) ?_
      refine vv_sub [] (L' := []) rfl ?_
      exact hJk21_4 _ _ h
set_option maxHeartbeats 2000000 in
set_option maxRecDepth 100000 in
theorem mX9_note {Y : vv_Y} (hY : Y.2.2.2.2 = wM) {a1 : Int32} {a2 : Int32} {a3 : Int32} {a4 : Int32} {σ : vv_S} {post : vv_S → Prop} (h : wX9_note a1 a2 a3 a4 σ post) : vv_MV Y yX9_note cX9_note 6 none 4 99 [.ref (vv_q Y 0), .int a1, .int a2, .int a3, .int a4] σ post := by
  refine vv_ofV (by decide) (Nat.le_of_ble_eq_true rfl) (fun X C => ?_)
  have C : VC Y X RX9 cX9_note 6 none 4 99 := C
  refine vv_sub [0, 1, 2, 3, 4] (L' := [(0, .ref (vv_q Y 0)), (1, .int a1), (2, .int a2), (3, .int a3), (4, .int a4)]) rfl ?_
  refine vv_aload_n C 0 dX9_note_0 rfl rfl ?_
  refine vv_getr (r := 20) C kc_X9 (s_X9 hY) 20 (by decide) rfl fk_X9_67 dX9_note_1 ?_
  refine vv_iconst C dX9_note_4 ki_0 ?_
  refine vv_iald C (a_X9_acts hY) kv_0_3 kn_0 dX9_note_5 ?_
  refine vv_nm (fun v1 ev1 => ?_)
  replace h := h v1 ev1
  refine vv_istore (L' := [(5, .int v1), (0, .ref (vv_q Y 0)), (1, .int a1), (2, .int a2), (3, .int a3), (4, .int a4)]) C dX9_note_6 (by decide) rfl ?_
  refine vv_aload_n C 1 dX9_note_8 rfl rfl ?_
  refine vv_getr (r := 21) C kc_X9 (s_X9 hY) 21 (by decide) rfl fk_X9_70 dX9_note_9 ?_
  refine vv_iload C 0 dX9_note_12 rfl ?_
  refine vv_iload_n C 2 dX9_note_14 rfl rfl ?_
  obtain ⟨hi2, h⟩ := h
  refine vv_iast C (a_X9_actKind hY) hi2 rfl dX9_note_15 (fun σ3 eσ3 => ?_)
  replace h := h σ3 eσ3
  refine vv_aload_n C 1 dX9_note_16 rfl rfl ?_
  refine vv_getr (r := 22) C kc_X9 (s_X9 hY) 22 (by decide) rfl fk_X9_73 dX9_note_17 ?_
  refine vv_iload C 0 dX9_note_20 rfl ?_
  refine vv_iload_n C 3 dX9_note_22 rfl rfl ?_
  obtain ⟨hi4, h⟩ := h
  refine vv_iast C (a_X9_actCell hY) hi4 rfl dX9_note_23 (fun σ5 eσ5 => ?_)
  replace h := h σ5 eσ5
  refine vv_aload_n C 1 dX9_note_24 rfl rfl ?_
  refine vv_getr (r := 23) C kc_X9 (s_X9 hY) 23 (by decide) rfl fk_X9_76 dX9_note_25 ?_
  refine vv_iload C 0 dX9_note_28 rfl ?_
  refine vv_iload_n C 4 dX9_note_30 rfl rfl ?_
  obtain ⟨hi6, h⟩ := h
  refine vv_iast C (a_X9_actStuff hY) hi6 rfl dX9_note_31 (fun σ7 eσ7 => ?_)
  replace h := h σ7 eσ7
  refine vv_aload_n C 1 dX9_note_32 rfl rfl ?_
  refine vv_getr (r := 24) C kc_X9 (s_X9 hY) 24 (by decide) rfl fk_X9_79 dX9_note_33 ?_
  refine vv_iload C 0 dX9_note_36 rfl ?_
  refine vv_iload C 5 dX9_note_38 rfl ?_
  obtain ⟨hi8, h⟩ := h
  refine vv_iast C (a_X9_actMany hY) hi8 rfl dX9_note_40 (fun σ9 eσ9 => ?_)
  replace h := h σ9 eσ9
  refine vv_aload_n C 1 dX9_note_41 rfl rfl ?_
  refine vv_getr (r := 20) C kc_X9 (s_X9 hY) 20 (by decide) rfl fk_X9_67 dX9_note_42 ?_
  refine vv_iconst C dX9_note_45 ki_0 ?_
  refine vv_dup2 C dX9_note_46 rfl rfl ?_
  refine vv_iald C (a_X9_acts hY) kv_0_3 kn_0 dX9_note_47 ?_
  refine vv_iconst C dX9_note_48 ki_1 ?_
  refine vv_iadd C dX9_note_49 ?_
  refine vv_iast C (a_X9_acts hY) kv_0_3 kn_0 dX9_note_50 (fun σ10 eσ10 => ?_)
  replace h := h σ10 eσ10
  refine vv_aload_n C 1 dX9_note_51 rfl rfl ?_
  refine vv_iconst C dX9_note_52 ki_0 ?_
  refine vv_iload C 0 dX9_note_53 rfl ?_
  refine vv_callV (rest := []) C yk_X9_doAct vk_X9_doAct lk_X9_231 kc_X9.1 (s_X9 hY) dX9_note_55 (mX9_doAct hY h) rfl rfl ⟨Nat.le_of_ble_eq_true rfl, Nat.le_of_ble_eq_true rfl⟩ (Nat.le_of_ble_eq_true rfl) (fun σ11 h => ?_)
  exact vv_vret C dX9_note_58 h
set_option maxHeartbeats 2000000 in
set_option maxRecDepth 100000 in
theorem mX9_put {Y : vv_Y} (hY : Y.2.2.2.2 = wM) {a1 : Int32} {a2 : Int32} {a3 : Int32} {σ : vv_S} {post : Int32 → vv_S → Prop} (h : wX9_put a1 a2 a3 σ post) : vv_MI Y yX9_put cX9_put 4 (some .int) 5 124 [.ref (vv_q Y 0), .int a1, .int a2, .int a3] σ post := by
  refine vv_ofI (by decide) (Nat.le_of_ble_eq_true rfl) (fun X C => ?_)
  have C : VC Y X RX9 cX9_put 4 (some .int) 5 124 := C
  refine vv_sub [0, 1, 2, 3] (L' := [(0, .ref (vv_q Y 0)), (1, .int a1), (2, .int a2), (3, .int a3)]) rfl ?_
  refine vv_aload_n C 0 dX9_put_0 rfl rfl ?_
  refine vv_iload_n C 1 dX9_put_1 rfl rfl ?_
  refine vv_callI (rest := []) C yk_X9_isCell vk_X9_isCell lk_X9_237 kc_X9.1 (s_X9 hY) dX9_put_2 (mX9_isCell hY h) rfl rfl ⟨Nat.le_of_ble_eq_true rfl, Nat.le_of_ble_eq_true rfl⟩ (Nat.le_of_ble_eq_true rfl) (fun r2 σ1 h => ?_)
  refine vv_join (fun k => ∀ (σ3 : vv_S), k σ3 → VJ Y X (va_Qi post (vv_B Y) X.2) 4 32 [] [] σ3) h (fun σ3 h => ?_) (fun k32_3 hJk32_3 h => ?_)
  · refine vv_iconst C dX9_put_32 ki_m1 ?_
    exact vv_iret C dX9_put_33 h
  · refine vv_if_eq (pc := 5) C 32 dX9_put_5 (by decide) (fun hc5 => ?_) (fun hc5 => ?_)
    · replace h := h.1 hc5
      refine vv_sub [] (L' := []) rfl ?_
      exact hJk32_3 _ h
    · replace h := h.2 hc5
      refine vv_iload_n C 2 dX9_put_8 rfl rfl ?_
      refine vv_i2l C dX9_put_9 ?_
      refine vv_lconst (v := 0) C dX9_put_10 (by decide) ?_
      refine vv_ldc2 C lc_X9_242 dX9_put_11 ?_
      refine vv_callS (rest := []) C yk_X9_in sk_X9_in lk_X9_138 dX9_put_14 (mX9_in hY h) rfl rfl ⟨Nat.le_of_ble_eq_true rfl, Nat.le_of_ble_eq_true rfl⟩ (Nat.le_of_ble_eq_true rfl) (fun r7 σ6 h => ?_)
      refine vv_if_eq (pc := 17) C 32 dX9_put_17 (by decide) (fun hc8 => ?_) (fun hc8 => ?_)
      · replace h := h.1 hc8
        refine vv_sub [] (L' := []) rfl ?_
        exact hJk32_3 _ h
      · replace h := h.2 hc8
        refine vv_iload_n C 3 dX9_put_20 rfl rfl ?_
        refine vv_i2l C dX9_put_21 ?_
        refine vv_lconst (v := 1) C dX9_put_22 (by decide) ?_
        refine vv_ldc2 C lc_X9_244 dX9_put_23 ?_
        refine vv_callS (rest := []) C yk_X9_in sk_X9_in lk_X9_138 dX9_put_26 (mX9_in hY h) rfl rfl ⟨Nat.le_of_ble_eq_true rfl, Nat.le_of_ble_eq_true rfl⟩ (Nat.le_of_ble_eq_true rfl) (fun r10 σ9 h => ?_)
        refine vv_if_ne (pc := 29) C 34 dX9_put_29 (by decide) (fun hc11 => ?_) (fun hc11 => ?_)
        · replace h := h.1 hc11
          refine vv_aload_n C 0 dX9_put_34 rfl rfl ?_
          refine vv_getr (r := 28) C kc_X9 (s_X9 hY) 31 (by decide) rfl fk_X9_91 dX9_put_35 ?_
          refine vv_iload_n C 1 dX9_put_38 rfl rfl ?_
          obtain ⟨hi12, h⟩ := h
          refine vv_iald C (a_X9_high hY) hi12 rfl dX9_put_39 ?_
          refine vv_iload_n C 3 dX9_put_40 rfl rfl ?_
          refine vv_iadd C dX9_put_41 ?_
          refine vv_bipush C dX9_put_42 kb_40 ?_
          refine vv_icmp_le (pc := 44) C 50 dX9_put_44 (by decide) (fun hc13 => ?_) (fun hc13 => ?_)
          · replace h := h.1 hc13
            refine vv_aload_n C 0 dX9_put_50 rfl rfl ?_
            refine vv_getr (r := 20) C kc_X9 (s_X9 hY) 20 (by decide) rfl fk_X9_67 dX9_put_51 ?_
            refine vv_iconst C dX9_put_54 ki_0 ?_
            refine vv_iald C (a_X9_acts hY) kv_0_3 kn_0 dX9_put_55 ?_
            refine vv_bipush C dX9_put_56 kb_30 ?_
            refine vv_icmp_ne (pc := 58) C 64 dX9_put_58 (by decide) (fun hc14 => ?_) (fun hc14 => ?_)
            · replace h := h.1 hc14
              refine vv_aload_n C 0 dX9_put_64 rfl rfl ?_
              refine vv_iconst C dX9_put_65 ki_0 ?_
              refine vv_iload_n C 1 dX9_put_66 rfl rfl ?_
              refine vv_iload_n C 2 dX9_put_67 rfl rfl ?_
              refine vv_iload_n C 3 dX9_put_68 rfl rfl ?_
              refine vv_callV (rest := []) C yk_X9_note vk_X9_note lk_X9_246 kc_X9.1 (s_X9 hY) dX9_put_69 (mX9_note hY h) rfl rfl ⟨Nat.le_of_ble_eq_true rfl, Nat.le_of_ble_eq_true rfl⟩ (Nat.le_of_ble_eq_true rfl) (fun σ15 h => ?_)
              refine vv_aload_n C 0 dX9_put_72 rfl rfl ?_
              refine vv_getr (r := 28) C kc_X9 (s_X9 hY) 31 (by decide) rfl fk_X9_91 dX9_put_73 ?_
              refine vv_iload_n C 1 dX9_put_76 rfl rfl ?_
              obtain ⟨hi16, h⟩ := h
              refine vv_iald C (a_X9_high hY) hi16 rfl dX9_put_77 ?_
              exact vv_iret C dX9_put_78 h
            · replace h := h.2 hc14
              refine vv_bipush C dX9_put_61 kb_m3 ?_
              exact vv_iret C dX9_put_63 h
          · replace h := h.2 hc13
            refine vv_bipush C dX9_put_47 kb_m2 ?_
            exact vv_iret C dX9_put_49 h
        · replace h := h.2 hc11
          refine vv_sub [] (L' := []) rfl ?_
          exact hJk32_3 _ h
set_option maxHeartbeats 2000000 in
set_option maxRecDepth 100000 in
theorem mX9_dig {Y : vv_Y} (hY : Y.2.2.2.2 = wM) {a1 : Int32} {a2 : Int32} {σ : vv_S} {post : Int32 → vv_S → Prop} (h : wX9_dig a1 a2 σ post) : vv_MI Y yX9_dig cX9_dig 3 (some .int) 5 124 [.ref (vv_q Y 0), .int a1, .int a2] σ post := by
  refine vv_ofI (by decide) (Nat.le_of_ble_eq_true rfl) (fun X C => ?_)
  have C : VC Y X RX9 cX9_dig 3 (some .int) 5 124 := C
  refine vv_sub [0, 1, 2] (L' := [(0, .ref (vv_q Y 0)), (1, .int a1), (2, .int a2)]) rfl ?_
  refine vv_aload_n C 0 dX9_dig_0 rfl rfl ?_
  refine vv_iload_n C 1 dX9_dig_1 rfl rfl ?_
  refine vv_callI (rest := []) C yk_X9_isCell vk_X9_isCell lk_X9_237 kc_X9.1 (s_X9 hY) dX9_dig_2 (mX9_isCell hY h) rfl rfl ⟨Nat.le_of_ble_eq_true rfl, Nat.le_of_ble_eq_true rfl⟩ (Nat.le_of_ble_eq_true rfl) (fun r2 σ1 h => ?_)
  refine vv_join (fun k => ∀ (σ3 : vv_S), k σ3 → VJ Y X (va_Qi post (vv_B Y) X.2) 3 20 [] [] σ3) h (fun σ3 h => ?_) (fun k20_3 hJk20_3 h => ?_)
  · refine vv_iconst C dX9_dig_20 ki_m1 ?_
    exact vv_iret C dX9_dig_21 h
  · refine vv_if_eq (pc := 5) C 20 dX9_dig_5 (by decide) (fun hc5 => ?_) (fun hc5 => ?_)
    · replace h := h.1 hc5
      refine vv_sub [] (L' := []) rfl ?_
      exact hJk20_3 _ h
    · replace h := h.2 hc5
      refine vv_iload_n C 2 dX9_dig_8 rfl rfl ?_
      refine vv_i2l C dX9_dig_9 ?_
      refine vv_lconst (v := 1) C dX9_dig_10 (by decide) ?_
      refine vv_ldc2 C lc_X9_244 dX9_dig_11 ?_
      refine vv_callS (rest := []) C yk_X9_in sk_X9_in lk_X9_138 dX9_dig_14 (mX9_in hY h) rfl rfl ⟨Nat.le_of_ble_eq_true rfl, Nat.le_of_ble_eq_true rfl⟩ (Nat.le_of_ble_eq_true rfl) (fun r7 σ6 h => ?_)
      refine vv_if_ne (pc := 17) C 22 dX9_dig_17 (by decide) (fun hc8 => ?_) (fun hc8 => ?_)
      · replace h := h.1 hc8
        refine vv_aload_n C 0 dX9_dig_22 rfl rfl ?_
        refine vv_getr (r := 28) C kc_X9 (s_X9 hY) 31 (by decide) rfl fk_X9_91 dX9_dig_23 ?_
        refine vv_iload_n C 1 dX9_dig_26 rfl rfl ?_
        obtain ⟨hi9, h⟩ := h
        refine vv_iald C (a_X9_high hY) hi9 rfl dX9_dig_27 ?_
        refine vv_iload_n C 2 dX9_dig_28 rfl rfl ?_
        refine vv_icmp_ge (pc := 29) C 35 dX9_dig_29 (by decide) (fun hc10 => ?_) (fun hc10 => ?_)
        · replace h := h.1 hc10
          refine vv_aload_n C 0 dX9_dig_35 rfl rfl ?_
          refine vv_getr (r := 20) C kc_X9 (s_X9 hY) 20 (by decide) rfl fk_X9_67 dX9_dig_36 ?_
          refine vv_iconst C dX9_dig_39 ki_0 ?_
          refine vv_iald C (a_X9_acts hY) kv_0_3 kn_0 dX9_dig_40 ?_
          refine vv_bipush C dX9_dig_41 kb_30 ?_
          refine vv_icmp_ne (pc := 43) C 49 dX9_dig_43 (by decide) (fun hc11 => ?_) (fun hc11 => ?_)
          · replace h := h.1 hc11
            refine vv_aload_n C 0 dX9_dig_49 rfl rfl ?_
            refine vv_iconst C dX9_dig_50 ki_1 ?_
            refine vv_iload_n C 1 dX9_dig_51 rfl rfl ?_
            refine vv_iconst C dX9_dig_52 ki_0 ?_
            refine vv_iload_n C 2 dX9_dig_53 rfl rfl ?_
            refine vv_callV (rest := []) C yk_X9_note vk_X9_note lk_X9_246 kc_X9.1 (s_X9 hY) dX9_dig_54 (mX9_note hY h) rfl rfl ⟨Nat.le_of_ble_eq_true rfl, Nat.le_of_ble_eq_true rfl⟩ (Nat.le_of_ble_eq_true rfl) (fun σ12 h => ?_)
            refine vv_aload_n C 0 dX9_dig_57 rfl rfl ?_
            refine vv_getr (r := 28) C kc_X9 (s_X9 hY) 31 (by decide) rfl fk_X9_91 dX9_dig_58 ?_
            refine vv_iload_n C 1 dX9_dig_61 rfl rfl ?_
            obtain ⟨hi13, h⟩ := h
            refine vv_iald C (a_X9_high hY) hi13 rfl dX9_dig_62 ?_
            exact vv_iret C dX9_dig_63 h
          · replace h := h.2 hc11
            refine vv_bipush C dX9_dig_46 kb_m3 ?_
            exact vv_iret C dX9_dig_48 h
        · replace h := h.2 hc10
          refine vv_bipush C dX9_dig_32 kb_m2 ?_
          exact vv_iret C dX9_dig_34 h
      · replace h := h.2 hc8
        refine vv_sub [] (L' := []) rfl ?_
        exact hJk20_3 _ h
set_option maxHeartbeats 2000000 in
set_option maxRecDepth 100000 in
theorem mX9_pass {Y : vv_Y} (hY : Y.2.2.2.2 = wM) {a1 : Int32} {σ : vv_S} {post : Int32 → vv_S → Prop} (h : wX9_pass a1 σ post) : vv_MI Y yX9_pass cX9_pass 2 (some .int) 5 124 [.ref (vv_q Y 0), .int a1] σ post := by
  refine vv_ofI (by decide) (Nat.le_of_ble_eq_true rfl) (fun X C => ?_)
  have C : VC Y X RX9 cX9_pass 2 (some .int) 5 124 := C
  refine vv_sub [0, 1] (L' := [(0, .ref (vv_q Y 0)), (1, .int a1)]) rfl ?_
  refine vv_iload_n C 1 dX9_pass_0 rfl rfl ?_
  refine vv_i2l C dX9_pass_1 ?_
  refine vv_lconst (v := 1) C dX9_pass_2 (by decide) ?_
  refine vv_ldc2 C lc_X9_250 dX9_pass_3 ?_
  refine vv_callS (rest := []) C yk_X9_in sk_X9_in lk_X9_138 dX9_pass_6 (mX9_in hY h) rfl rfl ⟨Nat.le_of_ble_eq_true rfl, Nat.le_of_ble_eq_true rfl⟩ (Nat.le_of_ble_eq_true rfl) (fun r2 σ1 h => ?_)
  refine vv_if_ne (pc := 9) C 14 dX9_pass_9 (by decide) (fun hc3 => ?_) (fun hc3 => ?_)
  · replace h := h.1 hc3
    refine vv_aload_n C 0 dX9_pass_14 rfl rfl ?_
    refine vv_getr (r := 32) C kc_X9 (s_X9 hY) 35 (by decide) rfl fk_X9_103 dX9_pass_15 ?_
    refine vv_iconst C dX9_pass_18 ki_0 ?_
    refine vv_iald C (a_X9_minutes hY) kv_0_2 kn_0 dX9_pass_19 ?_
    refine vv_iload_n C 1 dX9_pass_20 rfl rfl ?_
    refine vv_iadd C dX9_pass_21 ?_
    refine vv_sipush C dX9_pass_22 ks_999 ?_
    refine vv_icmp_le (pc := 25) C 31 dX9_pass_25 (by decide) (fun hc4 => ?_) (fun hc4 => ?_)
    · replace h := h.1 hc4
      refine vv_aload_n C 0 dX9_pass_31 rfl rfl ?_
      refine vv_getr (r := 20) C kc_X9 (s_X9 hY) 20 (by decide) rfl fk_X9_67 dX9_pass_32 ?_
      refine vv_iconst C dX9_pass_35 ki_0 ?_
      refine vv_iald C (a_X9_acts hY) kv_0_3 kn_0 dX9_pass_36 ?_
      refine vv_bipush C dX9_pass_37 kb_30 ?_
      refine vv_icmp_ne (pc := 39) C 45 dX9_pass_39 (by decide) (fun hc5 => ?_) (fun hc5 => ?_)
      · replace h := h.1 hc5
        refine vv_aload_n C 0 dX9_pass_45 rfl rfl ?_
        refine vv_iconst C dX9_pass_46 ki_2 ?_
        refine vv_iconst C dX9_pass_47 ki_0 ?_
        refine vv_iconst C dX9_pass_48 ki_0 ?_
        refine vv_iload_n C 1 dX9_pass_49 rfl rfl ?_
        refine vv_callV (rest := []) C yk_X9_note vk_X9_note lk_X9_246 kc_X9.1 (s_X9 hY) dX9_pass_50 (mX9_note hY h) rfl rfl ⟨Nat.le_of_ble_eq_true rfl, Nat.le_of_ble_eq_true rfl⟩ (Nat.le_of_ble_eq_true rfl) (fun σ6 h => ?_)
        refine vv_aload_n C 0 dX9_pass_53 rfl rfl ?_
        refine vv_aload_n C 0 dX9_pass_54 rfl rfl ?_
        refine vv_getr (r := 31) C kc_X9 (s_X9 hY) 34 (by decide) rfl fk_X9_100 dX9_pass_55 ?_
        refine vv_iconst C dX9_pass_58 ki_0 ?_
        refine vv_iald C (a_X9_water hY) kv_0_2 kn_0 dX9_pass_59 ?_
        refine vv_callI (rest := []) C yk_X9_levelOf vk_X9_levelOf lk_X9_208 kc_X9.1 (s_X9 hY) dX9_pass_60 (mX9_levelOf hY h) rfl rfl ⟨Nat.le_of_ble_eq_true rfl, Nat.le_of_ble_eq_true rfl⟩ (Nat.le_of_ble_eq_true rfl) (fun r8 σ7 h => ?_)
        exact vv_iret C dX9_pass_63 h
      · replace h := h.2 hc5
        refine vv_bipush C dX9_pass_42 kb_m3 ?_
        exact vv_iret C dX9_pass_44 h
    · replace h := h.2 hc4
      refine vv_bipush C dX9_pass_28 kb_m2 ?_
      exact vv_iret C dX9_pass_30 h
  · replace h := h.2 hc3
    refine vv_iconst C dX9_pass_12 ki_m1 ?_
    exact vv_iret C dX9_pass_13 h
set_option maxHeartbeats 2000000 in
set_option maxRecDepth 100000 in
theorem mX9_undo {Y : vv_Y} (hY : Y.2.2.2.2 = wM)  {σ : vv_S} {post : Int32 → vv_S → Prop} (h : wX9_undo σ post) : vv_MI Y yX9_undo cX9_undo 1 (some .int) 6 142 [.ref (vv_q Y 0)] σ post := by
  refine vv_ofI (by decide) (Nat.le_of_ble_eq_true rfl) (fun X C => ?_)
  have C : VC Y X RX9 cX9_undo 1 (some .int) 6 142 := C
  refine vv_sub [0] (L' := [(0, .ref (vv_q Y 0))]) rfl ?_
  refine vv_aload_n C 0 dX9_undo_0 rfl rfl ?_
  refine vv_getr (r := 20) C kc_X9 (s_X9 hY) 20 (by decide) rfl fk_X9_67 dX9_undo_1 ?_
  refine vv_iconst C dX9_undo_4 ki_0 ?_
  refine vv_iald C (a_X9_acts hY) kv_0_3 kn_0 dX9_undo_5 ?_
  refine vv_if_ne (pc := 6) C 12 dX9_undo_6 (by decide) (fun hc1 => ?_) (fun hc1 => ?_)
  · replace h := h.1 hc1
    refine vv_aload_n C 0 dX9_undo_12 rfl rfl ?_
    refine vv_getr (r := 20) C kc_X9 (s_X9 hY) 20 (by decide) rfl fk_X9_67 dX9_undo_13 ?_
    refine vv_iconst C dX9_undo_16 ki_0 ?_
    refine vv_dup2 C dX9_undo_17 rfl rfl ?_
    refine vv_iald C (a_X9_acts hY) kv_0_3 kn_0 dX9_undo_18 ?_
    refine vv_iconst C dX9_undo_19 ki_1 ?_
    refine vv_isub C dX9_undo_20 ?_
    refine vv_iast C (a_X9_acts hY) kv_0_3 kn_0 dX9_undo_21 (fun σ2 eσ2 => ?_)
    replace h := h σ2 eσ2
    refine vv_aload_n C 0 dX9_undo_22 rfl rfl ?_
    refine vv_callV (rest := []) C yk_X9_begin vk_X9_begin lk_X9_131 kc_X9.1 (s_X9 hY) dX9_undo_23 (mX9_begin hY h) rfl rfl ⟨Nat.le_of_ble_eq_true rfl, Nat.le_of_ble_eq_true rfl⟩ (Nat.le_of_ble_eq_true rfl) (fun σ3 h => ?_)
    refine vv_aload_n C 0 dX9_undo_26 rfl rfl ?_
    refine vv_getr (r := 20) C kc_X9 (s_X9 hY) 20 (by decide) rfl fk_X9_67 dX9_undo_27 ?_
    refine vv_iconst C dX9_undo_30 ki_0 ?_
    refine vv_iald C (a_X9_acts hY) kv_0_3 kn_0 dX9_undo_31 ?_
    exact vv_iret C dX9_undo_32 h
  · replace h := h.2 hc1
    refine vv_bipush C dX9_undo_9 kb_m2 ?_
    exact vv_iret C dX9_undo_11 h
set_option maxHeartbeats 2000000 in
set_option maxRecDepth 100000 in
theorem mX9_areMinutes {Y : vv_Y} (hY : Y.2.2.2.2 = wM) {a1 : Int32} {σ : vv_S} {post : Int32 → vv_S → Prop} (h : wX9_areMinutes a1 σ post) : vv_MI Y yX9_areMinutes cX9_areMinutes 1 (some .boolean) 1 25 [.int a1] σ post := by
  refine vv_ofI (by decide) (Nat.le_of_ble_eq_true rfl) (fun X C => ?_)
  have C : VC Y X RX9 cX9_areMinutes 1 (some .boolean) 1 25 := C
  refine vv_sub [0] (L' := [(0, .int a1)]) rfl ?_
  refine vv_iload_n C 0 dX9_areMinutes_0 rfl rfl ?_
  refine vv_i2l C dX9_areMinutes_1 ?_
  refine vv_lconst (v := 0) C dX9_areMinutes_2 (by decide) ?_
  refine vv_ldc2 C lc_X9_252 dX9_areMinutes_3 ?_
  refine vv_callS (rest := []) C yk_X9_in sk_X9_in lk_X9_138 dX9_areMinutes_6 (mX9_in hY h) rfl rfl ⟨Nat.le_of_ble_eq_true rfl, Nat.le_of_ble_eq_true rfl⟩ (Nat.le_of_ble_eq_true rfl) (fun r2 σ1 h => ?_)
  exact vv_zret C h.1 dX9_areMinutes_9 h.2
set_option maxHeartbeats 2000000 in
set_option maxRecDepth 100000 in
theorem mX9_goOn {Y : vv_Y} (hY : Y.2.2.2.2 = wM) {a1 : Int32} {σ : vv_S} {post : vv_S → Prop} (h : wX9_goOn a1 σ post) : vv_MV Y yX9_goOn cX9_goOn 3 none 3 75 [.ref (vv_q Y 0), .int a1] σ post := by
  refine vv_ofV (by decide) (Nat.le_of_ble_eq_true rfl) (fun X C => ?_)
  have C : VC Y X RX9 cX9_goOn 3 none 3 75 := C
  refine vv_sub [0, 1] (L' := [(0, .ref (vv_q Y 0)), (1, .int a1)]) rfl ?_
  refine vv_aload_n C 0 dX9_goOn_0 rfl rfl ?_
  refine vv_callV (rest := []) C yk_X9_tryIt vk_X9_tryIt lk_X9_254 kc_X9.1 (s_X9 hY) dX9_goOn_1 (mX9_tryIt hY h) rfl rfl ⟨Nat.le_of_ble_eq_true rfl, Nat.le_of_ble_eq_true rfl⟩ (Nat.le_of_ble_eq_true rfl) (fun σ1 h => ?_)
  refine vv_iconst C dX9_goOn_4 ki_0 ?_
  refine vv_istore_n (L' := [(2, .int (0 : Int32)), (0, .ref (vv_q Y 0)), (1, .int a1)]) C dX9_goOn_5 rfl (by decide) rfl ?_
  obtain ⟨n4, h⟩ := h
  have hl1 : ∀ (n4 : Nat) (v2 : Int32) (σ3 : vv_S), lX9_goOn_1 a1 post n4 v2 σ3 → VJ Y X (va_Qv post (vv_B Y) X.2) 3 6 [(0, .ref (vv_q Y 0)), (1, .int a1), (2, .int v2)] [] σ3 := by
    clear h
    intro n4
    induction n4 with
    | zero => intro v2 σ3 h; exact False.elim h
    | succ n4 ih1 =>
      intro v2 σ3 h
      refine vv_iload_n C 2 dX9_goOn_6 rfl rfl ?_
      refine vv_iload_n C 1 dX9_goOn_7 rfl rfl ?_
      refine vv_icmp_ge (pc := 8) C 23 dX9_goOn_8 (by decide) (fun hc5 => ?_) (fun hc5 => ?_)
      · replace h := h.1 hc5
        exact vv_vret C dX9_goOn_23 h
      · replace h := h.2 hc5
        refine vv_aload_n C 0 dX9_goOn_11 rfl rfl ?_
        refine vv_iconst C dX9_goOn_12 ki_1 ?_
        refine vv_iconst C dX9_goOn_13 ki_0 ?_
        refine vv_callV (rest := []) C yk_X9_go vk_X9_go lk_X9_224 kc_X9.1 (s_X9 hY) dX9_goOn_14 (mX9_go hY h) rfl rfl ⟨Nat.le_of_ble_eq_true rfl, Nat.le_of_ble_eq_true rfl⟩ (Nat.le_of_ble_eq_true rfl) (fun σ6 h => ?_)
        obtain ⟨v7, ev7⟩ : ∃ z : Int32, z = v2 + (1 : Int32) := ⟨_, rfl⟩
        replace h := h v7 ev7
        refine vv_iinc (v := v7) (L' := [(2, .int v7), (0, .ref (vv_q Y 0)), (1, .int a1)]) C 2 dX9_goOn_17 rfl ((kinc ki_1).trans ev7.symm) (by decide) rfl ?_
        refine vv_goto (pc := 20) (tgt := 6) C dX9_goOn_20 (by decide) ?_
        refine vv_sub [1, 2, 0] (L' := [(0, .ref (vv_q Y 0)), (1, .int a1), (2, .int v7)]) rfl ?_
        exact ih1 _ _ h
  refine vv_sub [1, 2, 0] (L' := [(0, .ref (vv_q Y 0)), (1, .int a1), (2, .int (0 : Int32))]) rfl ?_
  exact hl1 n4 _ _ h
set_option maxHeartbeats 2000000 in
set_option maxRecDepth 100000 in
theorem mX9_behind {Y : vv_Y} (hY : Y.2.2.2.2 = wM) {a1 : Int32} {a2 : Int32} {σ : vv_S} {post : Int32 → vv_S → Prop} (h : wX9_behind a1 a2 σ post) : vv_MI Y yX9_behind cX9_behind 3 (some .int) 4 97 [.ref (vv_q Y 0), .int a1, .int a2] σ post := by
  refine vv_ofI (by decide) (Nat.le_of_ble_eq_true rfl) (fun X C => ?_)
  have C : VC Y X RX9 cX9_behind 3 (some .int) 4 97 := C
  refine vv_sub [0, 1, 2] (L' := [(0, .ref (vv_q Y 0)), (1, .int a1), (2, .int a2)]) rfl ?_
  refine vv_iload_n C 1 dX9_behind_0 rfl rfl ?_
  refine vv_callS (rest := []) C yk_X9_areMinutes sk_X9_areMinutes lk_X9_257 dX9_behind_1 (mX9_areMinutes hY h) rfl rfl ⟨Nat.le_of_ble_eq_true rfl, Nat.le_of_ble_eq_true rfl⟩ (Nat.le_of_ble_eq_true rfl) (fun r2 σ1 h => ?_)
  refine vv_join (fun k => ∀ (σ3 : vv_S), k σ3 → VJ Y X (va_Qi post (vv_B Y) X.2) 3 19 [] [] σ3) h (fun σ3 h => ?_) (fun k19_3 hJk19_3 h => ?_)
  · refine vv_iconst C dX9_behind_19 ki_m1 ?_
    exact vv_iret C dX9_behind_20 h
  · refine vv_if_eq (pc := 4) C 19 dX9_behind_4 (by decide) (fun hc5 => ?_) (fun hc5 => ?_)
    · replace h := h.1 hc5
      refine vv_sub [] (L' := []) rfl ?_
      exact hJk19_3 _ h
    · replace h := h.2 hc5
      refine vv_iload_n C 2 dX9_behind_7 rfl rfl ?_
      refine vv_i2l C dX9_behind_8 ?_
      refine vv_lconst (v := 0) C dX9_behind_9 (by decide) ?_
      refine vv_ldc2 C lc_X9_157 dX9_behind_10 ?_
      refine vv_callS (rest := []) C yk_X9_in sk_X9_in lk_X9_138 dX9_behind_13 (mX9_in hY h) rfl rfl ⟨Nat.le_of_ble_eq_true rfl, Nat.le_of_ble_eq_true rfl⟩ (Nat.le_of_ble_eq_true rfl) (fun r7 σ6 h => ?_)
      refine vv_if_ne (pc := 16) C 21 dX9_behind_16 (by decide) (fun hc8 => ?_) (fun hc8 => ?_)
      · replace h := h.1 hc8
        refine vv_aload_n C 0 dX9_behind_21 rfl rfl ?_
        refine vv_iload_n C 1 dX9_behind_22 rfl rfl ?_
        refine vv_callV (rest := []) C yk_X9_goOn vk_X9_goOn lk_X9_260 kc_X9.1 (s_X9 hY) dX9_behind_23 (mX9_goOn hY h) rfl rfl ⟨Nat.le_of_ble_eq_true rfl, Nat.le_of_ble_eq_true rfl⟩ (Nat.le_of_ble_eq_true rfl) (fun σ9 h => ?_)
        refine vv_iload_n C 2 dX9_behind_26 rfl rfl ?_
        refine vv_join (fun k => ∀ (v10 : Int32) (σ11 : vv_S), k v10 σ11 → VJ Y X (va_Qi post (vv_B Y) X.2) 3 70 [] [.int v10] σ11) h (fun v10 σ11 h => ?_) (fun k70_11 hJk70_11 h => ?_)
        · exact vv_iret C dX9_behind_70 h
        · refine vv_if_ne (pc := 27) C 43 dX9_behind_27 (by decide) (fun hc13 => ?_) (fun hc13 => ?_)
          · replace h := h.1 hc13
            refine vv_iload_n C 2 dX9_behind_43 rfl rfl ?_
            refine vv_iconst C dX9_behind_44 ki_1 ?_
            refine vv_icmp_ne (pc := 45) C 57 dX9_behind_45 (by decide) (fun hc14 => ?_) (fun hc14 => ?_)
            · replace h := h.1 hc14
              refine vv_aload_n C 0 dX9_behind_57 rfl rfl ?_
              refine vv_getr (r := 33) C kc_X9 (s_X9 hY) 36 (by decide) rfl fk_X9_106 dX9_behind_58 ?_
              refine vv_iconst C dX9_behind_61 ki_1 ?_
              refine vv_iald C (a_X9_overAll hY) kv_1_2 kn_1 dX9_behind_62 ?_
              refine vv_aload_n C 0 dX9_behind_63 rfl rfl ?_
              refine vv_getr (r := 33) C kc_X9 (s_X9 hY) 36 (by decide) rfl fk_X9_106 dX9_behind_64 ?_
              refine vv_iconst C dX9_behind_67 ki_0 ?_
              refine vv_iald C (a_X9_overAll hY) kv_0_2 kn_0 dX9_behind_68 ?_
              refine vv_isub C dX9_behind_69 ?_
              refine vv_sub [] (L' := []) rfl ?_
              exact hJk70_11 _ _ h
            · replace h := h.2 hc14
              refine vv_aload_n C 0 dX9_behind_48 rfl rfl ?_
              refine vv_getr (r := 31) C kc_X9 (s_X9 hY) 34 (by decide) rfl fk_X9_100 dX9_behind_49 ?_
              refine vv_iconst C dX9_behind_52 ki_1 ?_
              refine vv_iald C (a_X9_water hY) kv_1_2 kn_1 dX9_behind_53 ?_
              refine vv_goto (pc := 54) (tgt := 70) C dX9_behind_54 (by decide) ?_
              refine vv_sub [] (L' := []) rfl ?_
              exact hJk70_11 _ _ h
          · replace h := h.2 hc13
            refine vv_aload_n C 0 dX9_behind_30 rfl rfl ?_
            refine vv_aload_n C 0 dX9_behind_31 rfl rfl ?_
            refine vv_getr (r := 31) C kc_X9 (s_X9 hY) 34 (by decide) rfl fk_X9_100 dX9_behind_32 ?_
            refine vv_iconst C dX9_behind_35 ki_1 ?_
            refine vv_iald C (a_X9_water hY) kv_1_2 kn_1 dX9_behind_36 ?_
            refine vv_callI (rest := []) C yk_X9_levelOf vk_X9_levelOf lk_X9_208 kc_X9.1 (s_X9 hY) dX9_behind_37 (mX9_levelOf hY h) rfl rfl ⟨Nat.le_of_ble_eq_true rfl, Nat.le_of_ble_eq_true rfl⟩ (Nat.le_of_ble_eq_true rfl) (fun r16 σ15 h => ?_)
            refine vv_goto (pc := 40) (tgt := 70) C dX9_behind_40 (by decide) ?_
            refine vv_sub [] (L' := []) rfl ?_
            exact hJk70_11 _ _ h
      · replace h := h.2 hc8
        refine vv_sub [] (L' := []) rfl ?_
        exact hJk19_3 _ h
set_option maxHeartbeats 2000000 in
set_option maxRecDepth 100000 in
theorem mX9_worn {Y : vv_Y} (hY : Y.2.2.2.2 = wM) {a1 : Int32} {a2 : Int32} {σ : vv_S} {post : Int32 → vv_S → Prop} (h : wX9_worn a1 a2 σ post) : vv_MI Y yX9_worn cX9_worn 3 (some .int) 4 97 [.ref (vv_q Y 0), .int a1, .int a2] σ post := by
  refine vv_ofI (by decide) (Nat.le_of_ble_eq_true rfl) (fun X C => ?_)
  have C : VC Y X RX9 cX9_worn 3 (some .int) 4 97 := C
  refine vv_sub [0, 1, 2] (L' := [(0, .ref (vv_q Y 0)), (1, .int a1), (2, .int a2)]) rfl ?_
  refine vv_aload_n C 0 dX9_worn_0 rfl rfl ?_
  refine vv_iload_n C 1 dX9_worn_1 rfl rfl ?_
  refine vv_callI (rest := []) C yk_X9_isCell vk_X9_isCell lk_X9_237 kc_X9.1 (s_X9 hY) dX9_worn_2 (mX9_isCell hY h) rfl rfl ⟨Nat.le_of_ble_eq_true rfl, Nat.le_of_ble_eq_true rfl⟩ (Nat.le_of_ble_eq_true rfl) (fun r2 σ1 h => ?_)
  refine vv_join (fun k => ∀ (σ3 : vv_S), k σ3 → VJ Y X (va_Qi post (vv_B Y) X.2) 3 15 [] [] σ3) h (fun σ3 h => ?_) (fun k15_3 hJk15_3 h => ?_)
  · refine vv_iconst C dX9_worn_15 ki_m1 ?_
    exact vv_iret C dX9_worn_16 h
  · refine vv_if_eq (pc := 5) C 15 dX9_worn_5 (by decide) (fun hc5 => ?_) (fun hc5 => ?_)
    · replace h := h.1 hc5
      refine vv_sub [] (L' := []) rfl ?_
      exact hJk15_3 _ h
    · replace h := h.2 hc5
      refine vv_iload_n C 2 dX9_worn_8 rfl rfl ?_
      refine vv_callS (rest := []) C yk_X9_areMinutes sk_X9_areMinutes lk_X9_257 dX9_worn_9 (mX9_areMinutes hY h) rfl rfl ⟨Nat.le_of_ble_eq_true rfl, Nat.le_of_ble_eq_true rfl⟩ (Nat.le_of_ble_eq_true rfl) (fun r7 σ6 h => ?_)
      refine vv_if_ne (pc := 12) C 17 dX9_worn_12 (by decide) (fun hc8 => ?_) (fun hc8 => ?_)
      · replace h := h.1 hc8
        refine vv_aload_n C 0 dX9_worn_17 rfl rfl ?_
        refine vv_iload_n C 2 dX9_worn_18 rfl rfl ?_
        refine vv_callV (rest := []) C yk_X9_goOn vk_X9_goOn lk_X9_260 kc_X9.1 (s_X9 hY) dX9_worn_19 (mX9_goOn hY h) rfl rfl ⟨Nat.le_of_ble_eq_true rfl, Nat.le_of_ble_eq_true rfl⟩ (Nat.le_of_ble_eq_true rfl) (fun σ9 h => ?_)
        refine vv_aload_n C 0 dX9_worn_22 rfl rfl ?_
        refine vv_getr (r := 28) C kc_X9 (s_X9 hY) 31 (by decide) rfl fk_X9_91 dX9_worn_23 ?_
        refine vv_bipush C dX9_worn_26 kb_8 ?_
        refine vv_iload_n C 1 dX9_worn_28 rfl rfl ?_
        refine vv_iadd C dX9_worn_29 ?_
        obtain ⟨hi10, h⟩ := h
        refine vv_iald C (a_X9_high hY) hi10 rfl dX9_worn_30 ?_
        exact vv_iret C dX9_worn_31 h
      · replace h := h.2 hc8
        refine vv_sub [] (L' := []) rfl ?_
        exact hJk15_3 _ h
set_option maxHeartbeats 2000000 in
set_option maxRecDepth 100000 in
theorem mX9_over {Y : vv_Y} (hY : Y.2.2.2.2 = wM) {a1 : Int32} {σ : vv_S} {post : Int32 → vv_S → Prop} (h : wX9_over a1 σ post) : vv_MI Y yX9_over cX9_over 3 (some .int) 3 75 [.ref (vv_q Y 0), .int a1] σ post := by
  refine vv_ofI (by decide) (Nat.le_of_ble_eq_true rfl) (fun X C => ?_)
  have C : VC Y X RX9 cX9_over 3 (some .int) 3 75 := C
  refine vv_sub [0, 1] (L' := [(0, .ref (vv_q Y 0)), (1, .int a1)]) rfl ?_
  refine vv_iload_n C 1 dX9_over_0 rfl rfl ?_
  refine vv_i2l C dX9_over_1 ?_
  refine vv_lconst (v := 0) C dX9_over_2 (by decide) ?_
  refine vv_lconst (v := 1) C dX9_over_3 (by decide) ?_
  refine vv_callS (rest := []) C yk_X9_in sk_X9_in lk_X9_138 dX9_over_4 (mX9_in hY h) rfl rfl ⟨Nat.le_of_ble_eq_true rfl, Nat.le_of_ble_eq_true rfl⟩ (Nat.le_of_ble_eq_true rfl) (fun r2 σ1 h => ?_)
  refine vv_if_ne (pc := 7) C 12 dX9_over_7 (by decide) (fun hc3 => ?_) (fun hc3 => ?_)
  · replace h := h.1 hc3
    refine vv_aload_n C 0 dX9_over_12 rfl rfl ?_
    refine vv_callV (rest := []) C yk_X9_tryIt vk_X9_tryIt lk_X9_254 kc_X9.1 (s_X9 hY) dX9_over_13 (mX9_tryIt hY h) rfl rfl ⟨Nat.le_of_ble_eq_true rfl, Nat.le_of_ble_eq_true rfl⟩ (Nat.le_of_ble_eq_true rfl) (fun σ4 h => ?_)
    refine vv_iconst C dX9_over_16 ki_1 ?_
    refine vv_istore_n (L' := [(2, .int (1 : Int32)), (0, .ref (vv_q Y 0)), (1, .int a1)]) C dX9_over_17 rfl (by decide) rfl ?_
    refine vv_join (fun k => ∀ (v5 : Int32) (σ6 : vv_S), k v5 σ6 → VJ Y X (va_Qi post (vv_B Y) X.2) 3 38 [(0, .ref (vv_q Y 0)), (1, .int a1), (2, .int v5)] [] σ6) h (fun v5 σ6 h => ?_) (fun k38_6 hJk38_6 h => ?_)
    · refine vv_iload_n C 1 dX9_over_38 rfl rfl ?_
      refine vv_join (fun k => ∀ (v8 : Int32), k v8 → VJ Y X (va_Qi post (vv_B Y) X.2) 3 50 [] [.int v8] σ6) h (fun v8 h => ?_) (fun k50_8 hJk50_8 h => ?_)
      · exact vv_iret C dX9_over_50 h
      · refine vv_if_ne (pc := 39) C 46 dX9_over_39 (by decide) (fun hc10 => ?_) (fun hc10 => ?_)
        · replace h := h.1 hc10
          refine vv_aload_n C 0 dX9_over_46 rfl rfl ?_
          refine vv_geti C kc_X9 (s_X9 hY) 39 (by decide) rfl fk_X9_217 dX9_over_47 ?_
          refine vv_sub [] (L' := []) rfl ?_
          exact hJk50_8 _ h
        · replace h := h.2 hc10
          refine vv_iload_n C 2 dX9_over_42 rfl rfl ?_
          refine vv_goto (pc := 43) (tgt := 50) C dX9_over_43 (by decide) ?_
          refine vv_sub [] (L' := []) rfl ?_
          exact hJk50_8 _ h
    · obtain ⟨n13, h⟩ := h
      have hl1 : ∀ (n13 : Nat) (v11 : Int32) (σ12 : vv_S), lX9_over_1 post k38_6 n13 v11 σ12 → VJ Y X (va_Qi post (vv_B Y) X.2) 3 18 [(0, .ref (vv_q Y 0)), (1, .int a1), (2, .int v11)] [] σ12 := by
        clear h
        intro n13
        induction n13 with
        | zero => intro v11 σ12 h; exact False.elim h
        | succ n13 ih1 =>
          intro v11 σ12 h
          refine vv_iload_n C 2 dX9_over_18 rfl rfl ?_
          refine vv_sipush C dX9_over_19 ks_200 ?_
          refine vv_icmp_gt (pc := 22) C 57 dX9_over_22 (by decide) (fun hc14 => ?_) (fun hc14 => ?_)
          · replace h := h.1 hc14
            refine vv_bipush C dX9_over_57 kb_m4 ?_
            exact vv_iret C dX9_over_59 h
          · replace h := h.2 hc14
            refine vv_aload_n C 0 dX9_over_25 rfl rfl ?_
            refine vv_iconst C dX9_over_26 ki_1 ?_
            refine vv_iconst C dX9_over_27 ki_0 ?_
            refine vv_callV (rest := []) C yk_X9_go vk_X9_go lk_X9_224 kc_X9.1 (s_X9 hY) dX9_over_28 (mX9_go hY h) rfl rfl ⟨Nat.le_of_ble_eq_true rfl, Nat.le_of_ble_eq_true rfl⟩ (Nat.le_of_ble_eq_true rfl) (fun σ15 h => ?_)
            refine vv_aload_n C 0 dX9_over_31 rfl rfl ?_
            refine vv_geti C kc_X9 (s_X9 hY) 38 (by decide) rfl fk_X9_211 dX9_over_32 ?_
            refine vv_if_le (pc := 35) C 51 dX9_over_35 (by decide) (fun hc16 => ?_) (fun hc16 => ?_)
            · replace h := h.1 hc16
              obtain ⟨v17, ev17⟩ : ∃ z : Int32, z = v11 + (1 : Int32) := ⟨_, rfl⟩
              replace h := h v17 ev17
              refine vv_iinc (v := v17) (L' := [(2, .int v17), (0, .ref (vv_q Y 0)), (1, .int a1)]) C 2 dX9_over_51 rfl ((kinc ki_1).trans ev17.symm) (by decide) rfl ?_
              refine vv_goto (pc := 54) (tgt := 18) C dX9_over_54 (by decide) ?_
              refine vv_sub [1, 2, 0] (L' := [(0, .ref (vv_q Y 0)), (1, .int a1), (2, .int v17)]) rfl ?_
              exact ih1 _ _ h
            · replace h := h.2 hc16
              refine vv_sub [0, 1, 2] (L' := [(0, .ref (vv_q Y 0)), (1, .int a1), (2, .int v11)]) rfl ?_
              exact hJk38_6 _ _ h
      refine vv_sub [1, 2, 0] (L' := [(0, .ref (vv_q Y 0)), (1, .int a1), (2, .int (1 : Int32))]) rfl ?_
      exact hl1 n13 _ _ h
  · replace h := h.2 hc3
    refine vv_iconst C dX9_over_10 ki_m1 ?_
    exact vv_iret C dX9_over_11 h
set_option maxHeartbeats 2000000 in
set_option maxRecDepth 100000 in
theorem mX9_goneFrom {Y : vv_Y} (hY : Y.2.2.2.2 = wM)  {σ : vv_S} {post : Int32 → vv_S → Prop} (h : wX9_goneFrom σ post) : vv_MI Y yX9_goneFrom cX9_goneFrom 2 (some .int) 3 75 [.ref (vv_q Y 0)] σ post := by
  refine vv_ofI (by decide) (Nat.le_of_ble_eq_true rfl) (fun X C => ?_)
  have C : VC Y X RX9 cX9_goneFrom 2 (some .int) 3 75 := C
  refine vv_sub [0] (L' := [(0, .ref (vv_q Y 0))]) rfl ?_
  refine vv_iconst C dX9_goneFrom_0 ki_1 ?_
  refine vv_istore_n (L' := [(1, .int (1 : Int32)), (0, .ref (vv_q Y 0))]) C dX9_goneFrom_1 rfl (by decide) rfl ?_
  refine vv_join (fun k => ∀ (v1 : Int32) (σ2 : vv_S), k v1 σ2 → VJ Y X (va_Qi post (vv_B Y) X.2) 2 22 [(0, .ref (vv_q Y 0)), (1, .int v1)] [] σ2) h (fun v1 σ2 h => ?_) (fun k22_2 hJk22_2 h => ?_)
  · refine vv_aload_n C 0 dX9_goneFrom_22 rfl rfl ?_
    refine vv_aload_n C 0 dX9_goneFrom_23 rfl rfl ?_
    refine vv_geti C kc_X9 (s_X9 hY) 40 (by decide) rfl fk_X9_202 dX9_goneFrom_24 ?_
    refine vv_puti C kc_X9 (s_X9 hY) 41 (by decide) rfl pf_X9_41 fk_X9_263 dX9_goneFrom_27 (fun σ4 eσ4 => ?_)
    replace h := h σ4 eσ4
    refine vv_iload_n C 1 dX9_goneFrom_30 rfl rfl ?_
    exact vv_iret C dX9_goneFrom_31 h
  · obtain ⟨n7, h⟩ := h
    have hl1 : ∀ (n7 : Nat) (v5 : Int32) (σ6 : vv_S), lX9_goneFrom_1 post k22_2 n7 v5 σ6 → VJ Y X (va_Qi post (vv_B Y) X.2) 2 2 [(0, .ref (vv_q Y 0)), (1, .int v5)] [] σ6 := by
      clear h
      intro n7
      induction n7 with
      | zero => intro v5 σ6 h; exact False.elim h
      | succ n7 ih1 =>
        intro v5 σ6 h
        refine vv_iload_n C 1 dX9_goneFrom_2 rfl rfl ?_
        refine vv_sipush C dX9_goneFrom_3 ks_200 ?_
        refine vv_icmp_gt (pc := 6) C 38 dX9_goneFrom_6 (by decide) (fun hc8 => ?_) (fun hc8 => ?_)
        · replace h := h.1 hc8
          refine vv_bipush C dX9_goneFrom_38 kb_m4 ?_
          exact vv_iret C dX9_goneFrom_40 h
        · replace h := h.2 hc8
          refine vv_aload_n C 0 dX9_goneFrom_9 rfl rfl ?_
          refine vv_iconst C dX9_goneFrom_10 ki_1 ?_
          refine vv_iconst C dX9_goneFrom_11 ki_0 ?_
          refine vv_callV (rest := []) C yk_X9_go vk_X9_go lk_X9_224 kc_X9.1 (s_X9 hY) dX9_goneFrom_12 (mX9_go hY h) rfl rfl ⟨Nat.le_of_ble_eq_true rfl, Nat.le_of_ble_eq_true rfl⟩ (Nat.le_of_ble_eq_true rfl) (fun σ9 h => ?_)
          refine vv_aload_n C 0 dX9_goneFrom_15 rfl rfl ?_
          refine vv_geti C kc_X9 (s_X9 hY) 40 (by decide) rfl fk_X9_202 dX9_goneFrom_16 ?_
          refine vv_if_lt (pc := 19) C 32 dX9_goneFrom_19 (by decide) (fun hc10 => ?_) (fun hc10 => ?_)
          · replace h := h.1 hc10
            obtain ⟨v11, ev11⟩ : ∃ z : Int32, z = v5 + (1 : Int32) := ⟨_, rfl⟩
            replace h := h v11 ev11
            refine vv_iinc (v := v11) (L' := [(1, .int v11), (0, .ref (vv_q Y 0))]) C 1 dX9_goneFrom_32 rfl ((kinc ki_1).trans ev11.symm) (by decide) rfl ?_
            refine vv_goto (pc := 35) (tgt := 2) C dX9_goneFrom_35 (by decide) ?_
            refine vv_sub [1, 0] (L' := [(0, .ref (vv_q Y 0)), (1, .int v11)]) rfl ?_
            exact ih1 _ _ h
          · replace h := h.2 hc10
            refine vv_sub [0, 1] (L' := [(0, .ref (vv_q Y 0)), (1, .int v5)]) rfl ?_
            exact hJk22_2 _ _ h
    refine vv_sub [1, 0] (L' := [(0, .ref (vv_q Y 0)), (1, .int (1 : Int32))]) rfl ?_
    exact hl1 n7 _ _ h
set_option maxHeartbeats 2000000 in
set_option maxRecDepth 100000 in
theorem mX9_gone {Y : vv_Y} (hY : Y.2.2.2.2 = wM) {a1 : Int32} {σ : vv_S} {post : Int32 → vv_S → Prop} (h : wX9_gone a1 σ post) : vv_MI Y yX9_gone cX9_gone 3 (some .int) 4 96 [.ref (vv_q Y 0), .int a1] σ post := by
  refine vv_ofI (by decide) (Nat.le_of_ble_eq_true rfl) (fun X C => ?_)
  have C : VC Y X RX9 cX9_gone 3 (some .int) 4 96 := C
  refine vv_sub [0, 1] (L' := [(0, .ref (vv_q Y 0)), (1, .int a1)]) rfl ?_
  refine vv_iload_n C 1 dX9_gone_0 rfl rfl ?_
  refine vv_i2l C dX9_gone_1 ?_
  refine vv_lconst (v := 0) C dX9_gone_2 (by decide) ?_
  refine vv_lconst (v := 1) C dX9_gone_3 (by decide) ?_
  refine vv_callS (rest := []) C yk_X9_in sk_X9_in lk_X9_138 dX9_gone_4 (mX9_in hY h) rfl rfl ⟨Nat.le_of_ble_eq_true rfl, Nat.le_of_ble_eq_true rfl⟩ (Nat.le_of_ble_eq_true rfl) (fun r2 σ1 h => ?_)
  refine vv_if_ne (pc := 7) C 12 dX9_gone_7 (by decide) (fun hc3 => ?_) (fun hc3 => ?_)
  · replace h := h.1 hc3
    refine vv_aload_n C 0 dX9_gone_12 rfl rfl ?_
    refine vv_callV (rest := []) C yk_X9_tryIt vk_X9_tryIt lk_X9_254 kc_X9.1 (s_X9 hY) dX9_gone_13 (mX9_tryIt hY h) rfl rfl ⟨Nat.le_of_ble_eq_true rfl, Nat.le_of_ble_eq_true rfl⟩ (Nat.le_of_ble_eq_true rfl) (fun σ4 h => ?_)
    refine vv_aload_n C 0 dX9_gone_16 rfl rfl ?_
    refine vv_callI (rest := []) C yk_X9_goneFrom vk_X9_goneFrom lk_X9_266 kc_X9.1 (s_X9 hY) dX9_gone_17 (mX9_goneFrom hY h) rfl rfl ⟨Nat.le_of_ble_eq_true rfl, Nat.le_of_ble_eq_true rfl⟩ (Nat.le_of_ble_eq_true rfl) (fun r6 σ5 h => ?_)
    refine vv_istore_n (L' := [(2, .int r6), (0, .ref (vv_q Y 0)), (1, .int a1)]) C dX9_gone_20 rfl (by decide) rfl ?_
    refine vv_iload_n C 0 dX9_gone_21 rfl rfl ?_
    refine vv_join (fun k => ∀ (v7 : Int32), k v7 → VJ Y X (va_Qi post (vv_B Y) X.2) 3 37 [] [.int v7] σ5) h (fun v7 h => ?_) (fun k37_7 hJk37_7 h => ?_)
    · exact vv_iret C dX9_gone_37 h
    · refine vv_join (fun k =>  k → VJ Y X (va_Qi post (vv_B Y) X.2) 3 29 [(2, .int r6)] [] σ5) h (fun h => ?_) (fun k29_8 hJk29_8 h => ?_)
      · refine vv_iload_n C 0 dX9_gone_29 rfl rfl ?_
        refine vv_goto (pc := 30) (tgt := 37) C dX9_gone_30 (by decide) ?_
        refine vv_sub [] (L' := []) rfl ?_
        exact hJk37_7 _ h
      · refine vv_if_lt (pc := 22) C 29 dX9_gone_22 (by decide) (fun hc10 => ?_) (fun hc10 => ?_)
        · replace h := h.1 hc10
          refine vv_sub [0] (L' := [(2, .int r6)]) rfl ?_
          exact hJk29_8 h
        · replace h := h.2 hc10
          refine vv_iload_n C 2 dX9_gone_25 rfl rfl ?_
          refine vv_if_ne (pc := 26) C 33 dX9_gone_26 (by decide) (fun hc11 => ?_) (fun hc11 => ?_)
          · replace h := h.1 hc11
            refine vv_aload_n C 1 dX9_gone_33 rfl rfl ?_
            refine vv_geti C kc_X9 (s_X9 hY) 41 (by decide) rfl fk_X9_263 dX9_gone_34 ?_
            refine vv_sub [] (L' := []) rfl ?_
            exact hJk37_7 _ h
          · replace h := h.2 hc11
            refine vv_sub [0] (L' := [(2, .int r6)]) rfl ?_
            exact hJk29_8 h
  · replace h := h.2 hc3
    refine vv_iconst C dX9_gone_10 ki_m1 ?_
    exact vv_iret C dX9_gone_11 h
set_option maxHeartbeats 2000000 in
set_option maxRecDepth 100000 in
theorem mX9_nextRow {Y : vv_Y} (hY : Y.2.2.2.2 = wM)  {σ : vv_S} {post : Int32 → vv_S → Prop} (h : wX9_nextRow σ post) : vv_MI Y yX9_nextRow cX9_nextRow 4 (some .boolean) 0 0 [.ref (vv_q Y 0)] σ post := by
  refine vv_ofI (by decide) (Nat.le_of_ble_eq_true rfl) (fun X C => ?_)
  have C : VC Y X RX9 cX9_nextRow 4 (some .boolean) 0 0 := C
  refine vv_sub [0] (L' := [(0, .ref (vv_q Y 0))]) rfl ?_
  refine vv_aload_n C 0 dX9_nextRow_0 rfl rfl ?_
  refine vv_getr (r := 2) C kc_X9 (s_X9 hY) 2 (by decide) rfl fk_X9_13 dX9_nextRow_1 ?_
  refine vv_iconst C dX9_nextRow_4 ki_0 ?_
  refine vv_iald C (a_X9_cells hY) kv_0_2 kn_0 dX9_nextRow_5 ?_
  refine vv_iconst C dX9_nextRow_6 ki_1 ?_
  refine vv_isub C dX9_nextRow_7 ?_
  refine vv_nm (fun v1 ev1 => ?_)
  replace h := h v1 ev1
  refine vv_istore_n (L' := [(1, .int v1), (0, .ref (vv_q Y 0))]) C dX9_nextRow_8 rfl (by decide) rfl ?_
  refine vv_iload_n C 0 dX9_nextRow_9 rfl rfl ?_
  refine vv_iconst C dX9_nextRow_10 ki_1 ?_
  refine vv_isub C dX9_nextRow_11 ?_
  refine vv_nm (fun v2 ev2 => ?_)
  replace h := h v2 ev2
  refine vv_istore_n (L' := [(2, .int v2), (1, .int v1), (0, .ref (vv_q Y 0))]) C dX9_nextRow_12 rfl (by decide) rfl ?_
  refine vv_join (fun k => ∀ (v3 : Int32), k v3 → VJ Y X (va_Qi post (vv_B Y) X.2) 4 32 [(0, .ref (vv_q Y 0)), (1, .int v1), (2, .int v3)] [] σ) h (fun v3 h => ?_) (fun k32_3 hJk32_3 h => ?_)
  · refine vv_iload_n C 2 dX9_nextRow_32 rfl rfl ?_
    refine vv_if_ge (pc := 33) C 38 dX9_nextRow_33 (by decide) (fun hc5 => ?_) (fun hc5 => ?_)
    · replace h := h.1 hc5
      refine vv_aload_n C 0 dX9_nextRow_38 rfl rfl ?_
      refine vv_getr (r := 35) C kc_X9 (s_X9 hY) 42 (by decide) rfl fk_X9_112 dX9_nextRow_39 ?_
      refine vv_iload_n C 1 dX9_nextRow_42 rfl rfl ?_
      obtain ⟨hi6, h⟩ := h
      refine vv_iald C (a_X9_row hY) hi6 rfl dX9_nextRow_43 ?_
      refine vv_iconst C dX9_nextRow_44 ki_1 ?_
      refine vv_iadd C dX9_nextRow_45 ?_
      refine vv_nm (fun v7 ev7 => ?_)
      replace h := h v7 ev7
      refine vv_istore_n (L' := [(3, .int v7), (0, .ref (vv_q Y 0)), (1, .int v1), (2, .int v3)]) C dX9_nextRow_46 rfl (by decide) rfl ?_
      refine vv_aload_n C 1 dX9_nextRow_47 rfl rfl ?_
      refine vv_getr (r := 35) C kc_X9 (s_X9 hY) 42 (by decide) rfl fk_X9_112 dX9_nextRow_48 ?_
      refine vv_iload_n C 2 dX9_nextRow_51 rfl rfl ?_
      refine vv_iconst C dX9_nextRow_52 ki_0 ?_
      obtain ⟨hi8, h⟩ := h
      refine vv_iast C (a_X9_row hY) hi8 rfl dX9_nextRow_53 (fun σ9 eσ9 => ?_)
      replace h := h σ9 eσ9
      refine vv_aload_n C 1 dX9_nextRow_54 rfl rfl ?_
      refine vv_getr (r := 35) C kc_X9 (s_X9 hY) 42 (by decide) rfl fk_X9_112 dX9_nextRow_55 ?_
      refine vv_iload_n C 3 dX9_nextRow_58 rfl rfl ?_
      refine vv_dup2 C dX9_nextRow_59 rfl rfl ?_
      obtain ⟨hi10, h⟩ := h
      refine vv_iald C (a_X9_row hY) hi10 rfl dX9_nextRow_60 ?_
      refine vv_iconst C dX9_nextRow_61 ki_1 ?_
      refine vv_isub C dX9_nextRow_62 ?_
      obtain ⟨hi11, h⟩ := h
      refine vv_iast C (a_X9_row hY) hi11 rfl dX9_nextRow_63 (fun σ12 eσ12 => ?_)
      replace h := h σ12 eσ12
      refine vv_aload_n C 1 dX9_nextRow_64 rfl rfl ?_
      refine vv_getr (r := 35) C kc_X9 (s_X9 hY) 42 (by decide) rfl fk_X9_112 dX9_nextRow_65 ?_
      refine vv_iload_n C 3 dX9_nextRow_68 rfl rfl ?_
      refine vv_iconst C dX9_nextRow_69 ki_1 ?_
      refine vv_iadd C dX9_nextRow_70 ?_
      refine vv_iload_n C 0 dX9_nextRow_71 rfl rfl ?_
      obtain ⟨hi13, h⟩ := h
      refine vv_iast C (a_X9_row hY) hi13 rfl dX9_nextRow_72 (fun σ14 eσ14 => ?_)
      replace h := h σ14 eσ14
      refine vv_iconst C dX9_nextRow_73 ki_1 ?_
      exact vv_zret C (Or.inr rfl) dX9_nextRow_74 h
    · replace h := h.2 hc5
      refine vv_iconst C dX9_nextRow_36 ki_0 ?_
      exact vv_zret C (Or.inl rfl) dX9_nextRow_37 h
  · obtain ⟨n16, h⟩ := h
    have hl1 : ∀ (n16 : Nat) (v15 : Int32), lX9_nextRow_1 k32_3 σ n16 v15 → VJ Y X (va_Qi post (vv_B Y) X.2) 4 13 [(0, .ref (vv_q Y 0)), (1, .int v1), (2, .int v15)] [] σ := by
      clear h
      intro n16
      induction n16 with
      | zero => intro v15 h; exact False.elim h
      | succ n16 ih1 =>
        intro v15 h
        refine vv_iload_n C 2 dX9_nextRow_13 rfl rfl ?_
        refine vv_if_lt (pc := 14) C 32 dX9_nextRow_14 (by decide) (fun hc17 => ?_) (fun hc17 => ?_)
        · replace h := h.1 hc17
          refine vv_sub [0, 1, 2] (L' := [(0, .ref (vv_q Y 0)), (1, .int v1), (2, .int v15)]) rfl ?_
          exact hJk32_3 _ h
        · replace h := h.2 hc17
          refine vv_aload_n C 0 dX9_nextRow_17 rfl rfl ?_
          refine vv_getr (r := 35) C kc_X9 (s_X9 hY) 42 (by decide) rfl fk_X9_112 dX9_nextRow_18 ?_
          refine vv_iload_n C 2 dX9_nextRow_21 rfl rfl ?_
          obtain ⟨hi18, h⟩ := h
          refine vv_iald C (a_X9_row hY) hi18 rfl dX9_nextRow_22 ?_
          refine vv_if_ne (pc := 23) C 32 dX9_nextRow_23 (by decide) (fun hc19 => ?_) (fun hc19 => ?_)
          · replace h := h.1 hc19
            refine vv_sub [0, 1, 2] (L' := [(0, .ref (vv_q Y 0)), (1, .int v1), (2, .int v15)]) rfl ?_
            exact hJk32_3 _ h
          · replace h := h.2 hc19
            obtain ⟨v20, ev20⟩ : ∃ z : Int32, z = v15 + (-1 : Int32) := ⟨_, rfl⟩
            replace h := h v20 ev20
            refine vv_iinc (v := v20) (L' := [(2, .int v20), (0, .ref (vv_q Y 0)), (1, .int v1)]) C 2 dX9_nextRow_26 rfl ((kinc ki_m1).trans ev20.symm) (by decide) rfl ?_
            refine vv_goto (pc := 29) (tgt := 13) C dX9_nextRow_29 (by decide) ?_
            refine vv_sub [1, 2, 0] (L' := [(0, .ref (vv_q Y 0)), (1, .int v1), (2, .int v20)]) rfl ?_
            exact ih1 _ h
    refine vv_sub [2, 1, 0] (L' := [(0, .ref (vv_q Y 0)), (1, .int v1), (2, .int v2)]) rfl ?_
    exact hl1 n16 _ h
set_option maxHeartbeats 2000000 in
set_option maxRecDepth 100000 in
theorem mX9_layRow {Y : vv_Y} (hY : Y.2.2.2.2 = wM) {a1 : Int32} {σ : vv_S} {post : Int32 → vv_S → Prop} (h : wX9_layRow a1 σ post) : vv_MI Y yX9_layRow cX9_layRow 4 (some .boolean) 1 21 [.ref (vv_q Y 0), .int a1] σ post := by
  refine vv_ofI (by decide) (Nat.le_of_ble_eq_true rfl) (fun X C => ?_)
  have C : VC Y X RX9 cX9_layRow 4 (some .boolean) 1 21 := C
  refine vv_sub [0, 1] (L' := [(0, .ref (vv_q Y 0)), (1, .int a1)]) rfl ?_
  refine vv_aload_n C 0 dX9_layRow_0 rfl rfl ?_
  refine vv_callV (rest := []) C yk_X9_tryIt vk_X9_tryIt lk_X9_254 kc_X9.1 (s_X9 hY) dX9_layRow_1 (mX9_tryIt hY h) rfl rfl ⟨Nat.le_of_ble_eq_true rfl, Nat.le_of_ble_eq_true rfl⟩ (Nat.le_of_ble_eq_true rfl) (fun σ1 h => ?_)
  refine vv_iconst C dX9_layRow_4 ki_1 ?_
  refine vv_istore_n (L' := [(2, .int (1 : Int32)), (0, .ref (vv_q Y 0)), (1, .int a1)]) C dX9_layRow_5 rfl (by decide) rfl ?_
  refine vv_iconst C dX9_layRow_6 ki_0 ?_
  refine vv_istore_n (L' := [(3, .int (0 : Int32)), (2, .int (1 : Int32)), (0, .ref (vv_q Y 0)), (1, .int a1)]) C dX9_layRow_7 rfl (by decide) rfl ?_
  obtain ⟨n5, h⟩ := h
  have hl1 : ∀ (n5 : Nat) (v2 : Int32) (v3 : Int32) (σ4 : vv_S), lX9_layRow_1 post a1 n5 v2 v3 σ4 → VJ Y X (va_Qi post (vv_B Y) X.2) 4 8 [(0, .ref (vv_q Y 0)), (1, .int a1), (2, .int v2), (3, .int v3)] [] σ4 := by
    clear h
    intro n5
    induction n5 with
    | zero => intro v2 v3 σ4 h; exact False.elim h
    | succ n5 ih1 =>
      intro v2 v3 σ4 h
      refine vv_iload_n C 3 dX9_layRow_8 rfl rfl ?_
      refine vv_aload_n C 0 dX9_layRow_9 rfl rfl ?_
      refine vv_getr (r := 2) C kc_X9 (s_X9 hY) 2 (by decide) rfl fk_X9_13 dX9_layRow_10 ?_
      refine vv_iconst C dX9_layRow_13 ki_0 ?_
      refine vv_iald C (a_X9_cells hY) kv_0_2 kn_0 dX9_layRow_14 ?_
      refine vv_icmp_ge (pc := 15) C 113 dX9_layRow_15 (by decide) (fun hc6 => ?_) (fun hc6 => ?_)
      · replace h := h.1 hc6
        refine vv_iload_n C 2 dX9_layRow_113 rfl rfl ?_
        exact vv_zret C h.1 dX9_layRow_114 h.2
      · replace h := h.2 hc6
        refine vv_iload_n C 2 dX9_layRow_18 rfl rfl ?_
        refine vv_join (fun k => ∀ (v7 : Int32), k v7 → VJ Y X (va_Qi post (vv_B Y) X.2) 4 57 [(0, .ref (vv_q Y 0)), (1, .int a1), (3, .int v3)] [.int v7] σ4) h (fun v7 h => ?_) (fun k57_7 hJk57_7 h => ?_)
        · refine vv_istore_n (L' := [(2, .int v7), (0, .ref (vv_q Y 0)), (1, .int a1), (3, .int v3)]) C dX9_layRow_57 rfl (by decide) rfl ?_
          refine vv_aload_n C 1 dX9_layRow_58 rfl rfl ?_
          refine vv_getr (r := 28) C kc_X9 (s_X9 hY) 31 (by decide) rfl fk_X9_91 dX9_layRow_59 ?_
          refine vv_bipush C dX9_layRow_62 kb_8 ?_
          refine vv_iload_n C 3 dX9_layRow_64 rfl rfl ?_
          refine vv_iadd C dX9_layRow_65 ?_
          refine vv_dup2 C dX9_layRow_66 rfl rfl ?_
          obtain ⟨hi9, h⟩ := h
          refine vv_iald C (a_X9_high hY) hi9 rfl dX9_layRow_67 ?_
          refine vv_aload_n C 1 dX9_layRow_68 rfl rfl ?_
          refine vv_getr (r := 35) C kc_X9 (s_X9 hY) 42 (by decide) rfl fk_X9_112 dX9_layRow_69 ?_
          refine vv_iload_n C 3 dX9_layRow_72 rfl rfl ?_
          obtain ⟨hi10, h⟩ := h
          refine vv_iald C (a_X9_row hY) hi10 rfl dX9_layRow_73 ?_
          refine vv_iadd C dX9_layRow_74 ?_
          obtain ⟨hi11, h⟩ := h
          refine vv_iast C (a_X9_high hY) hi11 rfl dX9_layRow_75 (fun σ12 eσ12 => ?_)
          replace h := h σ12 eσ12
          refine vv_aload_n C 1 dX9_layRow_76 rfl rfl ?_
          refine vv_getr (r := 29) C kc_X9 (s_X9 hY) 32 (by decide) rfl fk_X9_94 dX9_layRow_77 ?_
          refine vv_bipush C dX9_layRow_80 kb_8 ?_
          refine vv_iload_n C 3 dX9_layRow_82 rfl rfl ?_
          refine vv_iadd C dX9_layRow_83 ?_
          refine vv_aload_n C 1 dX9_layRow_84 rfl rfl ?_
          refine vv_getr (r := 35) C kc_X9 (s_X9 hY) 42 (by decide) rfl fk_X9_112 dX9_layRow_85 ?_
          refine vv_iload_n C 3 dX9_layRow_88 rfl rfl ?_
          obtain ⟨hi13, h⟩ := h
          refine vv_iald C (a_X9_row hY) hi13 rfl dX9_layRow_89 ?_
          refine vv_join (fun k => ∀ (v14 : Int32), k v14 → VJ Y X (va_Qi post (vv_B Y) X.2) 4 106 [(0, .ref (vv_q Y 0)), (1, .int a1), (2, .int v7), (3, .int v3)] [.int v14, .int ((8 : Int32) + v3), .ref (vv_q Y 29)] σ12) h (fun v14 h => ?_) (fun k106_14 hJk106_14 h => ?_)
          · obtain ⟨hi16, h⟩ := h
            refine vv_iast C (a_X9_of hY) hi16 rfl dX9_layRow_106 (fun σ17 eσ17 => ?_)
            replace h := h σ17 eσ17
            obtain ⟨v18, ev18⟩ : ∃ z : Int32, z = v3 + (1 : Int32) := ⟨_, rfl⟩
            replace h := h v18 ev18
            refine vv_iinc (v := v18) (L' := [(3, .int v18), (0, .ref (vv_q Y 0)), (1, .int a1), (2, .int v7)]) C 3 dX9_layRow_107 rfl ((kinc ki_1).trans ev18.symm) (by decide) rfl ?_
            refine vv_goto (pc := 110) (tgt := 8) C dX9_layRow_110 (by decide) ?_
            refine vv_sub [1, 2, 3, 0] (L' := [(0, .ref (vv_q Y 0)), (1, .int a1), (2, .int v7), (3, .int v18)]) rfl ?_
            exact ih1 _ _ _ h
          · refine vv_if_le (pc := 90) C 97 dX9_layRow_90 (by decide) (fun hc19 => ?_) (fun hc19 => ?_)
            · replace h := h.1 hc19
              refine vv_aload_n C 1 dX9_layRow_97 rfl rfl ?_
              refine vv_getr (r := 29) C kc_X9 (s_X9 hY) 32 (by decide) rfl fk_X9_94 dX9_layRow_98 ?_
              refine vv_bipush C dX9_layRow_101 kb_8 ?_
              refine vv_iload_n C 3 dX9_layRow_103 rfl rfl ?_
              refine vv_iadd C dX9_layRow_104 ?_
              obtain ⟨hi20, h⟩ := h
              refine vv_iald C (a_X9_of hY) hi20 rfl dX9_layRow_105 ?_
              refine vv_sub [1, 2, 0, 3] (L' := [(0, .ref (vv_q Y 0)), (1, .int a1), (2, .int v7), (3, .int v3)]) rfl ?_
              exact hJk106_14 _ h
            · replace h := h.2 hc19
              refine vv_iload_n C 2 dX9_layRow_93 rfl rfl ?_
              refine vv_goto (pc := 94) (tgt := 106) C dX9_layRow_94 (by decide) ?_
              refine vv_sub [1, 2, 0, 3] (L' := [(0, .ref (vv_q Y 0)), (1, .int a1), (2, .int v7), (3, .int v3)]) rfl ?_
              exact hJk106_14 _ h
        · refine vv_join (fun k =>  k → VJ Y X (va_Qi post (vv_B Y) X.2) 4 56 [(0, .ref (vv_q Y 0)), (1, .int a1), (3, .int v3)] [] σ4) h (fun h => ?_) (fun k56_20 hJk56_20 h => ?_)
          · refine vv_iconst C dX9_layRow_56 ki_0 ?_
            refine vv_sub [0, 1, 2] (L' := [(0, .ref (vv_q Y 0)), (1, .int a1), (3, .int v3)]) rfl ?_
            exact hJk57_7 _ h
          · refine vv_if_eq (pc := 19) C 56 dX9_layRow_19 (by decide) (fun hc22 => ?_) (fun hc22 => ?_)
            · replace h := h.1 hc22
              refine vv_sub [0, 1, 3] (L' := [(0, .ref (vv_q Y 0)), (1, .int a1), (3, .int v3)]) rfl ?_
              exact hJk56_20 h
            · replace h := h.2 hc22
              refine vv_aload_n C 0 dX9_layRow_22 rfl rfl ?_
              refine vv_getr (r := 35) C kc_X9 (s_X9 hY) 42 (by decide) rfl fk_X9_112 dX9_layRow_23 ?_
              refine vv_iload_n C 3 dX9_layRow_26 rfl rfl ?_
              obtain ⟨hi23, h⟩ := h
              refine vv_iald C (a_X9_row hY) hi23 rfl dX9_layRow_27 ?_
              refine vv_join (fun k =>  k → VJ Y X (va_Qi post (vv_B Y) X.2) 4 52 [(0, .ref (vv_q Y 0)), (1, .int a1), (3, .int v3)] [] σ4) h (fun h => ?_) (fun k52_23 hJk52_23 h => ?_)
              · refine vv_iconst C dX9_layRow_52 ki_1 ?_
                refine vv_goto (pc := 53) (tgt := 57) C dX9_layRow_53 (by decide) ?_
                refine vv_sub [0, 1, 2] (L' := [(0, .ref (vv_q Y 0)), (1, .int a1), (3, .int v3)]) rfl ?_
                exact hJk57_7 _ h
              · refine vv_if_eq (pc := 28) C 52 dX9_layRow_28 (by decide) (fun hc25 => ?_) (fun hc25 => ?_)
                · replace h := h.1 hc25
                  refine vv_sub [0, 1, 3] (L' := [(0, .ref (vv_q Y 0)), (1, .int a1), (3, .int v3)]) rfl ?_
                  exact hJk52_23 h
                · replace h := h.2 hc25
                  refine vv_aload_n C 0 dX9_layRow_31 rfl rfl ?_
                  refine vv_getr (r := 28) C kc_X9 (s_X9 hY) 31 (by decide) rfl fk_X9_91 dX9_layRow_32 ?_
                  refine vv_bipush C dX9_layRow_35 kb_8 ?_
                  refine vv_iload_n C 3 dX9_layRow_37 rfl rfl ?_
                  refine vv_iadd C dX9_layRow_38 ?_
                  obtain ⟨hi26, h⟩ := h
                  refine vv_iald C (a_X9_high hY) hi26 rfl dX9_layRow_39 ?_
                  refine vv_aload_n C 0 dX9_layRow_40 rfl rfl ?_
                  refine vv_getr (r := 35) C kc_X9 (s_X9 hY) 42 (by decide) rfl fk_X9_112 dX9_layRow_41 ?_
                  refine vv_iload_n C 3 dX9_layRow_44 rfl rfl ?_
                  obtain ⟨hi27, h⟩ := h
                  refine vv_iald C (a_X9_row hY) hi27 rfl dX9_layRow_45 ?_
                  refine vv_iadd C dX9_layRow_46 ?_
                  refine vv_bipush C dX9_layRow_47 kb_40 ?_
                  refine vv_icmp_gt (pc := 49) C 56 dX9_layRow_49 (by decide) (fun hc28 => ?_) (fun hc28 => ?_)
                  · replace h := h.1 hc28
                    refine vv_sub [0, 1, 3] (L' := [(0, .ref (vv_q Y 0)), (1, .int a1), (3, .int v3)]) rfl ?_
                    exact hJk56_20 h
                  · replace h := h.2 hc28
                    refine vv_sub [0, 1, 3] (L' := [(0, .ref (vv_q Y 0)), (1, .int a1), (3, .int v3)]) rfl ?_
                    exact hJk52_23 h
  refine vv_sub [2, 3, 1, 0] (L' := [(0, .ref (vv_q Y 0)), (1, .int a1), (2, .int (1 : Int32)), (3, .int (0 : Int32))]) rfl ?_
  exact hl1 n5 _ _ _ h
set_option maxHeartbeats 2000000 in
set_option maxRecDepth 100000 in
theorem mX9_best {Y : vv_Y} (hY : Y.2.2.2.2 = wM) {a1 : Int32} {a2 : Int32} {a3 : Int32} {a4 : Int32} {σ : vv_S} {post : Int32 → vv_S → Prop} (h : wX9_best a1 a2 a3 a4 σ post) : vv_MI Y yX9_best cX9_best 8 (some .int) 3 75 [.ref (vv_q Y 0), .int a1, .int a2, .int a3, .int a4] σ post := by
  refine vv_ofI (by decide) (Nat.le_of_ble_eq_true rfl) (fun X C => ?_)
  have C : VC Y X RX9 cX9_best 8 (some .int) 3 75 := C
  refine vv_sub [0, 1, 2, 3, 4] (L' := [(0, .ref (vv_q Y 0)), (1, .int a1), (2, .int a2), (3, .int a3), (4, .int a4)]) rfl ?_
  refine vv_iload_n C 1 dX9_best_0 rfl rfl ?_
  refine vv_i2l C dX9_best_1 ?_
  refine vv_lconst (v := 1) C dX9_best_2 (by decide) ?_
  refine vv_ldc2 C lc_X9_269 dX9_best_3 ?_
  refine vv_callS (rest := []) C yk_X9_in sk_X9_in lk_X9_138 dX9_best_6 (mX9_in hY h) rfl rfl ⟨Nat.le_of_ble_eq_true rfl, Nat.le_of_ble_eq_true rfl⟩ (Nat.le_of_ble_eq_true rfl) (fun r2 σ1 h => ?_)
  refine vv_join (fun k => ∀ (σ3 : vv_S), k σ3 → VJ Y X (va_Qi post (vv_B Y) X.2) 8 51 [] [] σ3) h (fun σ3 h => ?_) (fun k51_3 hJk51_3 h => ?_)
  · refine vv_iconst C dX9_best_51 ki_m1 ?_
    exact vv_iret C dX9_best_52 h
  · refine vv_if_eq (pc := 9) C 51 dX9_best_9 (by decide) (fun hc5 => ?_) (fun hc5 => ?_)
    · replace h := h.1 hc5
      refine vv_sub [] (L' := []) rfl ?_
      exact hJk51_3 _ h
    · replace h := h.2 hc5
      refine vv_iload_n C 2 dX9_best_12 rfl rfl ?_
      refine vv_i2l C dX9_best_13 ?_
      refine vv_lconst (v := 0) C dX9_best_14 (by decide) ?_
      refine vv_ldc2 C lc_X9_242 dX9_best_15 ?_
      refine vv_callS (rest := []) C yk_X9_in sk_X9_in lk_X9_138 dX9_best_18 (mX9_in hY h) rfl rfl ⟨Nat.le_of_ble_eq_true rfl, Nat.le_of_ble_eq_true rfl⟩ (Nat.le_of_ble_eq_true rfl) (fun r7 σ6 h => ?_)
      refine vv_if_eq (pc := 21) C 51 dX9_best_21 (by decide) (fun hc8 => ?_) (fun hc8 => ?_)
      · replace h := h.1 hc8
        refine vv_sub [] (L' := []) rfl ?_
        exact hJk51_3 _ h
      · replace h := h.2 hc8
        refine vv_iload_n C 3 dX9_best_24 rfl rfl ?_
        refine vv_i2l C dX9_best_25 ?_
        refine vv_lconst (v := 1) C dX9_best_26 (by decide) ?_
        refine vv_ldc2 C lc_X9_250 dX9_best_27 ?_
        refine vv_callS (rest := []) C yk_X9_in sk_X9_in lk_X9_138 dX9_best_30 (mX9_in hY h) rfl rfl ⟨Nat.le_of_ble_eq_true rfl, Nat.le_of_ble_eq_true rfl⟩ (Nat.le_of_ble_eq_true rfl) (fun r10 σ9 h => ?_)
        refine vv_if_eq (pc := 33) C 51 dX9_best_33 (by decide) (fun hc11 => ?_) (fun hc11 => ?_)
        · replace h := h.1 hc11
          refine vv_sub [] (L' := []) rfl ?_
          exact hJk51_3 _ h
        · replace h := h.2 hc11
          refine vv_iload C 4 dX9_best_36 rfl ?_
          refine vv_iconst C dX9_best_38 ki_m1 ?_
          refine vv_join (fun k => ∀ (σ12 : vv_S), k σ12 → VJ Y X (va_Qi post (vv_B Y) X.2) 8 53 [(0, .ref (vv_q Y 0)), (1, .int a1), (2, .int a2), (3, .int a3), (4, .int a4)] [] σ12) h (fun σ12 h => ?_) (fun k53_12 hJk53_12 h => ?_)
          · refine vv_iconst C dX9_best_53 ki_0 ?_
            refine vv_istore (L' := [(5, .int (0 : Int32)), (0, .ref (vv_q Y 0)), (1, .int a1), (2, .int a2), (3, .int a3), (4, .int a4)]) C dX9_best_54 (by decide) rfl ?_
            refine vv_join (fun k => ∀ (σ14 : vv_S), k σ14 → VJ Y X (va_Qi post (vv_B Y) X.2) 8 86 [(0, .ref (vv_q Y 0)), (2, .int a2), (3, .int a3), (4, .int a4)] [] σ14) h (fun σ14 h => ?_) (fun k86_14 hJk86_14 h => ?_)
            · refine vv_bipush C dX9_best_86 kb_m4 ?_
              refine vv_istore (L' := [(5, .int (-4 : Int32)), (0, .ref (vv_q Y 0)), (2, .int a2), (3, .int a3), (4, .int a4)]) C dX9_best_88 (by decide) rfl ?_
              refine vv_iconst C dX9_best_90 ki_1 ?_
              refine vv_istore (L' := [(6, .int (1 : Int32)), (5, .int (-4 : Int32)), (0, .ref (vv_q Y 0)), (2, .int a2), (3, .int a3), (4, .int a4)]) C dX9_best_91 (by decide) rfl ?_
              refine vv_join (fun k => ∀ (v16 : Int32) (σ17 : vv_S), k v16 σ17 → VJ Y X (va_Qi post (vv_B Y) X.2) 8 185 [(0, .ref (vv_q Y 0)), (4, .int a4), (5, .int v16)] [] σ17) h (fun v16 σ17 h => ?_) (fun k185_17 hJk185_17 h => ?_)
              · refine vv_iload C 2 dX9_best_185 rfl ?_
                refine vv_join (fun k => ∀ (v19 : Int32), k v19 → VJ Y X (va_Qi post (vv_B Y) X.2) 8 207 [] [.int v19] σ17) h (fun v19 h => ?_) (fun k207_19 hJk207_19 h => ?_)
                · exact vv_iret C dX9_best_207 h
                · refine vv_join (fun k =>  k → VJ Y X (va_Qi post (vv_B Y) X.2) 8 195 [(5, .int v16)] [] σ17) h (fun h => ?_) (fun k195_20 hJk195_20 h => ?_)
                  · refine vv_iload C 0 dX9_best_195 rfl ?_
                    refine vv_goto (pc := 197) (tgt := 207) C dX9_best_197 (by decide) ?_
                    refine vv_sub [] (L' := []) rfl ?_
                    exact hJk207_19 _ h
                  · refine vv_if_lt (pc := 187) C 195 dX9_best_187 (by decide) (fun hc22 => ?_) (fun hc22 => ?_)
                    · replace h := h.1 hc22
                      refine vv_sub [2] (L' := [(5, .int v16)]) rfl ?_
                      exact hJk195_20 h
                    · replace h := h.2 hc22
                      refine vv_iload C 1 dX9_best_190 rfl ?_
                      refine vv_if_ge (pc := 192) C 200 dX9_best_192 (by decide) (fun hc23 => ?_) (fun hc23 => ?_)
                      · replace h := h.1 hc23
                        refine vv_aload_n C 0 dX9_best_200 rfl rfl ?_
                        refine vv_getr (r := 36) C kc_X9 (s_X9 hY) 43 (by decide) rfl fk_X9_115 dX9_best_201 ?_
                        refine vv_iload C 1 dX9_best_204 rfl ?_
                        obtain ⟨hi24, h⟩ := h
                        refine vv_iald C (a_X9_bestRow hY) hi24 rfl dX9_best_206 ?_
                        refine vv_sub [] (L' := []) rfl ?_
                        exact hJk207_19 _ h
                      · replace h := h.2 hc23
                        refine vv_sub [2] (L' := [(5, .int v16)]) rfl ?_
                        exact hJk195_20 h
              · obtain ⟨n28, h⟩ := h
                have hl1 : ∀ (n28 : Nat) (v25 : Int32) (v26 : Int32) (σ27 : vv_S), lX9_best_1 k185_17 a2 a3 n28 v25 v26 σ27 → VJ Y X (va_Qi post (vv_B Y) X.2) 8 93 [(0, .ref (vv_q Y 0)), (2, .int a2), (3, .int a3), (4, .int a4), (5, .int v25), (6, .int v26)] [] σ27 := by
                  clear h
                  intro n28
                  induction n28 with
                  | zero => intro v25 v26 σ27 h; exact False.elim h
                  | succ n28 ih1 =>
                    intro v25 v26 σ27 h
                    refine vv_iload C 5 dX9_best_93 rfl ?_
                    refine vv_if_eq (pc := 95) C 185 dX9_best_95 (by decide) (fun hc29 => ?_) (fun hc29 => ?_)
                    · replace h := h.1 hc29
                      refine vv_sub [0, 3, 4] (L' := [(0, .ref (vv_q Y 0)), (4, .int a4), (5, .int v25)]) rfl ?_
                      exact hJk185_17 _ _ h
                    · replace h := h.2 hc29
                      refine vv_aload_n C 0 dX9_best_98 rfl rfl ?_
                      refine vv_iload_n C 1 dX9_best_99 rfl rfl ?_
                      refine vv_callI (rest := []) C yk_X9_layRow vk_X9_layRow lk_X9_271 kc_X9.1 (s_X9 hY) dX9_best_100 (mX9_layRow hY h) rfl rfl ⟨Nat.le_of_ble_eq_true rfl, Nat.le_of_ble_eq_true rfl⟩ (Nat.le_of_ble_eq_true rfl) (fun r31 σ30 h => ?_)
                      refine vv_join (fun k => ∀ (v32 : Int32) (σ33 : vv_S), k v32 σ33 → VJ Y X (va_Qi post (vv_B Y) X.2) 8 176 [(0, .ref (vv_q Y 0)), (2, .int a2), (3, .int a3), (4, .int a4), (5, .int v32)] [] σ33) h (fun v32 σ33 h => ?_) (fun k176_33 hJk176_33 h => ?_)
                      · refine vv_aload_n C 0 dX9_best_176 rfl rfl ?_
                        refine vv_callI (rest := []) C yk_X9_nextRow vk_X9_nextRow lk_X9_274 kc_X9.1 (s_X9 hY) dX9_best_177 (mX9_nextRow hY h) rfl rfl ⟨Nat.le_of_ble_eq_true rfl, Nat.le_of_ble_eq_true rfl⟩ (Nat.le_of_ble_eq_true rfl) (fun r36 σ35 h => ?_)
                        refine vv_istore (L' := [(6, .int r36), (0, .ref (vv_q Y 0)), (2, .int a2), (3, .int a3), (4, .int a4), (5, .int v32)]) C dX9_best_180 (by decide) rfl ?_
                        refine vv_goto (pc := 182) (tgt := 93) C dX9_best_182 (by decide) ?_
                        refine vv_sub [1, 2, 3, 4, 5, 0] (L' := [(0, .ref (vv_q Y 0)), (2, .int a2), (3, .int a3), (4, .int a4), (5, .int v32), (6, .int r36)]) rfl ?_
                        exact ih1 _ _ _ h
                      · refine vv_if_eq (pc := 103) C 176 dX9_best_103 (by decide) (fun hc37 => ?_) (fun hc37 => ?_)
                        · replace h := h.1 hc37
                          refine vv_sub [0, 1, 2, 3, 4] (L' := [(0, .ref (vv_q Y 0)), (2, .int a2), (3, .int a3), (4, .int a4), (5, .int v25)]) rfl ?_
                          exact hJk176_33 _ _ h
                        · replace h := h.2 hc37
                          refine vv_iconst C dX9_best_106 ki_0 ?_
                          refine vv_istore (L' := [(7, .int (0 : Int32)), (0, .ref (vv_q Y 0)), (2, .int a2), (3, .int a3), (4, .int a4), (5, .int v25), (6, .int v26)]) C dX9_best_107 (by decide) rfl ?_
                          refine vv_join (fun k => ∀ (σ38 : vv_S), k σ38 → VJ Y X (va_Qi post (vv_B Y) X.2) 8 127 [(0, .ref (vv_q Y 0)), (2, .int a2), (3, .int a3), (4, .int a4), (5, .int v25)] [] σ38) h (fun σ38 h => ?_) (fun k127_38 hJk127_38 h => ?_)
                          · refine vv_aload_n C 0 dX9_best_127 rfl rfl ?_
                            refine vv_getr (r := 31) C kc_X9 (s_X9 hY) 34 (by decide) rfl fk_X9_100 dX9_best_128 ?_
                            refine vv_iconst C dX9_best_131 ki_1 ?_
                            refine vv_iald C (a_X9_water hY) kv_1_2 kn_1 dX9_best_132 ?_
                            refine vv_iload C 4 dX9_best_133 rfl ?_
                            refine vv_icmp_le (pc := 135) C 176 dX9_best_135 (by decide) (fun hc40 => ?_) (fun hc40 => ?_)
                            · replace h := h.1 hc40
                              refine vv_sub [0, 1, 2, 3, 4] (L' := [(0, .ref (vv_q Y 0)), (2, .int a2), (3, .int a3), (4, .int a4), (5, .int v25)]) rfl ?_
                              exact hJk176_33 _ _ h
                            · replace h := h.2 hc40
                              refine vv_aload_n C 0 dX9_best_138 rfl rfl ?_
                              refine vv_getr (r := 31) C kc_X9 (s_X9 hY) 34 (by decide) rfl fk_X9_100 dX9_best_139 ?_
                              refine vv_iconst C dX9_best_142 ki_1 ?_
                              refine vv_iald C (a_X9_water hY) kv_1_2 kn_1 dX9_best_143 ?_
                              refine vv_nm (fun v41 ev41 => ?_)
                              replace h := h v41 ev41
                              refine vv_istore (L' := [(5, .int v41), (0, .ref (vv_q Y 0)), (2, .int a2), (3, .int a3), (4, .int a4)]) C dX9_best_144 (by decide) rfl ?_
                              refine vv_iconst C dX9_best_146 ki_0 ?_
                              refine vv_istore (L' := [(7, .int (0 : Int32)), (5, .int v41), (0, .ref (vv_q Y 0)), (2, .int a2), (3, .int a3), (4, .int a4)]) C dX9_best_147 (by decide) rfl ?_
                              obtain ⟨n44, h⟩ := h
                              have hl2 : ∀ (n44 : Nat) (v42 : Int32) (σ43 : vv_S), lX9_best_2 k176_33 v41 n44 v42 σ43 → VJ Y X (va_Qi post (vv_B Y) X.2) 8 149 [(0, .ref (vv_q Y 0)), (2, .int a2), (3, .int a3), (4, .int a4), (5, .int v41), (7, .int v42)] [] σ43 := by
                                clear h
                                intro n44
                                induction n44 with
                                | zero => intro v42 σ43 h; exact False.elim h
                                | succ n44 ih2 =>
                                  intro v42 σ43 h
                                  refine vv_iload C 5 dX9_best_149 rfl ?_
                                  refine vv_bipush C dX9_best_151 kb_8 ?_
                                  refine vv_icmp_ge (pc := 153) C 176 dX9_best_153 (by decide) (fun hc45 => ?_) (fun hc45 => ?_)
                                  · replace h := h.1 hc45
                                    refine vv_sub [0, 1, 2, 3, 4] (L' := [(0, .ref (vv_q Y 0)), (2, .int a2), (3, .int a3), (4, .int a4), (5, .int v41)]) rfl ?_
                                    exact hJk176_33 _ _ h
                                  · replace h := h.2 hc45
                                    refine vv_aload_n C 0 dX9_best_156 rfl rfl ?_
                                    refine vv_getr (r := 36) C kc_X9 (s_X9 hY) 43 (by decide) rfl fk_X9_115 dX9_best_157 ?_
                                    refine vv_iload C 5 dX9_best_160 rfl ?_
                                    refine vv_aload_n C 0 dX9_best_162 rfl rfl ?_
                                    refine vv_getr (r := 35) C kc_X9 (s_X9 hY) 42 (by decide) rfl fk_X9_112 dX9_best_163 ?_
                                    refine vv_iload C 5 dX9_best_166 rfl ?_
                                    obtain ⟨hi46, h⟩ := h
                                    refine vv_iald C (a_X9_row hY) hi46 rfl dX9_best_168 ?_
                                    obtain ⟨hi47, h⟩ := h
                                    refine vv_iast C (a_X9_bestRow hY) hi47 rfl dX9_best_169 (fun σ48 eσ48 => ?_)
                                    replace h := h σ48 eσ48
                                    obtain ⟨v49, ev49⟩ : ∃ z : Int32, z = v42 + (1 : Int32) := ⟨_, rfl⟩
                                    replace h := h v49 ev49
                                    refine vv_iinc (v := v49) (L' := [(7, .int v49), (0, .ref (vv_q Y 0)), (2, .int a2), (3, .int a3), (4, .int a4), (5, .int v41)]) C 5 dX9_best_170 rfl ((kinc ki_1).trans ev49.symm) (by decide) rfl ?_
                                    refine vv_goto (pc := 173) (tgt := 149) C dX9_best_173 (by decide) ?_
                                    refine vv_sub [1, 2, 3, 4, 5, 0] (L' := [(0, .ref (vv_q Y 0)), (2, .int a2), (3, .int a3), (4, .int a4), (5, .int v41), (7, .int v49)]) rfl ?_
                                    exact ih2 _ _ h
                              refine vv_sub [2, 3, 4, 5, 1, 0] (L' := [(0, .ref (vv_q Y 0)), (2, .int a2), (3, .int a3), (4, .int a4), (5, .int v41), (7, .int (0 : Int32))]) rfl ?_
                              exact hl2 n44 _ _ h
                          · obtain ⟨n52, h⟩ := h
                            have hl3 : ∀ (n52 : Nat) (v50 : Int32) (σ51 : vv_S), lX9_best_3 a3 k127_38 n52 v50 σ51 → VJ Y X (va_Qi post (vv_B Y) X.2) 8 109 [(0, .ref (vv_q Y 0)), (2, .int a2), (3, .int a3), (4, .int a4), (5, .int v25), (7, .int v50)] [] σ51 := by
                              clear h
                              intro n52
                              induction n52 with
                              | zero => intro v50 σ51 h; exact False.elim h
                              | succ n52 ih3 =>
                                intro v50 σ51 h
                                refine vv_iload C 5 dX9_best_109 rfl ?_
                                refine vv_iload_n C 2 dX9_best_111 rfl rfl ?_
                                refine vv_icmp_ge (pc := 112) C 127 dX9_best_112 (by decide) (fun hc53 => ?_) (fun hc53 => ?_)
                                · replace h := h.1 hc53
                                  refine vv_sub [0, 1, 2, 3, 4] (L' := [(0, .ref (vv_q Y 0)), (2, .int a2), (3, .int a3), (4, .int a4), (5, .int v25)]) rfl ?_
                                  exact hJk127_38 _ h
                                · replace h := h.2 hc53
                                  refine vv_aload_n C 0 dX9_best_115 rfl rfl ?_
                                  refine vv_iconst C dX9_best_116 ki_1 ?_
                                  refine vv_iconst C dX9_best_117 ki_0 ?_
                                  refine vv_callV (rest := []) C yk_X9_go vk_X9_go lk_X9_224 kc_X9.1 (s_X9 hY) dX9_best_118 (mX9_go hY h) rfl rfl ⟨Nat.le_of_ble_eq_true rfl, Nat.le_of_ble_eq_true rfl⟩ (Nat.le_of_ble_eq_true rfl) (fun σ54 h => ?_)
                                  obtain ⟨v55, ev55⟩ : ∃ z : Int32, z = v50 + (1 : Int32) := ⟨_, rfl⟩
                                  replace h := h v55 ev55
                                  refine vv_iinc (v := v55) (L' := [(7, .int v55), (0, .ref (vv_q Y 0)), (2, .int a2), (3, .int a3), (4, .int a4), (5, .int v25)]) C 5 dX9_best_121 rfl ((kinc ki_1).trans ev55.symm) (by decide) rfl ?_
                                  refine vv_goto (pc := 124) (tgt := 109) C dX9_best_124 (by decide) ?_
                                  refine vv_sub [1, 2, 3, 4, 5, 0] (L' := [(0, .ref (vv_q Y 0)), (2, .int a2), (3, .int a3), (4, .int a4), (5, .int v25), (7, .int v55)]) rfl ?_
                                  exact ih3 _ _ h
                            refine vv_sub [1, 2, 3, 4, 5, 0] (L' := [(0, .ref (vv_q Y 0)), (2, .int a2), (3, .int a3), (4, .int a4), (5, .int v25), (7, .int (0 : Int32))]) rfl ?_
                            exact hl3 n52 _ _ h
                refine vv_sub [2, 3, 4, 5, 1, 0] (L' := [(0, .ref (vv_q Y 0)), (2, .int a2), (3, .int a3), (4, .int a4), (5, .int (-4 : Int32)), (6, .int (1 : Int32))]) rfl ?_
                exact hl1 n28 _ _ _ h
            · obtain ⟨n58, h⟩ := h
              have hl4 : ∀ (n58 : Nat) (v56 : Int32) (σ57 : vv_S), lX9_best_4 k86_14 a1 n58 v56 σ57 → VJ Y X (va_Qi post (vv_B Y) X.2) 8 56 [(0, .ref (vv_q Y 0)), (1, .int a1), (2, .int a2), (3, .int a3), (4, .int a4), (5, .int v56)] [] σ57 := by
                clear h
                intro n58
                induction n58 with
                | zero => intro v56 σ57 h; exact False.elim h
                | succ n58 ih4 =>
                  intro v56 σ57 h
                  refine vv_iload C 5 dX9_best_56 rfl ?_
                  refine vv_bipush C dX9_best_58 kb_8 ?_
                  refine vv_icmp_ge (pc := 60) C 86 dX9_best_60 (by decide) (fun hc59 => ?_) (fun hc59 => ?_)
                  · replace h := h.1 hc59
                    refine vv_sub [0, 2, 3, 4] (L' := [(0, .ref (vv_q Y 0)), (2, .int a2), (3, .int a3), (4, .int a4)]) rfl ?_
                    exact hJk86_14 _ h
                  · replace h := h.2 hc59
                    refine vv_aload_n C 0 dX9_best_63 rfl rfl ?_
                    refine vv_getr (r := 35) C kc_X9 (s_X9 hY) 42 (by decide) rfl fk_X9_112 dX9_best_64 ?_
                    refine vv_iload C 5 dX9_best_67 rfl ?_
                    refine vv_iload C 5 dX9_best_69 rfl ?_
                    refine vv_join (fun k => ∀ (v60 : Int32), k v60 → VJ Y X (va_Qi post (vv_B Y) X.2) 8 79 [(0, .ref (vv_q Y 0)), (1, .int a1), (2, .int a2), (3, .int a3), (4, .int a4), (5, .int v56)] [.int v60, .int v56, .ref (vv_q Y 35)] σ57) h (fun v60 h => ?_) (fun k79_60 hJk79_60 h => ?_)
                    · obtain ⟨hi62, h⟩ := h
                      refine vv_iast C (a_X9_row hY) hi62 rfl dX9_best_79 (fun σ63 eσ63 => ?_)
                      replace h := h σ63 eσ63
                      obtain ⟨v64, ev64⟩ : ∃ z : Int32, z = v56 + (1 : Int32) := ⟨_, rfl⟩
                      replace h := h v64 ev64
                      refine vv_iinc (v := v64) (L' := [(5, .int v64), (0, .ref (vv_q Y 0)), (1, .int a1), (2, .int a2), (3, .int a3), (4, .int a4)]) C 5 dX9_best_80 rfl ((kinc ki_1).trans ev64.symm) (by decide) rfl ?_
                      refine vv_goto (pc := 83) (tgt := 56) C dX9_best_83 (by decide) ?_
                      refine vv_sub [1, 2, 3, 4, 5, 0] (L' := [(0, .ref (vv_q Y 0)), (1, .int a1), (2, .int a2), (3, .int a3), (4, .int a4), (5, .int v64)]) rfl ?_
                      exact ih4 _ _ h
                    · refine vv_if_ne (pc := 71) C 78 dX9_best_71 (by decide) (fun hc65 => ?_) (fun hc65 => ?_)
                      · replace h := h.1 hc65
                        refine vv_iconst C dX9_best_78 ki_0 ?_
                        refine vv_sub [0, 1, 2, 3, 4, 5] (L' := [(0, .ref (vv_q Y 0)), (1, .int a1), (2, .int a2), (3, .int a3), (4, .int a4), (5, .int v56)]) rfl ?_
                        exact hJk79_60 _ h
                      · replace h := h.2 hc65
                        refine vv_iload_n C 1 dX9_best_74 rfl rfl ?_
                        refine vv_goto (pc := 75) (tgt := 79) C dX9_best_75 (by decide) ?_
                        refine vv_sub [0, 1, 2, 3, 4, 5] (L' := [(0, .ref (vv_q Y 0)), (1, .int a1), (2, .int a2), (3, .int a3), (4, .int a4), (5, .int v56)]) rfl ?_
                        exact hJk79_60 _ h
              refine vv_sub [1, 2, 3, 4, 5, 0] (L' := [(0, .ref (vv_q Y 0)), (1, .int a1), (2, .int a2), (3, .int a3), (4, .int a4), (5, .int (0 : Int32))]) rfl ?_
              exact hl4 n58 _ _ h
          · refine vv_icmp_eq (pc := 39) C 53 dX9_best_39 (by decide) (fun hc66 => ?_) (fun hc66 => ?_)
            · replace h := h.1 hc66
              refine vv_sub [0, 1, 2, 3, 4] (L' := [(0, .ref (vv_q Y 0)), (1, .int a1), (2, .int a2), (3, .int a3), (4, .int a4)]) rfl ?_
              exact hJk53_12 _ h
            · replace h := h.2 hc66
              refine vv_aload_n C 0 dX9_best_42 rfl rfl ?_
              refine vv_iload C 4 dX9_best_43 rfl ?_
              refine vv_callI (rest := []) C yk_X9_isCell vk_X9_isCell lk_X9_237 kc_X9.1 (s_X9 hY) dX9_best_45 (mX9_isCell hY h) rfl rfl ⟨Nat.le_of_ble_eq_true rfl, Nat.le_of_ble_eq_true rfl⟩ (Nat.le_of_ble_eq_true rfl) (fun r68 σ67 h => ?_)
              refine vv_if_ne (pc := 48) C 53 dX9_best_48 (by decide) (fun hc69 => ?_) (fun hc69 => ?_)
              · replace h := h.1 hc69
                refine vv_sub [0, 1, 2, 3, 4] (L' := [(0, .ref (vv_q Y 0)), (1, .int a1), (2, .int a2), (3, .int a3), (4, .int a4)]) rfl ?_
                exact hJk53_12 _ h
              · replace h := h.2 hc69
                refine vv_sub [] (L' := []) rfl ?_
                exact hJk51_3 _ h
set_option maxHeartbeats 2000000 in
set_option maxRecDepth 100000 in
theorem mX9_isGap {Y : vv_Y} (hY : Y.2.2.2.2 = wM) {a1 : Int32} {a2 : Int32} {a3 : Int32} {σ : vv_S} {post : Int32 → vv_S → Prop} (h : wX9_isGap a1 a2 a3 σ post) : vv_MI Y yX9_isGap cX9_isGap 6 (some .boolean) 3 75 [.ref (vv_q Y 0), .int a1, .int a2, .int a3] σ post := by
  refine vv_ofI (by decide) (Nat.le_of_ble_eq_true rfl) (fun X C => ?_)
  have C : VC Y X RX9 cX9_isGap 6 (some .boolean) 3 75 := C
  refine vv_sub [0, 1, 2, 3] (L' := [(0, .ref (vv_q Y 0)), (1, .int a1), (2, .int a2), (3, .int a3)]) rfl ?_
  refine vv_aload_n C 0 dX9_isGap_0 rfl rfl ?_
  refine vv_callV (rest := []) C yk_X9_tryIt vk_X9_tryIt lk_X9_254 kc_X9.1 (s_X9 hY) dX9_isGap_1 (mX9_tryIt hY h) rfl rfl ⟨Nat.le_of_ble_eq_true rfl, Nat.le_of_ble_eq_true rfl⟩ (Nat.le_of_ble_eq_true rfl) (fun σ1 h => ?_)
  refine vv_aload_n C 0 dX9_isGap_4 rfl rfl ?_
  refine vv_getr (r := 28) C kc_X9 (s_X9 hY) 31 (by decide) rfl fk_X9_91 dX9_isGap_5 ?_
  refine vv_bipush C dX9_isGap_8 kb_8 ?_
  refine vv_iload_n C 1 dX9_isGap_10 rfl rfl ?_
  refine vv_iadd C dX9_isGap_11 ?_
  refine vv_iload_n C 2 dX9_isGap_12 rfl rfl ?_
  obtain ⟨hi2, h⟩ := h
  refine vv_iast C (a_X9_high hY) hi2 rfl dX9_isGap_13 (fun σ3 eσ3 => ?_)
  replace h := h σ3 eσ3
  refine vv_aload_n C 0 dX9_isGap_14 rfl rfl ?_
  refine vv_getr (r := 29) C kc_X9 (s_X9 hY) 32 (by decide) rfl fk_X9_94 dX9_isGap_15 ?_
  refine vv_bipush C dX9_isGap_18 kb_8 ?_
  refine vv_iload_n C 1 dX9_isGap_20 rfl rfl ?_
  refine vv_iadd C dX9_isGap_21 ?_
  refine vv_iconst C dX9_isGap_22 ki_2 ?_
  obtain ⟨hi4, h⟩ := h
  refine vv_iast C (a_X9_of hY) hi4 rfl dX9_isGap_23 (fun σ5 eσ5 => ?_)
  replace h := h σ5 eσ5
  refine vv_iconst C dX9_isGap_24 ki_1 ?_
  refine vv_istore (L' := [(4, .int (1 : Int32)), (0, .ref (vv_q Y 0)), (1, .int a1), (2, .int a2), (3, .int a3)]) C dX9_isGap_25 (by decide) rfl ?_
  refine vv_iconst C dX9_isGap_27 ki_0 ?_
  refine vv_istore (L' := [(5, .int (0 : Int32)), (4, .int (1 : Int32)), (0, .ref (vv_q Y 0)), (1, .int a1), (2, .int a2), (3, .int a3)]) C dX9_isGap_28 (by decide) rfl ?_
  refine vv_join (fun k => ∀ (v6 : Int32) (σ7 : vv_S), k v6 σ7 → VJ Y X (va_Qi post (vv_B Y) X.2) 6 75 [(4, .int v6)] [] σ7) h (fun v6 σ7 h => ?_) (fun k75_7 hJk75_7 h => ?_)
  · refine vv_iload C 0 dX9_isGap_75 rfl ?_
    exact vv_zret C h.1 dX9_isGap_77 h.2
  · obtain ⟨n12, h⟩ := h
    have hl1 : ∀ (n12 : Nat) (v9 : Int32) (v10 : Int32) (σ11 : vv_S), lX9_isGap_1 a3 k75_7 a1 n12 v9 v10 σ11 → VJ Y X (va_Qi post (vv_B Y) X.2) 6 30 [(0, .ref (vv_q Y 0)), (1, .int a1), (3, .int a3), (4, .int v9), (5, .int v10)] [] σ11 := by
      clear h
      intro n12
      induction n12 with
      | zero => intro v9 v10 σ11 h; exact False.elim h
      | succ n12 ih1 =>
        intro v9 v10 σ11 h
        refine vv_iload C 4 dX9_isGap_30 rfl ?_
        refine vv_iload_n C 2 dX9_isGap_32 rfl rfl ?_
        refine vv_icmp_ge (pc := 33) C 75 dX9_isGap_33 (by decide) (fun hc13 => ?_) (fun hc13 => ?_)
        · replace h := h.1 hc13
          refine vv_sub [3] (L' := [(4, .int v9)]) rfl ?_
          exact hJk75_7 _ _ h
        · replace h := h.2 hc13
          refine vv_iload C 3 dX9_isGap_36 rfl ?_
          refine vv_if_eq (pc := 38) C 75 dX9_isGap_38 (by decide) (fun hc14 => ?_) (fun hc14 => ?_)
          · replace h := h.1 hc14
            refine vv_sub [3] (L' := [(4, .int v9)]) rfl ?_
            exact hJk75_7 _ _ h
          · replace h := h.2 hc14
            refine vv_aload_n C 0 dX9_isGap_41 rfl rfl ?_
            refine vv_iconst C dX9_isGap_42 ki_1 ?_
            refine vv_iconst C dX9_isGap_43 ki_0 ?_
            refine vv_callV (rest := []) C yk_X9_go vk_X9_go lk_X9_224 kc_X9.1 (s_X9 hY) dX9_isGap_44 (mX9_go hY h) rfl rfl ⟨Nat.le_of_ble_eq_true rfl, Nat.le_of_ble_eq_true rfl⟩ (Nat.le_of_ble_eq_true rfl) (fun σ15 h => ?_)
            refine vv_aload_n C 0 dX9_isGap_47 rfl rfl ?_
            refine vv_geti C kc_X9 (s_X9 hY) 38 (by decide) rfl fk_X9_211 dX9_isGap_48 ?_
            refine vv_join (fun k => ∀ (v16 : Int32), k v16 → VJ Y X (va_Qi post (vv_B Y) X.2) 6 67 [(0, .ref (vv_q Y 0)), (1, .int a1), (3, .int a3), (5, .int v10)] [.int v16] σ15) h (fun v16 h => ?_) (fun k67_16 hJk67_16 h => ?_)
            · refine vv_istore (L' := [(4, .int v16), (0, .ref (vv_q Y 0)), (1, .int a1), (3, .int a3), (5, .int v10)]) C dX9_isGap_67 (by decide) rfl ?_
              obtain ⟨v18, ev18⟩ : ∃ z : Int32, z = v10 + (1 : Int32) := ⟨_, rfl⟩
              replace h := h v18 ev18
              refine vv_iinc (v := v18) (L' := [(5, .int v18), (4, .int v16), (0, .ref (vv_q Y 0)), (1, .int a1), (3, .int a3)]) C 4 dX9_isGap_69 rfl ((kinc ki_1).trans ev18.symm) (by decide) rfl ?_
              refine vv_goto (pc := 72) (tgt := 30) C dX9_isGap_72 (by decide) ?_
              refine vv_sub [2, 3, 4, 1, 0] (L' := [(0, .ref (vv_q Y 0)), (1, .int a1), (3, .int a3), (4, .int v16), (5, .int v18)]) rfl ?_
              exact ih1 _ _ _ h
            · refine vv_join (fun k =>  k → VJ Y X (va_Qi post (vv_B Y) X.2) 6 62 [(0, .ref (vv_q Y 0)), (1, .int a1), (3, .int a3), (5, .int v10)] [] σ15) h (fun h => ?_) (fun k62_18 hJk62_18 h => ?_)
              · refine vv_iconst C dX9_isGap_62 ki_1 ?_
                refine vv_goto (pc := 63) (tgt := 67) C dX9_isGap_63 (by decide) ?_
                refine vv_sub [0, 1, 2, 3] (L' := [(0, .ref (vv_q Y 0)), (1, .int a1), (3, .int a3), (5, .int v10)]) rfl ?_
                exact hJk67_16 _ h
              · refine vv_if_eq (pc := 51) C 62 dX9_isGap_51 (by decide) (fun hc20 => ?_) (fun hc20 => ?_)
                · replace h := h.1 hc20
                  refine vv_sub [0, 1, 2, 4] (L' := [(0, .ref (vv_q Y 0)), (1, .int a1), (3, .int a3), (5, .int v10)]) rfl ?_
                  exact hJk62_18 h
                · replace h := h.2 hc20
                  refine vv_aload_n C 0 dX9_isGap_54 rfl rfl ?_
                  refine vv_geti C kc_X9 (s_X9 hY) 39 (by decide) rfl fk_X9_217 dX9_isGap_55 ?_
                  refine vv_iload_n C 1 dX9_isGap_58 rfl rfl ?_
                  refine vv_icmp_ne (pc := 59) C 66 dX9_isGap_59 (by decide) (fun hc21 => ?_) (fun hc21 => ?_)
                  · replace h := h.1 hc21
                    refine vv_iconst C dX9_isGap_66 ki_0 ?_
                    refine vv_sub [0, 1, 2, 4] (L' := [(0, .ref (vv_q Y 0)), (1, .int a1), (3, .int a3), (5, .int v10)]) rfl ?_
                    exact hJk67_16 _ h
                  · replace h := h.2 hc21
                    refine vv_sub [0, 1, 2, 4] (L' := [(0, .ref (vv_q Y 0)), (1, .int a1), (3, .int a3), (5, .int v10)]) rfl ?_
                    exact hJk62_18 h
    refine vv_sub [2, 3, 5, 1, 0] (L' := [(0, .ref (vv_q Y 0)), (1, .int a1), (3, .int a3), (4, .int (1 : Int32)), (5, .int (0 : Int32))]) rfl ?_
    exact hl1 n12 _ _ _ h
set_option maxHeartbeats 2000000 in
set_option maxRecDepth 100000 in
theorem mX9_gap {Y : vv_Y} (hY : Y.2.2.2.2 = wM) {a1 : Int32} {a2 : Int32} {σ : vv_S} {post : Int32 → vv_S → Prop} (h : wX9_gap a1 a2 σ post) : vv_MI Y yX9_gap cX9_gap 5 (some .int) 4 100 [.ref (vv_q Y 0), .int a1, .int a2] σ post := by
  refine vv_ofI (by decide) (Nat.le_of_ble_eq_true rfl) (fun X C => ?_)
  have C : VC Y X RX9 cX9_gap 5 (some .int) 4 100 := C
  refine vv_sub [0, 1, 2] (L' := [(0, .ref (vv_q Y 0)), (1, .int a1), (2, .int a2)]) rfl ?_
  refine vv_iload_n C 1 dX9_gap_0 rfl rfl ?_
  refine vv_i2l C dX9_gap_1 ?_
  refine vv_lconst (v := 1) C dX9_gap_2 (by decide) ?_
  refine vv_ldc2 C lc_X9_250 dX9_gap_3 ?_
  refine vv_callS (rest := []) C yk_X9_in sk_X9_in lk_X9_138 dX9_gap_6 (mX9_in hY h) rfl rfl ⟨Nat.le_of_ble_eq_true rfl, Nat.le_of_ble_eq_true rfl⟩ (Nat.le_of_ble_eq_true rfl) (fun r2 σ1 h => ?_)
  refine vv_join (fun k => ∀ (σ3 : vv_S), k σ3 → VJ Y X (va_Qi post (vv_B Y) X.2) 5 22 [] [] σ3) h (fun σ3 h => ?_) (fun k22_3 hJk22_3 h => ?_)
  · refine vv_iconst C dX9_gap_22 ki_m1 ?_
    exact vv_iret C dX9_gap_23 h
  · refine vv_if_eq (pc := 9) C 22 dX9_gap_9 (by decide) (fun hc5 => ?_) (fun hc5 => ?_)
    · replace h := h.1 hc5
      refine vv_sub [] (L' := []) rfl ?_
      exact hJk22_3 _ h
    · replace h := h.2 hc5
      refine vv_iload_n C 2 dX9_gap_12 rfl rfl ?_
      refine vv_i2l C dX9_gap_13 ?_
      refine vv_lconst (v := 0) C dX9_gap_14 (by decide) ?_
      refine vv_lconst (v := 1) C dX9_gap_15 (by decide) ?_
      refine vv_callS (rest := []) C yk_X9_in sk_X9_in lk_X9_138 dX9_gap_16 (mX9_in hY h) rfl rfl ⟨Nat.le_of_ble_eq_true rfl, Nat.le_of_ble_eq_true rfl⟩ (Nat.le_of_ble_eq_true rfl) (fun r7 σ6 h => ?_)
      refine vv_if_ne (pc := 19) C 24 dX9_gap_19 (by decide) (fun hc8 => ?_) (fun hc8 => ?_)
      · replace h := h.1 hc8
        refine vv_bipush C dX9_gap_24 kb_40 ?_
        refine vv_istore_n (L' := [(3, .int (40 : Int32)), (0, .ref (vv_q Y 0)), (1, .int a1), (2, .int a2)]) C dX9_gap_26 rfl (by decide) rfl ?_
        refine vv_join (fun k => ∀ (v9 : Int32) (v10 : Int32) (σ11 : vv_S), k v9 v10 σ11 → VJ Y X (va_Qi post (vv_B Y) X.2) 5 56 [(2, .int a2), (3, .int v9), (4, .int v10)] [] σ11) h (fun v9 v10 σ11 h => ?_) (fun k56_11 hJk56_11 h => ?_)
        · refine vv_iload_n C 0 dX9_gap_56 rfl rfl ?_
          refine vv_join (fun k => ∀ (v13 : Int32), k v13 → VJ Y X (va_Qi post (vv_B Y) X.2) 5 66 [] [.int v13] σ11) h (fun v13 h => ?_) (fun k66_13 hJk66_13 h => ?_)
          · exact vv_iret C dX9_gap_66 h
          · refine vv_if_ne (pc := 57) C 64 dX9_gap_57 (by decide) (fun hc15 => ?_) (fun hc15 => ?_)
            · replace h := h.1 hc15
              refine vv_iload C 2 dX9_gap_64 rfl ?_
              refine vv_sub [] (L' := []) rfl ?_
              exact hJk66_13 _ h
            · replace h := h.2 hc15
              refine vv_iload_n C 1 dX9_gap_60 rfl rfl ?_
              refine vv_goto (pc := 61) (tgt := 66) C dX9_gap_61 (by decide) ?_
              refine vv_sub [] (L' := []) rfl ?_
              exact hJk66_13 _ h
        · obtain ⟨n18, h⟩ := h
          have hl1 : ∀ (n18 : Nat) (v16 : Int32) (σ17 : vv_S), lX9_gap_1 post a1 k56_11 n18 v16 σ17 → VJ Y X (va_Qi post (vv_B Y) X.2) 5 27 [(0, .ref (vv_q Y 0)), (1, .int a1), (2, .int a2), (3, .int v16)] [] σ17 := by
            clear h
            intro n18
            induction n18 with
            | zero => intro v16 σ17 h; exact False.elim h
            | succ n18 ih1 =>
              intro v16 σ17 h
              refine vv_iload_n C 3 dX9_gap_27 rfl rfl ?_
              refine vv_if_lt (pc := 28) C 79 dX9_gap_28 (by decide) (fun hc19 => ?_) (fun hc19 => ?_)
              · replace h := h.1 hc19
                refine vv_bipush C dX9_gap_79 kb_m4 ?_
                exact vv_iret C dX9_gap_81 h
              · replace h := h.2 hc19
                refine vv_iconst C dX9_gap_31 ki_0 ?_
                refine vv_istore (L' := [(4, .int (0 : Int32)), (0, .ref (vv_q Y 0)), (1, .int a1), (2, .int a2), (3, .int v16)]) C dX9_gap_32 (by decide) rfl ?_
                refine vv_join (fun k => ∀ (σ20 : vv_S), k σ20 → VJ Y X (va_Qi post (vv_B Y) X.2) 5 73 [(0, .ref (vv_q Y 0)), (1, .int a1), (2, .int a2), (3, .int v16)] [] σ20) h (fun σ20 h => ?_) (fun k73_20 hJk73_20 h => ?_)
                · obtain ⟨v22, ev22⟩ : ∃ z : Int32, z = v16 + (-1 : Int32) := ⟨_, rfl⟩
                  replace h := h v22 ev22
                  refine vv_iinc (v := v22) (L' := [(3, .int v22), (0, .ref (vv_q Y 0)), (1, .int a1), (2, .int a2)]) C 3 dX9_gap_73 rfl ((kinc ki_m1).trans ev22.symm) (by decide) rfl ?_
                  refine vv_goto (pc := 76) (tgt := 27) C dX9_gap_76 (by decide) ?_
                  refine vv_sub [1, 2, 3, 0] (L' := [(0, .ref (vv_q Y 0)), (1, .int a1), (2, .int a2), (3, .int v22)]) rfl ?_
                  exact ih1 _ _ h
                · obtain ⟨n25, h⟩ := h
                  have hl2 : ∀ (n25 : Nat) (v23 : Int32) (σ24 : vv_S), lX9_gap_2 k73_20 v16 a1 k56_11 n25 v23 σ24 → VJ Y X (va_Qi post (vv_B Y) X.2) 5 34 [(0, .ref (vv_q Y 0)), (1, .int a1), (2, .int a2), (3, .int v16), (4, .int v23)] [] σ24 := by
                    clear h
                    intro n25
                    induction n25 with
                    | zero => intro v23 σ24 h; exact False.elim h
                    | succ n25 ih2 =>
                      intro v23 σ24 h
                      refine vv_iload C 4 dX9_gap_34 rfl ?_
                      refine vv_aload_n C 0 dX9_gap_36 rfl rfl ?_
                      refine vv_getr (r := 2) C kc_X9 (s_X9 hY) 2 (by decide) rfl fk_X9_13 dX9_gap_37 ?_
                      refine vv_iconst C dX9_gap_40 ki_0 ?_
                      refine vv_iald C (a_X9_cells hY) kv_0_2 kn_0 dX9_gap_41 ?_
                      refine vv_icmp_ge (pc := 42) C 73 dX9_gap_42 (by decide) (fun hc26 => ?_) (fun hc26 => ?_)
                      · replace h := h.1 hc26
                        refine vv_sub [0, 1, 2, 3] (L' := [(0, .ref (vv_q Y 0)), (1, .int a1), (2, .int a2), (3, .int v16)]) rfl ?_
                        exact hJk73_20 _ h
                      · replace h := h.2 hc26
                        refine vv_aload_n C 0 dX9_gap_45 rfl rfl ?_
                        refine vv_iload C 4 dX9_gap_46 rfl ?_
                        refine vv_iload_n C 3 dX9_gap_48 rfl rfl ?_
                        refine vv_iload_n C 1 dX9_gap_49 rfl rfl ?_
                        refine vv_callI (rest := []) C yk_X9_isGap vk_X9_isGap lk_X9_277 kc_X9.1 (s_X9 hY) dX9_gap_50 (mX9_isGap hY h) rfl rfl ⟨Nat.le_of_ble_eq_true rfl, Nat.le_of_ble_eq_true rfl⟩ (Nat.le_of_ble_eq_true rfl) (fun r28 σ27 h => ?_)
                        refine vv_if_eq (pc := 53) C 67 dX9_gap_53 (by decide) (fun hc29 => ?_) (fun hc29 => ?_)
                        · replace h := h.1 hc29
                          obtain ⟨v30, ev30⟩ : ∃ z : Int32, z = v23 + (1 : Int32) := ⟨_, rfl⟩
                          replace h := h v30 ev30
                          refine vv_iinc (v := v30) (L' := [(4, .int v30), (0, .ref (vv_q Y 0)), (1, .int a1), (2, .int a2), (3, .int v16)]) C 4 dX9_gap_67 rfl ((kinc ki_1).trans ev30.symm) (by decide) rfl ?_
                          refine vv_goto (pc := 70) (tgt := 34) C dX9_gap_70 (by decide) ?_
                          refine vv_sub [1, 2, 3, 4, 0] (L' := [(0, .ref (vv_q Y 0)), (1, .int a1), (2, .int a2), (3, .int v16), (4, .int v30)]) rfl ?_
                          exact ih2 _ _ h
                        · replace h := h.2 hc29
                          refine vv_sub [2, 3, 4] (L' := [(2, .int a2), (3, .int v16), (4, .int v23)]) rfl ?_
                          exact hJk56_11 _ _ _ h
                  refine vv_sub [1, 2, 3, 4, 0] (L' := [(0, .ref (vv_q Y 0)), (1, .int a1), (2, .int a2), (3, .int v16), (4, .int (0 : Int32))]) rfl ?_
                  exact hl2 n25 _ _ h
          refine vv_sub [1, 2, 3, 0] (L' := [(0, .ref (vv_q Y 0)), (1, .int a1), (2, .int a2), (3, .int (40 : Int32))]) rfl ?_
          exact hl1 n18 _ _ h
      · replace h := h.2 hc8
        refine vv_sub [] (L' := []) rfl ?_
        exact hJk22_3 _ h
set_option maxHeartbeats 2000000 in
set_option maxRecDepth 100000 in
theorem mX9_timeOf {Y : vv_Y} (hY : Y.2.2.2.2 = wM) {a1 : Int32} {σ : vv_S} {post : Int32 → vv_S → Prop} (h : wX9_timeOf a1 σ post) : vv_MI Y yX9_timeOf cX9_timeOf 7 (some .int) 0 0 [.ref (vv_q Y 0), .int a1] σ post := by
  refine vv_ofI (by decide) (Nat.le_of_ble_eq_true rfl) (fun X C => ?_)
  have C : VC Y X RX9 cX9_timeOf 7 (some .int) 0 0 := C
  refine vv_sub [0, 1] (L' := [(0, .ref (vv_q Y 0)), (1, .int a1)]) rfl ?_
  refine vv_iconst C dX9_timeOf_0 ki_0 ?_
  refine vv_istore_n (L' := [(2, .int (0 : Int32)), (0, .ref (vv_q Y 0)), (1, .int a1)]) C dX9_timeOf_1 rfl (by decide) rfl ?_
  refine vv_join (fun k => ∀ (σ1 : vv_S), k σ1 → VJ Y X (va_Qi post (vv_B Y) X.2) 7 20 [(0, .ref (vv_q Y 0)), (1, .int a1)] [] σ1) h (fun σ1 h => ?_) (fun k20_1 hJk20_1 h => ?_)
  · refine vv_iload_n C 1 dX9_timeOf_20 rfl rfl ?_
    refine vv_istore_n (L' := [(2, .int a1), (0, .ref (vv_q Y 0)), (1, .int a1)]) C dX9_timeOf_21 rfl (by decide) rfl ?_
    refine vv_iconst C dX9_timeOf_22 ki_0 ?_
    refine vv_istore_n (L' := [(3, .int (0 : Int32)), (2, .int a1), (0, .ref (vv_q Y 0)), (1, .int a1)]) C dX9_timeOf_23 rfl (by decide) rfl ?_
    refine vv_aload_n C 2 dX9_timeOf_24 rfl rfl ?_
    refine vv_getr (r := 16) C kc_X9 (s_X9 hY) 16 (by decide) rfl fk_X9_55 dX9_timeOf_25 ?_
    refine vv_iconst C dX9_timeOf_28 ki_0 ?_
    refine vv_iald C (a_X9_jobs hY) kv_0_2 kn_0 dX9_timeOf_29 ?_
    refine vv_iconst C dX9_timeOf_30 ki_1 ?_
    refine vv_isub C dX9_timeOf_31 ?_
    refine vv_nm (fun v3 ev3 => ?_)
    replace h := h v3 ev3
    refine vv_istore (L' := [(4, .int v3), (3, .int (0 : Int32)), (2, .int a1), (0, .ref (vv_q Y 0)), (1, .int a1)]) C dX9_timeOf_32 (by decide) rfl ?_
    refine vv_join (fun k => ∀ (v4 : Int32) (σ5 : vv_S), k v4 σ5 → VJ Y X (va_Qi post (vv_B Y) X.2) 7 151 [(3, .int v4)] [] σ5) h (fun v4 σ5 h => ?_) (fun k151_5 hJk151_5 h => ?_)
    · refine vv_iload_n C 0 dX9_timeOf_151 rfl rfl ?_
      refine vv_ldcw (v := 100000) C lw_X9_281 dX9_timeOf_152 ?_
      refine vv_join (fun k => ∀ (v7 : Int32), k v7 → VJ Y X (va_Qi post (vv_B Y) X.2) 7 164 [] [.int v7] σ5) h (fun v7 h => ?_) (fun k164_7 hJk164_7 h => ?_)
      · exact vv_iret C dX9_timeOf_164 h
      · refine vv_icmp_lt (pc := 155) C 163 dX9_timeOf_155 (by decide) (fun hc9 => ?_) (fun hc9 => ?_)
        · replace h := h.1 hc9
          refine vv_iload_n C 0 dX9_timeOf_163 rfl rfl ?_
          refine vv_sub [] (L' := []) rfl ?_
          exact hJk164_7 _ h
        · replace h := h.2 hc9
          refine vv_bipush C dX9_timeOf_158 kb_m4 ?_
          refine vv_goto (pc := 160) (tgt := 164) C dX9_timeOf_160 (by decide) ?_
          refine vv_sub [] (L' := []) rfl ?_
          exact hJk164_7 _ h
    · obtain ⟨n14, h⟩ := h
      have hl1 : ∀ (n14 : Nat) (v10 : Int32) (v11 : Int32) (v12 : Int32) (σ13 : vv_S), lX9_timeOf_1 k151_5 n14 v10 v11 v12 σ13 → VJ Y X (va_Qi post (vv_B Y) X.2) 7 34 [(0, .ref (vv_q Y 0)), (2, .int v10), (3, .int v11), (4, .int v12)] [] σ13 := by
        clear h
        intro n14
        induction n14 with
        | zero => intro v10 v11 v12 σ13 h; exact False.elim h
        | succ n14 ih1 =>
          intro v10 v11 v12 σ13 h
          refine vv_iload C 3 dX9_timeOf_34 rfl ?_
          refine vv_if_lt (pc := 36) C 151 dX9_timeOf_36 (by decide) (fun hc15 => ?_) (fun hc15 => ?_)
          · replace h := h.1 hc15
            refine vv_sub [2] (L' := [(3, .int v11)]) rfl ?_
            exact hJk151_5 _ _ h
          · replace h := h.2 hc15
            refine vv_iload_n C 1 dX9_timeOf_39 rfl rfl ?_
            refine vv_aload_n C 0 dX9_timeOf_40 rfl rfl ?_
            refine vv_getr (r := 14) C kc_X9 (s_X9 hY) 14 (by decide) rfl fk_X9_49 dX9_timeOf_41 ?_
            refine vv_iconst C dX9_timeOf_44 ki_0 ?_
            refine vv_iald C (a_X9_children hY) kv_0_2 kn_0 dX9_timeOf_45 ?_
            obtain ⟨hne, h⟩ := h
            refine vv_irem C dX9_timeOf_46 hne ?_
            refine vv_nm (fun v16 ev16 => ?_)
            replace h := h v16 ev16
            refine vv_istore (L' := [(5, .int v16), (0, .ref (vv_q Y 0)), (2, .int v10), (3, .int v11), (4, .int v12)]) C dX9_timeOf_47 (by decide) rfl ?_
            refine vv_iload_n C 2 dX9_timeOf_49 rfl rfl ?_
            refine vv_aload_n C 1 dX9_timeOf_50 rfl rfl ?_
            refine vv_getr (r := 14) C kc_X9 (s_X9 hY) 14 (by decide) rfl fk_X9_49 dX9_timeOf_51 ?_
            refine vv_iconst C dX9_timeOf_54 ki_0 ?_
            refine vv_iald C (a_X9_children hY) kv_0_2 kn_0 dX9_timeOf_55 ?_
            obtain ⟨hne, h⟩ := h
            refine vv_idiv C dX9_timeOf_56 hne ?_
            refine vv_nm (fun v17 ev17 => ?_)
            replace h := h v17 ev17
            refine vv_istore_n (L' := [(2, .int v17), (5, .int v16), (0, .ref (vv_q Y 0)), (3, .int v11), (4, .int v12)]) C dX9_timeOf_57 rfl (by decide) rfl ?_
            refine vv_aload_n C 2 dX9_timeOf_58 rfl rfl ?_
            refine vv_getr (r := 38) C kc_X9 (s_X9 hY) 45 (by decide) rfl fk_X9_121 dX9_timeOf_59 ?_
            refine vv_iload C 4 dX9_timeOf_62 rfl ?_
            refine vv_iload C 1 dX9_timeOf_64 rfl ?_
            obtain ⟨hi18, h⟩ := h
            refine vv_iast C (a_X9_doer hY) hi18 rfl dX9_timeOf_66 (fun σ19 eσ19 => ?_)
            replace h := h σ19 eσ19
            refine vv_aload_n C 2 dX9_timeOf_67 rfl rfl ?_
            refine vv_getr (r := 15) C kc_X9 (s_X9 hY) 15 (by decide) rfl fk_X9_52 dX9_timeOf_68 ?_
            refine vv_iconst C dX9_timeOf_71 ki_4 ?_
            refine vv_iload C 1 dX9_timeOf_72 rfl ?_
            refine vv_imul C dX9_timeOf_74 ?_
            refine vv_aload_n C 2 dX9_timeOf_75 rfl rfl ?_
            refine vv_getr (r := 18) C kc_X9 (s_X9 hY) 18 (by decide) rfl fk_X9_61 dX9_timeOf_76 ?_
            refine vv_iload C 4 dX9_timeOf_79 rfl ?_
            obtain ⟨hi20, h⟩ := h
            refine vv_iald C (a_X9_jobStuff hY) hi20 rfl dX9_timeOf_81 ?_
            refine vv_iadd C dX9_timeOf_82 ?_
            obtain ⟨hi21, h⟩ := h
            refine vv_iald C (a_X9_lays hY) hi21 rfl dX9_timeOf_83 ?_
            refine vv_nm (fun v22 ev22 => ?_)
            replace h := h v22 ev22
            refine vv_istore (L' := [(6, .int v22), (2, .int v17), (5, .int v16), (0, .ref (vv_q Y 0)), (3, .int v11), (4, .int v12)]) C dX9_timeOf_84 (by decide) rfl ?_
            refine vv_aload_n C 3 dX9_timeOf_86 rfl rfl ?_
            refine vv_getr (r := 37) C kc_X9 (s_X9 hY) 44 (by decide) rfl fk_X9_118 dX9_timeOf_87 ?_
            refine vv_iload C 2 dX9_timeOf_90 rfl ?_
            refine vv_dup2 C dX9_timeOf_92 rfl rfl ?_
            obtain ⟨hi23, h⟩ := h
            refine vv_iald C (a_X9_busy hY) hi23 rfl dX9_timeOf_93 ?_
            refine vv_iload C 0 dX9_timeOf_94 rfl ?_
            refine vv_join (fun k => ∀ (v24 : Int32), k v24 → VJ Y X (va_Qi post (vv_B Y) X.2) 7 120 [(0, .ref (vv_q Y 0)), (2, .int v17), (3, .int v11), (4, .int v12), (5, .int v16)] [.int v24, .int (σ19 37 v16.toNatClampNeg), .int v16, .ref (vv_q Y 37)] σ19) h (fun v24 h => ?_) (fun k120_24 hJk120_24 h => ?_)
            · refine vv_iadd C dX9_timeOf_120 ?_
              obtain ⟨hi26, h⟩ := h
              refine vv_iast C (a_X9_busy hY) hi26 rfl dX9_timeOf_121 (fun σ27 eσ27 => ?_)
              replace h := h σ27 eσ27
              refine vv_aload_n C 0 dX9_timeOf_122 rfl rfl ?_
              refine vv_getr (r := 37) C kc_X9 (s_X9 hY) 44 (by decide) rfl fk_X9_118 dX9_timeOf_123 ?_
              refine vv_iload C 4 dX9_timeOf_126 rfl ?_
              obtain ⟨hi28, h⟩ := h
              refine vv_iald C (a_X9_busy hY) hi28 rfl dX9_timeOf_128 ?_
              refine vv_iload_n C 2 dX9_timeOf_129 rfl rfl ?_
              refine vv_join (fun k => ∀ (v29 : Int32), k v29 → VJ Y X (va_Qi post (vv_B Y) X.2) 7 144 [(0, .ref (vv_q Y 0)), (2, .int v17), (4, .int v12)] [.int v29] σ27) h (fun v29 h => ?_) (fun k144_29 hJk144_29 h => ?_)
              · refine vv_istore_n (L' := [(3, .int v29), (0, .ref (vv_q Y 0)), (2, .int v17), (4, .int v12)]) C dX9_timeOf_144 rfl (by decide) rfl ?_
                obtain ⟨v31, ev31⟩ : ∃ z : Int32, z = v12 + (-1 : Int32) := ⟨_, rfl⟩
                replace h := h v31 ev31
                refine vv_iinc (v := v31) (L' := [(4, .int v31), (3, .int v29), (0, .ref (vv_q Y 0)), (2, .int v17)]) C 3 dX9_timeOf_145 rfl ((kinc ki_m1).trans ev31.symm) (by decide) rfl ?_
                refine vv_goto (pc := 148) (tgt := 34) C dX9_timeOf_148 (by decide) ?_
                refine vv_sub [2, 3, 1, 0] (L' := [(0, .ref (vv_q Y 0)), (2, .int v17), (3, .int v29), (4, .int v31)]) rfl ?_
                exact ih1 _ _ _ _ h
              · refine vv_icmp_le (pc := 130) C 143 dX9_timeOf_130 (by decide) (fun hc32 => ?_) (fun hc32 => ?_)
                · replace h := h.1 hc32
                  refine vv_iload_n C 2 dX9_timeOf_143 rfl rfl ?_
                  refine vv_sub [0, 1, 3] (L' := [(0, .ref (vv_q Y 0)), (2, .int v17), (4, .int v12)]) rfl ?_
                  exact hJk144_29 _ h
                · replace h := h.2 hc32
                  refine vv_aload_n C 0 dX9_timeOf_133 rfl rfl ?_
                  refine vv_getr (r := 37) C kc_X9 (s_X9 hY) 44 (by decide) rfl fk_X9_118 dX9_timeOf_134 ?_
                  refine vv_iload C 4 dX9_timeOf_137 rfl ?_
                  obtain ⟨hi33, h⟩ := h
                  refine vv_iald C (a_X9_busy hY) hi33 rfl dX9_timeOf_139 ?_
                  refine vv_goto (pc := 140) (tgt := 144) C dX9_timeOf_140 (by decide) ?_
                  refine vv_sub [0, 1, 3] (L' := [(0, .ref (vv_q Y 0)), (2, .int v17), (4, .int v12)]) rfl ?_
                  exact hJk144_29 _ h
            · refine vv_if_ne (pc := 96) C 105 dX9_timeOf_96 (by decide) (fun hc34 => ?_) (fun hc34 => ?_)
              · replace h := h.1 hc34
                refine vv_aload_n C 3 dX9_timeOf_105 rfl rfl ?_
                refine vv_getr (r := 19) C kc_X9 (s_X9 hY) 19 (by decide) rfl fk_X9_64 dX9_timeOf_106 ?_
                refine vv_iload C 5 dX9_timeOf_109 rfl ?_
                obtain ⟨hi35, h⟩ := h
                refine vv_iald C (a_X9_jobInches hY) hi35 rfl dX9_timeOf_111 ?_
                refine vv_iload C 0 dX9_timeOf_112 rfl ?_
                refine vv_iadd C dX9_timeOf_114 ?_
                refine vv_iconst C dX9_timeOf_115 ki_1 ?_
                refine vv_isub C dX9_timeOf_116 ?_
                refine vv_iload C 0 dX9_timeOf_117 rfl ?_
                obtain ⟨hne, h⟩ := h
                refine vv_idiv C dX9_timeOf_119 hne ?_
                refine vv_sub [3, 1, 4, 5, 2] (L' := [(0, .ref (vv_q Y 0)), (2, .int v17), (3, .int v11), (4, .int v12), (5, .int v16)]) rfl ?_
                exact hJk120_24 _ h
              · replace h := h.2 hc34
                refine vv_ldcw (v := 100000) C lw_X9_281 dX9_timeOf_99 ?_
                refine vv_goto (pc := 102) (tgt := 120) C dX9_timeOf_102 (by decide) ?_
                refine vv_sub [3, 1, 4, 5, 2] (L' := [(0, .ref (vv_q Y 0)), (2, .int v17), (3, .int v11), (4, .int v12), (5, .int v16)]) rfl ?_
                exact hJk120_24 _ h
      refine vv_sub [3, 2, 1, 0] (L' := [(0, .ref (vv_q Y 0)), (2, .int a1), (3, .int (0 : Int32)), (4, .int v3)]) rfl ?_
      exact hl1 n14 _ _ _ _ h
  · obtain ⟨n38, h⟩ := h
    have hl2 : ∀ (n38 : Nat) (v36 : Int32) (σ37 : vv_S), lX9_timeOf_2 k20_1 n38 v36 σ37 → VJ Y X (va_Qi post (vv_B Y) X.2) 7 2 [(0, .ref (vv_q Y 0)), (1, .int a1), (2, .int v36)] [] σ37 := by
      clear h
      intro n38
      induction n38 with
      | zero => intro v36 σ37 h; exact False.elim h
      | succ n38 ih2 =>
        intro v36 σ37 h
        refine vv_iload_n C 2 dX9_timeOf_2 rfl rfl ?_
        refine vv_iconst C dX9_timeOf_3 ki_4 ?_
        refine vv_icmp_ge (pc := 4) C 20 dX9_timeOf_4 (by decide) (fun hc39 => ?_) (fun hc39 => ?_)
        · replace h := h.1 hc39
          refine vv_sub [0, 1] (L' := [(0, .ref (vv_q Y 0)), (1, .int a1)]) rfl ?_
          exact hJk20_1 _ h
        · replace h := h.2 hc39
          refine vv_aload_n C 0 dX9_timeOf_7 rfl rfl ?_
          refine vv_getr (r := 37) C kc_X9 (s_X9 hY) 44 (by decide) rfl fk_X9_118 dX9_timeOf_8 ?_
          refine vv_iload_n C 2 dX9_timeOf_11 rfl rfl ?_
          refine vv_iconst C dX9_timeOf_12 ki_0 ?_
          obtain ⟨hi40, h⟩ := h
          refine vv_iast C (a_X9_busy hY) hi40 rfl dX9_timeOf_13 (fun σ41 eσ41 => ?_)
          replace h := h σ41 eσ41
          obtain ⟨v42, ev42⟩ : ∃ z : Int32, z = v36 + (1 : Int32) := ⟨_, rfl⟩
          replace h := h v42 ev42
          refine vv_iinc (v := v42) (L' := [(2, .int v42), (0, .ref (vv_q Y 0)), (1, .int a1)]) C 2 dX9_timeOf_14 rfl ((kinc ki_1).trans ev42.symm) (by decide) rfl ?_
          refine vv_goto (pc := 17) (tgt := 2) C dX9_timeOf_17 (by decide) ?_
          refine vv_sub [1, 2, 0] (L' := [(0, .ref (vv_q Y 0)), (1, .int a1), (2, .int v42)]) rfl ?_
          exact ih2 _ _ h
    refine vv_sub [1, 2, 0] (L' := [(0, .ref (vv_q Y 0)), (1, .int a1), (2, .int (0 : Int32))]) rfl ?_
    exact hl2 n38 _ _ h
set_option maxHeartbeats 2000000 in
set_option maxRecDepth 100000 in
theorem mX9_together {Y : vv_Y} (hY : Y.2.2.2.2 = wM) {a1 : Int32} {σ : vv_S} {post : Int32 → vv_S → Prop} (h : wX9_together a1 σ post) : vv_MI Y yX9_together cX9_together 7 (some .int) 1 26 [.ref (vv_q Y 0), .int a1] σ post := by
  refine vv_ofI (by decide) (Nat.le_of_ble_eq_true rfl) (fun X C => ?_)
  have C : VC Y X RX9 cX9_together 7 (some .int) 1 26 := C
  refine vv_sub [0, 1] (L' := [(0, .ref (vv_q Y 0)), (1, .int a1)]) rfl ?_
  refine vv_iload_n C 1 dX9_together_0 rfl rfl ?_
  refine vv_i2l C dX9_together_1 ?_
  refine vv_ldc2 C lc_X9_282 dX9_together_2 ?_
  refine vv_aload_n C 0 dX9_together_5 rfl rfl ?_
  refine vv_getr (r := 16) C kc_X9 (s_X9 hY) 16 (by decide) rfl fk_X9_55 dX9_together_6 ?_
  refine vv_iconst C dX9_together_9 ki_0 ?_
  refine vv_iald C (a_X9_jobs hY) kv_0_2 kn_0 dX9_together_10 ?_
  refine vv_iconst C dX9_together_11 ki_1 ?_
  refine vv_isub C dX9_together_12 ?_
  refine vv_i2l C dX9_together_13 ?_
  refine vv_callS (rest := []) C yk_X9_in sk_X9_in lk_X9_138 dX9_together_14 (mX9_in hY h) rfl rfl ⟨Nat.le_of_ble_eq_true rfl, Nat.le_of_ble_eq_true rfl⟩ (Nat.le_of_ble_eq_true rfl) (fun r2 σ1 h => ?_)
  refine vv_if_ne (pc := 17) C 22 dX9_together_17 (by decide) (fun hc3 => ?_) (fun hc3 => ?_)
  · replace h := h.1 hc3
    refine vv_aload_n C 0 dX9_together_22 rfl rfl ?_
    refine vv_getr (r := 16) C kc_X9 (s_X9 hY) 16 (by decide) rfl fk_X9_55 dX9_together_23 ?_
    refine vv_iconst C dX9_together_26 ki_0 ?_
    refine vv_iald C (a_X9_jobs hY) kv_0_2 kn_0 dX9_together_27 ?_
    refine vv_if_ne (pc := 28) C 33 dX9_together_28 (by decide) (fun hc4 => ?_) (fun hc4 => ?_)
    · replace h := h.1 hc4
      refine vv_iconst C dX9_together_33 ki_1 ?_
      refine vv_istore_n (L' := [(2, .int (1 : Int32)), (0, .ref (vv_q Y 0)), (1, .int a1)]) C dX9_together_34 rfl (by decide) rfl ?_
      refine vv_iconst C dX9_together_35 ki_0 ?_
      refine vv_istore_n (L' := [(3, .int (0 : Int32)), (2, .int (1 : Int32)), (0, .ref (vv_q Y 0)), (1, .int a1)]) C dX9_together_36 rfl (by decide) rfl ?_
      refine vv_join (fun k => ∀ (v5 : Int32), k v5 → VJ Y X (va_Qi post (vv_B Y) X.2) 7 62 [(0, .ref (vv_q Y 0)), (1, .int a1), (2, .int v5)] [] σ1) h (fun v5 h => ?_) (fun k62_5 hJk62_5 h => ?_)
      · refine vv_bipush C dX9_together_62 kb_m4 ?_
        refine vv_istore_n (L' := [(3, .int (-4 : Int32)), (0, .ref (vv_q Y 0)), (1, .int a1), (2, .int v5)]) C dX9_together_64 rfl (by decide) rfl ?_
        refine vv_iconst C dX9_together_65 ki_0 ?_
        refine vv_istore (L' := [(4, .int (0 : Int32)), (3, .int (-4 : Int32)), (0, .ref (vv_q Y 0)), (1, .int a1), (2, .int v5)]) C dX9_together_66 (by decide) rfl ?_
        refine vv_join (fun k => ∀ (v7 : Int32) (σ8 : vv_S), k v7 σ8 → VJ Y X (va_Qi post (vv_B Y) X.2) 7 135 [(0, .ref (vv_q Y 0)), (1, .int a1), (3, .int v7)] [] σ8) h (fun v7 σ8 h => ?_) (fun k135_8 hJk135_8 h => ?_)
        · refine vv_iload_n C 2 dX9_together_135 rfl rfl ?_
          refine vv_join (fun k => ∀ (v10 : Int32), k v10 → VJ Y X (va_Qi post (vv_B Y) X.2) 7 153 [] [.int v10] σ8) h (fun v10 h => ?_) (fun k153_10 hJk153_10 h => ?_)
          · exact vv_iret C dX9_together_153 h
          · refine vv_join (fun k =>  k → VJ Y X (va_Qi post (vv_B Y) X.2) 7 143 [(3, .int v7)] [] σ8) h (fun h => ?_) (fun k143_11 hJk143_11 h => ?_)
            · refine vv_iload_n C 0 dX9_together_143 rfl rfl ?_
              refine vv_goto (pc := 144) (tgt := 153) C dX9_together_144 (by decide) ?_
              refine vv_sub [] (L' := []) rfl ?_
              exact hJk153_10 _ h
            · refine vv_if_lt (pc := 136) C 143 dX9_together_136 (by decide) (fun hc13 => ?_) (fun hc13 => ?_)
              · replace h := h.1 hc13
                refine vv_sub [2] (L' := [(3, .int v7)]) rfl ?_
                exact hJk143_11 h
              · replace h := h.2 hc13
                refine vv_iload_n C 1 dX9_together_139 rfl rfl ?_
                refine vv_if_ge (pc := 140) C 147 dX9_together_140 (by decide) (fun hc14 => ?_) (fun hc14 => ?_)
                · replace h := h.1 hc14
                  refine vv_aload_n C 0 dX9_together_147 rfl rfl ?_
                  refine vv_getr (r := 39) C kc_X9 (s_X9 hY) 46 (by decide) rfl fk_X9_124 dX9_together_148 ?_
                  refine vv_iload_n C 1 dX9_together_151 rfl rfl ?_
                  obtain ⟨hi15, h⟩ := h
                  refine vv_iald C (a_X9_bestDoer hY) hi15 rfl dX9_together_152 ?_
                  refine vv_sub [] (L' := []) rfl ?_
                  exact hJk153_10 _ h
                · replace h := h.2 hc14
                  refine vv_sub [2] (L' := [(3, .int v7)]) rfl ?_
                  exact hJk143_11 h
        · obtain ⟨n19, h⟩ := h
          have hl1 : ∀ (n19 : Nat) (v16 : Int32) (v17 : Int32) (σ18 : vv_S), lX9_together_1 v5 k135_8 n19 v16 v17 σ18 → VJ Y X (va_Qi post (vv_B Y) X.2) 7 68 [(0, .ref (vv_q Y 0)), (1, .int a1), (2, .int v5), (3, .int v16), (4, .int v17)] [] σ18 := by
            clear h
            intro n19
            induction n19 with
            | zero => intro v16 v17 σ18 h; exact False.elim h
            | succ n19 ih1 =>
              intro v16 v17 σ18 h
              refine vv_iload C 4 dX9_together_68 rfl ?_
              refine vv_iload_n C 2 dX9_together_70 rfl rfl ?_
              refine vv_icmp_ge (pc := 71) C 135 dX9_together_71 (by decide) (fun hc20 => ?_) (fun hc20 => ?_)
              · replace h := h.1 hc20
                refine vv_sub [0, 1, 3] (L' := [(0, .ref (vv_q Y 0)), (1, .int a1), (3, .int v16)]) rfl ?_
                exact hJk135_8 _ _ h
              · replace h := h.2 hc20
                refine vv_aload_n C 0 dX9_together_74 rfl rfl ?_
                refine vv_iload C 4 dX9_together_75 rfl ?_
                refine vv_callI (rest := []) C yk_X9_timeOf vk_X9_timeOf lk_X9_284 kc_X9.1 (s_X9 hY) dX9_together_77 (mX9_timeOf hY h) rfl rfl ⟨Nat.le_of_ble_eq_true rfl, Nat.le_of_ble_eq_true rfl⟩ (Nat.le_of_ble_eq_true rfl) (fun r22 σ21 h => ?_)
                refine vv_istore (L' := [(5, .int r22), (0, .ref (vv_q Y 0)), (1, .int a1), (2, .int v5), (3, .int v16), (4, .int v17)]) C dX9_together_80 (by decide) rfl ?_
                refine vv_iload C 0 dX9_together_82 rfl ?_
                refine vv_join (fun k => ∀ (v23 : Int32) (σ24 : vv_S), k v23 σ24 → VJ Y X (va_Qi post (vv_B Y) X.2) 7 129 [(0, .ref (vv_q Y 0)), (1, .int a1), (2, .int v5), (3, .int v23), (4, .int v17)] [] σ24) h (fun v23 σ24 h => ?_) (fun k129_24 hJk129_24 h => ?_)
                · obtain ⟨v26, ev26⟩ : ∃ z : Int32, z = v17 + (1 : Int32) := ⟨_, rfl⟩
                  replace h := h v26 ev26
                  refine vv_iinc (v := v26) (L' := [(4, .int v26), (0, .ref (vv_q Y 0)), (1, .int a1), (2, .int v5), (3, .int v23)]) C 4 dX9_together_129 rfl ((kinc ki_1).trans ev26.symm) (by decide) rfl ?_
                  refine vv_goto (pc := 132) (tgt := 68) C dX9_together_132 (by decide) ?_
                  refine vv_sub [1, 2, 3, 4, 0] (L' := [(0, .ref (vv_q Y 0)), (1, .int a1), (2, .int v5), (3, .int v23), (4, .int v26)]) rfl ?_
                  exact ih1 _ _ _ h
                · refine vv_if_lt (pc := 84) C 129 dX9_together_84 (by decide) (fun hc27 => ?_) (fun hc27 => ?_)
                  · replace h := h.1 hc27
                    refine vv_sub [1, 2, 3, 4, 5] (L' := [(0, .ref (vv_q Y 0)), (1, .int a1), (2, .int v5), (3, .int v16), (4, .int v17)]) rfl ?_
                    exact hJk129_24 _ _ h
                  · replace h := h.2 hc27
                    refine vv_iload_n C 4 dX9_together_87 rfl rfl ?_
                    refine vv_join (fun k =>  k → VJ Y X (va_Qi post (vv_B Y) X.2) 7 97 [(0, .ref (vv_q Y 0)), (1, .int a1), (2, .int v5), (4, .int v17), (5, .int r22)] [] σ21) h (fun h => ?_) (fun k97_27 hJk97_27 h => ?_)
                    · refine vv_iload C 4 dX9_together_97 rfl ?_
                      refine vv_istore_n (L' := [(3, .int r22), (0, .ref (vv_q Y 0)), (1, .int a1), (2, .int v5), (4, .int v17), (5, .int r22)]) C dX9_together_99 rfl (by decide) rfl ?_
                      refine vv_iconst C dX9_together_100 ki_0 ?_
                      refine vv_istore (L' := [(6, .int (0 : Int32)), (3, .int r22), (0, .ref (vv_q Y 0)), (1, .int a1), (2, .int v5), (4, .int v17), (5, .int r22)]) C dX9_together_101 (by decide) rfl ?_
                      obtain ⟨n31, h⟩ := h
                      have hl2 : ∀ (n31 : Nat) (v29 : Int32) (σ30 : vv_S), lX9_together_2 k129_24 r22 n31 v29 σ30 → VJ Y X (va_Qi post (vv_B Y) X.2) 7 103 [(0, .ref (vv_q Y 0)), (1, .int a1), (2, .int v5), (3, .int r22), (4, .int v17), (6, .int v29)] [] σ30 := by
                        clear h
                        intro n31
                        induction n31 with
                        | zero => intro v29 σ30 h; exact False.elim h
                        | succ n31 ih2 =>
                          intro v29 σ30 h
                          refine vv_iload C 5 dX9_together_103 rfl ?_
                          refine vv_iconst C dX9_together_105 ki_5 ?_
                          refine vv_icmp_ge (pc := 106) C 129 dX9_together_106 (by decide) (fun hc32 => ?_) (fun hc32 => ?_)
                          · replace h := h.1 hc32
                            refine vv_sub [0, 1, 2, 3, 4] (L' := [(0, .ref (vv_q Y 0)), (1, .int a1), (2, .int v5), (3, .int r22), (4, .int v17)]) rfl ?_
                            exact hJk129_24 _ _ h
                          · replace h := h.2 hc32
                            refine vv_aload_n C 0 dX9_together_109 rfl rfl ?_
                            refine vv_getr (r := 39) C kc_X9 (s_X9 hY) 46 (by decide) rfl fk_X9_124 dX9_together_110 ?_
                            refine vv_iload C 5 dX9_together_113 rfl ?_
                            refine vv_aload_n C 0 dX9_together_115 rfl rfl ?_
                            refine vv_getr (r := 38) C kc_X9 (s_X9 hY) 45 (by decide) rfl fk_X9_121 dX9_together_116 ?_
                            refine vv_iload C 5 dX9_together_119 rfl ?_
                            obtain ⟨hi33, h⟩ := h
                            refine vv_iald C (a_X9_doer hY) hi33 rfl dX9_together_121 ?_
                            obtain ⟨hi34, h⟩ := h
                            refine vv_iast C (a_X9_bestDoer hY) hi34 rfl dX9_together_122 (fun σ35 eσ35 => ?_)
                            replace h := h σ35 eσ35
                            obtain ⟨v36, ev36⟩ : ∃ z : Int32, z = v29 + (1 : Int32) := ⟨_, rfl⟩
                            replace h := h v36 ev36
                            refine vv_iinc (v := v36) (L' := [(6, .int v36), (0, .ref (vv_q Y 0)), (1, .int a1), (2, .int v5), (3, .int r22), (4, .int v17)]) C 5 dX9_together_123 rfl ((kinc ki_1).trans ev36.symm) (by decide) rfl ?_
                            refine vv_goto (pc := 126) (tgt := 103) C dX9_together_126 (by decide) ?_
                            refine vv_sub [1, 2, 3, 4, 5, 0] (L' := [(0, .ref (vv_q Y 0)), (1, .int a1), (2, .int v5), (3, .int r22), (4, .int v17), (6, .int v36)]) rfl ?_
                            exact ih2 _ _ h
                      refine vv_sub [2, 3, 4, 1, 5, 0] (L' := [(0, .ref (vv_q Y 0)), (1, .int a1), (2, .int v5), (3, .int r22), (4, .int v17), (6, .int (0 : Int32))]) rfl ?_
                      exact hl2 n31 _ _ h
                    · refine vv_if_lt (pc := 88) C 97 dX9_together_88 (by decide) (fun hc37 => ?_) (fun hc37 => ?_)
                      · replace h := h.1 hc37
                        refine vv_sub [1, 2, 3, 5, 0] (L' := [(0, .ref (vv_q Y 0)), (1, .int a1), (2, .int v5), (4, .int v17), (5, .int r22)]) rfl ?_
                        exact hJk97_27 h
                      · replace h := h.2 hc37
                        refine vv_iload C 0 dX9_together_91 rfl ?_
                        refine vv_iload_n C 4 dX9_together_93 rfl rfl ?_
                        refine vv_icmp_ge (pc := 94) C 129 dX9_together_94 (by decide) (fun hc38 => ?_) (fun hc38 => ?_)
                        · replace h := h.1 hc38
                          refine vv_sub [1, 2, 3, 4, 5] (L' := [(0, .ref (vv_q Y 0)), (1, .int a1), (2, .int v5), (3, .int v16), (4, .int v17)]) rfl ?_
                          exact hJk129_24 _ _ h
                        · replace h := h.2 hc38
                          refine vv_sub [1, 2, 3, 5, 0] (L' := [(0, .ref (vv_q Y 0)), (1, .int a1), (2, .int v5), (4, .int v17), (5, .int r22)]) rfl ?_
                          exact hJk97_27 h
          refine vv_sub [2, 3, 4, 1, 0] (L' := [(0, .ref (vv_q Y 0)), (1, .int a1), (2, .int v5), (3, .int (-4 : Int32)), (4, .int (0 : Int32))]) rfl ?_
          exact hl1 n19 _ _ _ h
      · obtain ⟨n41, h⟩ := h
        have hl3 : ∀ (n41 : Nat) (v39 : Int32) (v40 : Int32), lX9_together_3 σ1 k62_5 n41 v39 v40 → VJ Y X (va_Qi post (vv_B Y) X.2) 7 37 [(0, .ref (vv_q Y 0)), (1, .int a1), (2, .int v39), (3, .int v40)] [] σ1 := by
          clear h
          intro n41
          induction n41 with
          | zero => intro v39 v40 h; exact False.elim h
          | succ n41 ih3 =>
            intro v39 v40 h
            refine vv_iload_n C 3 dX9_together_37 rfl rfl ?_
            refine vv_aload_n C 0 dX9_together_38 rfl rfl ?_
            refine vv_getr (r := 16) C kc_X9 (s_X9 hY) 16 (by decide) rfl fk_X9_55 dX9_together_39 ?_
            refine vv_iconst C dX9_together_42 ki_0 ?_
            refine vv_iald C (a_X9_jobs hY) kv_0_2 kn_0 dX9_together_43 ?_
            refine vv_icmp_ge (pc := 44) C 62 dX9_together_44 (by decide) (fun hc42 => ?_) (fun hc42 => ?_)
            · replace h := h.1 hc42
              refine vv_sub [0, 1, 2] (L' := [(0, .ref (vv_q Y 0)), (1, .int a1), (2, .int v39)]) rfl ?_
              exact hJk62_5 _ h
            · replace h := h.2 hc42
              refine vv_iload_n C 2 dX9_together_47 rfl rfl ?_
              refine vv_aload_n C 0 dX9_together_48 rfl rfl ?_
              refine vv_getr (r := 14) C kc_X9 (s_X9 hY) 14 (by decide) rfl fk_X9_49 dX9_together_49 ?_
              refine vv_iconst C dX9_together_52 ki_0 ?_
              refine vv_iald C (a_X9_children hY) kv_0_2 kn_0 dX9_together_53 ?_
              refine vv_imul C dX9_together_54 ?_
              refine vv_nm (fun v43 ev43 => ?_)
              replace h := h v43 ev43
              refine vv_istore_n (L' := [(2, .int v43), (0, .ref (vv_q Y 0)), (1, .int a1), (3, .int v40)]) C dX9_together_55 rfl (by decide) rfl ?_
              obtain ⟨v44, ev44⟩ : ∃ z : Int32, z = v40 + (1 : Int32) := ⟨_, rfl⟩
              replace h := h v44 ev44
              refine vv_iinc (v := v44) (L' := [(3, .int v44), (2, .int v43), (0, .ref (vv_q Y 0)), (1, .int a1)]) C 3 dX9_together_56 rfl ((kinc ki_1).trans ev44.symm) (by decide) rfl ?_
              refine vv_goto (pc := 59) (tgt := 37) C dX9_together_59 (by decide) ?_
              refine vv_sub [2, 3, 1, 0] (L' := [(0, .ref (vv_q Y 0)), (1, .int a1), (2, .int v43), (3, .int v44)]) rfl ?_
              exact ih3 _ _ h
        refine vv_sub [2, 3, 1, 0] (L' := [(0, .ref (vv_q Y 0)), (1, .int a1), (2, .int (1 : Int32)), (3, .int (0 : Int32))]) rfl ?_
        exact hl3 n41 _ _ h
    · replace h := h.2 hc4
      refine vv_iconst C dX9_together_31 ki_0 ?_
      exact vv_iret C dX9_together_32 h
  · replace h := h.2 hc3
    refine vv_iconst C dX9_together_20 ki_m1 ?_
    exact vv_iret C dX9_together_21 h
set_option maxHeartbeats 2000000 in
set_option maxRecDepth 100000 in
theorem mX9_isSlow {Y : vv_Y} (hY : Y.2.2.2.2 = wM) {a1 : Int32} {a2 : Int32} {a3 : Int32} {σ : vv_S} {post : Int32 → vv_S → Prop} (h : wX9_isSlow a1 a2 a3 σ post) : vv_MI Y yX9_isSlow cX9_isSlow 6 (some .boolean) 3 75 [.ref (vv_q Y 0), .int a1, .int a2, .int a3] σ post := by
  refine vv_ofI (by decide) (Nat.le_of_ble_eq_true rfl) (fun X C => ?_)
  have C : VC Y X RX9 cX9_isSlow 6 (some .boolean) 3 75 := C
  refine vv_sub [0, 1, 2, 3] (L' := [(0, .ref (vv_q Y 0)), (1, .int a1), (2, .int a2), (3, .int a3)]) rfl ?_
  refine vv_aload_n C 0 dX9_isSlow_0 rfl rfl ?_
  refine vv_callV (rest := []) C yk_X9_tryIt vk_X9_tryIt lk_X9_254 kc_X9.1 (s_X9 hY) dX9_isSlow_1 (mX9_tryIt hY h) rfl rfl ⟨Nat.le_of_ble_eq_true rfl, Nat.le_of_ble_eq_true rfl⟩ (Nat.le_of_ble_eq_true rfl) (fun σ1 h => ?_)
  refine vv_aload_n C 0 dX9_isSlow_4 rfl rfl ?_
  refine vv_bipush C dX9_isSlow_5 kb_m4 ?_
  refine vv_puti C kc_X9 (s_X9 hY) 47 (by decide) rfl pf_X9_47 fk_X9_287 dX9_isSlow_7 (fun σ2 eσ2 => ?_)
  replace h := h σ2 eσ2
  refine vv_iconst C dX9_isSlow_10 ki_1 ?_
  refine vv_istore (L' := [(4, .int (1 : Int32)), (0, .ref (vv_q Y 0)), (1, .int a1), (2, .int a2), (3, .int a3)]) C dX9_isSlow_11 (by decide) rfl ?_
  refine vv_iconst C dX9_isSlow_13 ki_1 ?_
  refine vv_istore (L' := [(5, .int (1 : Int32)), (4, .int (1 : Int32)), (0, .ref (vv_q Y 0)), (1, .int a1), (2, .int a2), (3, .int a3)]) C dX9_isSlow_14 (by decide) rfl ?_
  obtain ⟨n6, h⟩ := h
  have hl1 : ∀ (n6 : Nat) (v3 : Int32) (v4 : Int32) (σ5 : vv_S), lX9_isSlow_1 post a1 a3 a2 n6 v3 v4 σ5 → VJ Y X (va_Qi post (vv_B Y) X.2) 6 16 [(0, .ref (vv_q Y 0)), (1, .int a1), (2, .int a2), (3, .int a3), (4, .int v3), (5, .int v4)] [] σ5 := by
    clear h
    intro n6
    induction n6 with
    | zero => intro v3 v4 σ5 h; exact False.elim h
    | succ n6 ih1 =>
      intro v3 v4 σ5 h
      refine vv_iload C 5 dX9_isSlow_16 rfl ?_
      refine vv_bipush C dX9_isSlow_18 kb_60 ?_
      refine vv_icmp_gt (pc := 20) C 124 dX9_isSlow_20 (by decide) (fun hc7 => ?_) (fun hc7 => ?_)
      · replace h := h.1 hc7
        refine vv_iload C 4 dX9_isSlow_124 rfl ?_
        exact vv_zret C h.1 dX9_isSlow_126 h.2
      · replace h := h.2 hc7
        refine vv_aload_n C 0 dX9_isSlow_23 rfl rfl ?_
        refine vv_getr (r := 28) C kc_X9 (s_X9 hY) 31 (by decide) rfl fk_X9_91 dX9_isSlow_24 ?_
        refine vv_bipush C dX9_isSlow_27 kb_8 ?_
        refine vv_iload_n C 1 dX9_isSlow_29 rfl rfl ?_
        refine vv_iadd C dX9_isSlow_30 ?_
        refine vv_dup2 C dX9_isSlow_31 rfl rfl ?_
        obtain ⟨hi8, h⟩ := h
        refine vv_iald C (a_X9_high hY) hi8 rfl dX9_isSlow_32 ?_
        refine vv_iload C 5 dX9_isSlow_33 rfl ?_
        refine vv_iload_n C 3 dX9_isSlow_35 rfl rfl ?_
        obtain ⟨hne, h⟩ := h
        refine vv_irem C dX9_isSlow_36 hne ?_
        refine vv_join (fun k => ∀ (v9 : Int32), k v9 → VJ Y X (va_Qi post (vv_B Y) X.2) 6 57 [(0, .ref (vv_q Y 0)), (1, .int a1), (2, .int a2), (3, .int a3), (4, .int v3), (5, .int v4)] [.int v9, .int (σ5 28 (((8 : Int32) + a1)).toNatClampNeg), .int ((8 : Int32) + a1), .ref (vv_q Y 28)] σ5) h (fun v9 h => ?_) (fun k57_9 hJk57_9 h => ?_)
        · refine vv_isub C dX9_isSlow_57 ?_
          obtain ⟨hi11, h⟩ := h
          refine vv_iast C (a_X9_high hY) hi11 rfl dX9_isSlow_58 (fun σ12 eσ12 => ?_)
          replace h := h σ12 eσ12
          refine vv_aload_n C 0 dX9_isSlow_59 rfl rfl ?_
          refine vv_iconst C dX9_isSlow_60 ki_1 ?_
          refine vv_iconst C dX9_isSlow_61 ki_0 ?_
          refine vv_callV (rest := []) C yk_X9_go vk_X9_go lk_X9_224 kc_X9.1 (s_X9 hY) dX9_isSlow_62 (mX9_go hY h) rfl rfl ⟨Nat.le_of_ble_eq_true rfl, Nat.le_of_ble_eq_true rfl⟩ (Nat.le_of_ble_eq_true rfl) (fun σ13 h => ?_)
          refine vv_iload C 4 dX9_isSlow_65 rfl ?_
          refine vv_join (fun k => ∀ (v14 : Int32), k v14 → VJ Y X (va_Qi post (vv_B Y) X.2) 6 83 [(0, .ref (vv_q Y 0)), (1, .int a1), (2, .int a2), (3, .int a3), (5, .int v4)] [.int v14] σ13) h (fun v14 h => ?_) (fun k83_14 hJk83_14 h => ?_)
          · refine vv_istore (L' := [(4, .int v14), (0, .ref (vv_q Y 0)), (1, .int a1), (2, .int a2), (3, .int a3), (5, .int v4)]) C dX9_isSlow_83 (by decide) rfl ?_
            refine vv_aload_n C 1 dX9_isSlow_85 rfl rfl ?_
            refine vv_aload_n C 1 dX9_isSlow_86 rfl rfl ?_
            refine vv_geti C kc_X9 (s_X9 hY) 47 (by decide) rfl fk_X9_287 dX9_isSlow_87 ?_
            refine vv_join (fun k => ∀ (v16 : Int32) (σ17 : vv_S), k v16 σ17 → VJ Y X (va_Qi post (vv_B Y) X.2) 6 115 [(0, .ref (vv_q Y 0)), (1, .int a1), (2, .int a2), (3, .int a3), (4, .int v14), (5, .int v4)] [.int v16, .ref (vv_q Y 0)] σ17) h (fun v16 σ17 h => ?_) (fun k115_17 hJk115_17 h => ?_)
            · refine vv_puti C kc_X9 (s_X9 hY) 47 (by decide) rfl pf_X9_47 fk_X9_287 dX9_isSlow_115 (fun σ19 eσ19 => ?_)
              replace h := h σ19 eσ19
              obtain ⟨v20, ev20⟩ : ∃ z : Int32, z = v4 + (1 : Int32) := ⟨_, rfl⟩
              replace h := h v20 ev20
              refine vv_iinc (v := v20) (L' := [(5, .int v20), (0, .ref (vv_q Y 0)), (1, .int a1), (2, .int a2), (3, .int a3), (4, .int v14)]) C 5 dX9_isSlow_118 rfl ((kinc ki_1).trans ev20.symm) (by decide) rfl ?_
              refine vv_goto (pc := 121) (tgt := 16) C dX9_isSlow_121 (by decide) ?_
              refine vv_sub [1, 2, 3, 4, 5, 0] (L' := [(0, .ref (vv_q Y 0)), (1, .int a1), (2, .int a2), (3, .int a3), (4, .int v14), (5, .int v20)]) rfl ?_
              exact ih1 _ _ _ h
            · refine vv_join (fun k => ∀ (σ21 : vv_S), k σ21 → VJ Y X (va_Qi post (vv_B Y) X.2) 6 111 [(0, .ref (vv_q Y 0)), (1, .int a1), (2, .int a2), (3, .int a3), (4, .int v14), (5, .int v4)] [.ref (vv_q Y 0)] σ21) h (fun σ21 h => ?_) (fun k111_21 hJk111_21 h => ?_)
              · refine vv_aload_n C 0 dX9_isSlow_111 rfl rfl ?_
                refine vv_geti C kc_X9 (s_X9 hY) 47 (by decide) rfl fk_X9_287 dX9_isSlow_112 ?_
                refine vv_sub [0, 1, 2, 3, 4, 5] (L' := [(0, .ref (vv_q Y 0)), (1, .int a1), (2, .int a2), (3, .int a3), (4, .int v14), (5, .int v4)]) rfl ?_
                exact hJk115_17 _ _ h
              · refine vv_if_ge (pc := 90) C 111 dX9_isSlow_90 (by decide) (fun hc23 => ?_) (fun hc23 => ?_)
                · replace h := h.1 hc23
                  refine vv_sub [1, 2, 3, 4, 0, 5] (L' := [(0, .ref (vv_q Y 0)), (1, .int a1), (2, .int a2), (3, .int a3), (4, .int v14), (5, .int v4)]) rfl ?_
                  exact hJk111_21 _ h
                · replace h := h.2 hc23
                  refine vv_aload_n C 1 dX9_isSlow_93 rfl rfl ?_
                  refine vv_aload_n C 1 dX9_isSlow_94 rfl rfl ?_
                  refine vv_getr (r := 31) C kc_X9 (s_X9 hY) 34 (by decide) rfl fk_X9_100 dX9_isSlow_95 ?_
                  refine vv_iconst C dX9_isSlow_98 ki_1 ?_
                  refine vv_iald C (a_X9_water hY) kv_1_2 kn_1 dX9_isSlow_99 ?_
                  refine vv_callI (rest := [.ref (vv_q Y 0)]) C yk_X9_levelOf vk_X9_levelOf lk_X9_208 kc_X9.1 (s_X9 hY) dX9_isSlow_100 (mX9_levelOf hY h) rfl rfl ⟨Nat.le_of_ble_eq_true rfl, Nat.le_of_ble_eq_true rfl⟩ (Nat.le_of_ble_eq_true rfl) (fun r25 σ24 h => ?_)
                  refine vv_if_ne (pc := 103) C 111 dX9_isSlow_103 (by decide) (fun hc26 => ?_) (fun hc26 => ?_)
                  · replace h := h.1 hc26
                    refine vv_sub [1, 2, 3, 4, 0, 5] (L' := [(0, .ref (vv_q Y 0)), (1, .int a1), (2, .int a2), (3, .int a3), (4, .int v14), (5, .int v4)]) rfl ?_
                    exact hJk111_21 _ h
                  · replace h := h.2 hc26
                    refine vv_iload C 5 dX9_isSlow_106 rfl ?_
                    refine vv_goto (pc := 108) (tgt := 115) C dX9_isSlow_108 (by decide) ?_
                    refine vv_sub [1, 2, 3, 4, 0, 5] (L' := [(0, .ref (vv_q Y 0)), (1, .int a1), (2, .int a2), (3, .int a3), (4, .int v14), (5, .int v4)]) rfl ?_
                    exact hJk115_17 _ _ h
          · refine vv_join (fun k =>  k → VJ Y X (va_Qi post (vv_B Y) X.2) 6 82 [(0, .ref (vv_q Y 0)), (1, .int a1), (2, .int a2), (3, .int a3), (5, .int v4)] [] σ13) h (fun h => ?_) (fun k82_26 hJk82_26 h => ?_)
            · refine vv_iconst C dX9_isSlow_82 ki_0 ?_
              refine vv_sub [0, 1, 2, 3, 4] (L' := [(0, .ref (vv_q Y 0)), (1, .int a1), (2, .int a2), (3, .int a3), (5, .int v4)]) rfl ?_
              exact hJk83_14 _ h
            · refine vv_if_eq (pc := 67) C 82 dX9_isSlow_67 (by decide) (fun hc28 => ?_) (fun hc28 => ?_)
              · replace h := h.1 hc28
                refine vv_sub [0, 1, 2, 3, 5] (L' := [(0, .ref (vv_q Y 0)), (1, .int a1), (2, .int a2), (3, .int a3), (5, .int v4)]) rfl ?_
                exact hJk82_26 h
              · replace h := h.2 hc28
                refine vv_aload_n C 0 dX9_isSlow_70 rfl rfl ?_
                refine vv_geti C kc_X9 (s_X9 hY) 38 (by decide) rfl fk_X9_211 dX9_isSlow_71 ?_
                refine vv_iload_n C 2 dX9_isSlow_74 rfl rfl ?_
                refine vv_icmp_gt (pc := 75) C 82 dX9_isSlow_75 (by decide) (fun hc29 => ?_) (fun hc29 => ?_)
                · replace h := h.1 hc29
                  refine vv_sub [0, 1, 2, 3, 5] (L' := [(0, .ref (vv_q Y 0)), (1, .int a1), (2, .int a2), (3, .int a3), (5, .int v4)]) rfl ?_
                  exact hJk82_26 h
                · replace h := h.2 hc29
                  refine vv_iconst C dX9_isSlow_78 ki_1 ?_
                  refine vv_goto (pc := 79) (tgt := 83) C dX9_isSlow_79 (by decide) ?_
                  refine vv_sub [0, 1, 2, 3, 5] (L' := [(0, .ref (vv_q Y 0)), (1, .int a1), (2, .int a2), (3, .int a3), (5, .int v4)]) rfl ?_
                  exact hJk83_14 _ h
        · refine vv_join (fun k =>  k → VJ Y X (va_Qi post (vv_B Y) X.2) 6 56 [(0, .ref (vv_q Y 0)), (1, .int a1), (2, .int a2), (3, .int a3), (4, .int v3), (5, .int v4)] [.int (σ5 28 (((8 : Int32) + a1)).toNatClampNeg), .int ((8 : Int32) + a1), .ref (vv_q Y 28)] σ5) h (fun h => ?_) (fun k56_29 hJk56_29 h => ?_)
          · refine vv_iconst C dX9_isSlow_56 ki_0 ?_
            refine vv_sub [0, 1, 2, 3, 4, 5] (L' := [(0, .ref (vv_q Y 0)), (1, .int a1), (2, .int a2), (3, .int a3), (4, .int v3), (5, .int v4)]) rfl ?_
            exact hJk57_9 _ h
          · refine vv_if_ne (pc := 37) C 56 dX9_isSlow_37 (by decide) (fun hc31 => ?_) (fun hc31 => ?_)
            · replace h := h.1 hc31
              refine vv_sub [0, 1, 2, 3, 4, 5] (L' := [(0, .ref (vv_q Y 0)), (1, .int a1), (2, .int a2), (3, .int a3), (4, .int v3), (5, .int v4)]) rfl ?_
              exact hJk56_29 h
            · replace h := h.2 hc31
              refine vv_aload_n C 0 dX9_isSlow_40 rfl rfl ?_
              refine vv_getr (r := 28) C kc_X9 (s_X9 hY) 31 (by decide) rfl fk_X9_91 dX9_isSlow_41 ?_
              refine vv_bipush C dX9_isSlow_44 kb_8 ?_
              refine vv_iload_n C 1 dX9_isSlow_46 rfl rfl ?_
              refine vv_iadd C dX9_isSlow_47 ?_
              obtain ⟨hi32, h⟩ := h
              refine vv_iald C (a_X9_high hY) hi32 rfl dX9_isSlow_48 ?_
              refine vv_if_le (pc := 49) C 56 dX9_isSlow_49 (by decide) (fun hc33 => ?_) (fun hc33 => ?_)
              · replace h := h.1 hc33
                refine vv_sub [0, 1, 2, 3, 4, 5] (L' := [(0, .ref (vv_q Y 0)), (1, .int a1), (2, .int a2), (3, .int a3), (4, .int v3), (5, .int v4)]) rfl ?_
                exact hJk56_29 h
              · replace h := h.2 hc33
                refine vv_iconst C dX9_isSlow_52 ki_1 ?_
                refine vv_goto (pc := 53) (tgt := 57) C dX9_isSlow_53 (by decide) ?_
                refine vv_sub [0, 1, 2, 3, 4, 5] (L' := [(0, .ref (vv_q Y 0)), (1, .int a1), (2, .int a2), (3, .int a3), (4, .int v3), (5, .int v4)]) rfl ?_
                exact hJk57_9 _ h
  refine vv_sub [2, 3, 4, 5, 1, 0] (L' := [(0, .ref (vv_q Y 0)), (1, .int a1), (2, .int a2), (3, .int a3), (4, .int (1 : Int32)), (5, .int (1 : Int32))]) rfl ?_
  exact hl1 n6 _ _ _ h
set_option maxHeartbeats 2000000 in
set_option maxRecDepth 100000 in
theorem mX9_slow {Y : vv_Y} (hY : Y.2.2.2.2 = wM) {a1 : Int32} {a2 : Int32} {a3 : Int32} {σ : vv_S} {post : Int32 → vv_S → Prop} (h : wX9_slow a1 a2 a3 σ post) : vv_MI Y yX9_slow cX9_slow 5 (some .int) 4 100 [.ref (vv_q Y 0), .int a1, .int a2, .int a3] σ post := by
  refine vv_ofI (by decide) (Nat.le_of_ble_eq_true rfl) (fun X C => ?_)
  have C : VC Y X RX9 cX9_slow 5 (some .int) 4 100 := C
  refine vv_sub [0, 1, 2, 3] (L' := [(0, .ref (vv_q Y 0)), (1, .int a1), (2, .int a2), (3, .int a3)]) rfl ?_
  refine vv_aload_n C 0 dX9_slow_0 rfl rfl ?_
  refine vv_iload_n C 1 dX9_slow_1 rfl rfl ?_
  refine vv_callI (rest := []) C yk_X9_isCell vk_X9_isCell lk_X9_237 kc_X9.1 (s_X9 hY) dX9_slow_2 (mX9_isCell hY h) rfl rfl ⟨Nat.le_of_ble_eq_true rfl, Nat.le_of_ble_eq_true rfl⟩ (Nat.le_of_ble_eq_true rfl) (fun r2 σ1 h => ?_)
  refine vv_join (fun k => ∀ (σ3 : vv_S), k σ3 → VJ Y X (va_Qi post (vv_B Y) X.2) 5 30 [] [] σ3) h (fun σ3 h => ?_) (fun k30_3 hJk30_3 h => ?_)
  · refine vv_iconst C dX9_slow_30 ki_m1 ?_
    exact vv_iret C dX9_slow_31 h
  · refine vv_if_eq (pc := 5) C 30 dX9_slow_5 (by decide) (fun hc5 => ?_) (fun hc5 => ?_)
    · replace h := h.1 hc5
      refine vv_sub [] (L' := []) rfl ?_
      exact hJk30_3 _ h
    · replace h := h.2 hc5
      refine vv_iload_n C 2 dX9_slow_8 rfl rfl ?_
      refine vv_i2l C dX9_slow_9 ?_
      refine vv_lconst (v := 0) C dX9_slow_10 (by decide) ?_
      refine vv_ldc2 C lc_X9_240 dX9_slow_11 ?_
      refine vv_callS (rest := []) C yk_X9_in sk_X9_in lk_X9_138 dX9_slow_14 (mX9_in hY h) rfl rfl ⟨Nat.le_of_ble_eq_true rfl, Nat.le_of_ble_eq_true rfl⟩ (Nat.le_of_ble_eq_true rfl) (fun r7 σ6 h => ?_)
      refine vv_if_eq (pc := 17) C 30 dX9_slow_17 (by decide) (fun hc8 => ?_) (fun hc8 => ?_)
      · replace h := h.1 hc8
        refine vv_sub [] (L' := []) rfl ?_
        exact hJk30_3 _ h
      · replace h := h.2 hc8
        refine vv_iload_n C 3 dX9_slow_20 rfl rfl ?_
        refine vv_i2l C dX9_slow_21 ?_
        refine vv_lconst (v := 0) C dX9_slow_22 (by decide) ?_
        refine vv_lconst (v := 1) C dX9_slow_23 (by decide) ?_
        refine vv_callS (rest := []) C yk_X9_in sk_X9_in lk_X9_138 dX9_slow_24 (mX9_in hY h) rfl rfl ⟨Nat.le_of_ble_eq_true rfl, Nat.le_of_ble_eq_true rfl⟩ (Nat.le_of_ble_eq_true rfl) (fun r10 σ9 h => ?_)
        refine vv_if_ne (pc := 27) C 32 dX9_slow_27 (by decide) (fun hc11 => ?_) (fun hc11 => ?_)
        · replace h := h.1 hc11
          refine vv_iconst C dX9_slow_32 ki_1 ?_
          refine vv_istore (L' := [(4, .int (1 : Int32)), (0, .ref (vv_q Y 0)), (1, .int a1), (2, .int a2), (3, .int a3)]) C dX9_slow_33 (by decide) rfl ?_
          refine vv_join (fun k => ∀ (v12 : Int32) (σ13 : vv_S), k v12 σ13 → VJ Y X (va_Qi post (vv_B Y) X.2) 5 53 [(0, .ref (vv_q Y 0)), (3, .int a3), (4, .int v12)] [] σ13) h (fun v12 σ13 h => ?_) (fun k53_13 hJk53_13 h => ?_)
          · refine vv_iload_n C 1 dX9_slow_53 rfl rfl ?_
            refine vv_join (fun k => ∀ (v15 : Int32), k v15 → VJ Y X (va_Qi post (vv_B Y) X.2) 5 66 [] [.int v15] σ13) h (fun v15 h => ?_) (fun k66_15 hJk66_15 h => ?_)
            · exact vv_iret C dX9_slow_66 h
            · refine vv_if_ne (pc := 54) C 62 dX9_slow_54 (by decide) (fun hc17 => ?_) (fun hc17 => ?_)
              · replace h := h.1 hc17
                refine vv_aload_n C 0 dX9_slow_62 rfl rfl ?_
                refine vv_geti C kc_X9 (s_X9 hY) 47 (by decide) rfl fk_X9_287 dX9_slow_63 ?_
                refine vv_sub [] (L' := []) rfl ?_
                exact hJk66_15 _ h
              · replace h := h.2 hc17
                refine vv_iload C 2 dX9_slow_57 rfl ?_
                refine vv_goto (pc := 59) (tgt := 66) C dX9_slow_59 (by decide) ?_
                refine vv_sub [] (L' := []) rfl ?_
                exact hJk66_15 _ h
          · obtain ⟨n20, h⟩ := h
            have hl1 : ∀ (n20 : Nat) (v18 : Int32) (σ19 : vv_S), lX9_slow_1 post a1 a2 k53_13 n20 v18 σ19 → VJ Y X (va_Qi post (vv_B Y) X.2) 5 35 [(0, .ref (vv_q Y 0)), (1, .int a1), (2, .int a2), (3, .int a3), (4, .int v18)] [] σ19 := by
              clear h
              intro n20
              induction n20 with
              | zero => intro v18 σ19 h; exact False.elim h
              | succ n20 ih1 =>
                intro v18 σ19 h
                refine vv_iload C 4 dX9_slow_35 rfl ?_
                refine vv_bipush C dX9_slow_37 kb_9 ?_
                refine vv_icmp_gt (pc := 39) C 73 dX9_slow_39 (by decide) (fun hc21 => ?_) (fun hc21 => ?_)
                · replace h := h.1 hc21
                  refine vv_bipush C dX9_slow_73 kb_m4 ?_
                  exact vv_iret C dX9_slow_75 h
                · replace h := h.2 hc21
                  refine vv_aload_n C 0 dX9_slow_42 rfl rfl ?_
                  refine vv_iload_n C 1 dX9_slow_43 rfl rfl ?_
                  refine vv_iload_n C 2 dX9_slow_44 rfl rfl ?_
                  refine vv_iload C 4 dX9_slow_45 rfl ?_
                  refine vv_callI (rest := []) C yk_X9_isSlow vk_X9_isSlow lk_X9_290 kc_X9.1 (s_X9 hY) dX9_slow_47 (mX9_isSlow hY h) rfl rfl ⟨Nat.le_of_ble_eq_true rfl, Nat.le_of_ble_eq_true rfl⟩ (Nat.le_of_ble_eq_true rfl) (fun r23 σ22 h => ?_)
                  refine vv_if_eq (pc := 50) C 67 dX9_slow_50 (by decide) (fun hc24 => ?_) (fun hc24 => ?_)
                  · replace h := h.1 hc24
                    obtain ⟨v25, ev25⟩ : ∃ z : Int32, z = v18 + (1 : Int32) := ⟨_, rfl⟩
                    replace h := h v25 ev25
                    refine vv_iinc (v := v25) (L' := [(4, .int v25), (0, .ref (vv_q Y 0)), (1, .int a1), (2, .int a2), (3, .int a3)]) C 4 dX9_slow_67 rfl ((kinc ki_1).trans ev25.symm) (by decide) rfl ?_
                    refine vv_goto (pc := 70) (tgt := 35) C dX9_slow_70 (by decide) ?_
                    refine vv_sub [1, 2, 3, 4, 0] (L' := [(0, .ref (vv_q Y 0)), (1, .int a1), (2, .int a2), (3, .int a3), (4, .int v25)]) rfl ?_
                    exact ih1 _ _ h
                  · replace h := h.2 hc24
                    refine vv_sub [0, 3, 4] (L' := [(0, .ref (vv_q Y 0)), (3, .int a3), (4, .int v18)]) rfl ?_
                    exact hJk53_13 _ _ h
            refine vv_sub [1, 2, 3, 4, 0] (L' := [(0, .ref (vv_q Y 0)), (1, .int a1), (2, .int a2), (3, .int a3), (4, .int (1 : Int32))]) rfl ?_
            exact hl1 n20 _ _ h
        · replace h := h.2 hc11
          refine vv_sub [] (L' := []) rfl ?_
          exact hJk30_3 _ h
set_option maxHeartbeats 2000000 in
set_option maxRecDepth 100000 in
theorem mX9_fill {Y : vv_Y} (hY : Y.2.2.2.2 = wM) {a1 : Int32} {σ : vv_S} {post : Int32 → vv_S → Prop} (h : wX9_fill a1 σ post) : vv_MI Y yX9_fill cX9_fill 3 (some .int) 3 75 [.ref (vv_q Y 0), .int a1] σ post := by
  refine vv_ofI (by decide) (Nat.le_of_ble_eq_true rfl) (fun X C => ?_)
  have C : VC Y X RX9 cX9_fill 3 (some .int) 3 75 := C
  refine vv_sub [0, 1] (L' := [(0, .ref (vv_q Y 0)), (1, .int a1)]) rfl ?_
  refine vv_iload_n C 1 dX9_fill_0 rfl rfl ?_
  refine vv_i2l C dX9_fill_1 ?_
  refine vv_lconst (v := 1) C dX9_fill_2 (by decide) ?_
  refine vv_ldc2 C lc_X9_293 dX9_fill_3 ?_
  refine vv_callS (rest := []) C yk_X9_in sk_X9_in lk_X9_138 dX9_fill_6 (mX9_in hY h) rfl rfl ⟨Nat.le_of_ble_eq_true rfl, Nat.le_of_ble_eq_true rfl⟩ (Nat.le_of_ble_eq_true rfl) (fun r2 σ1 h => ?_)
  refine vv_if_ne (pc := 9) C 14 dX9_fill_9 (by decide) (fun hc3 => ?_) (fun hc3 => ?_)
  · replace h := h.1 hc3
    refine vv_aload_n C 0 dX9_fill_14 rfl rfl ?_
    refine vv_callV (rest := []) C yk_X9_tryIt vk_X9_tryIt lk_X9_254 kc_X9.1 (s_X9 hY) dX9_fill_15 (mX9_tryIt hY h) rfl rfl ⟨Nat.le_of_ble_eq_true rfl, Nat.le_of_ble_eq_true rfl⟩ (Nat.le_of_ble_eq_true rfl) (fun σ4 h => ?_)
    refine vv_aload_n C 0 dX9_fill_18 rfl rfl ?_
    refine vv_getr (r := 31) C kc_X9 (s_X9 hY) 34 (by decide) rfl fk_X9_100 dX9_fill_19 ?_
    refine vv_iconst C dX9_fill_22 ki_1 ?_
    refine vv_iconst C dX9_fill_23 ki_0 ?_
    refine vv_iast C (a_X9_water hY) kv_1_2 kn_1 dX9_fill_24 (fun σ5 eσ5 => ?_)
    replace h := h σ5 eσ5
    refine vv_iconst C dX9_fill_25 ki_1 ?_
    refine vv_istore_n (L' := [(2, .int (1 : Int32)), (0, .ref (vv_q Y 0)), (1, .int a1)]) C dX9_fill_26 rfl (by decide) rfl ?_
    obtain ⟨n8, h⟩ := h
    have hl1 : ∀ (n8 : Nat) (v6 : Int32) (σ7 : vv_S), lX9_fill_1 post a1 n8 v6 σ7 → VJ Y X (va_Qi post (vv_B Y) X.2) 3 27 [(0, .ref (vv_q Y 0)), (1, .int a1), (2, .int v6)] [] σ7 := by
      clear h
      intro n8
      induction n8 with
      | zero => intro v6 σ7 h; exact False.elim h
      | succ n8 ih1 =>
        intro v6 σ7 h
        refine vv_iload_n C 2 dX9_fill_27 rfl rfl ?_
        refine vv_sipush C dX9_fill_28 ks_200 ?_
        refine vv_icmp_gt (pc := 31) C 62 dX9_fill_31 (by decide) (fun hc9 => ?_) (fun hc9 => ?_)
        · replace h := h.1 hc9
          refine vv_bipush C dX9_fill_62 kb_m4 ?_
          exact vv_iret C dX9_fill_64 h
        · replace h := h.2 hc9
          refine vv_aload_n C 0 dX9_fill_34 rfl rfl ?_
          refine vv_iconst C dX9_fill_35 ki_1 ?_
          refine vv_iconst C dX9_fill_36 ki_0 ?_
          refine vv_callV (rest := []) C yk_X9_go vk_X9_go lk_X9_224 kc_X9.1 (s_X9 hY) dX9_fill_37 (mX9_go hY h) rfl rfl ⟨Nat.le_of_ble_eq_true rfl, Nat.le_of_ble_eq_true rfl⟩ (Nat.le_of_ble_eq_true rfl) (fun σ10 h => ?_)
          refine vv_aload_n C 0 dX9_fill_40 rfl rfl ?_
          refine vv_aload_n C 0 dX9_fill_41 rfl rfl ?_
          refine vv_getr (r := 31) C kc_X9 (s_X9 hY) 34 (by decide) rfl fk_X9_100 dX9_fill_42 ?_
          refine vv_iconst C dX9_fill_45 ki_1 ?_
          refine vv_iald C (a_X9_water hY) kv_1_2 kn_1 dX9_fill_46 ?_
          refine vv_callI (rest := []) C yk_X9_levelOf vk_X9_levelOf lk_X9_208 kc_X9.1 (s_X9 hY) dX9_fill_47 (mX9_levelOf hY h) rfl rfl ⟨Nat.le_of_ble_eq_true rfl, Nat.le_of_ble_eq_true rfl⟩ (Nat.le_of_ble_eq_true rfl) (fun r12 σ11 h => ?_)
          refine vv_iload_n C 1 dX9_fill_50 rfl rfl ?_
          refine vv_icmp_lt (pc := 51) C 56 dX9_fill_51 (by decide) (fun hc13 => ?_) (fun hc13 => ?_)
          · replace h := h.1 hc13
            obtain ⟨v14, ev14⟩ : ∃ z : Int32, z = v6 + (1 : Int32) := ⟨_, rfl⟩
            replace h := h v14 ev14
            refine vv_iinc (v := v14) (L' := [(2, .int v14), (0, .ref (vv_q Y 0)), (1, .int a1)]) C 2 dX9_fill_56 rfl ((kinc ki_1).trans ev14.symm) (by decide) rfl ?_
            refine vv_goto (pc := 59) (tgt := 27) C dX9_fill_59 (by decide) ?_
            refine vv_sub [1, 2, 0] (L' := [(0, .ref (vv_q Y 0)), (1, .int a1), (2, .int v14)]) rfl ?_
            exact ih1 _ _ h
          · replace h := h.2 hc13
            refine vv_iload_n C 2 dX9_fill_54 rfl rfl ?_
            exact vv_iret C dX9_fill_55 h
    refine vv_sub [1, 2, 0] (L' := [(0, .ref (vv_q Y 0)), (1, .int a1), (2, .int (1 : Int32))]) rfl ?_
    exact hl1 n8 _ _ h
  · replace h := h.2 hc3
    refine vv_iconst C dX9_fill_12 ki_m1 ?_
    exact vv_iret C dX9_fill_13 h
set_option maxHeartbeats 2000000 in
set_option maxRecDepth 100000 in
theorem mX9_trodden {Y : vv_Y} (hY : Y.2.2.2.2 = wM) {a1 : Int32} {a2 : Int32} {σ : vv_S} {post : Int32 → vv_S → Prop} (h : wX9_trodden a1 a2 σ post) : vv_MI Y yX9_trodden cX9_trodden 5 (some .int) 4 96 [.ref (vv_q Y 0), .int a1, .int a2] σ post := by
  refine vv_ofI (by decide) (Nat.le_of_ble_eq_true rfl) (fun X C => ?_)
  have C : VC Y X RX9 cX9_trodden 5 (some .int) 4 96 := C
  refine vv_sub [0, 1, 2] (L' := [(0, .ref (vv_q Y 0)), (1, .int a1), (2, .int a2)]) rfl ?_
  refine vv_aload_n C 0 dX9_trodden_0 rfl rfl ?_
  refine vv_iload_n C 1 dX9_trodden_1 rfl rfl ?_
  refine vv_callI (rest := []) C yk_X9_isCell vk_X9_isCell lk_X9_237 kc_X9.1 (s_X9 hY) dX9_trodden_2 (mX9_isCell hY h) rfl rfl ⟨Nat.le_of_ble_eq_true rfl, Nat.le_of_ble_eq_true rfl⟩ (Nat.le_of_ble_eq_true rfl) (fun r2 σ1 h => ?_)
  refine vv_join (fun k => ∀ (σ3 : vv_S), k σ3 → VJ Y X (va_Qi post (vv_B Y) X.2) 5 20 [] [] σ3) h (fun σ3 h => ?_) (fun k20_3 hJk20_3 h => ?_)
  · refine vv_iconst C dX9_trodden_20 ki_m1 ?_
    exact vv_iret C dX9_trodden_21 h
  · refine vv_if_eq (pc := 5) C 20 dX9_trodden_5 (by decide) (fun hc5 => ?_) (fun hc5 => ?_)
    · replace h := h.1 hc5
      refine vv_sub [] (L' := []) rfl ?_
      exact hJk20_3 _ h
    · replace h := h.2 hc5
      refine vv_iload_n C 2 dX9_trodden_8 rfl rfl ?_
      refine vv_i2l C dX9_trodden_9 ?_
      refine vv_lconst (v := 1) C dX9_trodden_10 (by decide) ?_
      refine vv_ldc2 C lc_X9_244 dX9_trodden_11 ?_
      refine vv_callS (rest := []) C yk_X9_in sk_X9_in lk_X9_138 dX9_trodden_14 (mX9_in hY h) rfl rfl ⟨Nat.le_of_ble_eq_true rfl, Nat.le_of_ble_eq_true rfl⟩ (Nat.le_of_ble_eq_true rfl) (fun r7 σ6 h => ?_)
      refine vv_if_ne (pc := 17) C 22 dX9_trodden_17 (by decide) (fun hc8 => ?_) (fun hc8 => ?_)
      · replace h := h.1 hc8
        refine vv_aload_n C 0 dX9_trodden_22 rfl rfl ?_
        refine vv_getr (r := 28) C kc_X9 (s_X9 hY) 31 (by decide) rfl fk_X9_91 dX9_trodden_23 ?_
        refine vv_iload_n C 1 dX9_trodden_26 rfl rfl ?_
        obtain ⟨hi9, h⟩ := h
        refine vv_iald C (a_X9_high hY) hi9 rfl dX9_trodden_27 ?_
        refine vv_iload_n C 2 dX9_trodden_28 rfl rfl ?_
        refine vv_iadd C dX9_trodden_29 ?_
        refine vv_bipush C dX9_trodden_30 kb_40 ?_
        refine vv_icmp_le (pc := 32) C 38 dX9_trodden_32 (by decide) (fun hc10 => ?_) (fun hc10 => ?_)
        · replace h := h.1 hc10
          refine vv_aload_n C 0 dX9_trodden_38 rfl rfl ?_
          refine vv_callV (rest := []) C yk_X9_tryIt vk_X9_tryIt lk_X9_254 kc_X9.1 (s_X9 hY) dX9_trodden_39 (mX9_tryIt hY h) rfl rfl ⟨Nat.le_of_ble_eq_true rfl, Nat.le_of_ble_eq_true rfl⟩ (Nat.le_of_ble_eq_true rfl) (fun σ11 h => ?_)
          refine vv_aload_n C 0 dX9_trodden_42 rfl rfl ?_
          refine vv_callI (rest := []) C yk_X9_goneFrom vk_X9_goneFrom lk_X9_266 kc_X9.1 (s_X9 hY) dX9_trodden_43 (mX9_goneFrom hY h) rfl rfl ⟨Nat.le_of_ble_eq_true rfl, Nat.le_of_ble_eq_true rfl⟩ (Nat.le_of_ble_eq_true rfl) (fun r13 σ12 h => ?_)
          refine vv_istore_n (L' := [(3, .int r13), (0, .ref (vv_q Y 0)), (1, .int a1), (2, .int a2)]) C dX9_trodden_46 rfl (by decide) rfl ?_
          refine vv_iload_n C 0 dX9_trodden_47 rfl rfl ?_
          refine vv_if_ge (pc := 48) C 54 dX9_trodden_48 (by decide) (fun hc14 => ?_) (fun hc14 => ?_)
          · replace h := h.1 hc14
            refine vv_aload_n C 1 dX9_trodden_54 rfl rfl ?_
            refine vv_callV (rest := []) C yk_X9_tryIt vk_X9_tryIt lk_X9_254 kc_X9.1 (s_X9 hY) dX9_trodden_55 (mX9_tryIt hY h) rfl rfl ⟨Nat.le_of_ble_eq_true rfl, Nat.le_of_ble_eq_true rfl⟩ (Nat.le_of_ble_eq_true rfl) (fun σ15 h => ?_)
            refine vv_aload_n C 1 dX9_trodden_58 rfl rfl ?_
            refine vv_getr (r := 28) C kc_X9 (s_X9 hY) 31 (by decide) rfl fk_X9_91 dX9_trodden_59 ?_
            refine vv_bipush C dX9_trodden_62 kb_8 ?_
            refine vv_iload_n C 2 dX9_trodden_64 rfl rfl ?_
            refine vv_iadd C dX9_trodden_65 ?_
            refine vv_dup2 C dX9_trodden_66 rfl rfl ?_
            obtain ⟨hi16, h⟩ := h
            refine vv_iald C (a_X9_high hY) hi16 rfl dX9_trodden_67 ?_
            refine vv_iload_n C 3 dX9_trodden_68 rfl rfl ?_
            refine vv_iadd C dX9_trodden_69 ?_
            obtain ⟨hi17, h⟩ := h
            refine vv_iast C (a_X9_high hY) hi17 rfl dX9_trodden_70 (fun σ18 eσ18 => ?_)
            replace h := h σ18 eσ18
            refine vv_aload_n C 1 dX9_trodden_71 rfl rfl ?_
            refine vv_callI (rest := []) C yk_X9_goneFrom vk_X9_goneFrom lk_X9_266 kc_X9.1 (s_X9 hY) dX9_trodden_72 (mX9_goneFrom hY h) rfl rfl ⟨Nat.le_of_ble_eq_true rfl, Nat.le_of_ble_eq_true rfl⟩ (Nat.le_of_ble_eq_true rfl) (fun r20 σ19 h => ?_)
            refine vv_istore (L' := [(4, .int r20), (3, .int r13), (0, .ref (vv_q Y 0)), (1, .int a1), (2, .int a2)]) C dX9_trodden_75 (by decide) rfl ?_
            refine vv_iload C 0 dX9_trodden_77 rfl ?_
            refine vv_join (fun k => ∀ (v21 : Int32), k v21 → VJ Y X (va_Qi post (vv_B Y) X.2) 5 90 [(3, .int r13)] [.int v21] σ19) h (fun v21 h => ?_) (fun k90_21 hJk90_21 h => ?_)
            · refine vv_iload_n C 0 dX9_trodden_90 rfl rfl ?_
              refine vv_isub C dX9_trodden_91 ?_
              refine vv_sipush C dX9_trodden_92 ks_200 ?_
              refine vv_iadd C dX9_trodden_95 ?_
              exact vv_iret C dX9_trodden_96 h
            · refine vv_if_ge (pc := 79) C 88 dX9_trodden_79 (by decide) (fun hc23 => ?_) (fun hc23 => ?_)
              · replace h := h.1 hc23
                refine vv_iload C 0 dX9_trodden_88 rfl ?_
                refine vv_sub [1] (L' := [(3, .int r13)]) rfl ?_
                exact hJk90_21 _ h
              · replace h := h.2 hc23
                refine vv_sipush C dX9_trodden_82 ks_200 ?_
                refine vv_goto (pc := 85) (tgt := 90) C dX9_trodden_85 (by decide) ?_
                refine vv_sub [1] (L' := [(3, .int r13)]) rfl ?_
                exact hJk90_21 _ h
          · replace h := h.2 hc14
            refine vv_bipush C dX9_trodden_51 kb_m4 ?_
            exact vv_iret C dX9_trodden_53 h
        · replace h := h.2 hc10
          refine vv_bipush C dX9_trodden_35 kb_m2 ?_
          exact vv_iret C dX9_trodden_37 h
      · replace h := h.2 hc8
        refine vv_sub [] (L' := []) rfl ?_
        exact hJk20_3 _ h
set_option maxHeartbeats 2000000 in
set_option maxRecDepth 100000 in
theorem mX9_breaches {Y : vv_Y} (hY : Y.2.2.2.2 = wM) {a1 : Int32} {σ : vv_S} {post : Int32 → vv_S → Prop} (h : wX9_breaches a1 σ post) : vv_MI Y yX9_breaches cX9_breaches 4 (some .int) 0 0 [.ref (vv_q Y 0), .int a1] σ post := by
  refine vv_ofI (by decide) (Nat.le_of_ble_eq_true rfl) (fun X C => ?_)
  have C : VC Y X RX9 cX9_breaches 4 (some .int) 0 0 := C
  refine vv_sub [0, 1] (L' := [(0, .ref (vv_q Y 0)), (1, .int a1)]) rfl ?_
  refine vv_iconst C dX9_breaches_0 ki_0 ?_
  refine vv_istore_n (L' := [(2, .int (0 : Int32)), (0, .ref (vv_q Y 0)), (1, .int a1)]) C dX9_breaches_1 rfl (by decide) rfl ?_
  refine vv_iconst C dX9_breaches_2 ki_0 ?_
  refine vv_istore_n (L' := [(3, .int (0 : Int32)), (2, .int (0 : Int32)), (0, .ref (vv_q Y 0)), (1, .int a1)]) C dX9_breaches_3 rfl (by decide) rfl ?_
  obtain ⟨n3, h⟩ := h
  have hl1 : ∀ (n3 : Nat) (v1 : Int32) (v2 : Int32), lX9_breaches_1 σ post a1 n3 v1 v2 → VJ Y X (va_Qi post (vv_B Y) X.2) 4 4 [(0, .ref (vv_q Y 0)), (1, .int a1), (2, .int v1), (3, .int v2)] [] σ := by
    clear h
    intro n3
    induction n3 with
    | zero => intro v1 v2 h; exact False.elim h
    | succ n3 ih1 =>
      intro v1 v2 h
      refine vv_iload_n C 3 dX9_breaches_4 rfl rfl ?_
      refine vv_aload_n C 0 dX9_breaches_5 rfl rfl ?_
      refine vv_getr (r := 2) C kc_X9 (s_X9 hY) 2 (by decide) rfl fk_X9_13 dX9_breaches_6 ?_
      refine vv_iconst C dX9_breaches_9 ki_0 ?_
      refine vv_iald C (a_X9_cells hY) kv_0_2 kn_0 dX9_breaches_10 ?_
      refine vv_icmp_ge (pc := 11) C 34 dX9_breaches_11 (by decide) (fun hc4 => ?_) (fun hc4 => ?_)
      · replace h := h.1 hc4
        refine vv_iload_n C 2 dX9_breaches_34 rfl rfl ?_
        exact vv_iret C dX9_breaches_35 h
      · replace h := h.2 hc4
        refine vv_iload_n C 2 dX9_breaches_14 rfl rfl ?_
        refine vv_aload_n C 0 dX9_breaches_15 rfl rfl ?_
        refine vv_getr (r := 30) C kc_X9 (s_X9 hY) 33 (by decide) rfl fk_X9_97 dX9_breaches_16 ?_
        refine vv_bipush C dX9_breaches_19 kb_8 ?_
        refine vv_iload_n C 1 dX9_breaches_21 rfl rfl ?_
        refine vv_imul C dX9_breaches_22 ?_
        refine vv_iload_n C 3 dX9_breaches_23 rfl rfl ?_
        refine vv_iadd C dX9_breaches_24 ?_
        obtain ⟨hi5, h⟩ := h
        refine vv_iald C (a_X9_breached hY) hi5 rfl dX9_breaches_25 ?_
        refine vv_iadd C dX9_breaches_26 ?_
        refine vv_nm (fun v6 ev6 => ?_)
        replace h := h v6 ev6
        refine vv_istore_n (L' := [(2, .int v6), (0, .ref (vv_q Y 0)), (1, .int a1), (3, .int v2)]) C dX9_breaches_27 rfl (by decide) rfl ?_
        obtain ⟨v7, ev7⟩ : ∃ z : Int32, z = v2 + (1 : Int32) := ⟨_, rfl⟩
        replace h := h v7 ev7
        refine vv_iinc (v := v7) (L' := [(3, .int v7), (2, .int v6), (0, .ref (vv_q Y 0)), (1, .int a1)]) C 3 dX9_breaches_28 rfl ((kinc ki_1).trans ev7.symm) (by decide) rfl ?_
        refine vv_goto (pc := 31) (tgt := 4) C dX9_breaches_31 (by decide) ?_
        refine vv_sub [2, 3, 1, 0] (L' := [(0, .ref (vv_q Y 0)), (1, .int a1), (2, .int v6), (3, .int v7)]) rfl ?_
        exact ih1 _ _ h
  refine vv_sub [2, 3, 1, 0] (L' := [(0, .ref (vv_q Y 0)), (1, .int a1), (2, .int (0 : Int32)), (3, .int (0 : Int32))]) rfl ?_
  exact hl1 n3 _ _ h
set_option maxHeartbeats 2000000 in
set_option maxRecDepth 100000 in
theorem mX9_blame {Y : vv_Y} (hY : Y.2.2.2.2 = wM)  {σ : vv_S} {post : Int32 → vv_S → Prop} (h : wX9_blame σ post) : vv_MI Y yX9_blame cX9_blame 2 (some .int) 5 122 [.ref (vv_q Y 0)] σ post := by
  refine vv_ofI (by decide) (Nat.le_of_ble_eq_true rfl) (fun X C => ?_)
  have C : VC Y X RX9 cX9_blame 2 (some .int) 5 122 := C
  refine vv_sub [0] (L' := [(0, .ref (vv_q Y 0))]) rfl ?_
  refine vv_aload_n C 0 dX9_blame_0 rfl rfl ?_
  refine vv_iconst C dX9_blame_1 ki_0 ?_
  refine vv_callI (rest := []) C yk_X9_breaches vk_X9_breaches lk_X9_295 kc_X9.1 (s_X9 hY) dX9_blame_2 (mX9_breaches hY h) rfl rfl ⟨Nat.le_of_ble_eq_true rfl, Nat.le_of_ble_eq_true rfl⟩ (Nat.le_of_ble_eq_true rfl) (fun r2 σ1 h => ?_)
  refine vv_if_ne (pc := 5) C 11 dX9_blame_5 (by decide) (fun hc3 => ?_) (fun hc3 => ?_)
  · replace h := h.1 hc3
    refine vv_iconst C dX9_blame_11 ki_0 ?_
    refine vv_istore_n (L' := [(1, .int (0 : Int32)), (0, .ref (vv_q Y 0))]) C dX9_blame_12 rfl (by decide) rfl ?_
    obtain ⟨n6, h⟩ := h
    have hl1 : ∀ (n6 : Nat) (v4 : Int32) (σ5 : vv_S), lX9_blame_1 post n6 v4 σ5 → VJ Y X (va_Qi post (vv_B Y) X.2) 2 13 [(0, .ref (vv_q Y 0)), (1, .int v4)] [] σ5 := by
      clear h
      intro n6
      induction n6 with
      | zero => intro v4 σ5 h; exact False.elim h
      | succ n6 ih1 =>
        intro v4 σ5 h
        refine vv_iload_n C 1 dX9_blame_13 rfl rfl ?_
        refine vv_aload_n C 0 dX9_blame_14 rfl rfl ?_
        refine vv_getr (r := 20) C kc_X9 (s_X9 hY) 20 (by decide) rfl fk_X9_67 dX9_blame_15 ?_
        refine vv_iconst C dX9_blame_18 ki_0 ?_
        refine vv_iald C (a_X9_acts hY) kv_0_3 kn_0 dX9_blame_19 ?_
        refine vv_icmp_ge (pc := 20) C 45 dX9_blame_20 (by decide) (fun hc7 => ?_) (fun hc7 => ?_)
        · replace h := h.1 hc7
          refine vv_bipush C dX9_blame_45 kb_m4 ?_
          exact vv_iret C dX9_blame_47 h
        · replace h := h.2 hc7
          refine vv_aload_n C 0 dX9_blame_23 rfl rfl ?_
          refine vv_iconst C dX9_blame_24 ki_1 ?_
          refine vv_iload_n C 1 dX9_blame_25 rfl rfl ?_
          refine vv_callV (rest := []) C yk_X9_beginBut vk_X9_beginBut lk_X9_234 kc_X9.1 (s_X9 hY) dX9_blame_26 (mX9_beginBut hY h) rfl rfl ⟨Nat.le_of_ble_eq_true rfl, Nat.le_of_ble_eq_true rfl⟩ (Nat.le_of_ble_eq_true rfl) (fun σ8 h => ?_)
          refine vv_aload_n C 0 dX9_blame_29 rfl rfl ?_
          refine vv_iconst C dX9_blame_30 ki_1 ?_
          refine vv_callI (rest := []) C yk_X9_breaches vk_X9_breaches lk_X9_295 kc_X9.1 (s_X9 hY) dX9_blame_31 (mX9_breaches hY h) rfl rfl ⟨Nat.le_of_ble_eq_true rfl, Nat.le_of_ble_eq_true rfl⟩ (Nat.le_of_ble_eq_true rfl) (fun r10 σ9 h => ?_)
          refine vv_if_ne (pc := 34) C 39 dX9_blame_34 (by decide) (fun hc11 => ?_) (fun hc11 => ?_)
          · replace h := h.1 hc11
            obtain ⟨v12, ev12⟩ : ∃ z : Int32, z = v4 + (1 : Int32) := ⟨_, rfl⟩
            replace h := h v12 ev12
            refine vv_iinc (v := v12) (L' := [(1, .int v12), (0, .ref (vv_q Y 0))]) C 1 dX9_blame_39 rfl ((kinc ki_1).trans ev12.symm) (by decide) rfl ?_
            refine vv_goto (pc := 42) (tgt := 13) C dX9_blame_42 (by decide) ?_
            refine vv_sub [1, 0] (L' := [(0, .ref (vv_q Y 0)), (1, .int v12)]) rfl ?_
            exact ih1 _ _ h
          · replace h := h.2 hc11
            refine vv_iload_n C 1 dX9_blame_37 rfl rfl ?_
            exact vv_iret C dX9_blame_38 h
    refine vv_sub [1, 0] (L' := [(0, .ref (vv_q Y 0)), (1, .int (0 : Int32))]) rfl ?_
    exact hl1 n6 _ _ h
  · replace h := h.2 hc3
    refine vv_bipush C dX9_blame_8 kb_m4 ?_
    exact vv_iret C dX9_blame_10 h
set_option maxHeartbeats 2000000 in
set_option maxRecDepth 100000 in
theorem mX9_seen {Y : vv_Y} (hY : Y.2.2.2.2 = wM) {a1 : Int32} {a2 : Int32} {σ : vv_S} {post : Int32 → vv_S → Prop} (h : wX9_seen a1 a2 σ post) : vv_MI Y yX9_seen cX9_seen 3 (some .int) 1 25 [.ref (vv_q Y 0), .int a1, .int a2] σ post := by
  refine vv_ofI (by decide) (Nat.le_of_ble_eq_true rfl) (fun X C => ?_)
  have C : VC Y X RX9 cX9_seen 3 (some .int) 1 25 := C
  refine vv_sub [0, 1, 2] (L' := [(0, .ref (vv_q Y 0)), (1, .int a1), (2, .int a2)]) rfl ?_
  refine vv_iload_n C 1 dX9_seen_0 rfl rfl ?_
  refine vv_i2l C dX9_seen_1 ?_
  refine vv_lconst (v := 0) C dX9_seen_2 (by decide) ?_
  refine vv_ldc2 C lc_X9_250 dX9_seen_3 ?_
  refine vv_callS (rest := []) C yk_X9_in sk_X9_in lk_X9_138 dX9_seen_6 (mX9_in hY h) rfl rfl ⟨Nat.le_of_ble_eq_true rfl, Nat.le_of_ble_eq_true rfl⟩ (Nat.le_of_ble_eq_true rfl) (fun r2 σ1 h => ?_)
  refine vv_join (fun k => ∀ (σ3 : vv_S), k σ3 → VJ Y X (va_Qi post (vv_B Y) X.2) 3 24 [] [] σ3) h (fun σ3 h => ?_) (fun k24_3 hJk24_3 h => ?_)
  · refine vv_iconst C dX9_seen_24 ki_m1 ?_
    exact vv_iret C dX9_seen_25 h
  · refine vv_if_eq (pc := 9) C 24 dX9_seen_9 (by decide) (fun hc5 => ?_) (fun hc5 => ?_)
    · replace h := h.1 hc5
      refine vv_sub [] (L' := []) rfl ?_
      exact hJk24_3 _ h
    · replace h := h.2 hc5
      refine vv_iload_n C 2 dX9_seen_12 rfl rfl ?_
      refine vv_i2l C dX9_seen_13 ?_
      refine vv_lconst (v := 1) C dX9_seen_14 (by decide) ?_
      refine vv_ldc2 C lc_X9_298 dX9_seen_15 ?_
      refine vv_callS (rest := []) C yk_X9_in sk_X9_in lk_X9_138 dX9_seen_18 (mX9_in hY h) rfl rfl ⟨Nat.le_of_ble_eq_true rfl, Nat.le_of_ble_eq_true rfl⟩ (Nat.le_of_ble_eq_true rfl) (fun r7 σ6 h => ?_)
      refine vv_if_ne (pc := 21) C 26 dX9_seen_21 (by decide) (fun hc8 => ?_) (fun hc8 => ?_)
      · replace h := h.1 hc8
        refine vv_aload_n C 0 dX9_seen_26 rfl rfl ?_
        refine vv_geti C kc_X9 (s_X9 hY) 26 (by decide) rfl fk_X9_193 dX9_seen_27 ?_
        refine vv_bipush C dX9_seen_30 kb_8 ?_
        refine vv_icmp_ne (pc := 32) C 38 dX9_seen_32 (by decide) (fun hc9 => ?_) (fun hc9 => ?_)
        · replace h := h.1 hc9
          refine vv_aload_n C 0 dX9_seen_38 rfl rfl ?_
          refine vv_getr (r := 25) C kc_X9 (s_X9 hY) 27 (by decide) rfl fk_X9_82 dX9_seen_39 ?_
          refine vv_aload_n C 0 dX9_seen_42 rfl rfl ?_
          refine vv_geti C kc_X9 (s_X9 hY) 26 (by decide) rfl fk_X9_193 dX9_seen_43 ?_
          refine vv_iload_n C 1 dX9_seen_46 rfl rfl ?_
          obtain ⟨hi10, h⟩ := h
          refine vv_iast C (a_X9_seenLevel hY) hi10 rfl dX9_seen_47 (fun σ11 eσ11 => ?_)
          replace h := h σ11 eσ11
          refine vv_aload_n C 0 dX9_seen_48 rfl rfl ?_
          refine vv_getr (r := 26) C kc_X9 (s_X9 hY) 28 (by decide) rfl fk_X9_85 dX9_seen_49 ?_
          refine vv_aload_n C 0 dX9_seen_52 rfl rfl ?_
          refine vv_geti C kc_X9 (s_X9 hY) 26 (by decide) rfl fk_X9_193 dX9_seen_53 ?_
          refine vv_iload_n C 2 dX9_seen_56 rfl rfl ?_
          obtain ⟨hi12, h⟩ := h
          refine vv_iast C (a_X9_seenBy hY) hi12 rfl dX9_seen_57 (fun σ13 eσ13 => ?_)
          replace h := h σ13 eσ13
          refine vv_aload_n C 0 dX9_seen_58 rfl rfl ?_
          refine vv_dup C dX9_seen_59 rfl ?_
          refine vv_geti C kc_X9 (s_X9 hY) 26 (by decide) rfl fk_X9_193 dX9_seen_60 ?_
          refine vv_iconst C dX9_seen_63 ki_1 ?_
          refine vv_iadd C dX9_seen_64 ?_
          refine vv_puti C kc_X9 (s_X9 hY) 26 (by decide) rfl pf_X9_26 fk_X9_193 dX9_seen_65 (fun σ14 eσ14 => ?_)
          replace h := h σ14 eσ14
          refine vv_aload_n C 0 dX9_seen_68 rfl rfl ?_
          refine vv_geti C kc_X9 (s_X9 hY) 26 (by decide) rfl fk_X9_193 dX9_seen_69 ?_
          exact vv_iret C dX9_seen_72 h
        · replace h := h.2 hc9
          refine vv_bipush C dX9_seen_35 kb_m3 ?_
          exact vv_iret C dX9_seen_37 h
      · replace h := h.2 hc8
        refine vv_sub [] (L' := []) rfl ?_
        exact hJk24_3 _ h
set_option maxHeartbeats 2000000 in
set_option maxRecDepth 100000 in
theorem mX9_forget {Y : vv_Y} (hY : Y.2.2.2.2 = wM)  {σ : vv_S} {post : Int32 → vv_S → Prop} (h : wX9_forget σ post) : vv_MI Y yX9_forget cX9_forget 2 (some .int) 0 0 [.ref (vv_q Y 0)] σ post := by
  refine vv_ofI (by decide) (Nat.le_of_ble_eq_true rfl) (fun X C => ?_)
  have C : VC Y X RX9 cX9_forget 2 (some .int) 0 0 := C
  refine vv_sub [0] (L' := [(0, .ref (vv_q Y 0))]) rfl ?_
  refine vv_aload_n C 0 dX9_forget_0 rfl rfl ?_
  refine vv_geti C kc_X9 (s_X9 hY) 26 (by decide) rfl fk_X9_193 dX9_forget_1 ?_
  refine vv_nm (fun v1 ev1 => ?_)
  replace h := h v1 ev1
  refine vv_istore_n (L' := [(1, .int v1), (0, .ref (vv_q Y 0))]) C dX9_forget_4 rfl (by decide) rfl ?_
  refine vv_aload_n C 1 dX9_forget_5 rfl rfl ?_
  refine vv_iconst C dX9_forget_6 ki_0 ?_
  refine vv_puti C kc_X9 (s_X9 hY) 26 (by decide) rfl pf_X9_26 fk_X9_193 dX9_forget_7 (fun σ2 eσ2 => ?_)
  replace h := h σ2 eσ2
  refine vv_iload_n C 0 dX9_forget_10 rfl rfl ?_
  exact vv_iret C dX9_forget_11 h
set_option maxHeartbeats 2000000 in
set_option maxRecDepth 100000 in
theorem mX9_flows {Y : vv_Y} (hY : Y.2.2.2.2 = wM)  {σ : vv_S} {post : Int32 → vv_S → Prop} (h : wX9_flows σ post) : vv_MI Y yX9_flows cX9_flows 5 (some .int) 2 45 [.ref (vv_q Y 0)] σ post := by
  refine vv_ofI (by decide) (Nat.le_of_ble_eq_true rfl) (fun X C => ?_)
  have C : VC Y X RX9 cX9_flows 5 (some .int) 2 45 := C
  refine vv_sub [0] (L' := [(0, .ref (vv_q Y 0))]) rfl ?_
  refine vv_iconst C dX9_flows_0 ki_0 ?_
  refine vv_istore_n (L' := [(1, .int (0 : Int32)), (0, .ref (vv_q Y 0))]) C dX9_flows_1 rfl (by decide) rfl ?_
  refine vv_iconst C dX9_flows_2 ki_0 ?_
  refine vv_istore_n (L' := [(2, .int (0 : Int32)), (1, .int (0 : Int32)), (0, .ref (vv_q Y 0))]) C dX9_flows_3 rfl (by decide) rfl ?_
  obtain ⟨n4, h⟩ := h
  have hl1 : ∀ (n4 : Nat) (v1 : Int32) (v2 : Int32) (σ3 : vv_S), lX9_flows_1 post n4 v1 v2 σ3 → VJ Y X (va_Qi post (vv_B Y) X.2) 5 4 [(0, .ref (vv_q Y 0)), (1, .int v1), (2, .int v2)] [] σ3 := by
    clear h
    intro n4
    induction n4 with
    | zero => intro v1 v2 σ3 h; exact False.elim h
    | succ n4 ih1 =>
      intro v1 v2 σ3 h
      refine vv_iload_n C 2 dX9_flows_4 rfl rfl ?_
      refine vv_bipush C dX9_flows_5 kb_30 ?_
      refine vv_icmp_gt (pc := 7) C 83 dX9_flows_7 (by decide) (fun hc5 => ?_) (fun hc5 => ?_)
      · replace h := h.1 hc5
        refine vv_iload_n C 1 dX9_flows_83 rfl rfl ?_
        exact vv_iret C dX9_flows_84 h
      · replace h := h.2 hc5
        refine vv_iconst C dX9_flows_10 ki_1 ?_
        refine vv_istore_n (L' := [(3, .int (1 : Int32)), (0, .ref (vv_q Y 0)), (1, .int v1), (2, .int v2)]) C dX9_flows_11 rfl (by decide) rfl ?_
        refine vv_iconst C dX9_flows_12 ki_0 ?_
        refine vv_istore (L' := [(4, .int (0 : Int32)), (3, .int (1 : Int32)), (0, .ref (vv_q Y 0)), (1, .int v1), (2, .int v2)]) C dX9_flows_13 (by decide) rfl ?_
        refine vv_join (fun k => ∀ (v6 : Int32) (σ7 : vv_S), k v6 σ7 → VJ Y X (va_Qi post (vv_B Y) X.2) 5 63 [(0, .ref (vv_q Y 0)), (1, .int v1), (2, .int v2), (3, .int v6)] [] σ7) h (fun v6 σ7 h => ?_) (fun k63_7 hJk63_7 h => ?_)
        · refine vv_iload_n C 1 dX9_flows_63 rfl rfl ?_
          refine vv_iload_n C 3 dX9_flows_64 rfl rfl ?_
          refine vv_join (fun k => ∀ (v9 : Int32), k v9 → VJ Y X (va_Qi post (vv_B Y) X.2) 5 75 [(0, .ref (vv_q Y 0)), (2, .int v2)] [.int v9, .int v1] σ7) h (fun v9 h => ?_) (fun k75_9 hJk75_9 h => ?_)
          · refine vv_ior C dX9_flows_75 ?_
            refine vv_nm (fun v11 ev11 => ?_)
            replace h := h v11 ev11
            refine vv_istore_n (L' := [(1, .int v11), (0, .ref (vv_q Y 0)), (2, .int v2)]) C dX9_flows_76 rfl (by decide) rfl ?_
            obtain ⟨v12, ev12⟩ : ∃ z : Int32, z = v2 + (1 : Int32) := ⟨_, rfl⟩
            replace h := h v12 ev12
            refine vv_iinc (v := v12) (L' := [(2, .int v12), (1, .int v11), (0, .ref (vv_q Y 0))]) C 2 dX9_flows_77 rfl ((kinc ki_1).trans ev12.symm) (by decide) rfl ?_
            refine vv_goto (pc := 80) (tgt := 4) C dX9_flows_80 (by decide) ?_
            refine vv_sub [2, 1, 0] (L' := [(0, .ref (vv_q Y 0)), (1, .int v11), (2, .int v12)]) rfl ?_
            exact ih1 _ _ _ h
          · refine vv_if_eq (pc := 65) C 74 dX9_flows_65 (by decide) (fun hc13 => ?_) (fun hc13 => ?_)
            · replace h := h.1 hc13
              refine vv_iconst C dX9_flows_74 ki_0 ?_
              refine vv_sub [0, 2] (L' := [(0, .ref (vv_q Y 0)), (2, .int v2)]) rfl ?_
              exact hJk75_9 _ h
            · replace h := h.2 hc13
              refine vv_iconst C dX9_flows_68 ki_1 ?_
              refine vv_iload_n C 2 dX9_flows_69 rfl rfl ?_
              refine vv_ishl C dX9_flows_70 ?_
              refine vv_goto (pc := 71) (tgt := 75) C dX9_flows_71 (by decide) ?_
              refine vv_sub [0, 2] (L' := [(0, .ref (vv_q Y 0)), (2, .int v2)]) rfl ?_
              exact hJk75_9 _ h
        · obtain ⟨n17, h⟩ := h
          have hl2 : ∀ (n17 : Nat) (v14 : Int32) (v15 : Int32) (σ16 : vv_S), lX9_flows_2 k63_7 v2 n17 v14 v15 σ16 → VJ Y X (va_Qi post (vv_B Y) X.2) 5 15 [(0, .ref (vv_q Y 0)), (1, .int v1), (2, .int v2), (3, .int v14), (4, .int v15)] [] σ16 := by
            clear h
            intro n17
            induction n17 with
            | zero => intro v14 v15 σ16 h; exact False.elim h
            | succ n17 ih2 =>
              intro v14 v15 σ16 h
              refine vv_iload C 4 dX9_flows_15 rfl ?_
              refine vv_aload_n C 0 dX9_flows_17 rfl rfl ?_
              refine vv_geti C kc_X9 (s_X9 hY) 26 (by decide) rfl fk_X9_193 dX9_flows_18 ?_
              refine vv_icmp_ge (pc := 21) C 63 dX9_flows_21 (by decide) (fun hc18 => ?_) (fun hc18 => ?_)
              · replace h := h.1 hc18
                refine vv_sub [0, 1, 2, 3] (L' := [(0, .ref (vv_q Y 0)), (1, .int v1), (2, .int v2), (3, .int v14)]) rfl ?_
                exact hJk63_7 _ _ h
              · replace h := h.2 hc18
                refine vv_iload_n C 3 dX9_flows_24 rfl rfl ?_
                refine vv_join (fun k => ∀ (v19 : Int32) (σ20 : vv_S), k v19 σ20 → VJ Y X (va_Qi post (vv_B Y) X.2) 5 56 [(0, .ref (vv_q Y 0)), (1, .int v1), (2, .int v2), (4, .int v15)] [.int v19] σ20) h (fun v19 σ20 h => ?_) (fun k56_20 hJk56_20 h => ?_)
                · refine vv_istore_n (L' := [(3, .int v19), (0, .ref (vv_q Y 0)), (1, .int v1), (2, .int v2), (4, .int v15)]) C dX9_flows_56 rfl (by decide) rfl ?_
                  obtain ⟨v22, ev22⟩ : ∃ z : Int32, z = v15 + (1 : Int32) := ⟨_, rfl⟩
                  replace h := h v22 ev22
                  refine vv_iinc (v := v22) (L' := [(4, .int v22), (3, .int v19), (0, .ref (vv_q Y 0)), (1, .int v1), (2, .int v2)]) C 4 dX9_flows_57 rfl ((kinc ki_1).trans ev22.symm) (by decide) rfl ?_
                  refine vv_goto (pc := 60) (tgt := 15) C dX9_flows_60 (by decide) ?_
                  refine vv_sub [2, 3, 4, 1, 0] (L' := [(0, .ref (vv_q Y 0)), (1, .int v1), (2, .int v2), (3, .int v19), (4, .int v22)]) rfl ?_
                  exact ih2 _ _ _ h
                · refine vv_join (fun k => ∀ (σ23 : vv_S), k σ23 → VJ Y X (va_Qi post (vv_B Y) X.2) 5 55 [(0, .ref (vv_q Y 0)), (1, .int v1), (2, .int v2), (4, .int v15)] [] σ23) h (fun σ23 h => ?_) (fun k55_23 hJk55_23 h => ?_)
                  · refine vv_iconst C dX9_flows_55 ki_0 ?_
                    refine vv_sub [0, 1, 2, 3] (L' := [(0, .ref (vv_q Y 0)), (1, .int v1), (2, .int v2), (4, .int v15)]) rfl ?_
                    exact hJk56_20 _ _ h
                  · refine vv_if_eq (pc := 25) C 55 dX9_flows_25 (by decide) (fun hc25 => ?_) (fun hc25 => ?_)
                    · replace h := h.1 hc25
                      refine vv_sub [0, 1, 2, 4] (L' := [(0, .ref (vv_q Y 0)), (1, .int v1), (2, .int v2), (4, .int v15)]) rfl ?_
                      exact hJk55_23 _ h
                    · replace h := h.2 hc25
                      refine vv_aload_n C 0 dX9_flows_28 rfl rfl ?_
                      refine vv_iload_n C 2 dX9_flows_29 rfl rfl ?_
                      refine vv_aload_n C 0 dX9_flows_30 rfl rfl ?_
                      refine vv_getr (r := 26) C kc_X9 (s_X9 hY) 28 (by decide) rfl fk_X9_85 dX9_flows_31 ?_
                      refine vv_iload C 4 dX9_flows_34 rfl ?_
                      obtain ⟨hi26, h⟩ := h
                      refine vv_iald C (a_X9_seenBy hY) hi26 rfl dX9_flows_36 ?_
                      refine vv_imul C dX9_flows_37 ?_
                      refine vv_callI (rest := []) C yk_X9_levelOf vk_X9_levelOf lk_X9_208 kc_X9.1 (s_X9 hY) dX9_flows_38 (mX9_levelOf hY h) rfl rfl ⟨Nat.le_of_ble_eq_true rfl, Nat.le_of_ble_eq_true rfl⟩ (Nat.le_of_ble_eq_true rfl) (fun r28 σ27 h => ?_)
                      refine vv_aload_n C 0 dX9_flows_41 rfl rfl ?_
                      refine vv_getr (r := 25) C kc_X9 (s_X9 hY) 27 (by decide) rfl fk_X9_82 dX9_flows_42 ?_
                      refine vv_iload C 4 dX9_flows_45 rfl ?_
                      obtain ⟨hi29, h⟩ := h
                      refine vv_iald C (a_X9_seenLevel hY) hi29 rfl dX9_flows_47 ?_
                      refine vv_icmp_ne (pc := 48) C 55 dX9_flows_48 (by decide) (fun hc30 => ?_) (fun hc30 => ?_)
                      · replace h := h.1 hc30
                        refine vv_sub [0, 1, 2, 4] (L' := [(0, .ref (vv_q Y 0)), (1, .int v1), (2, .int v2), (4, .int v15)]) rfl ?_
                        exact hJk55_23 _ h
                      · replace h := h.2 hc30
                        refine vv_iconst C dX9_flows_51 ki_1 ?_
                        refine vv_goto (pc := 52) (tgt := 56) C dX9_flows_52 (by decide) ?_
                        refine vv_sub [0, 1, 2, 4] (L' := [(0, .ref (vv_q Y 0)), (1, .int v1), (2, .int v2), (4, .int v15)]) rfl ?_
                        exact hJk56_20 _ _ h
          refine vv_sub [2, 3, 4, 1, 0] (L' := [(0, .ref (vv_q Y 0)), (1, .int v1), (2, .int v2), (3, .int (1 : Int32)), (4, .int (0 : Int32))]) rfl ?_
          exact hl2 n17 _ _ _ h
  refine vv_sub [2, 1, 0] (L' := [(0, .ref (vv_q Y 0)), (1, .int (0 : Int32)), (2, .int (0 : Int32))]) rfl ?_
  exact hl1 n4 _ _ _ h
set_option maxHeartbeats 2000000 in
set_option maxRecDepth 100000 in
theorem mX9_holds {Y : vv_Y} (hY : Y.2.2.2.2 = wM) {a1 : Int32} {a2 : Int32} {a3 : Int32} {σ : vv_S} {post : Int32 → vv_S → Prop} (h : wX9_holds a1 a2 a3 σ post) : vv_MI Y yX9_holds cX9_holds 6 (some .boolean) 3 75 [.ref (vv_q Y 0), .int a1, .int a2, .int a3] σ post := by
  refine vv_ofI (by decide) (Nat.le_of_ble_eq_true rfl) (fun X C => ?_)
  have C : VC Y X RX9 cX9_holds 6 (some .boolean) 3 75 := C
  refine vv_sub [0, 1, 2, 3] (L' := [(0, .ref (vv_q Y 0)), (1, .int a1), (2, .int a2), (3, .int a3)]) rfl ?_
  refine vv_aload_n C 0 dX9_holds_0 rfl rfl ?_
  refine vv_callV (rest := []) C yk_X9_tryIt vk_X9_tryIt lk_X9_254 kc_X9.1 (s_X9 hY) dX9_holds_1 (mX9_tryIt hY h) rfl rfl ⟨Nat.le_of_ble_eq_true rfl, Nat.le_of_ble_eq_true rfl⟩ (Nat.le_of_ble_eq_true rfl) (fun σ1 h => ?_)
  refine vv_iconst C dX9_holds_4 ki_1 ?_
  refine vv_istore (L' := [(4, .int (1 : Int32)), (0, .ref (vv_q Y 0)), (1, .int a1), (2, .int a2), (3, .int a3)]) C dX9_holds_5 (by decide) rfl ?_
  refine vv_iconst C dX9_holds_7 ki_0 ?_
  refine vv_istore (L' := [(5, .int (0 : Int32)), (4, .int (1 : Int32)), (0, .ref (vv_q Y 0)), (1, .int a1), (2, .int a2), (3, .int a3)]) C dX9_holds_8 (by decide) rfl ?_
  obtain ⟨n5, h⟩ := h
  have hl1 : ∀ (n5 : Nat) (v2 : Int32) (v3 : Int32) (σ4 : vv_S), lX9_holds_1 a1 post a3 a2 n5 v2 v3 σ4 → VJ Y X (va_Qi post (vv_B Y) X.2) 6 10 [(0, .ref (vv_q Y 0)), (1, .int a1), (2, .int a2), (3, .int a3), (4, .int v2), (5, .int v3)] [] σ4 := by
    clear h
    intro n5
    induction n5 with
    | zero => intro v2 v3 σ4 h; exact False.elim h
    | succ n5 ih1 =>
      intro v2 v3 σ4 h
      refine vv_iload C 5 dX9_holds_10 rfl ?_
      refine vv_bipush C dX9_holds_12 kb_10 ?_
      refine vv_iload_n C 1 dX9_holds_14 rfl rfl ?_
      refine vv_imul C dX9_holds_15 ?_
      refine vv_icmp_ge (pc := 16) C 67 dX9_holds_16 (by decide) (fun hc6 => ?_) (fun hc6 => ?_)
      · replace h := h.1 hc6
        refine vv_iload C 4 dX9_holds_67 rfl ?_
        exact vv_zret C h.1 dX9_holds_69 h.2
      · replace h := h.2 hc6
        refine vv_aload_n C 0 dX9_holds_19 rfl rfl ?_
        refine vv_iconst C dX9_holds_20 ki_1 ?_
        refine vv_iload_n C 3 dX9_holds_21 rfl rfl ?_
        refine vv_iload C 5 dX9_holds_22 rfl ?_
        refine vv_bipush C dX9_holds_24 kb_10 ?_
        refine vv_idiv C dX9_holds_26 (by decide) ?_
        refine vv_ishr C dX9_holds_27 ?_
        refine vv_iconst C dX9_holds_28 ki_1 ?_
        refine vv_iand C dX9_holds_29 ?_
        refine vv_iconst C dX9_holds_30 ki_1 ?_
        refine vv_join (fun k => ∀ (v7 : Int32), k v7 → VJ Y X (va_Qi post (vv_B Y) X.2) 6 39 [(0, .ref (vv_q Y 0)), (1, .int a1), (2, .int a2), (3, .int a3), (4, .int v2), (5, .int v3)] [.int v7, .int (1 : Int32), .ref (vv_q Y 0)] σ4) h (fun v7 h => ?_) (fun k39_7 hJk39_7 h => ?_)
        · refine vv_callV (rest := []) C yk_X9_go vk_X9_go lk_X9_224 kc_X9.1 (s_X9 hY) dX9_holds_39 (mX9_go hY h) rfl rfl ⟨Nat.le_of_ble_eq_true rfl, Nat.le_of_ble_eq_true rfl⟩ (Nat.le_of_ble_eq_true rfl) (fun σ9 h => ?_)
          refine vv_iload C 4 dX9_holds_42 rfl ?_
          refine vv_join (fun k => ∀ (v10 : Int32), k v10 → VJ Y X (va_Qi post (vv_B Y) X.2) 6 59 [(0, .ref (vv_q Y 0)), (1, .int a1), (2, .int a2), (3, .int a3), (5, .int v3)] [.int v10] σ9) h (fun v10 h => ?_) (fun k59_10 hJk59_10 h => ?_)
          · refine vv_istore (L' := [(4, .int v10), (0, .ref (vv_q Y 0)), (1, .int a1), (2, .int a2), (3, .int a3), (5, .int v3)]) C dX9_holds_59 (by decide) rfl ?_
            obtain ⟨v12, ev12⟩ : ∃ z : Int32, z = v3 + (1 : Int32) := ⟨_, rfl⟩
            replace h := h v12 ev12
            refine vv_iinc (v := v12) (L' := [(5, .int v12), (4, .int v10), (0, .ref (vv_q Y 0)), (1, .int a1), (2, .int a2), (3, .int a3)]) C 5 dX9_holds_61 rfl ((kinc ki_1).trans ev12.symm) (by decide) rfl ?_
            refine vv_goto (pc := 64) (tgt := 10) C dX9_holds_64 (by decide) ?_
            refine vv_sub [2, 3, 4, 5, 1, 0] (L' := [(0, .ref (vv_q Y 0)), (1, .int a1), (2, .int a2), (3, .int a3), (4, .int v10), (5, .int v12)]) rfl ?_
            exact ih1 _ _ _ h
          · refine vv_join (fun k =>  k → VJ Y X (va_Qi post (vv_B Y) X.2) 6 58 [(0, .ref (vv_q Y 0)), (1, .int a1), (2, .int a2), (3, .int a3), (5, .int v3)] [] σ9) h (fun h => ?_) (fun k58_12 hJk58_12 h => ?_)
            · refine vv_iconst C dX9_holds_58 ki_0 ?_
              refine vv_sub [0, 1, 2, 3, 4] (L' := [(0, .ref (vv_q Y 0)), (1, .int a1), (2, .int a2), (3, .int a3), (5, .int v3)]) rfl ?_
              exact hJk59_10 _ h
            · refine vv_if_eq (pc := 44) C 58 dX9_holds_44 (by decide) (fun hc14 => ?_) (fun hc14 => ?_)
              · replace h := h.1 hc14
                refine vv_sub [0, 1, 2, 3, 5] (L' := [(0, .ref (vv_q Y 0)), (1, .int a1), (2, .int a2), (3, .int a3), (5, .int v3)]) rfl ?_
                exact hJk58_12 h
              · replace h := h.2 hc14
                refine vv_aload_n C 0 dX9_holds_47 rfl rfl ?_
                refine vv_geti C kc_X9 (s_X9 hY) 40 (by decide) rfl fk_X9_202 dX9_holds_48 ?_
                refine vv_if_ge (pc := 51) C 58 dX9_holds_51 (by decide) (fun hc15 => ?_) (fun hc15 => ?_)
                · replace h := h.1 hc15
                  refine vv_sub [0, 1, 2, 3, 5] (L' := [(0, .ref (vv_q Y 0)), (1, .int a1), (2, .int a2), (3, .int a3), (5, .int v3)]) rfl ?_
                  exact hJk58_12 h
                · replace h := h.2 hc15
                  refine vv_iconst C dX9_holds_54 ki_1 ?_
                  refine vv_goto (pc := 55) (tgt := 59) C dX9_holds_55 (by decide) ?_
                  refine vv_sub [0, 1, 2, 3, 5] (L' := [(0, .ref (vv_q Y 0)), (1, .int a1), (2, .int a2), (3, .int a3), (5, .int v3)]) rfl ?_
                  exact hJk59_10 _ h
        · refine vv_icmp_ne (pc := 31) C 38 dX9_holds_31 (by decide) (fun hc16 => ?_) (fun hc16 => ?_)
          · replace h := h.1 hc16
            refine vv_iconst C dX9_holds_38 ki_0 ?_
            refine vv_sub [0, 1, 2, 3, 4, 5] (L' := [(0, .ref (vv_q Y 0)), (1, .int a1), (2, .int a2), (3, .int a3), (4, .int v2), (5, .int v3)]) rfl ?_
            exact hJk39_7 _ h
          · replace h := h.2 hc16
            refine vv_iload_n C 2 dX9_holds_34 rfl rfl ?_
            refine vv_goto (pc := 35) (tgt := 39) C dX9_holds_35 (by decide) ?_
            refine vv_sub [0, 1, 2, 3, 4, 5] (L' := [(0, .ref (vv_q Y 0)), (1, .int a1), (2, .int a2), (3, .int a3), (4, .int v2), (5, .int v3)]) rfl ?_
            exact hJk39_7 _ h
  refine vv_sub [2, 3, 4, 5, 1, 0] (L' := [(0, .ref (vv_q Y 0)), (1, .int a1), (2, .int a2), (3, .int a3), (4, .int (1 : Int32)), (5, .int (0 : Int32))]) rfl ?_
  exact hl1 n5 _ _ _ h
set_option maxHeartbeats 2000000 in
set_option maxRecDepth 100000 in
theorem mX9_odds {Y : vv_Y} (hY : Y.2.2.2.2 = wM) {a1 : Int32} {a2 : Int32} {a3 : Int32} {a4 : Int32} {σ : vv_S} {post : Int32 → vv_S → Prop} (h : wX9_odds a1 a2 a3 a4 σ post) : vv_MI Y yX9_odds cX9_odds 10 (some .int) 4 100 [.ref (vv_q Y 0), .int a1, .int a2, .int a3, .int a4] σ post := by
  refine vv_ofI (by decide) (Nat.le_of_ble_eq_true rfl) (fun X C => ?_)
  have C : VC Y X RX9 cX9_odds 10 (some .int) 4 100 := C
  refine vv_sub [0, 1, 2, 3, 4] (L' := [(0, .ref (vv_q Y 0)), (1, .int a1), (2, .int a2), (3, .int a3), (4, .int a4)]) rfl ?_
  refine vv_iload_n C 1 dX9_odds_0 rfl rfl ?_
  refine vv_i2l C dX9_odds_1 ?_
  refine vv_lconst (v := 0) C dX9_odds_2 (by decide) ?_
  refine vv_ldc2 C lc_X9_269 dX9_odds_3 ?_
  refine vv_callS (rest := []) C yk_X9_in sk_X9_in lk_X9_138 dX9_odds_6 (mX9_in hY h) rfl rfl ⟨Nat.le_of_ble_eq_true rfl, Nat.le_of_ble_eq_true rfl⟩ (Nat.le_of_ble_eq_true rfl) (fun r2 σ1 h => ?_)
  refine vv_join (fun k => ∀ (σ3 : vv_S), k σ3 → VJ Y X (va_Qi post (vv_B Y) X.2) 10 47 [] [] σ3) h (fun σ3 h => ?_) (fun k47_3 hJk47_3 h => ?_)
  · refine vv_iconst C dX9_odds_47 ki_m1 ?_
    exact vv_iret C dX9_odds_48 h
  · refine vv_if_eq (pc := 9) C 47 dX9_odds_9 (by decide) (fun hc5 => ?_) (fun hc5 => ?_)
    · replace h := h.1 hc5
      refine vv_sub [] (L' := []) rfl ?_
      exact hJk47_3 _ h
    · replace h := h.2 hc5
      refine vv_iload_n C 2 dX9_odds_12 rfl rfl ?_
      refine vv_i2l C dX9_odds_13 ?_
      refine vv_lconst (v := 0) C dX9_odds_14 (by decide) ?_
      refine vv_ldc2 C lc_X9_163 dX9_odds_15 ?_
      refine vv_callS (rest := []) C yk_X9_in sk_X9_in lk_X9_138 dX9_odds_18 (mX9_in hY h) rfl rfl ⟨Nat.le_of_ble_eq_true rfl, Nat.le_of_ble_eq_true rfl⟩ (Nat.le_of_ble_eq_true rfl) (fun r7 σ6 h => ?_)
      refine vv_if_eq (pc := 21) C 47 dX9_odds_21 (by decide) (fun hc8 => ?_) (fun hc8 => ?_)
      · replace h := h.1 hc8
        refine vv_sub [] (L' := []) rfl ?_
        exact hJk47_3 _ h
      · replace h := h.2 hc8
        refine vv_iload_n C 3 dX9_odds_24 rfl rfl ?_
        refine vv_i2l C dX9_odds_25 ?_
        refine vv_lconst (v := 0) C dX9_odds_26 (by decide) ?_
        refine vv_ldc2 C lc_X9_300 dX9_odds_27 ?_
        refine vv_callS (rest := []) C yk_X9_in sk_X9_in lk_X9_138 dX9_odds_30 (mX9_in hY h) rfl rfl ⟨Nat.le_of_ble_eq_true rfl, Nat.le_of_ble_eq_true rfl⟩ (Nat.le_of_ble_eq_true rfl) (fun r10 σ9 h => ?_)
        refine vv_if_eq (pc := 33) C 47 dX9_odds_33 (by decide) (fun hc11 => ?_) (fun hc11 => ?_)
        · replace h := h.1 hc11
          refine vv_sub [] (L' := []) rfl ?_
          exact hJk47_3 _ h
        · replace h := h.2 hc11
          refine vv_iload C 4 dX9_odds_36 rfl ?_
          refine vv_i2l C dX9_odds_38 ?_
          refine vv_lconst (v := 0) C dX9_odds_39 (by decide) ?_
          refine vv_lconst (v := 1) C dX9_odds_40 (by decide) ?_
          refine vv_callS (rest := []) C yk_X9_in sk_X9_in lk_X9_138 dX9_odds_41 (mX9_in hY h) rfl rfl ⟨Nat.le_of_ble_eq_true rfl, Nat.le_of_ble_eq_true rfl⟩ (Nat.le_of_ble_eq_true rfl) (fun r13 σ12 h => ?_)
          refine vv_if_ne (pc := 44) C 49 dX9_odds_44 (by decide) (fun hc14 => ?_) (fun hc14 => ?_)
          · replace h := h.1 hc14
            refine vv_iconst C dX9_odds_49 ki_0 ?_
            refine vv_istore (L' := [(5, .int (0 : Int32)), (0, .ref (vv_q Y 0)), (1, .int a1), (2, .int a2), (3, .int a3), (4, .int a4)]) C dX9_odds_50 (by decide) rfl ?_
            refine vv_iconst C dX9_odds_52 ki_1 ?_
            refine vv_istore (L' := [(6, .int (1 : Int32)), (5, .int (0 : Int32)), (0, .ref (vv_q Y 0)), (1, .int a1), (2, .int a2), (3, .int a3), (4, .int a4)]) C dX9_odds_53 (by decide) rfl ?_
            refine vv_iconst C dX9_odds_55 ki_0 ?_
            refine vv_istore (L' := [(7, .int (0 : Int32)), (6, .int (1 : Int32)), (5, .int (0 : Int32)), (0, .ref (vv_q Y 0)), (1, .int a1), (2, .int a2), (3, .int a3), (4, .int a4)]) C dX9_odds_56 (by decide) rfl ?_
            refine vv_join (fun k => ∀ (v15 : Int32), k v15 → VJ Y X (va_Qi post (vv_B Y) X.2) 10 77 [(0, .ref (vv_q Y 0)), (1, .int a1), (2, .int a2), (3, .int a3), (4, .int a4), (5, .int (0 : Int32)), (6, .int v15)] [] σ12) h (fun v15 h => ?_) (fun k77_15 hJk77_15 h => ?_)
            · refine vv_iconst C dX9_odds_77 ki_0 ?_
              refine vv_istore (L' := [(7, .int (0 : Int32)), (0, .ref (vv_q Y 0)), (1, .int a1), (2, .int a2), (3, .int a3), (4, .int a4), (5, .int (0 : Int32)), (6, .int v15)]) C dX9_odds_78 (by decide) rfl ?_
              refine vv_join (fun k => ∀ (v17 : Int32) (σ18 : vv_S), k v17 σ18 → VJ Y X (va_Qi post (vv_B Y) X.2) 10 163 [(4, .int a4), (5, .int v17), (6, .int v15)] [] σ18) h (fun v17 σ18 h => ?_) (fun k163_18 hJk163_18 h => ?_)
              · refine vv_iload C 1 dX9_odds_163 rfl ?_
                refine vv_istore (L' := [(7, .int v17), (4, .int a4), (5, .int v17), (6, .int v15)]) C dX9_odds_165 (by decide) rfl ?_
                refine vv_iload C 3 dX9_odds_167 rfl ?_
                refine vv_istore (L' := [(8, .int v15), (7, .int v17), (4, .int a4), (5, .int v17), (6, .int v15)]) C dX9_odds_169 (by decide) rfl ?_
                refine vv_join (fun k => ∀ (v20 : Int32), k v20 → VJ Y X (va_Qi post (vv_B Y) X.2) 10 194 [(4, .int a4), (5, .int v17), (6, .int v15), (7, .int v20)] [] σ18) h (fun v20 h => ?_) (fun k194_20 hJk194_20 h => ?_)
                · refine vv_iload C 0 dX9_odds_194 rfl ?_
                  refine vv_join (fun k => ∀ (v22 : Int32), k v22 → VJ Y X (va_Qi post (vv_B Y) X.2) 10 212 [] [.int v22] σ18) h (fun v22 h => ?_) (fun k212_22 hJk212_22 h => ?_)
                  · exact vv_iret C dX9_odds_212 h
                  · refine vv_if_ne (pc := 196) C 207 dX9_odds_196 (by decide) (fun hc24 => ?_) (fun hc24 => ?_)
                    · replace h := h.1 hc24
                      refine vv_iload C 2 dX9_odds_207 rfl ?_
                      refine vv_iload C 3 dX9_odds_209 rfl ?_
                      obtain ⟨hne, h⟩ := h
                      refine vv_idiv C dX9_odds_211 hne ?_
                      refine vv_sub [] (L' := []) rfl ?_
                      exact hJk212_22 _ h
                    · replace h := h.2 hc24
                      refine vv_iload C 1 dX9_odds_199 rfl ?_
                      refine vv_iload C 3 dX9_odds_201 rfl ?_
                      obtain ⟨hne, h⟩ := h
                      refine vv_idiv C dX9_odds_203 hne ?_
                      refine vv_goto (pc := 204) (tgt := 212) C dX9_odds_204 (by decide) ?_
                      refine vv_sub [] (L' := []) rfl ?_
                      exact hJk212_22 _ h
                · obtain ⟨n27, h⟩ := h
                  have hl1 : ∀ (n27 : Nat) (v25 : Int32) (v26 : Int32), lX9_odds_1 k194_20 n27 v25 v26 → VJ Y X (va_Qi post (vv_B Y) X.2) 10 171 [(4, .int a4), (5, .int v17), (6, .int v15), (7, .int v25), (8, .int v26)] [] σ18 := by
                    clear h
                    intro n27
                    induction n27 with
                    | zero => intro v25 v26 h; exact False.elim h
                    | succ n27 ih1 =>
                      intro v25 v26 h
                      refine vv_iload C 4 dX9_odds_171 rfl ?_
                      refine vv_if_eq (pc := 173) C 194 dX9_odds_173 (by decide) (fun hc28 => ?_) (fun hc28 => ?_)
                      · replace h := h.1 hc28
                        refine vv_sub [0, 1, 2, 3] (L' := [(4, .int a4), (5, .int v17), (6, .int v15), (7, .int v25)]) rfl ?_
                        exact hJk194_20 _ h
                      · replace h := h.2 hc28
                        refine vv_iload C 3 dX9_odds_176 rfl ?_
                        refine vv_iload C 4 dX9_odds_178 rfl ?_
                        obtain ⟨hne, h⟩ := h
                        refine vv_irem C dX9_odds_180 hne ?_
                        refine vv_nm (fun v29 ev29 => ?_)
                        replace h := h v29 ev29
                        refine vv_istore (L' := [(9, .int v29), (4, .int a4), (5, .int v17), (6, .int v15), (7, .int v25), (8, .int v26)]) C dX9_odds_181 (by decide) rfl ?_
                        refine vv_iload C 5 dX9_odds_183 rfl ?_
                        refine vv_istore (L' := [(7, .int v26), (9, .int v29), (4, .int a4), (5, .int v17), (6, .int v15), (8, .int v26)]) C dX9_odds_185 (by decide) rfl ?_
                        refine vv_iload C 1 dX9_odds_187 rfl ?_
                        refine vv_istore (L' := [(8, .int v29), (7, .int v26), (9, .int v29), (4, .int a4), (5, .int v17), (6, .int v15)]) C dX9_odds_189 (by decide) rfl ?_
                        refine vv_goto (pc := 191) (tgt := 171) C dX9_odds_191 (by decide) ?_
                        refine vv_sub [3, 4, 5, 1, 0] (L' := [(4, .int a4), (5, .int v17), (6, .int v15), (7, .int v26), (8, .int v29)]) rfl ?_
                        exact ih1 _ _ h
                  refine vv_sub [2, 3, 4, 1, 0] (L' := [(4, .int a4), (5, .int v17), (6, .int v15), (7, .int v17), (8, .int v15)]) rfl ?_
                  exact hl1 n27 _ _ h
              · obtain ⟨n33, h⟩ := h
                have hl2 : ∀ (n33 : Nat) (v30 : Int32) (v31 : Int32) (σ32 : vv_S), lX9_odds_2 a1 k163_18 a2 a3 n33 v30 v31 σ32 → VJ Y X (va_Qi post (vv_B Y) X.2) 10 80 [(0, .ref (vv_q Y 0)), (1, .int a1), (2, .int a2), (3, .int a3), (4, .int a4), (5, .int v30), (6, .int v15), (7, .int v31)] [] σ32 := by
                  clear h
                  intro n33
                  induction n33 with
                  | zero => intro v30 v31 σ32 h; exact False.elim h
                  | succ n33 ih2 =>
                    intro v30 v31 σ32 h
                    refine vv_iload C 7 dX9_odds_80 rfl ?_
                    refine vv_iconst C dX9_odds_82 ki_1 ?_
                    refine vv_iload_n C 1 dX9_odds_83 rfl rfl ?_
                    refine vv_ishl C dX9_odds_84 ?_
                    refine vv_icmp_ge (pc := 85) C 163 dX9_odds_85 (by decide) (fun hc34 => ?_) (fun hc34 => ?_)
                    · replace h := h.1 hc34
                      refine vv_sub [4, 5, 6] (L' := [(4, .int a4), (5, .int v30), (6, .int v15)]) rfl ?_
                      exact hJk163_18 _ _ h
                    · replace h := h.2 hc34
                      refine vv_iconst C dX9_odds_88 ki_1 ?_
                      refine vv_istore (L' := [(8, .int (1 : Int32)), (0, .ref (vv_q Y 0)), (1, .int a1), (2, .int a2), (3, .int a3), (4, .int a4), (5, .int v30), (6, .int v15), (7, .int v31)]) C dX9_odds_89 (by decide) rfl ?_
                      refine vv_iconst C dX9_odds_91 ki_0 ?_
                      refine vv_istore (L' := [(9, .int (0 : Int32)), (8, .int (1 : Int32)), (0, .ref (vv_q Y 0)), (1, .int a1), (2, .int a2), (3, .int a3), (4, .int a4), (5, .int v30), (6, .int v15), (7, .int v31)]) C dX9_odds_92 (by decide) rfl ?_
                      refine vv_join (fun k => ∀ (v35 : Int32), k v35 → VJ Y X (va_Qi post (vv_B Y) X.2) 10 130 [(0, .ref (vv_q Y 0)), (1, .int a1), (2, .int a2), (3, .int a3), (4, .int a4), (5, .int v30), (6, .int v15), (7, .int v31), (8, .int v35)] [] σ32) h (fun v35 h => ?_) (fun k130_35 hJk130_35 h => ?_)
                      · refine vv_iload C 5 dX9_odds_130 rfl ?_
                        refine vv_iload C 8 dX9_odds_132 rfl ?_
                        refine vv_join (fun k => ∀ (v37 : Int32) (σ38 : vv_S), k v37 σ38 → VJ Y X (va_Qi post (vv_B Y) X.2) 10 154 [(0, .ref (vv_q Y 0)), (1, .int a1), (2, .int a2), (3, .int a3), (4, .int a4), (6, .int v15), (7, .int v31)] [.int v37, .int v30] σ38) h (fun v37 σ38 h => ?_) (fun k154_38 hJk154_38 h => ?_)
                        · refine vv_iadd C dX9_odds_154 ?_
                          refine vv_nm (fun v40 ev40 => ?_)
                          replace h := h v40 ev40
                          refine vv_istore (L' := [(5, .int v40), (0, .ref (vv_q Y 0)), (1, .int a1), (2, .int a2), (3, .int a3), (4, .int a4), (6, .int v15), (7, .int v31)]) C dX9_odds_155 (by decide) rfl ?_
                          obtain ⟨v41, ev41⟩ : ∃ z : Int32, z = v31 + (1 : Int32) := ⟨_, rfl⟩
                          replace h := h v41 ev41
                          refine vv_iinc (v := v41) (L' := [(7, .int v41), (5, .int v40), (0, .ref (vv_q Y 0)), (1, .int a1), (2, .int a2), (3, .int a3), (4, .int a4), (6, .int v15)]) C 7 dX9_odds_157 rfl ((kinc ki_1).trans ev41.symm) (by decide) rfl ?_
                          refine vv_goto (pc := 160) (tgt := 80) C dX9_odds_160 (by decide) ?_
                          refine vv_sub [2, 3, 4, 5, 6, 1, 7, 0] (L' := [(0, .ref (vv_q Y 0)), (1, .int a1), (2, .int a2), (3, .int a3), (4, .int a4), (5, .int v40), (6, .int v15), (7, .int v41)]) rfl ?_
                          exact ih2 _ _ _ h
                        · refine vv_join (fun k => ∀ (σ42 : vv_S), k σ42 → VJ Y X (va_Qi post (vv_B Y) X.2) 10 153 [(0, .ref (vv_q Y 0)), (1, .int a1), (2, .int a2), (3, .int a3), (4, .int a4), (6, .int v15), (7, .int v31)] [.int v30] σ42) h (fun σ42 h => ?_) (fun k153_42 hJk153_42 h => ?_)
                          · refine vv_iconst C dX9_odds_153 ki_0 ?_
                            refine vv_sub [0, 1, 2, 3, 4, 5, 6] (L' := [(0, .ref (vv_q Y 0)), (1, .int a1), (2, .int a2), (3, .int a3), (4, .int a4), (6, .int v15), (7, .int v31)]) rfl ?_
                            exact hJk154_38 _ _ h
                          · refine vv_if_le (pc := 134) C 153 dX9_odds_134 (by decide) (fun hc44 => ?_) (fun hc44 => ?_)
                            · replace h := h.1 hc44
                              refine vv_sub [0, 1, 2, 3, 4, 6, 7] (L' := [(0, .ref (vv_q Y 0)), (1, .int a1), (2, .int a2), (3, .int a3), (4, .int a4), (6, .int v15), (7, .int v31)]) rfl ?_
                              exact hJk153_42 _ h
                            · replace h := h.2 hc44
                              refine vv_aload_n C 0 dX9_odds_137 rfl rfl ?_
                              refine vv_iload_n C 1 dX9_odds_138 rfl rfl ?_
                              refine vv_iload_n C 2 dX9_odds_139 rfl rfl ?_
                              refine vv_iload C 7 dX9_odds_140 rfl ?_
                              refine vv_callI (rest := [.int v30]) C yk_X9_holds vk_X9_holds lk_X9_302 kc_X9.1 (s_X9 hY) dX9_odds_142 (mX9_holds hY h) rfl rfl ⟨Nat.le_of_ble_eq_true rfl, Nat.le_of_ble_eq_true rfl⟩ (Nat.le_of_ble_eq_true rfl) (fun r46 σ45 h => ?_)
                              refine vv_if_eq (pc := 145) C 153 dX9_odds_145 (by decide) (fun hc47 => ?_) (fun hc47 => ?_)
                              · replace h := h.1 hc47
                                refine vv_sub [0, 1, 2, 3, 4, 6, 7] (L' := [(0, .ref (vv_q Y 0)), (1, .int a1), (2, .int a2), (3, .int a3), (4, .int a4), (6, .int v15), (7, .int v31)]) rfl ?_
                                exact hJk153_42 _ h
                              · replace h := h.2 hc47
                                refine vv_iload C 8 dX9_odds_148 rfl ?_
                                refine vv_goto (pc := 150) (tgt := 154) C dX9_odds_150 (by decide) ?_
                                refine vv_sub [0, 1, 2, 3, 4, 6, 7] (L' := [(0, .ref (vv_q Y 0)), (1, .int a1), (2, .int a2), (3, .int a3), (4, .int a4), (6, .int v15), (7, .int v31)]) rfl ?_
                                exact hJk154_38 _ _ h
                      · obtain ⟨n50, h⟩ := h
                        have hl3 : ∀ (n50 : Nat) (v48 : Int32) (v49 : Int32), lX9_odds_3 a1 k130_35 v31 a3 n50 v48 v49 → VJ Y X (va_Qi post (vv_B Y) X.2) 10 94 [(0, .ref (vv_q Y 0)), (1, .int a1), (2, .int a2), (3, .int a3), (4, .int a4), (5, .int v30), (6, .int v15), (7, .int v31), (8, .int v48), (9, .int v49)] [] σ32 := by
                          clear h
                          intro n50
                          induction n50 with
                          | zero => intro v48 v49 h; exact False.elim h
                          | succ n50 ih3 =>
                            intro v48 v49 h
                            refine vv_iload C 9 dX9_odds_94 rfl ?_
                            refine vv_iload_n C 1 dX9_odds_96 rfl rfl ?_
                            refine vv_icmp_ge (pc := 97) C 130 dX9_odds_97 (by decide) (fun hc51 => ?_) (fun hc51 => ?_)
                            · replace h := h.1 hc51
                              refine vv_sub [0, 1, 2, 3, 4, 5, 6, 7, 8] (L' := [(0, .ref (vv_q Y 0)), (1, .int a1), (2, .int a2), (3, .int a3), (4, .int a4), (5, .int v30), (6, .int v15), (7, .int v31), (8, .int v48)]) rfl ?_
                              exact hJk130_35 _ h
                            · replace h := h.2 hc51
                              refine vv_iload C 8 dX9_odds_100 rfl ?_
                              refine vv_iload C 7 dX9_odds_102 rfl ?_
                              refine vv_iload C 9 dX9_odds_104 rfl ?_
                              refine vv_ishr C dX9_odds_106 ?_
                              refine vv_iconst C dX9_odds_107 ki_1 ?_
                              refine vv_iand C dX9_odds_108 ?_
                              refine vv_iconst C dX9_odds_109 ki_1 ?_
                              refine vv_join (fun k => ∀ (v52 : Int32), k v52 → VJ Y X (va_Qi post (vv_B Y) X.2) 10 121 [(0, .ref (vv_q Y 0)), (1, .int a1), (2, .int a2), (3, .int a3), (4, .int a4), (5, .int v30), (6, .int v15), (7, .int v31), (9, .int v49)] [.int v52, .int v48] σ32) h (fun v52 h => ?_) (fun k121_52 hJk121_52 h => ?_)
                              · refine vv_imul C dX9_odds_121 ?_
                                refine vv_nm (fun v54 ev54 => ?_)
                                replace h := h v54 ev54
                                refine vv_istore (L' := [(8, .int v54), (0, .ref (vv_q Y 0)), (1, .int a1), (2, .int a2), (3, .int a3), (4, .int a4), (5, .int v30), (6, .int v15), (7, .int v31), (9, .int v49)]) C dX9_odds_122 (by decide) rfl ?_
                                obtain ⟨v55, ev55⟩ : ∃ z : Int32, z = v49 + (1 : Int32) := ⟨_, rfl⟩
                                replace h := h v55 ev55
                                refine vv_iinc (v := v55) (L' := [(9, .int v55), (8, .int v54), (0, .ref (vv_q Y 0)), (1, .int a1), (2, .int a2), (3, .int a3), (4, .int a4), (5, .int v30), (6, .int v15), (7, .int v31)]) C 9 dX9_odds_124 rfl ((kinc ki_1).trans ev55.symm) (by decide) rfl ?_
                                refine vv_goto (pc := 127) (tgt := 94) C dX9_odds_127 (by decide) ?_
                                refine vv_sub [2, 3, 4, 5, 6, 7, 8, 9, 1, 0] (L' := [(0, .ref (vv_q Y 0)), (1, .int a1), (2, .int a2), (3, .int a3), (4, .int a4), (5, .int v30), (6, .int v15), (7, .int v31), (8, .int v54), (9, .int v55)]) rfl ?_
                                exact ih3 _ _ h
                              · refine vv_icmp_ne (pc := 110) C 117 dX9_odds_110 (by decide) (fun hc56 => ?_) (fun hc56 => ?_)
                                · replace h := h.1 hc56
                                  refine vv_bipush C dX9_odds_117 kb_10 ?_
                                  refine vv_iload_n C 3 dX9_odds_119 rfl rfl ?_
                                  refine vv_isub C dX9_odds_120 ?_
                                  refine vv_sub [0, 1, 2, 3, 4, 5, 6, 7, 9] (L' := [(0, .ref (vv_q Y 0)), (1, .int a1), (2, .int a2), (3, .int a3), (4, .int a4), (5, .int v30), (6, .int v15), (7, .int v31), (9, .int v49)]) rfl ?_
                                  exact hJk121_52 _ h
                                · replace h := h.2 hc56
                                  refine vv_iload_n C 3 dX9_odds_113 rfl rfl ?_
                                  refine vv_goto (pc := 114) (tgt := 121) C dX9_odds_114 (by decide) ?_
                                  refine vv_sub [0, 1, 2, 3, 4, 5, 6, 7, 9] (L' := [(0, .ref (vv_q Y 0)), (1, .int a1), (2, .int a2), (3, .int a3), (4, .int a4), (5, .int v30), (6, .int v15), (7, .int v31), (9, .int v49)]) rfl ?_
                                  exact hJk121_52 _ h
                        refine vv_sub [2, 3, 4, 5, 6, 7, 8, 9, 1, 0] (L' := [(0, .ref (vv_q Y 0)), (1, .int a1), (2, .int a2), (3, .int a3), (4, .int a4), (5, .int v30), (6, .int v15), (7, .int v31), (8, .int (1 : Int32)), (9, .int (0 : Int32))]) rfl ?_
                        exact hl3 n50 _ _ h
                refine vv_sub [1, 2, 3, 4, 5, 6, 7, 0] (L' := [(0, .ref (vv_q Y 0)), (1, .int a1), (2, .int a2), (3, .int a3), (4, .int a4), (5, .int (0 : Int32)), (6, .int v15), (7, .int (0 : Int32))]) rfl ?_
                exact hl2 n33 _ _ _ h
            · obtain ⟨n59, h⟩ := h
              have hl4 : ∀ (n59 : Nat) (v57 : Int32) (v58 : Int32), lX9_odds_4 a1 k77_15 n59 v57 v58 → VJ Y X (va_Qi post (vv_B Y) X.2) 10 58 [(0, .ref (vv_q Y 0)), (1, .int a1), (2, .int a2), (3, .int a3), (4, .int a4), (5, .int (0 : Int32)), (6, .int v57), (7, .int v58)] [] σ12 := by
                clear h
                intro n59
                induction n59 with
                | zero => intro v57 v58 h; exact False.elim h
                | succ n59 ih4 =>
                  intro v57 v58 h
                  refine vv_iload C 7 dX9_odds_58 rfl ?_
                  refine vv_iload_n C 1 dX9_odds_60 rfl rfl ?_
                  refine vv_icmp_ge (pc := 61) C 77 dX9_odds_61 (by decide) (fun hc60 => ?_) (fun hc60 => ?_)
                  · replace h := h.1 hc60
                    refine vv_sub [0, 1, 2, 3, 4, 5, 6] (L' := [(0, .ref (vv_q Y 0)), (1, .int a1), (2, .int a2), (3, .int a3), (4, .int a4), (5, .int (0 : Int32)), (6, .int v57)]) rfl ?_
                    exact hJk77_15 _ h
                  · replace h := h.2 hc60
                    refine vv_iload C 6 dX9_odds_64 rfl ?_
                    refine vv_bipush C dX9_odds_66 kb_10 ?_
                    refine vv_imul C dX9_odds_68 ?_
                    refine vv_nm (fun v61 ev61 => ?_)
                    replace h := h v61 ev61
                    refine vv_istore (L' := [(6, .int v61), (0, .ref (vv_q Y 0)), (1, .int a1), (2, .int a2), (3, .int a3), (4, .int a4), (5, .int (0 : Int32)), (7, .int v58)]) C dX9_odds_69 (by decide) rfl ?_
                    obtain ⟨v62, ev62⟩ : ∃ z : Int32, z = v58 + (1 : Int32) := ⟨_, rfl⟩
                    replace h := h v62 ev62
                    refine vv_iinc (v := v62) (L' := [(7, .int v62), (6, .int v61), (0, .ref (vv_q Y 0)), (1, .int a1), (2, .int a2), (3, .int a3), (4, .int a4), (5, .int (0 : Int32))]) C 7 dX9_odds_71 rfl ((kinc ki_1).trans ev62.symm) (by decide) rfl ?_
                    refine vv_goto (pc := 74) (tgt := 58) C dX9_odds_74 (by decide) ?_
                    refine vv_sub [2, 3, 4, 5, 6, 7, 1, 0] (L' := [(0, .ref (vv_q Y 0)), (1, .int a1), (2, .int a2), (3, .int a3), (4, .int a4), (5, .int (0 : Int32)), (6, .int v61), (7, .int v62)]) rfl ?_
                    exact ih4 _ _ h
              refine vv_sub [3, 4, 5, 6, 7, 2, 1, 0] (L' := [(0, .ref (vv_q Y 0)), (1, .int a1), (2, .int a2), (3, .int a3), (4, .int a4), (5, .int (0 : Int32)), (6, .int (1 : Int32)), (7, .int (0 : Int32))]) rfl ?_
              exact hl4 n59 _ _ h
          · replace h := h.2 hc14
            refine vv_sub [] (L' := []) rfl ?_
            exact hJk47_3 _ h
set_option maxHeartbeats 2000000 in
set_option maxRecDepth 100000 in
theorem mX9_night {Y : vv_Y} (hY : Y.2.2.2.2 = wM) {a1 : Int32} {a2 : Int32} {σ : vv_S} {post : Int32 → vv_S → Prop} (h : wX9_night a1 a2 σ post) : vv_MI Y yX9_night cX9_night 6 (some .int) 3 75 [.ref (vv_q Y 0), .int a1, .int a2] σ post := by
  refine vv_ofI (by decide) (Nat.le_of_ble_eq_true rfl) (fun X C => ?_)
  have C : VC Y X RX9 cX9_night 6 (some .int) 3 75 := C
  refine vv_sub [0, 1, 2] (L' := [(0, .ref (vv_q Y 0)), (1, .int a1), (2, .int a2)]) rfl ?_
  refine vv_iload_n C 1 dX9_night_0 rfl rfl ?_
  refine vv_i2l C dX9_night_1 ?_
  refine vv_lconst (v := 0) C dX9_night_2 (by decide) ?_
  refine vv_ldc2 C lc_X9_305 dX9_night_3 ?_
  refine vv_callS (rest := []) C yk_X9_in sk_X9_in lk_X9_138 dX9_night_6 (mX9_in hY h) rfl rfl ⟨Nat.le_of_ble_eq_true rfl, Nat.le_of_ble_eq_true rfl⟩ (Nat.le_of_ble_eq_true rfl) (fun r2 σ1 h => ?_)
  refine vv_join (fun k => ∀ (σ3 : vv_S), k σ3 → VJ Y X (va_Qi post (vv_B Y) X.2) 6 22 [] [] σ3) h (fun σ3 h => ?_) (fun k22_3 hJk22_3 h => ?_)
  · refine vv_iconst C dX9_night_22 ki_m1 ?_
    exact vv_iret C dX9_night_23 h
  · refine vv_if_eq (pc := 9) C 22 dX9_night_9 (by decide) (fun hc5 => ?_) (fun hc5 => ?_)
    · replace h := h.1 hc5
      refine vv_sub [] (L' := []) rfl ?_
      exact hJk22_3 _ h
    · replace h := h.2 hc5
      refine vv_iload_n C 2 dX9_night_12 rfl rfl ?_
      refine vv_i2l C dX9_night_13 ?_
      refine vv_lconst (v := 0) C dX9_night_14 (by decide) ?_
      refine vv_lconst (v := 1) C dX9_night_15 (by decide) ?_
      refine vv_callS (rest := []) C yk_X9_in sk_X9_in lk_X9_138 dX9_night_16 (mX9_in hY h) rfl rfl ⟨Nat.le_of_ble_eq_true rfl, Nat.le_of_ble_eq_true rfl⟩ (Nat.le_of_ble_eq_true rfl) (fun r7 σ6 h => ?_)
      refine vv_if_ne (pc := 19) C 24 dX9_night_19 (by decide) (fun hc8 => ?_) (fun hc8 => ?_)
      · replace h := h.1 hc8
        refine vv_aload_n C 0 dX9_night_24 rfl rfl ?_
        refine vv_callV (rest := []) C yk_X9_tryIt vk_X9_tryIt lk_X9_254 kc_X9.1 (s_X9 hY) dX9_night_25 (mX9_tryIt hY h) rfl rfl ⟨Nat.le_of_ble_eq_true rfl, Nat.le_of_ble_eq_true rfl⟩ (Nat.le_of_ble_eq_true rfl) (fun σ9 h => ?_)
        refine vv_iconst C dX9_night_28 ki_1 ?_
        refine vv_istore_n (L' := [(3, .int (1 : Int32)), (0, .ref (vv_q Y 0)), (1, .int a1), (2, .int a2)]) C dX9_night_29 rfl (by decide) rfl ?_
        refine vv_join (fun k => ∀ (σ10 : vv_S), k σ10 → VJ Y X (va_Qi post (vv_B Y) X.2) 6 78 [(0, .ref (vv_q Y 0)), (2, .int a2)] [] σ10) h (fun σ10 h => ?_) (fun k78_10 hJk78_10 h => ?_)
        · refine vv_iload_n C 1 dX9_night_78 rfl rfl ?_
          refine vv_join (fun k => ∀ (v12 : Int32) (σ13 : vv_S), k v12 σ13 → VJ Y X (va_Qi post (vv_B Y) X.2) 6 102 [] [.int v12] σ13) h (fun v12 σ13 h => ?_) (fun k102_13 hJk102_13 h => ?_)
          · exact vv_iret C dX9_night_102 h
          · refine vv_if_ne (pc := 79) C 91 dX9_night_79 (by decide) (fun hc15 => ?_) (fun hc15 => ?_)
            · replace h := h.1 hc15
              refine vv_aload_n C 0 dX9_night_91 rfl rfl ?_
              refine vv_iconst C dX9_night_92 ki_1 ?_
              refine vv_callI (rest := []) C yk_X9_breaches vk_X9_breaches lk_X9_295 kc_X9.1 (s_X9 hY) dX9_night_93 (mX9_breaches hY h) rfl rfl ⟨Nat.le_of_ble_eq_true rfl, Nat.le_of_ble_eq_true rfl⟩ (Nat.le_of_ble_eq_true rfl) (fun r17 σ16 h => ?_)
              refine vv_aload_n C 0 dX9_night_96 rfl rfl ?_
              refine vv_iconst C dX9_night_97 ki_0 ?_
              refine vv_callI (rest := [.int r17]) C yk_X9_breaches vk_X9_breaches lk_X9_295 kc_X9.1 (s_X9 hY) dX9_night_98 (mX9_breaches hY h) rfl rfl ⟨Nat.le_of_ble_eq_true rfl, Nat.le_of_ble_eq_true rfl⟩ (Nat.le_of_ble_eq_true rfl) (fun r19 σ18 h => ?_)
              refine vv_isub C dX9_night_101 ?_
              refine vv_sub [] (L' := []) rfl ?_
              exact hJk102_13 _ _ h
            · replace h := h.2 hc15
              refine vv_aload_n C 0 dX9_night_82 rfl rfl ?_
              refine vv_getr (r := 31) C kc_X9 (s_X9 hY) 34 (by decide) rfl fk_X9_100 dX9_night_83 ?_
              refine vv_iconst C dX9_night_86 ki_1 ?_
              refine vv_iald C (a_X9_water hY) kv_1_2 kn_1 dX9_night_87 ?_
              refine vv_goto (pc := 88) (tgt := 102) C dX9_night_88 (by decide) ?_
              refine vv_sub [] (L' := []) rfl ?_
              exact hJk102_13 _ _ h
        · obtain ⟨n22, h⟩ := h
          have hl1 : ∀ (n22 : Nat) (v20 : Int32) (σ21 : vv_S), lX9_night_1 k78_10 a1 n22 v20 σ21 → VJ Y X (va_Qi post (vv_B Y) X.2) 6 30 [(0, .ref (vv_q Y 0)), (1, .int a1), (2, .int a2), (3, .int v20)] [] σ21 := by
            clear h
            intro n22
            induction n22 with
            | zero => intro v20 σ21 h; exact False.elim h
            | succ n22 ih1 =>
              intro v20 σ21 h
              refine vv_iload_n C 3 dX9_night_30 rfl rfl ?_
              refine vv_bipush C dX9_night_31 kb_60 ?_
              refine vv_icmp_gt (pc := 33) C 78 dX9_night_33 (by decide) (fun hc23 => ?_) (fun hc23 => ?_)
              · replace h := h.1 hc23
                refine vv_sub [0, 2] (L' := [(0, .ref (vv_q Y 0)), (2, .int a2)]) rfl ?_
                exact hJk78_10 _ h
              · replace h := h.2 hc23
                refine vv_ldc2 C lc_X9_307 dX9_night_36 ?_
                refine vv_iload_n C 1 dX9_night_39 rfl rfl ?_
                refine vv_i2l C dX9_night_40 ?_
                refine vv_lmul C dX9_night_41 ?_
                refine vv_ldc2 C lc_X9_309 dX9_night_42 ?_
                refine vv_iload_n C 3 dX9_night_45 rfl rfl ?_
                refine vv_i2l C dX9_night_46 ?_
                refine vv_lmul C dX9_night_47 ?_
                refine vv_ladd C dX9_night_48 ?_
                refine vv_lconst (v := 1) C dX9_night_49 (by decide) ?_
                refine vv_ladd C dX9_night_50 ?_
                refine vv_lstore (L' := [(4, .long ((((7919 : Int64) * (a1).toInt64) + ((6151 : Int64) * (v20).toInt64)) + (1 : Int64))), (0, .ref (vv_q Y 0)), (1, .int a1), (2, .int a2), (3, .int v20)]) C dX9_night_51 (by decide) rfl ?_
                refine vv_aload_n C 1 dX9_night_53 rfl rfl ?_
                refine vv_iconst C dX9_night_54 ki_1 ?_
                refine vv_lload C 0 dX9_night_55 rfl ?_
                refine vv_lload C 0 dX9_night_57 rfl ?_
                refine vv_lmul C dX9_night_59 ?_
                refine vv_ldc2 C lc_X9_311 dX9_night_60 ?_
                refine vv_lrem C dX9_night_63 (by decide) ?_
                refine vv_ldc2 C lc_X9_313 dX9_night_64 ?_
                refine vv_lrem C dX9_night_67 (by decide) ?_
                refine vv_l2i C dX9_night_68 ?_
                refine vv_callV (rest := []) C yk_X9_go vk_X9_go lk_X9_224 kc_X9.1 (s_X9 hY) dX9_night_69 (mX9_go hY h) rfl rfl ⟨Nat.le_of_ble_eq_true rfl, Nat.le_of_ble_eq_true rfl⟩ (Nat.le_of_ble_eq_true rfl) (fun σ24 h => ?_)
                obtain ⟨v25, ev25⟩ : ∃ z : Int32, z = v20 + (1 : Int32) := ⟨_, rfl⟩
                replace h := h v25 ev25
                refine vv_iinc (v := v25) (L' := [(3, .int v25), (4, .long ((((7919 : Int64) * (a1).toInt64) + ((6151 : Int64) * (v20).toInt64)) + (1 : Int64))), (0, .ref (vv_q Y 0)), (1, .int a1), (2, .int a2)]) C 4 dX9_night_72 rfl ((kinc ki_1).trans ev25.symm) (by decide) rfl ?_
                refine vv_goto (pc := 75) (tgt := 30) C dX9_night_75 (by decide) ?_
                refine vv_sub [2, 3, 4, 0] (L' := [(0, .ref (vv_q Y 0)), (1, .int a1), (2, .int a2), (3, .int v25)]) rfl ?_
                exact ih1 _ _ h
          refine vv_sub [1, 2, 3, 0] (L' := [(0, .ref (vv_q Y 0)), (1, .int a1), (2, .int a2), (3, .int (1 : Int32))]) rfl ?_
          exact hl1 n22 _ _ h
      · replace h := h.2 hc8
        refine vv_sub [] (L' := []) rfl ?_
        exact hJk22_3 _ h
set_option maxHeartbeats 2000000 in
set_option maxRecDepth 100000 in
theorem mX9_copy {Y : vv_Y} (hY : Y.2.2.2.2 = wM) {a1 : Int32} {a2 : Int32} {σ : vv_S} {post : vv_S → Prop} (h : wX9_copy a1 a2 σ post) : vv_MV Y yX9_copy cX9_copy 4 none 0 0 [.ref (vv_q Y 0), .int a1, .int a2] σ post := by
  refine vv_ofV (by decide) (Nat.le_of_ble_eq_true rfl) (fun X C => ?_)
  have C : VC Y X RX9 cX9_copy 4 none 0 0 := C
  refine vv_sub [0, 1, 2] (L' := [(0, .ref (vv_q Y 0)), (1, .int a1), (2, .int a2)]) rfl ?_
  refine vv_aload_n C 0 dX9_copy_0 rfl rfl ?_
  refine vv_getr (r := 20) C kc_X9 (s_X9 hY) 20 (by decide) rfl fk_X9_67 dX9_copy_1 ?_
  refine vv_iload_n C 2 dX9_copy_4 rfl rfl ?_
  refine vv_aload_n C 0 dX9_copy_5 rfl rfl ?_
  refine vv_getr (r := 20) C kc_X9 (s_X9 hY) 20 (by decide) rfl fk_X9_67 dX9_copy_6 ?_
  refine vv_iload_n C 1 dX9_copy_9 rfl rfl ?_
  obtain ⟨hi1, h⟩ := h
  refine vv_iald C (a_X9_acts hY) hi1 rfl dX9_copy_10 ?_
  obtain ⟨hi2, h⟩ := h
  refine vv_iast C (a_X9_acts hY) hi2 rfl dX9_copy_11 (fun σ3 eσ3 => ?_)
  replace h := h σ3 eσ3
  refine vv_iconst C dX9_copy_12 ki_0 ?_
  refine vv_istore_n (L' := [(3, .int (0 : Int32)), (0, .ref (vv_q Y 0)), (1, .int a1), (2, .int a2)]) C dX9_copy_13 rfl (by decide) rfl ?_
  obtain ⟨n6, h⟩ := h
  have hl1 : ∀ (n6 : Nat) (v4 : Int32) (σ5 : vv_S), lX9_copy_1 post a1 a2 n6 v4 σ5 → VJ Y X (va_Qv post (vv_B Y) X.2) 4 14 [(0, .ref (vv_q Y 0)), (1, .int a1), (2, .int a2), (3, .int v4)] [] σ5 := by
    clear h
    intro n6
    induction n6 with
    | zero => intro v4 σ5 h; exact False.elim h
    | succ n6 ih1 =>
      intro v4 σ5 h
      refine vv_iload_n C 3 dX9_copy_14 rfl rfl ?_
      refine vv_bipush C dX9_copy_15 kb_30 ?_
      refine vv_icmp_ge (pc := 17) C 114 dX9_copy_17 (by decide) (fun hc7 => ?_) (fun hc7 => ?_)
      · replace h := h.1 hc7
        exact vv_vret C dX9_copy_114 h
      · replace h := h.2 hc7
        refine vv_aload_n C 0 dX9_copy_20 rfl rfl ?_
        refine vv_getr (r := 21) C kc_X9 (s_X9 hY) 21 (by decide) rfl fk_X9_70 dX9_copy_21 ?_
        refine vv_bipush C dX9_copy_24 kb_30 ?_
        refine vv_iload_n C 2 dX9_copy_26 rfl rfl ?_
        refine vv_imul C dX9_copy_27 ?_
        refine vv_iload_n C 3 dX9_copy_28 rfl rfl ?_
        refine vv_iadd C dX9_copy_29 ?_
        refine vv_aload_n C 0 dX9_copy_30 rfl rfl ?_
        refine vv_getr (r := 21) C kc_X9 (s_X9 hY) 21 (by decide) rfl fk_X9_70 dX9_copy_31 ?_
        refine vv_bipush C dX9_copy_34 kb_30 ?_
        refine vv_iload_n C 1 dX9_copy_36 rfl rfl ?_
        refine vv_imul C dX9_copy_37 ?_
        refine vv_iload_n C 3 dX9_copy_38 rfl rfl ?_
        refine vv_iadd C dX9_copy_39 ?_
        obtain ⟨hi8, h⟩ := h
        refine vv_iald C (a_X9_actKind hY) hi8 rfl dX9_copy_40 ?_
        obtain ⟨hi9, h⟩ := h
        refine vv_iast C (a_X9_actKind hY) hi9 rfl dX9_copy_41 (fun σ10 eσ10 => ?_)
        replace h := h σ10 eσ10
        refine vv_aload_n C 0 dX9_copy_42 rfl rfl ?_
        refine vv_getr (r := 22) C kc_X9 (s_X9 hY) 22 (by decide) rfl fk_X9_73 dX9_copy_43 ?_
        refine vv_bipush C dX9_copy_46 kb_30 ?_
        refine vv_iload_n C 2 dX9_copy_48 rfl rfl ?_
        refine vv_imul C dX9_copy_49 ?_
        refine vv_iload_n C 3 dX9_copy_50 rfl rfl ?_
        refine vv_iadd C dX9_copy_51 ?_
        refine vv_aload_n C 0 dX9_copy_52 rfl rfl ?_
        refine vv_getr (r := 22) C kc_X9 (s_X9 hY) 22 (by decide) rfl fk_X9_73 dX9_copy_53 ?_
        refine vv_bipush C dX9_copy_56 kb_30 ?_
        refine vv_iload_n C 1 dX9_copy_58 rfl rfl ?_
        refine vv_imul C dX9_copy_59 ?_
        refine vv_iload_n C 3 dX9_copy_60 rfl rfl ?_
        refine vv_iadd C dX9_copy_61 ?_
        obtain ⟨hi11, h⟩ := h
        refine vv_iald C (a_X9_actCell hY) hi11 rfl dX9_copy_62 ?_
        obtain ⟨hi12, h⟩ := h
        refine vv_iast C (a_X9_actCell hY) hi12 rfl dX9_copy_63 (fun σ13 eσ13 => ?_)
        replace h := h σ13 eσ13
        refine vv_aload_n C 0 dX9_copy_64 rfl rfl ?_
        refine vv_getr (r := 23) C kc_X9 (s_X9 hY) 23 (by decide) rfl fk_X9_76 dX9_copy_65 ?_
        refine vv_bipush C dX9_copy_68 kb_30 ?_
        refine vv_iload_n C 2 dX9_copy_70 rfl rfl ?_
        refine vv_imul C dX9_copy_71 ?_
        refine vv_iload_n C 3 dX9_copy_72 rfl rfl ?_
        refine vv_iadd C dX9_copy_73 ?_
        refine vv_aload_n C 0 dX9_copy_74 rfl rfl ?_
        refine vv_getr (r := 23) C kc_X9 (s_X9 hY) 23 (by decide) rfl fk_X9_76 dX9_copy_75 ?_
        refine vv_bipush C dX9_copy_78 kb_30 ?_
        refine vv_iload_n C 1 dX9_copy_80 rfl rfl ?_
        refine vv_imul C dX9_copy_81 ?_
        refine vv_iload_n C 3 dX9_copy_82 rfl rfl ?_
        refine vv_iadd C dX9_copy_83 ?_
        obtain ⟨hi14, h⟩ := h
        refine vv_iald C (a_X9_actStuff hY) hi14 rfl dX9_copy_84 ?_
        obtain ⟨hi15, h⟩ := h
        refine vv_iast C (a_X9_actStuff hY) hi15 rfl dX9_copy_85 (fun σ16 eσ16 => ?_)
        replace h := h σ16 eσ16
        refine vv_aload_n C 0 dX9_copy_86 rfl rfl ?_
        refine vv_getr (r := 24) C kc_X9 (s_X9 hY) 24 (by decide) rfl fk_X9_79 dX9_copy_87 ?_
        refine vv_bipush C dX9_copy_90 kb_30 ?_
        refine vv_iload_n C 2 dX9_copy_92 rfl rfl ?_
        refine vv_imul C dX9_copy_93 ?_
        refine vv_iload_n C 3 dX9_copy_94 rfl rfl ?_
        refine vv_iadd C dX9_copy_95 ?_
        refine vv_aload_n C 0 dX9_copy_96 rfl rfl ?_
        refine vv_getr (r := 24) C kc_X9 (s_X9 hY) 24 (by decide) rfl fk_X9_79 dX9_copy_97 ?_
        refine vv_bipush C dX9_copy_100 kb_30 ?_
        refine vv_iload_n C 1 dX9_copy_102 rfl rfl ?_
        refine vv_imul C dX9_copy_103 ?_
        refine vv_iload_n C 3 dX9_copy_104 rfl rfl ?_
        refine vv_iadd C dX9_copy_105 ?_
        obtain ⟨hi17, h⟩ := h
        refine vv_iald C (a_X9_actMany hY) hi17 rfl dX9_copy_106 ?_
        obtain ⟨hi18, h⟩ := h
        refine vv_iast C (a_X9_actMany hY) hi18 rfl dX9_copy_107 (fun σ19 eσ19 => ?_)
        replace h := h σ19 eσ19
        obtain ⟨v20, ev20⟩ : ∃ z : Int32, z = v4 + (1 : Int32) := ⟨_, rfl⟩
        replace h := h v20 ev20
        refine vv_iinc (v := v20) (L' := [(3, .int v20), (0, .ref (vv_q Y 0)), (1, .int a1), (2, .int a2)]) C 3 dX9_copy_108 rfl ((kinc ki_1).trans ev20.symm) (by decide) rfl ?_
        refine vv_goto (pc := 111) (tgt := 14) C dX9_copy_111 (by decide) ?_
        refine vv_sub [1, 2, 3, 0] (L' := [(0, .ref (vv_q Y 0)), (1, .int a1), (2, .int a2), (3, .int v20)]) rfl ?_
        exact ih1 _ _ h
  refine vv_sub [1, 2, 3, 0] (L' := [(0, .ref (vv_q Y 0)), (1, .int a1), (2, .int a2), (3, .int (0 : Int32))]) rfl ?_
  exact hl1 n6 _ _ h
set_option maxHeartbeats 2000000 in
set_option maxRecDepth 100000 in
theorem mX9_keep {Y : vv_Y} (hY : Y.2.2.2.2 = wM)  {σ : vv_S} {post : Int32 → vv_S → Prop} (h : wX9_keep σ post) : vv_MI Y yX9_keep cX9_keep 1 (some .int) 1 23 [.ref (vv_q Y 0)] σ post := by
  refine vv_ofI (by decide) (Nat.le_of_ble_eq_true rfl) (fun X C => ?_)
  have C : VC Y X RX9 cX9_keep 1 (some .int) 1 23 := C
  refine vv_sub [0] (L' := [(0, .ref (vv_q Y 0))]) rfl ?_
  refine vv_aload_n C 0 dX9_keep_0 rfl rfl ?_
  refine vv_geti C kc_X9 (s_X9 hY) 25 (by decide) rfl fk_X9_190 dX9_keep_1 ?_
  refine vv_iconst C dX9_keep_4 ki_2 ?_
  refine vv_icmp_ne (pc := 5) C 11 dX9_keep_5 (by decide) (fun hc1 => ?_) (fun hc1 => ?_)
  · replace h := h.1 hc1
    refine vv_aload_n C 0 dX9_keep_11 rfl rfl ?_
    refine vv_dup C dX9_keep_12 rfl ?_
    refine vv_geti C kc_X9 (s_X9 hY) 25 (by decide) rfl fk_X9_190 dX9_keep_13 ?_
    refine vv_iconst C dX9_keep_16 ki_1 ?_
    refine vv_iadd C dX9_keep_17 ?_
    refine vv_puti C kc_X9 (s_X9 hY) 25 (by decide) rfl pf_X9_25 fk_X9_190 dX9_keep_18 (fun σ2 eσ2 => ?_)
    replace h := h σ2 eσ2
    refine vv_aload_n C 0 dX9_keep_21 rfl rfl ?_
    refine vv_iconst C dX9_keep_22 ki_0 ?_
    refine vv_aload_n C 0 dX9_keep_23 rfl rfl ?_
    refine vv_geti C kc_X9 (s_X9 hY) 25 (by decide) rfl fk_X9_190 dX9_keep_24 ?_
    refine vv_callV (rest := []) C yk_X9_copy vk_X9_copy lk_X9_315 kc_X9.1 (s_X9 hY) dX9_keep_27 (mX9_copy hY h) rfl rfl ⟨Nat.le_of_ble_eq_true rfl, Nat.le_of_ble_eq_true rfl⟩ (Nat.le_of_ble_eq_true rfl) (fun σ3 h => ?_)
    refine vv_aload_n C 0 dX9_keep_30 rfl rfl ?_
    refine vv_geti C kc_X9 (s_X9 hY) 25 (by decide) rfl fk_X9_190 dX9_keep_31 ?_
    exact vv_iret C dX9_keep_34 h
  · replace h := h.2 hc1
    refine vv_bipush C dX9_keep_8 kb_m3 ?_
    exact vv_iret C dX9_keep_10 h
set_option maxHeartbeats 2000000 in
set_option maxRecDepth 100000 in
theorem mX9_back {Y : vv_Y} (hY : Y.2.2.2.2 = wM)  {σ : vv_S} {post : Int32 → vv_S → Prop} (h : wX9_back σ post) : vv_MI Y yX9_back cX9_back 1 (some .int) 6 142 [.ref (vv_q Y 0)] σ post := by
  refine vv_ofI (by decide) (Nat.le_of_ble_eq_true rfl) (fun X C => ?_)
  have C : VC Y X RX9 cX9_back 1 (some .int) 6 142 := C
  refine vv_sub [0] (L' := [(0, .ref (vv_q Y 0))]) rfl ?_
  refine vv_aload_n C 0 dX9_back_0 rfl rfl ?_
  refine vv_geti C kc_X9 (s_X9 hY) 25 (by decide) rfl fk_X9_190 dX9_back_1 ?_
  refine vv_if_ne (pc := 4) C 10 dX9_back_4 (by decide) (fun hc1 => ?_) (fun hc1 => ?_)
  · replace h := h.1 hc1
    refine vv_aload_n C 0 dX9_back_10 rfl rfl ?_
    refine vv_aload_n C 0 dX9_back_11 rfl rfl ?_
    refine vv_geti C kc_X9 (s_X9 hY) 25 (by decide) rfl fk_X9_190 dX9_back_12 ?_
    refine vv_iconst C dX9_back_15 ki_0 ?_
    refine vv_callV (rest := []) C yk_X9_copy vk_X9_copy lk_X9_315 kc_X9.1 (s_X9 hY) dX9_back_16 (mX9_copy hY h) rfl rfl ⟨Nat.le_of_ble_eq_true rfl, Nat.le_of_ble_eq_true rfl⟩ (Nat.le_of_ble_eq_true rfl) (fun σ2 h => ?_)
    refine vv_aload_n C 0 dX9_back_19 rfl rfl ?_
    refine vv_dup C dX9_back_20 rfl ?_
    refine vv_geti C kc_X9 (s_X9 hY) 25 (by decide) rfl fk_X9_190 dX9_back_21 ?_
    refine vv_iconst C dX9_back_24 ki_1 ?_
    refine vv_isub C dX9_back_25 ?_
    refine vv_puti C kc_X9 (s_X9 hY) 25 (by decide) rfl pf_X9_25 fk_X9_190 dX9_back_26 (fun σ3 eσ3 => ?_)
    replace h := h σ3 eσ3
    refine vv_aload_n C 0 dX9_back_29 rfl rfl ?_
    refine vv_callV (rest := []) C yk_X9_begin vk_X9_begin lk_X9_131 kc_X9.1 (s_X9 hY) dX9_back_30 (mX9_begin hY h) rfl rfl ⟨Nat.le_of_ble_eq_true rfl, Nat.le_of_ble_eq_true rfl⟩ (Nat.le_of_ble_eq_true rfl) (fun σ4 h => ?_)
    refine vv_aload_n C 0 dX9_back_33 rfl rfl ?_
    refine vv_geti C kc_X9 (s_X9 hY) 25 (by decide) rfl fk_X9_190 dX9_back_34 ?_
    exact vv_iret C dX9_back_37 h
  · replace h := h.2 hc1
    refine vv_bipush C dX9_back_7 kb_m2 ?_
    exact vv_iret C dX9_back_9 h
set_option maxHeartbeats 2000000 in
set_option maxRecDepth 100000 in
theorem mX9_count {Y : vv_Y} (hY : Y.2.2.2.2 = wM) {a1 : Int32} {σ : vv_S} {post : Int32 → vv_S → Prop} (h : wX9_count a1 σ post) : vv_MI Y yX9_count cX9_count 2 (some .int) 0 0 [.ref (vv_q Y 0), .int a1] σ post := by
  refine vv_ofI (by decide) (Nat.le_of_ble_eq_true rfl) (fun X C => ?_)
  have C : VC Y X RX9 cX9_count 2 (some .int) 0 0 := C
  refine vv_sub [0, 1] (L' := [(0, .ref (vv_q Y 0)), (1, .int a1)]) rfl ?_
  refine vv_iload_n C 1 dX9_count_0 rfl rfl ?_
  by_cases hc1 : a1 = (0 : Int32)
  · replace h := h.1 hc1
    refine vv_tab (pc := 1) C 44 dX9_count_1 hc1 (by decide) (by decide) rfl (by decide) ?_
    refine vv_aload_n C 0 dX9_count_44 rfl rfl ?_
    refine vv_getr (r := 2) C kc_X9 (s_X9 hY) 2 (by decide) rfl fk_X9_13 dX9_count_45 ?_
    refine vv_iconst C dX9_count_48 ki_0 ?_
    refine vv_iald C (a_X9_cells hY) kv_0_2 kn_0 dX9_count_49 ?_
    exact vv_iret C dX9_count_50 h
  replace h := h.2
  by_cases hc2 : a1 = (1 : Int32)
  · replace h := h.1 hc2
    refine vv_tab (pc := 1) C 51 dX9_count_1 hc2 (by decide) (by decide) rfl (by decide) ?_
    refine vv_aload_n C 0 dX9_count_51 rfl rfl ?_
    refine vv_getr (r := 14) C kc_X9 (s_X9 hY) 14 (by decide) rfl fk_X9_49 dX9_count_52 ?_
    refine vv_iconst C dX9_count_55 ki_0 ?_
    refine vv_iald C (a_X9_children hY) kv_0_2 kn_0 dX9_count_56 ?_
    exact vv_iret C dX9_count_57 h
  replace h := h.2
  by_cases hc3 : a1 = (2 : Int32)
  · replace h := h.1 hc3
    refine vv_tab (pc := 1) C 58 dX9_count_1 hc3 (by decide) (by decide) rfl (by decide) ?_
    refine vv_aload_n C 0 dX9_count_58 rfl rfl ?_
    refine vv_getr (r := 16) C kc_X9 (s_X9 hY) 16 (by decide) rfl fk_X9_55 dX9_count_59 ?_
    refine vv_iconst C dX9_count_62 ki_0 ?_
    refine vv_iald C (a_X9_jobs hY) kv_0_2 kn_0 dX9_count_63 ?_
    exact vv_iret C dX9_count_64 h
  replace h := h.2
  by_cases hc4 : a1 = (3 : Int32)
  · replace h := h.1 hc4
    refine vv_tab (pc := 1) C 65 dX9_count_1 hc4 (by decide) (by decide) rfl (by decide) ?_
    refine vv_aload_n C 0 dX9_count_65 rfl rfl ?_
    refine vv_getr (r := 20) C kc_X9 (s_X9 hY) 20 (by decide) rfl fk_X9_67 dX9_count_66 ?_
    refine vv_iconst C dX9_count_69 ki_0 ?_
    refine vv_iald C (a_X9_acts hY) kv_0_3 kn_0 dX9_count_70 ?_
    exact vv_iret C dX9_count_71 h
  replace h := h.2
  by_cases hc5 : a1 = (4 : Int32)
  · replace h := h.1 hc5
    refine vv_tab (pc := 1) C 72 dX9_count_1 hc5 (by decide) (by decide) rfl (by decide) ?_
    refine vv_aload_n C 0 dX9_count_72 rfl rfl ?_
    refine vv_geti C kc_X9 (s_X9 hY) 26 (by decide) rfl fk_X9_193 dX9_count_73 ?_
    exact vv_iret C dX9_count_76 h
  replace h := h.2
  by_cases hc6 : a1 = (5 : Int32)
  · replace h := h.1 hc6
    refine vv_tab (pc := 1) C 77 dX9_count_1 hc6 (by decide) (by decide) rfl (by decide) ?_
    refine vv_aload_n C 0 dX9_count_77 rfl rfl ?_
    refine vv_geti C kc_X9 (s_X9 hY) 25 (by decide) rfl fk_X9_190 dX9_count_78 ?_
    exact vv_iret C dX9_count_81 h
  replace h := h.2
  by_cases hc7 : a1 = (6 : Int32)
  · replace h := h.1 hc7
    refine vv_tab (pc := 1) C 82 dX9_count_1 hc7 (by decide) (by decide) rfl (by decide) ?_
    refine vv_aload_n C 0 dX9_count_82 rfl rfl ?_
    refine vv_geti C kc_X9 (s_X9 hY) 0 (by decide) rfl fk_X9_142 dX9_count_83 ?_
    exact vv_iret C dX9_count_86 h
  replace h := h.2
  replace h := h ⟨hc1, hc2, hc3, hc4, hc5, hc6, hc7⟩
  have hgap : ∀ n : Nat, n < 7 → ((#[43, 50, 57, 64, 71, 76, 81] : Array Int)[n]? = some (86) ∨ ((0 : Int) + n = 0 ∨ (0 : Int) + n = 1 ∨ (0 : Int) + n = 2 ∨ (0 : Int) + n = 3 ∨ (0 : Int) + n = 4 ∨ (0 : Int) + n = 5 ∨ (0 : Int) + n = 6)) := by decide
  refine vv_tabD (pc := 1) C 87 dX9_count_1 (fun n hn hx => by
      rcases hgap n (by omega) with h9 | h9
      · exact h9
      · exfalso; have nhc1 := lv_neT (a := 0) hc1 (by decide); have nhc2 := lv_neT (a := 1) hc2 (by decide); have nhc3 := lv_neT (a := 2) hc3 (by decide); have nhc4 := lv_neT (a := 3) hc4 (by decide); have nhc5 := lv_neT (a := 4) hc5 (by decide); have nhc6 := lv_neT (a := 5) hc6 (by decide); have nhc7 := lv_neT (a := 6) hc7 (by decide); omega) (by decide) ?_
  refine vv_iconst C dX9_count_87 ki_m1 ?_
  exact vv_iret C dX9_count_88 h

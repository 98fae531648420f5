set_option maxHeartbeats 2000000 in
set_option maxRecDepth 100000 in
theorem mX8_write {Y : vv_Y} (hY : Y.2.2.2.2 = wC) {a1 : Int32} {σ : vv_S} {post : Int32 → vv_S → Prop} (h : wX8_write a1 σ post) : vv_MI Y yX8_write cX8_write 2 (some .int) 1 22 [.ref (vv_q Y 0), .int a1] σ post := by
  refine vv_ofI (by decide) (Nat.le_of_ble_eq_true rfl) (fun X C => ?_)
  have C : VC Y X RX8 cX8_write 2 (some .int) 1 22 := C
  refine vv_sub [0, 1] (L' := [(0, .ref (vv_q Y 0)), (1, .int a1)]) rfl ?_
  refine vv_iload_n C 1 dX8_write_0 rfl rfl ?_
  refine vv_bipush C dX8_write_1 kb_32 ?_
  refine vv_bipush C dX8_write_3 kb_126 ?_
  refine vv_callS (rest := []) C yk_X8_isWithin sk_X8_isWithin lk_X8_92 dX8_write_5 (mX8_isWithin hY h) rfl rfl ⟨Nat.le_of_ble_eq_true rfl, Nat.le_of_ble_eq_true rfl⟩ (Nat.le_of_ble_eq_true rfl) (fun r2 σ1 h => ?_)
  refine vv_if_ne (pc := 8) C 13 dX8_write_8 (by decide) (fun hc3 => ?_) (fun hc3 => ?_)
  · replace h := h.1 hc3
    refine vv_aload_n C 0 dX8_write_13 rfl rfl ?_
    refine vv_getr (r := 1) C kc_X8 (s_X8 hY) 0 (by decide) rfl fk_X8_10 dX8_write_14 ?_
    refine vv_iload_n C 1 dX8_write_17 rfl rfl ?_
    refine vv_callI (rest := []) C yk_X7_add vk_X7_add lk_X8_78 kc_X7.1 (s_X7 hY) dX8_write_18 (mX7_add hY h) rfl rfl ⟨Nat.le_of_ble_eq_true rfl, Nat.le_of_ble_eq_true rfl⟩ (Nat.le_of_ble_eq_true rfl) (fun r5 σ4 h => ?_)
    refine vv_join (fun k => ∀ (v6 : Int32) (σ7 : vv_S), k v6 σ7 → VJ Y X (va_Qi post (vv_B Y) X.2) 2 36 [] [.int v6] σ7) h (fun v6 σ7 h => ?_) (fun k36_7 hJk36_7 h => ?_)
    · exact vv_iret C dX8_write_36 h
    · refine vv_if_eq (pc := 21) C 34 dX8_write_21 (by decide) (fun hc9 => ?_) (fun hc9 => ?_)
      · replace h := h.1 hc9
        refine vv_bipush C dX8_write_34 kb_m3 ?_
        refine vv_sub [] (L' := []) rfl ?_
        exact hJk36_7 _ _ h
      · replace h := h.2 hc9
        refine vv_aload_n C 0 dX8_write_24 rfl rfl ?_
        refine vv_getr (r := 1) C kc_X8 (s_X8 hY) 0 (by decide) rfl fk_X8_10 dX8_write_25 ?_
        refine vv_callI (rest := []) C yk_X7_size vk_X7_size lk_X8_96 kc_X7.1 (s_X7 hY) dX8_write_28 (mX7_size hY h) rfl rfl ⟨Nat.le_of_ble_eq_true rfl, Nat.le_of_ble_eq_true rfl⟩ (Nat.le_of_ble_eq_true rfl) (fun r11 σ10 h => ?_)
        refine vv_goto (pc := 31) (tgt := 36) C dX8_write_31 (by decide) ?_
        refine vv_sub [] (L' := []) rfl ?_
        exact hJk36_7 _ _ h
  · replace h := h.2 hc3
    refine vv_iconst C dX8_write_11 ki_m1 ?_
    exact vv_iret C dX8_write_12 h
set_option maxHeartbeats 2000000 in
set_option maxRecDepth 100000 in
theorem mX8_wipe {Y : vv_Y} (hY : Y.2.2.2.2 = wC)  {σ : vv_S} {post : Int32 → vv_S → Prop} (h : wX8_wipe σ post) : vv_MI Y yX8_wipe cX8_wipe 2 (some .int) 1 20 [.ref (vv_q Y 0)] σ post := by
  refine vv_ofI (by decide) (Nat.le_of_ble_eq_true rfl) (fun X C => ?_)
  have C : VC Y X RX8 cX8_wipe 2 (some .int) 1 20 := C
  refine vv_sub [0] (L' := [(0, .ref (vv_q Y 0))]) rfl ?_
  refine vv_aload_n C 0 dX8_wipe_0 rfl rfl ?_
  refine vv_getr (r := 1) C kc_X8 (s_X8 hY) 0 (by decide) rfl fk_X8_10 dX8_wipe_1 ?_
  refine vv_callI (rest := []) C yk_X7_size vk_X7_size lk_X8_96 kc_X7.1 (s_X7 hY) dX8_wipe_4 (mX7_size hY h) rfl rfl ⟨Nat.le_of_ble_eq_true rfl, Nat.le_of_ble_eq_true rfl⟩ (Nat.le_of_ble_eq_true rfl) (fun r2 σ1 h => ?_)
  refine vv_istore_n (L' := [(1, .int r2), (0, .ref (vv_q Y 0))]) C dX8_wipe_7 rfl (by decide) rfl ?_
  refine vv_aload_n C 1 dX8_wipe_8 rfl rfl ?_
  refine vv_getr (r := 1) C kc_X8 (s_X8 hY) 0 (by decide) rfl fk_X8_10 dX8_wipe_9 ?_
  refine vv_callV (rest := []) C yk_X7_clear vk_X7_clear lk_X8_86 kc_X7.1 (s_X7 hY) dX8_wipe_12 (mX7_clear hY h) rfl rfl ⟨Nat.le_of_ble_eq_true rfl, Nat.le_of_ble_eq_true rfl⟩ (Nat.le_of_ble_eq_true rfl) (fun σ3 h => ?_)
  refine vv_iload_n C 0 dX8_wipe_15 rfl rfl ?_
  exact vv_iret C dX8_wipe_16 h
set_option maxHeartbeats 2000000 in
set_option maxRecDepth 100000 in
theorem mX8_fault {Y : vv_Y} (hY : Y.2.2.2.2 = wC)  {σ : vv_S} {post : Int32 → vv_S → Prop} (h : wX8_fault σ post) : vv_MI Y yX8_fault cX8_fault 1 (some .int) 5 114 [.ref (vv_q Y 0)] σ post := by
  refine vv_ofI (by decide) (Nat.le_of_ble_eq_true rfl) (fun X C => ?_)
  have C : VC Y X RX8 cX8_fault 1 (some .int) 5 114 := C
  refine vv_sub [0] (L' := [(0, .ref (vv_q Y 0))]) rfl ?_
  refine vv_aload_n C 0 dX8_fault_0 rfl rfl ?_
  refine vv_getr (r := 23) C kc_X8 (s_X8 hY) 2 (by decide) rfl fk_X8_23 dX8_fault_1 ?_
  refine vv_aload_n C 0 dX8_fault_4 rfl rfl ?_
  refine vv_getr (r := 1) C kc_X8 (s_X8 hY) 0 (by decide) rfl fk_X8_10 dX8_fault_5 ?_
  refine vv_callI (rest := []) C yk_X4_readFrom vk_X4_readFrom lk_X8_82 kc_X4.1 (s_X4 hY (show is_X4 23 by decide)) dX8_fault_8 (mX4_readFrom hY (show is_X4 23 by decide) h) rfl rfl ⟨Nat.le_of_ble_eq_true rfl, Nat.le_of_ble_eq_true rfl⟩ (Nat.le_of_ble_eq_true rfl) (fun r2 σ1 h => ?_)
  exact vv_iret C dX8_fault_11 h
set_option maxHeartbeats 2000000 in
set_option maxRecDepth 100000 in
theorem mX8_laid {Y : vv_Y} (hY : Y.2.2.2.2 = wC)  {σ : vv_S} {post : Int32 → vv_S → Prop} (h : wX8_laid σ post) : vv_MI Y yX8_laid cX8_laid 1 (some .int) 5 114 [.ref (vv_q Y 0)] σ post := by
  refine vv_ofI (by decide) (Nat.le_of_ble_eq_true rfl) (fun X C => ?_)
  have C : VC Y X RX8 cX8_laid 1 (some .int) 5 114 := C
  refine vv_sub [0] (L' := [(0, .ref (vv_q Y 0))]) rfl ?_
  refine vv_aload_n C 0 dX8_laid_0 rfl rfl ?_
  refine vv_getr (r := 23) C kc_X8 (s_X8 hY) 2 (by decide) rfl fk_X8_23 dX8_laid_1 ?_
  refine vv_aload_n C 0 dX8_laid_4 rfl rfl ?_
  refine vv_getr (r := 1) C kc_X8 (s_X8 hY) 0 (by decide) rfl fk_X8_10 dX8_laid_5 ?_
  refine vv_callI (rest := []) C yk_X4_readFrom vk_X4_readFrom lk_X8_82 kc_X4.1 (s_X4 hY (show is_X4 23 by decide)) dX8_laid_8 (mX4_readFrom hY (show is_X4 23 by decide) h) rfl rfl ⟨Nat.le_of_ble_eq_true rfl, Nat.le_of_ble_eq_true rfl⟩ (Nat.le_of_ble_eq_true rfl) (fun r2 σ1 h => ?_)
  refine vv_bipush C dX8_laid_11 kb_m4 ?_
  refine vv_join (fun k => ∀ (σ3 : vv_S), k σ3 → VJ Y X (va_Qi post (vv_B Y) X.2) 1 26 [] [] σ3) h (fun σ3 h => ?_) (fun k26_3 hJk26_3 h => ?_)
  · refine vv_bipush C dX8_laid_26 kb_m2 ?_
    exact vv_iret C dX8_laid_28 h
  · refine vv_icmp_ne (pc := 13) C 26 dX8_laid_13 (by decide) (fun hc5 => ?_) (fun hc5 => ?_)
    · replace h := h.1 hc5
      refine vv_sub [] (L' := []) rfl ?_
      exact hJk26_3 _ h
    · replace h := h.2 hc5
      refine vv_aload_n C 0 dX8_laid_16 rfl rfl ?_
      refine vv_getr (r := 23) C kc_X8 (s_X8 hY) 2 (by decide) rfl fk_X8_23 dX8_laid_17 ?_
      refine vv_callI (rest := []) C yk_X4_cellCount vk_X4_cellCount lk_X8_99 kc_X4.1 (s_X4 hY (show is_X4 23 by decide)) dX8_laid_20 (mX4_cellCount hY (show is_X4 23 by decide) h) rfl rfl ⟨Nat.le_of_ble_eq_true rfl, Nat.le_of_ble_eq_true rfl⟩ (Nat.le_of_ble_eq_true rfl) (fun r7 σ6 h => ?_)
      refine vv_if_ne (pc := 23) C 29 dX8_laid_23 (by decide) (fun hc8 => ?_) (fun hc8 => ?_)
      · replace h := h.1 hc8
        refine vv_aload_n C 0 dX8_laid_29 rfl rfl ?_
        refine vv_getr (r := 4) C kc_X8 (s_X8 hY) 1 (by decide) rfl fk_X8_19 dX8_laid_30 ?_
        refine vv_aload_n C 0 dX8_laid_33 rfl rfl ?_
        refine vv_getr (r := 1) C kc_X8 (s_X8 hY) 0 (by decide) rfl fk_X8_10 dX8_laid_34 ?_
        refine vv_callI (rest := []) C yk_X4_readFrom vk_X4_readFrom lk_X8_82 kc_X4.1 (s_X4 hY (show is_X4 4 by decide)) dX8_laid_37 (mX4_readFrom hY (show is_X4 4 by decide) h) rfl rfl ⟨Nat.le_of_ble_eq_true rfl, Nat.le_of_ble_eq_true rfl⟩ (Nat.le_of_ble_eq_true rfl) (fun r10 σ9 h => ?_)
        refine vv_pop C dX8_laid_40 rfl ?_
        refine vv_aload_n C 0 dX8_laid_41 rfl rfl ?_
        refine vv_getr (r := 50) C kc_X8 (s_X8 hY) 5 (by decide) rfl fk_X8_41 dX8_laid_42 ?_
        refine vv_callV (rest := []) C yk_X0_clear vk_X0_clear lk_X8_102 kc_X0.1 (s_X0 hY (show is_X0 50 by decide)) dX8_laid_45 (mX0_clear hY (show is_X0 50 by decide) h) rfl rfl ⟨Nat.le_of_ble_eq_true rfl, Nat.le_of_ble_eq_true rfl⟩ (Nat.le_of_ble_eq_true rfl) (fun σ11 h => ?_)
        refine vv_aload_n C 0 dX8_laid_48 rfl rfl ?_
        refine vv_iconst C dX8_laid_49 ki_0 ?_
        refine vv_puti C kc_X8 (s_X8 hY) 7 (by decide) rfl pf_X8_7 fk_X8_103 dX8_laid_50 (fun σ12 eσ12 => ?_)
        replace h := h σ12 eσ12
        refine vv_aload_n C 0 dX8_laid_53 rfl rfl ?_
        refine vv_getr (r := 66) C kc_X8 (s_X8 hY) 8 (by decide) rfl fk_X8_52 dX8_laid_54 ?_
        refine vv_callV (rest := []) C yk_X6_clear vk_X6_clear lk_X8_107 kc_X6.1 (s_X6 hY) dX8_laid_57 (mX6_clear hY h) rfl rfl ⟨Nat.le_of_ble_eq_true rfl, Nat.le_of_ble_eq_true rfl⟩ (Nat.le_of_ble_eq_true rfl) (fun σ13 h => ?_)
        refine vv_aload_n C 0 dX8_laid_60 rfl rfl ?_
        refine vv_getr (r := 42) C kc_X8 (s_X8 hY) 3 (by decide) rfl fk_X8_31 dX8_laid_61 ?_
        refine vv_callV (rest := []) C yk_X3_startAnew vk_X3_startAnew lk_X8_89 kc_X3.1 (s_X3 hY (show is_X3 42 by decide)) dX8_laid_64 (mX3_startAnew hY (show is_X3 42 by decide) h) rfl rfl ⟨Nat.le_of_ble_eq_true rfl, Nat.le_of_ble_eq_true rfl⟩ (Nat.le_of_ble_eq_true rfl) (fun σ14 h => ?_)
        refine vv_aload_n C 0 dX8_laid_67 rfl rfl ?_
        refine vv_getr (r := 4) C kc_X8 (s_X8 hY) 1 (by decide) rfl fk_X8_19 dX8_laid_68 ?_
        refine vv_callI (rest := []) C yk_X4_cellCount vk_X4_cellCount lk_X8_99 kc_X4.1 (s_X4 hY (show is_X4 4 by decide)) dX8_laid_71 (mX4_cellCount hY (show is_X4 4 by decide) h) rfl rfl ⟨Nat.le_of_ble_eq_true rfl, Nat.le_of_ble_eq_true rfl⟩ (Nat.le_of_ble_eq_true rfl) (fun r16 σ15 h => ?_)
        exact vv_iret C dX8_laid_74 h
      · replace h := h.2 hc8
        refine vv_sub [] (L' := []) rfl ?_
        exact hJk26_3 _ h
set_option maxHeartbeats 2000000 in
set_option maxRecDepth 100000 in
theorem mX8_isCell {Y : vv_Y} (hY : Y.2.2.2.2 = wC) {a1 : Int32} {σ : vv_S} {post : Int32 → vv_S → Prop} (h : wX8_isCell a1 σ post) : vv_MI Y yX8_isCell cX8_isCell 2 (some .boolean) 1 22 [.ref (vv_q Y 0), .int a1] σ post := by
  refine vv_ofI (by decide) (Nat.le_of_ble_eq_true rfl) (fun X C => ?_)
  have C : VC Y X RX8 cX8_isCell 2 (some .boolean) 1 22 := C
  refine vv_sub [0, 1] (L' := [(0, .ref (vv_q Y 0)), (1, .int a1)]) rfl ?_
  refine vv_iload_n C 1 dX8_isCell_0 rfl rfl ?_
  refine vv_iconst C dX8_isCell_1 ki_0 ?_
  refine vv_aload_n C 0 dX8_isCell_2 rfl rfl ?_
  refine vv_getr (r := 4) C kc_X8 (s_X8 hY) 1 (by decide) rfl fk_X8_19 dX8_isCell_3 ?_
  refine vv_callI (rest := [.int (0 : Int32), .int a1]) C yk_X4_cellCount vk_X4_cellCount lk_X8_99 kc_X4.1 (s_X4 hY (show is_X4 4 by decide)) dX8_isCell_6 (mX4_cellCount hY (show is_X4 4 by decide) h) rfl rfl ⟨Nat.le_of_ble_eq_true rfl, Nat.le_of_ble_eq_true rfl⟩ (Nat.le_of_ble_eq_true rfl) (fun r2 σ1 h => ?_)
  refine vv_iconst C dX8_isCell_9 ki_1 ?_
  refine vv_isub C dX8_isCell_10 ?_
  refine vv_callS (rest := []) C yk_X8_isWithin sk_X8_isWithin lk_X8_92 dX8_isCell_11 (mX8_isWithin hY h) rfl rfl ⟨Nat.le_of_ble_eq_true rfl, Nat.le_of_ble_eq_true rfl⟩ (Nat.le_of_ble_eq_true rfl) (fun r4 σ3 h => ?_)
  exact vv_zret C h.1 dX8_isCell_14 h.2
set_option maxHeartbeats 2000000 in
set_option maxRecDepth 100000 in
theorem mX8_cell {Y : vv_Y} (hY : Y.2.2.2.2 = wC) {a1 : Int32} {a2 : Int32} {σ : vv_S} {post : Int32 → vv_S → Prop} (h : wX8_cell a1 a2 σ post) : vv_MI Y yX8_cell cX8_cell 3 (some .int) 2 43 [.ref (vv_q Y 0), .int a1, .int a2] σ post := by
  refine vv_ofI (by decide) (Nat.le_of_ble_eq_true rfl) (fun X C => ?_)
  have C : VC Y X RX8 cX8_cell 3 (some .int) 2 43 := C
  refine vv_sub [0, 1, 2] (L' := [(0, .ref (vv_q Y 0)), (1, .int a1), (2, .int a2)]) rfl ?_
  refine vv_aload_n C 0 dX8_cell_0 rfl rfl ?_
  refine vv_iload_n C 1 dX8_cell_1 rfl rfl ?_
  refine vv_callI (rest := []) C yk_X8_isCell vk_X8_isCell lk_X8_108 kc_X8.1 (s_X8 hY) dX8_cell_2 (mX8_isCell hY h) rfl rfl ⟨Nat.le_of_ble_eq_true rfl, Nat.le_of_ble_eq_true rfl⟩ (Nat.le_of_ble_eq_true rfl) (fun r2 σ1 h => ?_)
  refine vv_if_ne (pc := 5) C 10 dX8_cell_5 (by decide) (fun hc3 => ?_) (fun hc3 => ?_)
  · replace h := h.1 hc3
    refine vv_iload_n C 2 dX8_cell_10 rfl rfl ?_
    by_cases hc4 : a2 = (0 : Int32)
    · replace h := h.1 hc4
      refine vv_tab (pc := 11) C 36 dX8_cell_11 hc4 (by decide) (by decide) rfl (by decide) ?_
      refine vv_aload_n C 0 dX8_cell_36 rfl rfl ?_
      refine vv_getr (r := 42) C kc_X8 (s_X8 hY) 3 (by decide) rfl fk_X8_31 dX8_cell_37 ?_
      refine vv_iload_n C 1 dX8_cell_40 rfl rfl ?_
      refine vv_callI (rest := []) C yk_X3_heightAt vk_X3_heightAt lk_X8_111 kc_X3.1 (s_X3 hY (show is_X3 42 by decide)) dX8_cell_41 (mX3_heightAt hY (show is_X3 42 by decide) h) rfl rfl ⟨Nat.le_of_ble_eq_true rfl, Nat.le_of_ble_eq_true rfl⟩ (Nat.le_of_ble_eq_true rfl) (fun r6 σ5 h => ?_)
      exact vv_iret C dX8_cell_44 h
    replace h := h.2
    by_cases hc7 : a2 = (1 : Int32)
    · replace h := h.1 hc7
      refine vv_tab (pc := 11) C 45 dX8_cell_11 hc7 (by decide) (by decide) rfl (by decide) ?_
      refine vv_aload_n C 0 dX8_cell_45 rfl rfl ?_
      refine vv_getr (r := 42) C kc_X8 (s_X8 hY) 3 (by decide) rfl fk_X8_31 dX8_cell_46 ?_
      refine vv_iload_n C 1 dX8_cell_49 rfl rfl ?_
      refine vv_callI (rest := []) C yk_X3_stuffAt vk_X3_stuffAt lk_X8_115 kc_X3.1 (s_X3 hY (show is_X3 42 by decide)) dX8_cell_50 (mX3_stuffAt hY (show is_X3 42 by decide) h) rfl rfl ⟨Nat.le_of_ble_eq_true rfl, Nat.le_of_ble_eq_true rfl⟩ (Nat.le_of_ble_eq_true rfl) (fun r9 σ8 h => ?_)
      exact vv_iret C dX8_cell_53 h
    replace h := h.2
    by_cases hc10 : a2 = (2 : Int32)
    · replace h := h.1 hc10
      refine vv_tab (pc := 11) C 54 dX8_cell_11 hc10 (by decide) (by decide) rfl (by decide) ?_
      refine vv_aload_n C 0 dX8_cell_54 rfl rfl ?_
      refine vv_getr (r := 42) C kc_X8 (s_X8 hY) 3 (by decide) rfl fk_X8_31 dX8_cell_55 ?_
      refine vv_iload_n C 1 dX8_cell_58 rfl rfl ?_
      refine vv_callI (rest := []) C yk_X3_breachesAt vk_X3_breachesAt lk_X8_118 kc_X3.1 (s_X3 hY (show is_X3 42 by decide)) dX8_cell_59 (mX3_breachesAt hY (show is_X3 42 by decide) h) rfl rfl ⟨Nat.le_of_ble_eq_true rfl, Nat.le_of_ble_eq_true rfl⟩ (Nat.le_of_ble_eq_true rfl) (fun r12 σ11 h => ?_)
      exact vv_iret C dX8_cell_62 h
    replace h := h.2
    replace h := h ⟨hc4, hc7, hc10⟩
    have hgap : ∀ n : Nat, n < 3 → ((#[25, 34, 43] : Array Int)[n]? = some (52) ∨ ((0 : Int) + n = 0 ∨ (0 : Int) + n = 1 ∨ (0 : Int) + n = 2)) := by decide
    refine vv_tabD (pc := 11) C 63 dX8_cell_11 (fun n hn hx => by
        rcases hgap n (by omega) with h9 | h9
        · exact h9
        · exfalso; have nhc4 := lv_neT (a := 0) hc4 (by decide); have nhc7 := lv_neT (a := 1) hc7 (by decide); have nhc10 := lv_neT (a := 2) hc10 (by decide); omega) (by decide) ?_
    refine vv_iconst C dX8_cell_63 ki_m1 ?_
    exact vv_iret C dX8_cell_64 h
  · replace h := h.2 hc3
    refine vv_iconst C dX8_cell_8 ki_m1 ?_
    exact vv_iret C dX8_cell_9 h
set_option maxHeartbeats 2000000 in
set_option maxRecDepth 100000 in
theorem mX8_lake {Y : vv_Y} (hY : Y.2.2.2.2 = wC) {a1 : Int32} {σ : vv_S} {post : Int32 → vv_S → Prop} (h : wX8_lake a1 σ post) : vv_MI Y yX8_lake cX8_lake 2 (some .int) 3 65 [.ref (vv_q Y 0), .int a1] σ post := by
  refine vv_ofI (by decide) (Nat.le_of_ble_eq_true rfl) (fun X C => ?_)
  have C : VC Y X RX8 cX8_lake 2 (some .int) 3 65 := C
  refine vv_sub [0, 1] (L' := [(0, .ref (vv_q Y 0)), (1, .int a1)]) rfl ?_
  refine vv_iload_n C 1 dX8_lake_0 rfl rfl ?_
  by_cases hc1 : a1 = (0 : Int32)
  · replace h := h.1 hc1
    refine vv_tab (pc := 1) C 36 dX8_lake_1 hc1 (by decide) (by decide) rfl (by decide) ?_
    refine vv_aload_n C 0 dX8_lake_36 rfl rfl ?_
    refine vv_getr (r := 42) C kc_X8 (s_X8 hY) 3 (by decide) rfl fk_X8_31 dX8_lake_37 ?_
    refine vv_callI (rest := []) C yk_X3_level vk_X3_level lk_X8_121 kc_X3.1 (s_X3 hY (show is_X3 42 by decide)) dX8_lake_40 (mX3_level hY (show is_X3 42 by decide) h) rfl rfl ⟨Nat.le_of_ble_eq_true rfl, Nat.le_of_ble_eq_true rfl⟩ (Nat.le_of_ble_eq_true rfl) (fun r3 σ2 h => ?_)
    exact vv_iret C dX8_lake_43 h
  replace h := h.2
  by_cases hc4 : a1 = (1 : Int32)
  · replace h := h.1 hc4
    refine vv_tab (pc := 1) C 44 dX8_lake_1 hc4 (by decide) (by decide) rfl (by decide) ?_
    refine vv_aload_n C 0 dX8_lake_44 rfl rfl ?_
    refine vv_getr (r := 42) C kc_X8 (s_X8 hY) 3 (by decide) rfl fk_X8_31 dX8_lake_45 ?_
    refine vv_callI (rest := []) C yk_X3_units vk_X3_units lk_X8_124 kc_X3.1 (s_X3 hY (show is_X3 42 by decide)) dX8_lake_48 (mX3_units hY (show is_X3 42 by decide) h) rfl rfl ⟨Nat.le_of_ble_eq_true rfl, Nat.le_of_ble_eq_true rfl⟩ (Nat.le_of_ble_eq_true rfl) (fun r6 σ5 h => ?_)
    exact vv_iret C dX8_lake_51 h
  replace h := h.2
  by_cases hc7 : a1 = (2 : Int32)
  · replace h := h.1 hc7
    refine vv_tab (pc := 1) C 52 dX8_lake_1 hc7 (by decide) (by decide) rfl (by decide) ?_
    refine vv_aload_n C 0 dX8_lake_52 rfl rfl ?_
    refine vv_getr (r := 42) C kc_X8 (s_X8 hY) 3 (by decide) rfl fk_X8_31 dX8_lake_53 ?_
    refine vv_callI (rest := []) C yk_X3_minutesGone vk_X3_minutesGone lk_X8_127 kc_X3.1 (s_X3 hY (show is_X3 42 by decide)) dX8_lake_56 (mX3_minutesGone hY (show is_X3 42 by decide) h) rfl rfl ⟨Nat.le_of_ble_eq_true rfl, Nat.le_of_ble_eq_true rfl⟩ (Nat.le_of_ble_eq_true rfl) (fun r9 σ8 h => ?_)
    exact vv_iret C dX8_lake_59 h
  replace h := h.2
  by_cases hc10 : a1 = (3 : Int32)
  · replace h := h.1 hc10
    refine vv_tab (pc := 1) C 60 dX8_lake_1 hc10 (by decide) (by decide) rfl (by decide) ?_
    refine vv_aload_n C 0 dX8_lake_60 rfl rfl ?_
    refine vv_getr (r := 42) C kc_X8 (s_X8 hY) 3 (by decide) rfl fk_X8_31 dX8_lake_61 ?_
    refine vv_callI (rest := []) C yk_X3_allOver vk_X3_allOver lk_X8_130 kc_X3.1 (s_X3 hY (show is_X3 42 by decide)) dX8_lake_64 (mX3_allOver hY (show is_X3 42 by decide) h) rfl rfl ⟨Nat.le_of_ble_eq_true rfl, Nat.le_of_ble_eq_true rfl⟩ (Nat.le_of_ble_eq_true rfl) (fun r12 σ11 h => ?_)
    exact vv_iret C dX8_lake_67 h
  replace h := h.2
  by_cases hc13 : a1 = (4 : Int32)
  · replace h := h.1 hc13
    refine vv_tab (pc := 1) C 68 dX8_lake_1 hc13 (by decide) (by decide) rfl (by decide) ?_
    refine vv_aload_n C 0 dX8_lake_68 rfl rfl ?_
    refine vv_getr (r := 42) C kc_X8 (s_X8 hY) 3 (by decide) rfl fk_X8_31 dX8_lake_69 ?_
    refine vv_callI (rest := []) C yk_X3_allSeeped vk_X3_allSeeped lk_X8_133 kc_X3.1 (s_X3 hY (show is_X3 42 by decide)) dX8_lake_72 (mX3_allSeeped hY (show is_X3 42 by decide) h) rfl rfl ⟨Nat.le_of_ble_eq_true rfl, Nat.le_of_ble_eq_true rfl⟩ (Nat.le_of_ble_eq_true rfl) (fun r15 σ14 h => ?_)
    exact vv_iret C dX8_lake_75 h
  replace h := h.2
  replace h := h ⟨hc1, hc4, hc7, hc10, hc13⟩
  have hgap : ∀ n : Nat, n < 5 → ((#[35, 43, 51, 59, 67] : Array Int)[n]? = some (75) ∨ ((0 : Int) + n = 0 ∨ (0 : Int) + n = 1 ∨ (0 : Int) + n = 2 ∨ (0 : Int) + n = 3 ∨ (0 : Int) + n = 4)) := by decide
  refine vv_tabD (pc := 1) C 76 dX8_lake_1 (fun n hn hx => by
      rcases hgap n (by omega) with h9 | h9
      · exact h9
      · exfalso; have nhc1 := lv_neT (a := 0) hc1 (by decide); have nhc4 := lv_neT (a := 1) hc4 (by decide); have nhc7 := lv_neT (a := 2) hc7 (by decide); have nhc10 := lv_neT (a := 3) hc10 (by decide); have nhc13 := lv_neT (a := 4) hc13 (by decide); omega) (by decide) ?_
  refine vv_iconst C dX8_lake_76 ki_m1 ?_
  exact vv_iret C dX8_lake_77 h
set_option maxHeartbeats 2000000 in
set_option maxRecDepth 100000 in
theorem mX8_edge {Y : vv_Y} (hY : Y.2.2.2.2 = wC) {a1 : Int32} {σ : vv_S} {post : Int32 → vv_S → Prop} (h : wX8_edge a1 σ post) : vv_MI Y yX8_edge cX8_edge 2 (some .int) 1 20 [.ref (vv_q Y 0), .int a1] σ post := by
  refine vv_ofI (by decide) (Nat.le_of_ble_eq_true rfl) (fun X C => ?_)
  have C : VC Y X RX8 cX8_edge 2 (some .int) 1 20 := C
  refine vv_sub [0, 1] (L' := [(0, .ref (vv_q Y 0)), (1, .int a1)]) rfl ?_
  refine vv_iload_n C 1 dX8_edge_0 rfl rfl ?_
  by_cases hc1 : a1 = (0 : Int32)
  · replace h := h.1 hc1
    refine vv_lkp (pc := 1) (off := 27) C 28 dX8_edge_1 hc1 (by decide) (by decide) (by decide) ?_
    refine vv_aload_n C 0 dX8_edge_28 rfl rfl ?_
    refine vv_getr (r := 42) C kc_X8 (s_X8 hY) 3 (by decide) rfl fk_X8_31 dX8_edge_29 ?_
    refine vv_callI (rest := []) C yk_X3_edgeHeight vk_X3_edgeHeight lk_X8_136 kc_X3.1 (s_X3 hY (show is_X3 42 by decide)) dX8_edge_32 (mX3_edgeHeight hY (show is_X3 42 by decide) h) rfl rfl ⟨Nat.le_of_ble_eq_true rfl, Nat.le_of_ble_eq_true rfl⟩ (Nat.le_of_ble_eq_true rfl) (fun r3 σ2 h => ?_)
    exact vv_iret C dX8_edge_35 h
  replace h := h.2
  by_cases hc4 : a1 = (1 : Int32)
  · replace h := h.1 hc4
    refine vv_lkp (pc := 1) (off := 35) C 36 dX8_edge_1 hc4 (by decide) (by decide) (by decide) ?_
    refine vv_aload_n C 0 dX8_edge_36 rfl rfl ?_
    refine vv_getr (r := 42) C kc_X8 (s_X8 hY) 3 (by decide) rfl fk_X8_31 dX8_edge_37 ?_
    refine vv_callI (rest := []) C yk_X3_lowestPlace vk_X3_lowestPlace lk_X8_139 kc_X3.1 (s_X3 hY (show is_X3 42 by decide)) dX8_edge_40 (mX3_lowestPlace hY (show is_X3 42 by decide) h) rfl rfl ⟨Nat.le_of_ble_eq_true rfl, Nat.le_of_ble_eq_true rfl⟩ (Nat.le_of_ble_eq_true rfl) (fun r6 σ5 h => ?_)
    exact vv_iret C dX8_edge_43 h
  replace h := h.2
  replace h := h ⟨hc1, hc4⟩
  refine vv_lookup (pc := 1) (off := 43) C 44 dX8_edge_1 (by decide) ((lv_osw hc1 (by decide)) |>.trans (lv_osw hc4 (by decide))) (by decide) ?_
  refine vv_iconst C dX8_edge_44 ki_m1 ?_
  exact vv_iret C dX8_edge_45 h
set_option maxHeartbeats 2000000 in
set_option maxRecDepth 100000 in
theorem mX8_comes {Y : vv_Y} (hY : Y.2.2.2.2 = wC) {a1 : Int32} {σ : vv_S} {post : Int32 → vv_S → Prop} (h : wX8_comes a1 σ post) : vv_MI Y yX8_comes cX8_comes 2 (some .int) 2 35 [.ref (vv_q Y 0), .int a1] σ post := by
  refine vv_ofI (by decide) (Nat.le_of_ble_eq_true rfl) (fun X C => ?_)
  have C : VC Y X RX8 cX8_comes 2 (some .int) 2 35 := C
  refine vv_sub [0, 1] (L' := [(0, .ref (vv_q Y 0)), (1, .int a1)]) rfl ?_
  refine vv_iload_n C 1 dX8_comes_0 rfl rfl ?_
  refine vv_iconst C dX8_comes_1 ki_1 ?_
  refine vv_sipush C dX8_comes_2 ks_999 ?_
  refine vv_callS (rest := []) C yk_X8_isWithin sk_X8_isWithin lk_X8_92 dX8_comes_5 (mX8_isWithin hY h) rfl rfl ⟨Nat.le_of_ble_eq_true rfl, Nat.le_of_ble_eq_true rfl⟩ (Nat.le_of_ble_eq_true rfl) (fun r2 σ1 h => ?_)
  refine vv_join (fun k => ∀ (v3 : Int32) (σ4 : vv_S), k v3 σ4 → VJ Y X (va_Qi post (vv_B Y) X.2) 2 26 [] [.int v3] σ4) h (fun v3 σ4 h => ?_) (fun k26_4 hJk26_4 h => ?_)
  · exact vv_iret C dX8_comes_26 h
  · refine vv_if_eq (pc := 8) C 25 dX8_comes_8 (by decide) (fun hc6 => ?_) (fun hc6 => ?_)
    · replace h := h.1 hc6
      refine vv_iconst C dX8_comes_25 ki_m1 ?_
      refine vv_sub [] (L' := []) rfl ?_
      exact hJk26_4 _ _ h
    · replace h := h.2 hc6
      refine vv_aload_n C 0 dX8_comes_11 rfl rfl ?_
      refine vv_getr (r := 4) C kc_X8 (s_X8 hY) 1 (by decide) rfl fk_X8_19 dX8_comes_12 ?_
      refine vv_callR (r := 7) (rest := []) C yk_X4_brook vk_X4_brook lk_X8_142 kc_X4.1 (s_X4 hY (show is_X4 4 by decide)) dX8_comes_15 (mX4_brook hY (show is_X4 4 by decide) h) rfl rfl ⟨Nat.le_of_ble_eq_true rfl, Nat.le_of_ble_eq_true rfl⟩ (Nat.le_of_ble_eq_true rfl) (fun σ7 h => ?_)
      refine vv_iload_n C 1 dX8_comes_18 rfl rfl ?_
      refine vv_callI (rest := []) C yk_X1_comesIn vk_X1_comesIn lk_X8_146 kc_X1.1 (s_X1 hY (show is_X1 7 by decide)) dX8_comes_19 (mX1_comesIn hY (show is_X1 7 by decide) h) rfl rfl ⟨Nat.le_of_ble_eq_true rfl, Nat.le_of_ble_eq_true rfl⟩ (Nat.le_of_ble_eq_true rfl) (fun r9 σ8 h => ?_)
      refine vv_goto (pc := 22) (tgt := 26) C dX8_comes_22 (by decide) ?_
      refine vv_sub [] (L' := []) rfl ?_
      exact hJk26_4 _ _ h
set_option maxHeartbeats 2000000 in
set_option maxRecDepth 100000 in
theorem mX8_put {Y : vv_Y} (hY : Y.2.2.2.2 = wC) {a1 : Int32} {a2 : Int32} {a3 : Int32} {σ : vv_S} {post : Int32 → vv_S → Prop} (h : wX8_put a1 a2 a3 σ post) : vv_MI Y yX8_put cX8_put 4 (some .int) 4 88 [.ref (vv_q Y 0), .int a1, .int a2, .int a3] σ post := by
  refine vv_ofI (by decide) (Nat.le_of_ble_eq_true rfl) (fun X C => ?_)
  have C : VC Y X RX8 cX8_put 4 (some .int) 4 88 := C
  refine vv_sub [0, 1, 2, 3] (L' := [(0, .ref (vv_q Y 0)), (1, .int a1), (2, .int a2), (3, .int a3)]) rfl ?_
  refine vv_aload_n C 0 dX8_put_0 rfl rfl ?_
  refine vv_iload_n C 1 dX8_put_1 rfl rfl ?_
  refine vv_callI (rest := []) C yk_X8_isCell vk_X8_isCell lk_X8_108 kc_X8.1 (s_X8 hY) dX8_put_2 (mX8_isCell hY h) rfl rfl ⟨Nat.le_of_ble_eq_true rfl, Nat.le_of_ble_eq_true rfl⟩ (Nat.le_of_ble_eq_true rfl) (fun r2 σ1 h => ?_)
  refine vv_join (fun k => ∀ (σ3 : vv_S), k σ3 → VJ Y X (va_Qi post (vv_B Y) X.2) 4 25 [] [] σ3) h (fun σ3 h => ?_) (fun k25_3 hJk25_3 h => ?_)
  · refine vv_iconst C dX8_put_25 ki_m1 ?_
    exact vv_iret C dX8_put_26 h
  · refine vv_if_eq (pc := 5) C 25 dX8_put_5 (by decide) (fun hc5 => ?_) (fun hc5 => ?_)
    · replace h := h.1 hc5
      refine vv_sub [] (L' := []) rfl ?_
      exact hJk25_3 _ h
    · replace h := h.2 hc5
      refine vv_iload_n C 2 dX8_put_8 rfl rfl ?_
      refine vv_callS (rest := []) C yk_X8_isStuff sk_X8_isStuff lk_X8_151 dX8_put_9 (mX8_isStuff hY h) rfl rfl ⟨Nat.le_of_ble_eq_true rfl, Nat.le_of_ble_eq_true rfl⟩ (Nat.le_of_ble_eq_true rfl) (fun r7 σ6 h => ?_)
      refine vv_if_eq (pc := 12) C 25 dX8_put_12 (by decide) (fun hc8 => ?_) (fun hc8 => ?_)
      · replace h := h.1 hc8
        refine vv_sub [] (L' := []) rfl ?_
        exact hJk25_3 _ h
      · replace h := h.2 hc8
        refine vv_iload_n C 3 dX8_put_15 rfl rfl ?_
        refine vv_iconst C dX8_put_16 ki_1 ?_
        refine vv_bipush C dX8_put_17 kb_9 ?_
        refine vv_callS (rest := []) C yk_X8_isWithin sk_X8_isWithin lk_X8_92 dX8_put_19 (mX8_isWithin hY h) rfl rfl ⟨Nat.le_of_ble_eq_true rfl, Nat.le_of_ble_eq_true rfl⟩ (Nat.le_of_ble_eq_true rfl) (fun r10 σ9 h => ?_)
        refine vv_if_ne (pc := 22) C 27 dX8_put_22 (by decide) (fun hc11 => ?_) (fun hc11 => ?_)
        · replace h := h.1 hc11
          refine vv_aload_n C 0 dX8_put_27 rfl rfl ?_
          refine vv_getr (r := 42) C kc_X8 (s_X8 hY) 3 (by decide) rfl fk_X8_31 dX8_put_28 ?_
          refine vv_iload_n C 1 dX8_put_31 rfl rfl ?_
          refine vv_iload_n C 3 dX8_put_32 rfl rfl ?_
          refine vv_callI (rest := []) C yk_X3_canRaise vk_X3_canRaise lk_X8_154 kc_X3.1 (s_X3 hY (show is_X3 42 by decide)) dX8_put_33 (mX3_canRaise hY (show is_X3 42 by decide) h) rfl rfl ⟨Nat.le_of_ble_eq_true rfl, Nat.le_of_ble_eq_true rfl⟩ (Nat.le_of_ble_eq_true rfl) (fun r13 σ12 h => ?_)
          refine vv_if_ne (pc := 36) C 42 dX8_put_36 (by decide) (fun hc14 => ?_) (fun hc14 => ?_)
          · replace h := h.1 hc14
            refine vv_aload_n C 0 dX8_put_42 rfl rfl ?_
            refine vv_getr (r := 50) C kc_X8 (s_X8 hY) 5 (by decide) rfl fk_X8_41 dX8_put_43 ?_
            refine vv_iconst C dX8_put_46 ki_0 ?_
            refine vv_iload_n C 1 dX8_put_47 rfl rfl ?_
            refine vv_iload_n C 2 dX8_put_48 rfl rfl ?_
            refine vv_iload_n C 3 dX8_put_49 rfl rfl ?_
            refine vv_callI (rest := []) C yk_X0_add vk_X0_add lk_X8_158 kc_X0.1 (s_X0 hY (show is_X0 50 by decide)) dX8_put_50 (mX0_add hY (show is_X0 50 by decide) h) rfl rfl ⟨Nat.le_of_ble_eq_true rfl, Nat.le_of_ble_eq_true rfl⟩ (Nat.le_of_ble_eq_true rfl) (fun r16 σ15 h => ?_)
            refine vv_if_ne (pc := 53) C 59 dX8_put_53 (by decide) (fun hc17 => ?_) (fun hc17 => ?_)
            · replace h := h.1 hc17
              refine vv_aload_n C 0 dX8_put_59 rfl rfl ?_
              refine vv_getr (r := 42) C kc_X8 (s_X8 hY) 3 (by decide) rfl fk_X8_31 dX8_put_60 ?_
              refine vv_iload_n C 1 dX8_put_63 rfl rfl ?_
              refine vv_iload_n C 2 dX8_put_64 rfl rfl ?_
              refine vv_iload_n C 3 dX8_put_65 rfl rfl ?_
              refine vv_callV (rest := []) C yk_X3_layAt vk_X3_layAt lk_X8_161 kc_X3.1 (s_X3 hY (show is_X3 42 by decide)) dX8_put_66 (mX3_layAt hY (show is_X3 42 by decide) h) rfl rfl ⟨Nat.le_of_ble_eq_true rfl, Nat.le_of_ble_eq_true rfl⟩ (Nat.le_of_ble_eq_true rfl) (fun σ18 h => ?_)
              refine vv_aload_n C 0 dX8_put_69 rfl rfl ?_
              refine vv_getr (r := 42) C kc_X8 (s_X8 hY) 3 (by decide) rfl fk_X8_31 dX8_put_70 ?_
              refine vv_iload_n C 1 dX8_put_73 rfl rfl ?_
              refine vv_callI (rest := []) C yk_X3_heightAt vk_X3_heightAt lk_X8_111 kc_X3.1 (s_X3 hY (show is_X3 42 by decide)) dX8_put_74 (mX3_heightAt hY (show is_X3 42 by decide) h) rfl rfl ⟨Nat.le_of_ble_eq_true rfl, Nat.le_of_ble_eq_true rfl⟩ (Nat.le_of_ble_eq_true rfl) (fun r20 σ19 h => ?_)
              exact vv_iret C dX8_put_77 h
            · replace h := h.2 hc17
              refine vv_bipush C dX8_put_56 kb_m3 ?_
              exact vv_iret C dX8_put_58 h
          · replace h := h.2 hc14
            refine vv_bipush C dX8_put_39 kb_m2 ?_
            exact vv_iret C dX8_put_41 h
        · replace h := h.2 hc11
          refine vv_sub [] (L' := []) rfl ?_
          exact hJk25_3 _ h
set_option maxHeartbeats 2000000 in
set_option maxRecDepth 100000 in
theorem mX8_dig {Y : vv_Y} (hY : Y.2.2.2.2 = wC) {a1 : Int32} {a2 : Int32} {σ : vv_S} {post : Int32 → vv_S → Prop} (h : wX8_dig a1 a2 σ post) : vv_MI Y yX8_dig cX8_dig 3 (some .int) 4 87 [.ref (vv_q Y 0), .int a1, .int a2] σ post := by
  refine vv_ofI (by decide) (Nat.le_of_ble_eq_true rfl) (fun X C => ?_)
  have C : VC Y X RX8 cX8_dig 3 (some .int) 4 87 := C
  refine vv_sub [0, 1, 2] (L' := [(0, .ref (vv_q Y 0)), (1, .int a1), (2, .int a2)]) rfl ?_
  refine vv_aload_n C 0 dX8_dig_0 rfl rfl ?_
  refine vv_iload_n C 1 dX8_dig_1 rfl rfl ?_
  refine vv_callI (rest := []) C yk_X8_isCell vk_X8_isCell lk_X8_108 kc_X8.1 (s_X8 hY) dX8_dig_2 (mX8_isCell hY h) rfl rfl ⟨Nat.le_of_ble_eq_true rfl, Nat.le_of_ble_eq_true rfl⟩ (Nat.le_of_ble_eq_true rfl) (fun r2 σ1 h => ?_)
  refine vv_join (fun k => ∀ (σ3 : vv_S), k σ3 → VJ Y X (va_Qi post (vv_B Y) X.2) 3 18 [] [] σ3) h (fun σ3 h => ?_) (fun k18_3 hJk18_3 h => ?_)
  · refine vv_iconst C dX8_dig_18 ki_m1 ?_
    exact vv_iret C dX8_dig_19 h
  · refine vv_if_eq (pc := 5) C 18 dX8_dig_5 (by decide) (fun hc5 => ?_) (fun hc5 => ?_)
    · replace h := h.1 hc5
      refine vv_sub [] (L' := []) rfl ?_
      exact hJk18_3 _ h
    · replace h := h.2 hc5
      refine vv_iload_n C 2 dX8_dig_8 rfl rfl ?_
      refine vv_iconst C dX8_dig_9 ki_1 ?_
      refine vv_bipush C dX8_dig_10 kb_9 ?_
      refine vv_callS (rest := []) C yk_X8_isWithin sk_X8_isWithin lk_X8_92 dX8_dig_12 (mX8_isWithin hY h) rfl rfl ⟨Nat.le_of_ble_eq_true rfl, Nat.le_of_ble_eq_true rfl⟩ (Nat.le_of_ble_eq_true rfl) (fun r7 σ6 h => ?_)
      refine vv_if_ne (pc := 15) C 20 dX8_dig_15 (by decide) (fun hc8 => ?_) (fun hc8 => ?_)
      · replace h := h.1 hc8
        refine vv_aload_n C 0 dX8_dig_20 rfl rfl ?_
        refine vv_getr (r := 42) C kc_X8 (s_X8 hY) 3 (by decide) rfl fk_X8_31 dX8_dig_21 ?_
        refine vv_iload_n C 1 dX8_dig_24 rfl rfl ?_
        refine vv_iload_n C 2 dX8_dig_25 rfl rfl ?_
        refine vv_callI (rest := []) C yk_X3_canDig vk_X3_canDig lk_X8_165 kc_X3.1 (s_X3 hY (show is_X3 42 by decide)) dX8_dig_26 (mX3_canDig hY (show is_X3 42 by decide) h) rfl rfl ⟨Nat.le_of_ble_eq_true rfl, Nat.le_of_ble_eq_true rfl⟩ (Nat.le_of_ble_eq_true rfl) (fun r10 σ9 h => ?_)
        refine vv_if_ne (pc := 29) C 35 dX8_dig_29 (by decide) (fun hc11 => ?_) (fun hc11 => ?_)
        · replace h := h.1 hc11
          refine vv_aload_n C 0 dX8_dig_35 rfl rfl ?_
          refine vv_getr (r := 50) C kc_X8 (s_X8 hY) 5 (by decide) rfl fk_X8_41 dX8_dig_36 ?_
          refine vv_iconst C dX8_dig_39 ki_1 ?_
          refine vv_iload_n C 1 dX8_dig_40 rfl rfl ?_
          refine vv_iconst C dX8_dig_41 ki_0 ?_
          refine vv_iload_n C 2 dX8_dig_42 rfl rfl ?_
          refine vv_callI (rest := []) C yk_X0_add vk_X0_add lk_X8_158 kc_X0.1 (s_X0 hY (show is_X0 50 by decide)) dX8_dig_43 (mX0_add hY (show is_X0 50 by decide) h) rfl rfl ⟨Nat.le_of_ble_eq_true rfl, Nat.le_of_ble_eq_true rfl⟩ (Nat.le_of_ble_eq_true rfl) (fun r13 σ12 h => ?_)
          refine vv_if_ne (pc := 46) C 52 dX8_dig_46 (by decide) (fun hc14 => ?_) (fun hc14 => ?_)
          · replace h := h.1 hc14
            refine vv_aload_n C 0 dX8_dig_52 rfl rfl ?_
            refine vv_getr (r := 42) C kc_X8 (s_X8 hY) 3 (by decide) rfl fk_X8_31 dX8_dig_53 ?_
            refine vv_iload_n C 1 dX8_dig_56 rfl rfl ?_
            refine vv_iload_n C 2 dX8_dig_57 rfl rfl ?_
            refine vv_callV (rest := []) C yk_X3_digAt vk_X3_digAt lk_X8_168 kc_X3.1 (s_X3 hY (show is_X3 42 by decide)) dX8_dig_58 (mX3_digAt hY (show is_X3 42 by decide) h) rfl rfl ⟨Nat.le_of_ble_eq_true rfl, Nat.le_of_ble_eq_true rfl⟩ (Nat.le_of_ble_eq_true rfl) (fun σ15 h => ?_)
            refine vv_aload_n C 0 dX8_dig_61 rfl rfl ?_
            refine vv_getr (r := 42) C kc_X8 (s_X8 hY) 3 (by decide) rfl fk_X8_31 dX8_dig_62 ?_
            refine vv_iload_n C 1 dX8_dig_65 rfl rfl ?_
            refine vv_callI (rest := []) C yk_X3_heightAt vk_X3_heightAt lk_X8_111 kc_X3.1 (s_X3 hY (show is_X3 42 by decide)) dX8_dig_66 (mX3_heightAt hY (show is_X3 42 by decide) h) rfl rfl ⟨Nat.le_of_ble_eq_true rfl, Nat.le_of_ble_eq_true rfl⟩ (Nat.le_of_ble_eq_true rfl) (fun r17 σ16 h => ?_)
            exact vv_iret C dX8_dig_69 h
          · replace h := h.2 hc14
            refine vv_bipush C dX8_dig_49 kb_m3 ?_
            exact vv_iret C dX8_dig_51 h
        · replace h := h.2 hc11
          refine vv_bipush C dX8_dig_32 kb_m2 ?_
          exact vv_iret C dX8_dig_34 h
      · replace h := h.2 hc8
        refine vv_sub [] (L' := []) rfl ?_
        exact hJk18_3 _ h
set_option maxHeartbeats 2000000 in
set_option maxRecDepth 100000 in
theorem mX8_pass {Y : vv_Y} (hY : Y.2.2.2.2 = wC) {a1 : Int32} {σ : vv_S} {post : Int32 → vv_S → Prop} (h : wX8_pass a1 σ post) : vv_MI Y yX8_pass cX8_pass 2 (some .int) 4 91 [.ref (vv_q Y 0), .int a1] σ post := by
  refine vv_ofI (by decide) (Nat.le_of_ble_eq_true rfl) (fun X C => ?_)
  have C : VC Y X RX8 cX8_pass 2 (some .int) 4 91 := C
  refine vv_sub [0, 1] (L' := [(0, .ref (vv_q Y 0)), (1, .int a1)]) rfl ?_
  refine vv_iload_n C 1 dX8_pass_0 rfl rfl ?_
  refine vv_iconst C dX8_pass_1 ki_1 ?_
  refine vv_bipush C dX8_pass_2 kb_60 ?_
  refine vv_callS (rest := []) C yk_X8_isWithin sk_X8_isWithin lk_X8_92 dX8_pass_4 (mX8_isWithin hY h) rfl rfl ⟨Nat.le_of_ble_eq_true rfl, Nat.le_of_ble_eq_true rfl⟩ (Nat.le_of_ble_eq_true rfl) (fun r2 σ1 h => ?_)
  refine vv_if_ne (pc := 7) C 12 dX8_pass_7 (by decide) (fun hc3 => ?_) (fun hc3 => ?_)
  · replace h := h.1 hc3
    refine vv_aload_n C 0 dX8_pass_12 rfl rfl ?_
    refine vv_getr (r := 42) C kc_X8 (s_X8 hY) 3 (by decide) rfl fk_X8_31 dX8_pass_13 ?_
    refine vv_iload_n C 1 dX8_pass_16 rfl rfl ?_
    refine vv_callI (rest := []) C yk_X3_canPass vk_X3_canPass lk_X8_172 kc_X3.1 (s_X3 hY (show is_X3 42 by decide)) dX8_pass_17 (mX3_canPass hY (show is_X3 42 by decide) h) rfl rfl ⟨Nat.le_of_ble_eq_true rfl, Nat.le_of_ble_eq_true rfl⟩ (Nat.le_of_ble_eq_true rfl) (fun r5 σ4 h => ?_)
    refine vv_if_ne (pc := 20) C 26 dX8_pass_20 (by decide) (fun hc6 => ?_) (fun hc6 => ?_)
    · replace h := h.1 hc6
      refine vv_aload_n C 0 dX8_pass_26 rfl rfl ?_
      refine vv_getr (r := 50) C kc_X8 (s_X8 hY) 5 (by decide) rfl fk_X8_41 dX8_pass_27 ?_
      refine vv_iconst C dX8_pass_30 ki_2 ?_
      refine vv_iconst C dX8_pass_31 ki_0 ?_
      refine vv_iconst C dX8_pass_32 ki_0 ?_
      refine vv_iload_n C 1 dX8_pass_33 rfl rfl ?_
      refine vv_callI (rest := []) C yk_X0_add vk_X0_add lk_X8_158 kc_X0.1 (s_X0 hY (show is_X0 50 by decide)) dX8_pass_34 (mX0_add hY (show is_X0 50 by decide) h) rfl rfl ⟨Nat.le_of_ble_eq_true rfl, Nat.le_of_ble_eq_true rfl⟩ (Nat.le_of_ble_eq_true rfl) (fun r8 σ7 h => ?_)
      refine vv_if_ne (pc := 37) C 43 dX8_pass_37 (by decide) (fun hc9 => ?_) (fun hc9 => ?_)
      · replace h := h.1 hc9
        refine vv_aload_n C 0 dX8_pass_43 rfl rfl ?_
        refine vv_getr (r := 42) C kc_X8 (s_X8 hY) 3 (by decide) rfl fk_X8_31 dX8_pass_44 ?_
        refine vv_iload_n C 1 dX8_pass_47 rfl rfl ?_
        refine vv_iconst C dX8_pass_48 ki_0 ?_
        refine vv_callV (rest := []) C yk_X3_letPass vk_X3_letPass lk_X8_175 kc_X3.1 (s_X3 hY (show is_X3 42 by decide)) dX8_pass_49 (mX3_letPass hY (show is_X3 42 by decide) h) rfl rfl ⟨Nat.le_of_ble_eq_true rfl, Nat.le_of_ble_eq_true rfl⟩ (Nat.le_of_ble_eq_true rfl) (fun σ10 h => ?_)
        refine vv_aload_n C 0 dX8_pass_52 rfl rfl ?_
        refine vv_getr (r := 42) C kc_X8 (s_X8 hY) 3 (by decide) rfl fk_X8_31 dX8_pass_53 ?_
        refine vv_callI (rest := []) C yk_X3_level vk_X3_level lk_X8_121 kc_X3.1 (s_X3 hY (show is_X3 42 by decide)) dX8_pass_56 (mX3_level hY (show is_X3 42 by decide) h) rfl rfl ⟨Nat.le_of_ble_eq_true rfl, Nat.le_of_ble_eq_true rfl⟩ (Nat.le_of_ble_eq_true rfl) (fun r12 σ11 h => ?_)
        exact vv_iret C dX8_pass_59 h
      · replace h := h.2 hc9
        refine vv_bipush C dX8_pass_40 kb_m3 ?_
        exact vv_iret C dX8_pass_42 h
    · replace h := h.2 hc6
      refine vv_bipush C dX8_pass_23 kb_m2 ?_
      exact vv_iret C dX8_pass_25 h
  · replace h := h.2 hc3
    refine vv_iconst C dX8_pass_10 ki_m1 ?_
    exact vv_iret C dX8_pass_11 h
set_option maxHeartbeats 2000000 in
set_option maxRecDepth 100000 in
theorem mX8_undo {Y : vv_Y} (hY : Y.2.2.2.2 = wC)  {σ : vv_S} {post : Int32 → vv_S → Prop} (h : wX8_undo σ post) : vv_MI Y yX8_undo cX8_undo 1 (some .int) 6 138 [.ref (vv_q Y 0)] σ post := by
  refine vv_ofI (by decide) (Nat.le_of_ble_eq_true rfl) (fun X C => ?_)
  have C : VC Y X RX8 cX8_undo 1 (some .int) 6 138 := C
  refine vv_sub [0] (L' := [(0, .ref (vv_q Y 0))]) rfl ?_
  refine vv_aload_n C 0 dX8_undo_0 rfl rfl ?_
  refine vv_getr (r := 50) C kc_X8 (s_X8 hY) 5 (by decide) rfl fk_X8_41 dX8_undo_1 ?_
  refine vv_callI (rest := []) C yk_X0_size vk_X0_size lk_X8_178 kc_X0.1 (s_X0 hY (show is_X0 50 by decide)) dX8_undo_4 (mX0_size hY (show is_X0 50 by decide) h) rfl rfl ⟨Nat.le_of_ble_eq_true rfl, Nat.le_of_ble_eq_true rfl⟩ (Nat.le_of_ble_eq_true rfl) (fun r2 σ1 h => ?_)
  refine vv_if_ne (pc := 7) C 13 dX8_undo_7 (by decide) (fun hc3 => ?_) (fun hc3 => ?_)
  · replace h := h.1 hc3
    refine vv_aload_n C 0 dX8_undo_13 rfl rfl ?_
    refine vv_getr (r := 50) C kc_X8 (s_X8 hY) 5 (by decide) rfl fk_X8_41 dX8_undo_14 ?_
    refine vv_callV (rest := []) C yk_X0_dropLast vk_X0_dropLast lk_X8_179 kc_X0.1 (s_X0 hY (show is_X0 50 by decide)) dX8_undo_17 (mX0_dropLast hY (show is_X0 50 by decide) h) rfl rfl ⟨Nat.le_of_ble_eq_true rfl, Nat.le_of_ble_eq_true rfl⟩ (Nat.le_of_ble_eq_true rfl) (fun σ4 h => ?_)
    refine vv_aload_n C 0 dX8_undo_20 rfl rfl ?_
    refine vv_getr (r := 50) C kc_X8 (s_X8 hY) 5 (by decide) rfl fk_X8_41 dX8_undo_21 ?_
    refine vv_bipush C dX8_undo_24 kb_m4 ?_
    refine vv_aload_n C 0 dX8_undo_26 rfl rfl ?_
    refine vv_getr (r := 42) C kc_X8 (s_X8 hY) 3 (by decide) rfl fk_X8_31 dX8_undo_27 ?_
    refine vv_callV (rest := []) C yk_X0_doAllBut vk_X0_doAllBut lk_X8_182 kc_X0.1 (s_X0 hY (show is_X0 50 by decide)) dX8_undo_30 (mX0_doAllBut hY (show is_X0 50 by decide) (show is_X3 42 by decide) h) rfl rfl ⟨Nat.le_of_ble_eq_true rfl, Nat.le_of_ble_eq_true rfl⟩ (Nat.le_of_ble_eq_true rfl) (fun σ5 h => ?_)
    refine vv_aload_n C 0 dX8_undo_33 rfl rfl ?_
    refine vv_getr (r := 50) C kc_X8 (s_X8 hY) 5 (by decide) rfl fk_X8_41 dX8_undo_34 ?_
    refine vv_callI (rest := []) C yk_X0_size vk_X0_size lk_X8_178 kc_X0.1 (s_X0 hY (show is_X0 50 by decide)) dX8_undo_37 (mX0_size hY (show is_X0 50 by decide) h) rfl rfl ⟨Nat.le_of_ble_eq_true rfl, Nat.le_of_ble_eq_true rfl⟩ (Nat.le_of_ble_eq_true rfl) (fun r7 σ6 h => ?_)
    exact vv_iret C dX8_undo_40 h
  · replace h := h.2 hc3
    refine vv_bipush C dX8_undo_10 kb_m2 ?_
    exact vv_iret C dX8_undo_12 h
set_option maxHeartbeats 2000000 in
set_option maxRecDepth 100000 in
theorem mX8_behind {Y : vv_Y} (hY : Y.2.2.2.2 = wC) {a1 : Int32} {a2 : Int32} {σ : vv_S} {post : Int32 → vv_S → Prop} (h : wX8_behind a1 a2 σ post) : vv_MI Y yX8_behind cX8_behind 3 (some .int) 4 91 [.ref (vv_q Y 0), .int a1, .int a2] σ post := by
  refine vv_ofI (by decide) (Nat.le_of_ble_eq_true rfl) (fun X C => ?_)
  have C : VC Y X RX8 cX8_behind 3 (some .int) 4 91 := C
  refine vv_sub [0, 1, 2] (L' := [(0, .ref (vv_q Y 0)), (1, .int a1), (2, .int a2)]) rfl ?_
  refine vv_iload_n C 1 dX8_behind_0 rfl rfl ?_
  refine vv_iconst C dX8_behind_1 ki_0 ?_
  refine vv_sipush C dX8_behind_2 ks_200 ?_
  refine vv_callS (rest := []) C yk_X8_isWithin sk_X8_isWithin lk_X8_92 dX8_behind_5 (mX8_isWithin hY h) rfl rfl ⟨Nat.le_of_ble_eq_true rfl, Nat.le_of_ble_eq_true rfl⟩ (Nat.le_of_ble_eq_true rfl) (fun r2 σ1 h => ?_)
  refine vv_join (fun k => ∀ (σ3 : vv_S), k σ3 → VJ Y X (va_Qi post (vv_B Y) X.2) 3 20 [] [] σ3) h (fun σ3 h => ?_) (fun k20_3 hJk20_3 h => ?_)
  · refine vv_iconst C dX8_behind_20 ki_m1 ?_
    exact vv_iret C dX8_behind_21 h
  · refine vv_if_eq (pc := 8) C 20 dX8_behind_8 (by decide) (fun hc5 => ?_) (fun hc5 => ?_)
    · replace h := h.1 hc5
      refine vv_sub [] (L' := []) rfl ?_
      exact hJk20_3 _ h
    · replace h := h.2 hc5
      refine vv_iload_n C 2 dX8_behind_11 rfl rfl ?_
      refine vv_iconst C dX8_behind_12 ki_0 ?_
      refine vv_iconst C dX8_behind_13 ki_2 ?_
      refine vv_callS (rest := []) C yk_X8_isWithin sk_X8_isWithin lk_X8_92 dX8_behind_14 (mX8_isWithin hY h) rfl rfl ⟨Nat.le_of_ble_eq_true rfl, Nat.le_of_ble_eq_true rfl⟩ (Nat.le_of_ble_eq_true rfl) (fun r7 σ6 h => ?_)
      refine vv_if_ne (pc := 17) C 22 dX8_behind_17 (by decide) (fun hc8 => ?_) (fun hc8 => ?_)
      · replace h := h.1 hc8
        refine vv_aload_n C 0 dX8_behind_22 rfl rfl ?_
        refine vv_getr (r := 46) C kc_X8 (s_X8 hY) 4 (by decide) rfl fk_X8_35 dX8_behind_23 ?_
        refine vv_aload_n C 0 dX8_behind_26 rfl rfl ?_
        refine vv_getr (r := 42) C kc_X8 (s_X8 hY) 3 (by decide) rfl fk_X8_31 dX8_behind_27 ?_
        refine vv_callV (rest := []) C yk_X3_copyFrom vk_X3_copyFrom lk_X8_186 kc_X3.1 (s_X3 hY (show is_X3 46 by decide)) dX8_behind_30 (mX3_copyFrom hY (show is_X3 46 by decide) (show is_X3 42 by decide) h) rfl rfl ⟨Nat.le_of_ble_eq_true rfl, Nat.le_of_ble_eq_true rfl⟩ (Nat.le_of_ble_eq_true rfl) (fun σ9 h => ?_)
        refine vv_aload_n C 0 dX8_behind_33 rfl rfl ?_
        refine vv_getr (r := 46) C kc_X8 (s_X8 hY) 4 (by decide) rfl fk_X8_35 dX8_behind_34 ?_
        refine vv_iload_n C 1 dX8_behind_37 rfl rfl ?_
        refine vv_iconst C dX8_behind_38 ki_0 ?_
        refine vv_callV (rest := []) C yk_X3_letPass vk_X3_letPass lk_X8_175 kc_X3.1 (s_X3 hY (show is_X3 46 by decide)) dX8_behind_39 (mX3_letPass hY (show is_X3 46 by decide) h) rfl rfl ⟨Nat.le_of_ble_eq_true rfl, Nat.le_of_ble_eq_true rfl⟩ (Nat.le_of_ble_eq_true rfl) (fun σ10 h => ?_)
        refine vv_iload_n C 2 dX8_behind_42 rfl rfl ?_
        by_cases hc11 : a2 = (0 : Int32)
        · replace h := h.1 hc11
          refine vv_lkp (pc := 43) (off := 25) C 68 dX8_behind_43 hc11 (by decide) (by decide) (by decide) ?_
          refine vv_aload_n C 0 dX8_behind_68 rfl rfl ?_
          refine vv_getr (r := 46) C kc_X8 (s_X8 hY) 4 (by decide) rfl fk_X8_35 dX8_behind_69 ?_
          refine vv_callI (rest := []) C yk_X3_level vk_X3_level lk_X8_121 kc_X3.1 (s_X3 hY (show is_X3 46 by decide)) dX8_behind_72 (mX3_level hY (show is_X3 46 by decide) h) rfl rfl ⟨Nat.le_of_ble_eq_true rfl, Nat.le_of_ble_eq_true rfl⟩ (Nat.le_of_ble_eq_true rfl) (fun r13 σ12 h => ?_)
          exact vv_iret C dX8_behind_75 h
        replace h := h.2
        by_cases hc14 : a2 = (1 : Int32)
        · replace h := h.1 hc14
          refine vv_lkp (pc := 43) (off := 33) C 76 dX8_behind_43 hc14 (by decide) (by decide) (by decide) ?_
          refine vv_aload_n C 0 dX8_behind_76 rfl rfl ?_
          refine vv_getr (r := 46) C kc_X8 (s_X8 hY) 4 (by decide) rfl fk_X8_35 dX8_behind_77 ?_
          refine vv_callI (rest := []) C yk_X3_units vk_X3_units lk_X8_124 kc_X3.1 (s_X3 hY (show is_X3 46 by decide)) dX8_behind_80 (mX3_units hY (show is_X3 46 by decide) h) rfl rfl ⟨Nat.le_of_ble_eq_true rfl, Nat.le_of_ble_eq_true rfl⟩ (Nat.le_of_ble_eq_true rfl) (fun r16 σ15 h => ?_)
          exact vv_iret C dX8_behind_83 h
        replace h := h.2
        replace h := h ⟨hc11, hc14⟩
        refine vv_lookup (pc := 43) (off := 41) C 84 dX8_behind_43 (by decide) ((lv_osw hc11 (by decide)) |>.trans (lv_osw hc14 (by decide))) (by decide) ?_
        refine vv_aload_n C 0 dX8_behind_84 rfl rfl ?_
        refine vv_getr (r := 46) C kc_X8 (s_X8 hY) 4 (by decide) rfl fk_X8_35 dX8_behind_85 ?_
        refine vv_callI (rest := []) C yk_X3_allOver vk_X3_allOver lk_X8_130 kc_X3.1 (s_X3 hY (show is_X3 46 by decide)) dX8_behind_88 (mX3_allOver hY (show is_X3 46 by decide) h) rfl rfl ⟨Nat.le_of_ble_eq_true rfl, Nat.le_of_ble_eq_true rfl⟩ (Nat.le_of_ble_eq_true rfl) (fun r18 σ17 h => ?_)
        refine vv_aload_n C 0 dX8_behind_91 rfl rfl ?_
        refine vv_getr (r := 42) C kc_X8 (s_X8 hY) 3 (by decide) rfl fk_X8_31 dX8_behind_92 ?_
        refine vv_callI (rest := [.int r18]) C yk_X3_allOver vk_X3_allOver lk_X8_130 kc_X3.1 (s_X3 hY (show is_X3 42 by decide)) dX8_behind_95 (mX3_allOver hY (show is_X3 42 by decide) h) rfl rfl ⟨Nat.le_of_ble_eq_true rfl, Nat.le_of_ble_eq_true rfl⟩ (Nat.le_of_ble_eq_true rfl) (fun r20 σ19 h => ?_)
        refine vv_isub C dX8_behind_98 ?_
        exact vv_iret C dX8_behind_99 h
      · replace h := h.2 hc8
        refine vv_sub [] (L' := []) rfl ?_
        exact hJk20_3 _ h
set_option maxHeartbeats 2000000 in
set_option maxRecDepth 100000 in
theorem mX8_worn {Y : vv_Y} (hY : Y.2.2.2.2 = wC) {a1 : Int32} {a2 : Int32} {σ : vv_S} {post : Int32 → vv_S → Prop} (h : wX8_worn a1 a2 σ post) : vv_MI Y yX8_worn cX8_worn 3 (some .int) 4 91 [.ref (vv_q Y 0), .int a1, .int a2] σ post := by
  refine vv_ofI (by decide) (Nat.le_of_ble_eq_true rfl) (fun X C => ?_)
  have C : VC Y X RX8 cX8_worn 3 (some .int) 4 91 := C
  refine vv_sub [0, 1, 2] (L' := [(0, .ref (vv_q Y 0)), (1, .int a1), (2, .int a2)]) rfl ?_
  refine vv_aload_n C 0 dX8_worn_0 rfl rfl ?_
  refine vv_iload_n C 1 dX8_worn_1 rfl rfl ?_
  refine vv_callI (rest := []) C yk_X8_isCell vk_X8_isCell lk_X8_108 kc_X8.1 (s_X8 hY) dX8_worn_2 (mX8_isCell hY h) rfl rfl ⟨Nat.le_of_ble_eq_true rfl, Nat.le_of_ble_eq_true rfl⟩ (Nat.le_of_ble_eq_true rfl) (fun r2 σ1 h => ?_)
  refine vv_join (fun k => ∀ (σ3 : vv_S), k σ3 → VJ Y X (va_Qi post (vv_B Y) X.2) 3 19 [] [] σ3) h (fun σ3 h => ?_) (fun k19_3 hJk19_3 h => ?_)
  · refine vv_iconst C dX8_worn_19 ki_m1 ?_
    exact vv_iret C dX8_worn_20 h
  · refine vv_if_eq (pc := 5) C 19 dX8_worn_5 (by decide) (fun hc5 => ?_) (fun hc5 => ?_)
    · replace h := h.1 hc5
      refine vv_sub [] (L' := []) rfl ?_
      exact hJk19_3 _ h
    · replace h := h.2 hc5
      refine vv_iload_n C 2 dX8_worn_8 rfl rfl ?_
      refine vv_iconst C dX8_worn_9 ki_0 ?_
      refine vv_sipush C dX8_worn_10 ks_200 ?_
      refine vv_callS (rest := []) C yk_X8_isWithin sk_X8_isWithin lk_X8_92 dX8_worn_13 (mX8_isWithin hY h) rfl rfl ⟨Nat.le_of_ble_eq_true rfl, Nat.le_of_ble_eq_true rfl⟩ (Nat.le_of_ble_eq_true rfl) (fun r7 σ6 h => ?_)
      refine vv_if_ne (pc := 16) C 21 dX8_worn_16 (by decide) (fun hc8 => ?_) (fun hc8 => ?_)
      · replace h := h.1 hc8
        refine vv_aload_n C 0 dX8_worn_21 rfl rfl ?_
        refine vv_getr (r := 46) C kc_X8 (s_X8 hY) 4 (by decide) rfl fk_X8_35 dX8_worn_22 ?_
        refine vv_aload_n C 0 dX8_worn_25 rfl rfl ?_
        refine vv_getr (r := 42) C kc_X8 (s_X8 hY) 3 (by decide) rfl fk_X8_31 dX8_worn_26 ?_
        refine vv_callV (rest := []) C yk_X3_copyFrom vk_X3_copyFrom lk_X8_186 kc_X3.1 (s_X3 hY (show is_X3 46 by decide)) dX8_worn_29 (mX3_copyFrom hY (show is_X3 46 by decide) (show is_X3 42 by decide) h) rfl rfl ⟨Nat.le_of_ble_eq_true rfl, Nat.le_of_ble_eq_true rfl⟩ (Nat.le_of_ble_eq_true rfl) (fun σ9 h => ?_)
        refine vv_aload_n C 0 dX8_worn_32 rfl rfl ?_
        refine vv_getr (r := 46) C kc_X8 (s_X8 hY) 4 (by decide) rfl fk_X8_35 dX8_worn_33 ?_
        refine vv_iload_n C 2 dX8_worn_36 rfl rfl ?_
        refine vv_iconst C dX8_worn_37 ki_0 ?_
        refine vv_callV (rest := []) C yk_X3_letPass vk_X3_letPass lk_X8_175 kc_X3.1 (s_X3 hY (show is_X3 46 by decide)) dX8_worn_38 (mX3_letPass hY (show is_X3 46 by decide) h) rfl rfl ⟨Nat.le_of_ble_eq_true rfl, Nat.le_of_ble_eq_true rfl⟩ (Nat.le_of_ble_eq_true rfl) (fun σ10 h => ?_)
        refine vv_aload_n C 0 dX8_worn_41 rfl rfl ?_
        refine vv_getr (r := 46) C kc_X8 (s_X8 hY) 4 (by decide) rfl fk_X8_35 dX8_worn_42 ?_
        refine vv_iload_n C 1 dX8_worn_45 rfl rfl ?_
        refine vv_callI (rest := []) C yk_X3_heightAt vk_X3_heightAt lk_X8_111 kc_X3.1 (s_X3 hY (show is_X3 46 by decide)) dX8_worn_46 (mX3_heightAt hY (show is_X3 46 by decide) h) rfl rfl ⟨Nat.le_of_ble_eq_true rfl, Nat.le_of_ble_eq_true rfl⟩ (Nat.le_of_ble_eq_true rfl) (fun r12 σ11 h => ?_)
        exact vv_iret C dX8_worn_49 h
      · replace h := h.2 hc8
        refine vv_sub [] (L' := []) rfl ?_
        exact hJk19_3 _ h
set_option maxHeartbeats 2000000 in
set_option maxRecDepth 100000 in
theorem mX8_over {Y : vv_Y} (hY : Y.2.2.2.2 = wC) {a1 : Int32} {σ : vv_S} {post : Int32 → vv_S → Prop} (h : wX8_over a1 σ post) : vv_MI Y yX8_over cX8_over 3 (some .int) 4 89 [.ref (vv_q Y 0), .int a1] σ post := by
  refine vv_ofI (by decide) (Nat.le_of_ble_eq_true rfl) (fun X C => ?_)
  have C : VC Y X RX8 cX8_over 3 (some .int) 4 89 := C
  refine vv_sub [0, 1] (L' := [(0, .ref (vv_q Y 0)), (1, .int a1)]) rfl ?_
  refine vv_iload_n C 1 dX8_over_0 rfl rfl ?_
  refine vv_iconst C dX8_over_1 ki_0 ?_
  refine vv_iconst C dX8_over_2 ki_1 ?_
  refine vv_callS (rest := []) C yk_X8_isWithin sk_X8_isWithin lk_X8_92 dX8_over_3 (mX8_isWithin hY h) rfl rfl ⟨Nat.le_of_ble_eq_true rfl, Nat.le_of_ble_eq_true rfl⟩ (Nat.le_of_ble_eq_true rfl) (fun r2 σ1 h => ?_)
  refine vv_if_ne (pc := 6) C 11 dX8_over_6 (by decide) (fun hc3 => ?_) (fun hc3 => ?_)
  · replace h := h.1 hc3
    refine vv_aload_n C 0 dX8_over_11 rfl rfl ?_
    refine vv_getr (r := 46) C kc_X8 (s_X8 hY) 4 (by decide) rfl fk_X8_35 dX8_over_12 ?_
    refine vv_aload_n C 0 dX8_over_15 rfl rfl ?_
    refine vv_getr (r := 42) C kc_X8 (s_X8 hY) 3 (by decide) rfl fk_X8_31 dX8_over_16 ?_
    refine vv_callV (rest := []) C yk_X3_copyFrom vk_X3_copyFrom lk_X8_186 kc_X3.1 (s_X3 hY (show is_X3 46 by decide)) dX8_over_19 (mX3_copyFrom hY (show is_X3 46 by decide) (show is_X3 42 by decide) h) rfl rfl ⟨Nat.le_of_ble_eq_true rfl, Nat.le_of_ble_eq_true rfl⟩ (Nat.le_of_ble_eq_true rfl) (fun σ4 h => ?_)
    refine vv_aload_n C 0 dX8_over_22 rfl rfl ?_
    refine vv_getr (r := 46) C kc_X8 (s_X8 hY) 4 (by decide) rfl fk_X8_35 dX8_over_23 ?_
    refine vv_callI (rest := []) C yk_X3_passTillOver vk_X3_passTillOver lk_X8_190 kc_X3.1 (s_X3 hY (show is_X3 46 by decide)) dX8_over_26 (mX3_passTillOver hY (show is_X3 46 by decide) h) rfl rfl ⟨Nat.le_of_ble_eq_true rfl, Nat.le_of_ble_eq_true rfl⟩ (Nat.le_of_ble_eq_true rfl) (fun r6 σ5 h => ?_)
    refine vv_istore_n (L' := [(2, .int r6), (0, .ref (vv_q Y 0)), (1, .int a1)]) C dX8_over_29 rfl (by decide) rfl ?_
    refine vv_iload_n C 0 dX8_over_30 rfl rfl ?_
    refine vv_bipush C dX8_over_31 kb_m4 ?_
    refine vv_join (fun k => ∀ (v7 : Int32) (σ8 : vv_S), k v7 σ8 → VJ Y X (va_Qi post (vv_B Y) X.2) 3 51 [] [.int v7] σ8) h (fun v7 σ8 h => ?_) (fun k51_8 hJk51_8 h => ?_)
    · exact vv_iret C dX8_over_51 h
    · refine vv_join (fun k =>  k → VJ Y X (va_Qi post (vv_B Y) X.2) 3 40 [(2, .int r6)] [] σ5) h (fun h => ?_) (fun k40_9 hJk40_9 h => ?_)
      · refine vv_iload_n C 0 dX8_over_40 rfl rfl ?_
        refine vv_goto (pc := 41) (tgt := 51) C dX8_over_41 (by decide) ?_
        refine vv_sub [] (L' := []) rfl ?_
        exact hJk51_8 _ _ h
      · refine vv_icmp_eq (pc := 33) C 40 dX8_over_33 (by decide) (fun hc11 => ?_) (fun hc11 => ?_)
        · replace h := h.1 hc11
          refine vv_sub [0] (L' := [(2, .int r6)]) rfl ?_
          exact hJk40_9 h
        · replace h := h.2 hc11
          refine vv_iload_n C 2 dX8_over_36 rfl rfl ?_
          refine vv_if_ne (pc := 37) C 44 dX8_over_37 (by decide) (fun hc12 => ?_) (fun hc12 => ?_)
          · replace h := h.1 hc12
            refine vv_aload_n C 1 dX8_over_44 rfl rfl ?_
            refine vv_getr (r := 46) C kc_X8 (s_X8 hY) 4 (by decide) rfl fk_X8_35 dX8_over_45 ?_
            refine vv_callI (rest := []) C yk_X3_placeOver vk_X3_placeOver lk_X8_193 kc_X3.1 (s_X3 hY (show is_X3 46 by decide)) dX8_over_48 (mX3_placeOver hY (show is_X3 46 by decide) h) rfl rfl ⟨Nat.le_of_ble_eq_true rfl, Nat.le_of_ble_eq_true rfl⟩ (Nat.le_of_ble_eq_true rfl) (fun r14 σ13 h => ?_)
            refine vv_sub [] (L' := []) rfl ?_
            exact hJk51_8 _ _ h
          · replace h := h.2 hc12
            refine vv_sub [0] (L' := [(2, .int r6)]) rfl ?_
            exact hJk40_9 h
  · replace h := h.2 hc3
    refine vv_iconst C dX8_over_9 ki_m1 ?_
    exact vv_iret C dX8_over_10 h
set_option maxHeartbeats 2000000 in
set_option maxRecDepth 100000 in
theorem mX8_gone {Y : vv_Y} (hY : Y.2.2.2.2 = wC) {a1 : Int32} {σ : vv_S} {post : Int32 → vv_S → Prop} (h : wX8_gone a1 σ post) : vv_MI Y yX8_gone cX8_gone 3 (some .int) 4 89 [.ref (vv_q Y 0), .int a1] σ post := by
  refine vv_ofI (by decide) (Nat.le_of_ble_eq_true rfl) (fun X C => ?_)
  have C : VC Y X RX8 cX8_gone 3 (some .int) 4 89 := C
  refine vv_sub [0, 1] (L' := [(0, .ref (vv_q Y 0)), (1, .int a1)]) rfl ?_
  refine vv_iload_n C 1 dX8_gone_0 rfl rfl ?_
  refine vv_iconst C dX8_gone_1 ki_0 ?_
  refine vv_iconst C dX8_gone_2 ki_1 ?_
  refine vv_callS (rest := []) C yk_X8_isWithin sk_X8_isWithin lk_X8_92 dX8_gone_3 (mX8_isWithin hY h) rfl rfl ⟨Nat.le_of_ble_eq_true rfl, Nat.le_of_ble_eq_true rfl⟩ (Nat.le_of_ble_eq_true rfl) (fun r2 σ1 h => ?_)
  refine vv_if_ne (pc := 6) C 11 dX8_gone_6 (by decide) (fun hc3 => ?_) (fun hc3 => ?_)
  · replace h := h.1 hc3
    refine vv_aload_n C 0 dX8_gone_11 rfl rfl ?_
    refine vv_getr (r := 46) C kc_X8 (s_X8 hY) 4 (by decide) rfl fk_X8_35 dX8_gone_12 ?_
    refine vv_aload_n C 0 dX8_gone_15 rfl rfl ?_
    refine vv_getr (r := 42) C kc_X8 (s_X8 hY) 3 (by decide) rfl fk_X8_31 dX8_gone_16 ?_
    refine vv_callV (rest := []) C yk_X3_copyFrom vk_X3_copyFrom lk_X8_186 kc_X3.1 (s_X3 hY (show is_X3 46 by decide)) dX8_gone_19 (mX3_copyFrom hY (show is_X3 46 by decide) (show is_X3 42 by decide) h) rfl rfl ⟨Nat.le_of_ble_eq_true rfl, Nat.le_of_ble_eq_true rfl⟩ (Nat.le_of_ble_eq_true rfl) (fun σ4 h => ?_)
    refine vv_aload_n C 0 dX8_gone_22 rfl rfl ?_
    refine vv_getr (r := 46) C kc_X8 (s_X8 hY) 4 (by decide) rfl fk_X8_35 dX8_gone_23 ?_
    refine vv_callI (rest := []) C yk_X3_passTillBreach vk_X3_passTillBreach lk_X8_196 kc_X3.1 (s_X3 hY (show is_X3 46 by decide)) dX8_gone_26 (mX3_passTillBreach hY (show is_X3 46 by decide) h) rfl rfl ⟨Nat.le_of_ble_eq_true rfl, Nat.le_of_ble_eq_true rfl⟩ (Nat.le_of_ble_eq_true rfl) (fun r6 σ5 h => ?_)
    refine vv_istore_n (L' := [(2, .int r6), (0, .ref (vv_q Y 0)), (1, .int a1)]) C dX8_gone_29 rfl (by decide) rfl ?_
    refine vv_iload_n C 0 dX8_gone_30 rfl rfl ?_
    refine vv_bipush C dX8_gone_31 kb_m4 ?_
    refine vv_join (fun k => ∀ (v7 : Int32) (σ8 : vv_S), k v7 σ8 → VJ Y X (va_Qi post (vv_B Y) X.2) 3 51 [] [.int v7] σ8) h (fun v7 σ8 h => ?_) (fun k51_8 hJk51_8 h => ?_)
    · exact vv_iret C dX8_gone_51 h
    · refine vv_join (fun k =>  k → VJ Y X (va_Qi post (vv_B Y) X.2) 3 40 [(2, .int r6)] [] σ5) h (fun h => ?_) (fun k40_9 hJk40_9 h => ?_)
      · refine vv_iload_n C 0 dX8_gone_40 rfl rfl ?_
        refine vv_goto (pc := 41) (tgt := 51) C dX8_gone_41 (by decide) ?_
        refine vv_sub [] (L' := []) rfl ?_
        exact hJk51_8 _ _ h
      · refine vv_icmp_eq (pc := 33) C 40 dX8_gone_33 (by decide) (fun hc11 => ?_) (fun hc11 => ?_)
        · replace h := h.1 hc11
          refine vv_sub [0] (L' := [(2, .int r6)]) rfl ?_
          exact hJk40_9 h
        · replace h := h.2 hc11
          refine vv_iload_n C 2 dX8_gone_36 rfl rfl ?_
          refine vv_if_ne (pc := 37) C 44 dX8_gone_37 (by decide) (fun hc12 => ?_) (fun hc12 => ?_)
          · replace h := h.1 hc12
            refine vv_aload_n C 1 dX8_gone_44 rfl rfl ?_
            refine vv_getr (r := 46) C kc_X8 (s_X8 hY) 4 (by decide) rfl fk_X8_35 dX8_gone_45 ?_
            refine vv_callI (rest := []) C yk_X3_breachedCell vk_X3_breachedCell lk_X8_199 kc_X3.1 (s_X3 hY (show is_X3 46 by decide)) dX8_gone_48 (mX3_breachedCell hY (show is_X3 46 by decide) h) rfl rfl ⟨Nat.le_of_ble_eq_true rfl, Nat.le_of_ble_eq_true rfl⟩ (Nat.le_of_ble_eq_true rfl) (fun r14 σ13 h => ?_)
            refine vv_sub [] (L' := []) rfl ?_
            exact hJk51_8 _ _ h
          · replace h := h.2 hc12
            refine vv_sub [0] (L' := [(2, .int r6)]) rfl ?_
            exact hJk40_9 h
  · replace h := h.2 hc3
    refine vv_iconst C dX8_gone_9 ki_m1 ?_
    exact vv_iret C dX8_gone_10 h
set_option maxHeartbeats 2000000 in
set_option maxRecDepth 100000 in
theorem mX8_waterWithShares {Y : vv_Y} (hY : Y.2.2.2.2 = wC) {a1 : Int32} {a2 : Int32} {σ : vv_S} {post : Int32 → vv_S → Prop} (h : wX8_waterWithShares a1 a2 σ post) : vv_MI Y yX8_waterWithShares cX8_waterWithShares 5 (some .int) 4 91 [.ref (vv_q Y 0), .int a1, .int a2] σ post := by
  refine vv_ofI (by decide) (Nat.le_of_ble_eq_true rfl) (fun X C => ?_)
  have C : VC Y X RX8 cX8_waterWithShares 5 (some .int) 4 91 := C
  refine vv_sub [0, 1, 2] (L' := [(0, .ref (vv_q Y 0)), (1, .int a1), (2, .int a2)]) rfl ?_
  refine vv_aload_n C 0 dX8_waterWithShares_0 rfl rfl ?_
  refine vv_getr (r := 46) C kc_X8 (s_X8 hY) 4 (by decide) rfl fk_X8_35 dX8_waterWithShares_1 ?_
  refine vv_aload_n C 0 dX8_waterWithShares_4 rfl rfl ?_
  refine vv_getr (r := 42) C kc_X8 (s_X8 hY) 3 (by decide) rfl fk_X8_31 dX8_waterWithShares_5 ?_
  refine vv_callV (rest := []) C yk_X3_copyFrom vk_X3_copyFrom lk_X8_186 kc_X3.1 (s_X3 hY (show is_X3 46 by decide)) dX8_waterWithShares_8 (mX3_copyFrom hY (show is_X3 46 by decide) (show is_X3 42 by decide) h) rfl rfl ⟨Nat.le_of_ble_eq_true rfl, Nat.le_of_ble_eq_true rfl⟩ (Nat.le_of_ble_eq_true rfl) (fun σ1 h => ?_)
  refine vv_iconst C dX8_waterWithShares_11 ki_0 ?_
  refine vv_istore_n (L' := [(3, .int (0 : Int32)), (0, .ref (vv_q Y 0)), (1, .int a1), (2, .int a2)]) C dX8_waterWithShares_12 rfl (by decide) rfl ?_
  refine vv_join (fun k => ∀ (σ2 : vv_S), k σ2 → VJ Y X (va_Qi post (vv_B Y) X.2) 5 72 [(0, .ref (vv_q Y 0)), (2, .int a2)] [] σ2) h (fun σ2 h => ?_) (fun k72_2 hJk72_2 h => ?_)
  · refine vv_aload_n C 0 dX8_waterWithShares_72 rfl rfl ?_
    refine vv_getr (r := 46) C kc_X8 (s_X8 hY) 4 (by decide) rfl fk_X8_35 dX8_waterWithShares_73 ?_
    refine vv_iload_n C 1 dX8_waterWithShares_76 rfl rfl ?_
    refine vv_iconst C dX8_waterWithShares_77 ki_0 ?_
    refine vv_callV (rest := []) C yk_X3_letPass vk_X3_letPass lk_X8_175 kc_X3.1 (s_X3 hY (show is_X3 46 by decide)) dX8_waterWithShares_78 (mX3_letPass hY (show is_X3 46 by decide) h) rfl rfl ⟨Nat.le_of_ble_eq_true rfl, Nat.le_of_ble_eq_true rfl⟩ (Nat.le_of_ble_eq_true rfl) (fun σ4 h => ?_)
    refine vv_aload_n C 0 dX8_waterWithShares_81 rfl rfl ?_
    refine vv_getr (r := 46) C kc_X8 (s_X8 hY) 4 (by decide) rfl fk_X8_35 dX8_waterWithShares_82 ?_
    refine vv_callI (rest := []) C yk_X3_units vk_X3_units lk_X8_124 kc_X3.1 (s_X3 hY (show is_X3 46 by decide)) dX8_waterWithShares_85 (mX3_units hY (show is_X3 46 by decide) h) rfl rfl ⟨Nat.le_of_ble_eq_true rfl, Nat.le_of_ble_eq_true rfl⟩ (Nat.le_of_ble_eq_true rfl) (fun r6 σ5 h => ?_)
    exact vv_iret C dX8_waterWithShares_88 h
  · obtain ⟨n9, h⟩ := h
    have hl1 : ∀ (n9 : Nat) (v7 : Int32) (σ8 : vv_S), lX8_waterWithShares_1 k72_2 a1 post n9 v7 σ8 → VJ Y X (va_Qi post (vv_B Y) X.2) 5 13 [(0, .ref (vv_q Y 0)), (1, .int a1), (2, .int a2), (3, .int v7)] [] σ8 := by
      clear h
      intro n9
      induction n9 with
      | zero => intro v7 σ8 h; exact False.elim h
      | succ n9 ih1 =>
        intro v7 σ8 h
        refine vv_iload_n C 3 dX8_waterWithShares_13 rfl rfl ?_
        refine vv_aload_n C 0 dX8_waterWithShares_14 rfl rfl ?_
        refine vv_getr (r := 4) C kc_X8 (s_X8 hY) 1 (by decide) rfl fk_X8_19 dX8_waterWithShares_15 ?_
        refine vv_callI (rest := [.int v7]) C yk_X4_cellCount vk_X4_cellCount lk_X8_99 kc_X4.1 (s_X4 hY (show is_X4 4 by decide)) dX8_waterWithShares_18 (mX4_cellCount hY (show is_X4 4 by decide) h) rfl rfl ⟨Nat.le_of_ble_eq_true rfl, Nat.le_of_ble_eq_true rfl⟩ (Nat.le_of_ble_eq_true rfl) (fun r11 σ10 h => ?_)
        refine vv_icmp_ge (pc := 21) C 72 dX8_waterWithShares_21 (by decide) (fun hc12 => ?_) (fun hc12 => ?_)
        · replace h := h.1 hc12
          refine vv_sub [0, 2] (L' := [(0, .ref (vv_q Y 0)), (2, .int a2)]) rfl ?_
          exact hJk72_2 _ h
        · replace h := h.2 hc12
          refine vv_aload_n C 0 dX8_waterWithShares_24 rfl rfl ?_
          refine vv_getr (r := 69) C kc_X8 (s_X8 hY) 9 (by decide) rfl fk_X8_59 dX8_waterWithShares_25 ?_
          refine vv_iload_n C 3 dX8_waterWithShares_28 rfl rfl ?_
          refine vv_callI (rest := []) C yk_X5_inchesAt vk_X5_inchesAt lk_X8_206 kc_X5.1 (s_X5 hY (show is_X5 69 by decide)) dX8_waterWithShares_29 (mX5_inchesAt hY (show is_X5 69 by decide) h) rfl rfl ⟨Nat.le_of_ble_eq_true rfl, Nat.le_of_ble_eq_true rfl⟩ (Nat.le_of_ble_eq_true rfl) (fun r14 σ13 h => ?_)
          refine vv_istore (L' := [(4, .int r14), (0, .ref (vv_q Y 0)), (1, .int a1), (2, .int a2), (3, .int v7)]) C dX8_waterWithShares_32 (by decide) rfl ?_
          refine vv_iload C 0 dX8_waterWithShares_34 rfl ?_
          refine vv_join (fun k => ∀ (σ15 : vv_S), k σ15 → VJ Y X (va_Qi post (vv_B Y) X.2) 5 66 [(0, .ref (vv_q Y 0)), (1, .int a1), (2, .int a2), (3, .int v7)] [] σ15) h (fun σ15 h => ?_) (fun k66_15 hJk66_15 h => ?_)
          · obtain ⟨v17, ev17⟩ : ∃ z : Int32, z = v7 + (1 : Int32) := ⟨_, rfl⟩
            replace h := h v17 ev17
            refine vv_iinc (v := v17) (L' := [(3, .int v17), (0, .ref (vv_q Y 0)), (1, .int a1), (2, .int a2)]) C 3 dX8_waterWithShares_66 rfl ((kinc ki_1).trans ev17.symm) (by decide) rfl ?_
            refine vv_goto (pc := 69) (tgt := 13) C dX8_waterWithShares_69 (by decide) ?_
            refine vv_sub [1, 2, 3, 0] (L' := [(0, .ref (vv_q Y 0)), (1, .int a1), (2, .int a2), (3, .int v17)]) rfl ?_
            exact ih1 _ _ h
          · refine vv_if_le (pc := 36) C 66 dX8_waterWithShares_36 (by decide) (fun hc18 => ?_) (fun hc18 => ?_)
            · replace h := h.1 hc18
              refine vv_sub [1, 2, 3, 4] (L' := [(0, .ref (vv_q Y 0)), (1, .int a1), (2, .int a2), (3, .int v7)]) rfl ?_
              exact hJk66_15 _ h
            · replace h := h.2 hc18
              refine vv_aload_n C 1 dX8_waterWithShares_39 rfl rfl ?_
              refine vv_getr (r := 46) C kc_X8 (s_X8 hY) 4 (by decide) rfl fk_X8_35 dX8_waterWithShares_40 ?_
              refine vv_iload_n C 4 dX8_waterWithShares_43 rfl rfl ?_
              refine vv_iload C 0 dX8_waterWithShares_44 rfl ?_
              refine vv_callI (rest := []) C yk_X3_canRaise vk_X3_canRaise lk_X8_154 kc_X3.1 (s_X3 hY (show is_X3 46 by decide)) dX8_waterWithShares_46 (mX3_canRaise hY (show is_X3 46 by decide) h) rfl rfl ⟨Nat.le_of_ble_eq_true rfl, Nat.le_of_ble_eq_true rfl⟩ (Nat.le_of_ble_eq_true rfl) (fun r20 σ19 h => ?_)
              refine vv_if_ne (pc := 49) C 55 dX8_waterWithShares_49 (by decide) (fun hc21 => ?_) (fun hc21 => ?_)
              · replace h := h.1 hc21
                refine vv_aload_n C 1 dX8_waterWithShares_55 rfl rfl ?_
                refine vv_getr (r := 46) C kc_X8 (s_X8 hY) 4 (by decide) rfl fk_X8_35 dX8_waterWithShares_56 ?_
                refine vv_iload_n C 4 dX8_waterWithShares_59 rfl rfl ?_
                refine vv_iload_n C 2 dX8_waterWithShares_60 rfl rfl ?_
                refine vv_iload C 0 dX8_waterWithShares_61 rfl ?_
                refine vv_callV (rest := []) C yk_X3_layAt vk_X3_layAt lk_X8_161 kc_X3.1 (s_X3 hY (show is_X3 46 by decide)) dX8_waterWithShares_63 (mX3_layAt hY (show is_X3 46 by decide) h) rfl rfl ⟨Nat.le_of_ble_eq_true rfl, Nat.le_of_ble_eq_true rfl⟩ (Nat.le_of_ble_eq_true rfl) (fun σ22 h => ?_)
                refine vv_sub [1, 2, 3, 4] (L' := [(0, .ref (vv_q Y 0)), (1, .int a1), (2, .int a2), (3, .int v7)]) rfl ?_
                exact hJk66_15 _ h
              · replace h := h.2 hc21
                refine vv_bipush C dX8_waterWithShares_52 kb_m4 ?_
                exact vv_iret C dX8_waterWithShares_54 h
    refine vv_sub [1, 2, 3, 0] (L' := [(0, .ref (vv_q Y 0)), (1, .int a1), (2, .int a2), (3, .int (0 : Int32))]) rfl ?_
    exact hl1 n9 _ _ h
set_option maxHeartbeats 2000000 in
set_option maxRecDepth 100000 in
theorem mX8_findBestShares {Y : vv_Y} (hY : Y.2.2.2.2 = wC) {a1 : Int32} {a2 : Int32} {a3 : Int32} {σ : vv_S} {post : Int32 → vv_S → Prop} (h : wX8_findBestShares a1 a2 a3 σ post) : vv_MI Y yX8_findBestShares cX8_findBestShares 8 (some .int) 5 115 [.ref (vv_q Y 0), .int a1, .int a2, .int a3] σ post := by
  refine vv_ofI (by decide) (Nat.le_of_ble_eq_true rfl) (fun X C => ?_)
  have C : VC Y X RX8 cX8_findBestShares 8 (some .int) 5 115 := C
  refine vv_sub [0, 1, 2, 3] (L' := [(0, .ref (vv_q Y 0)), (1, .int a1), (2, .int a2), (3, .int a3)]) rfl ?_
  refine vv_bipush C dX8_findBestShares_0 kb_m4 ?_
  refine vv_istore (L' := [(4, .int (-4 : Int32)), (0, .ref (vv_q Y 0)), (1, .int a1), (2, .int a2), (3, .int a3)]) C dX8_findBestShares_2 (by decide) rfl ?_
  refine vv_iconst C dX8_findBestShares_4 ki_1 ?_
  refine vv_istore (L' := [(5, .int (1 : Int32)), (4, .int (-4 : Int32)), (0, .ref (vv_q Y 0)), (1, .int a1), (2, .int a2), (3, .int a3)]) C dX8_findBestShares_5 (by decide) rfl ?_
  refine vv_aload_n C 2 dX8_findBestShares_7 rfl rfl ?_
  refine vv_getr (r := 69) C kc_X8 (s_X8 hY) 9 (by decide) rfl fk_X8_59 dX8_findBestShares_8 ?_
  refine vv_iload_n C 3 dX8_findBestShares_11 rfl rfl ?_
  refine vv_aload_n C 2 dX8_findBestShares_12 rfl rfl ?_
  refine vv_getr (r := 4) C kc_X8 (s_X8 hY) 1 (by decide) rfl fk_X8_19 dX8_findBestShares_13 ?_
  refine vv_callI (rest := [.int a1, .ref (vv_q Y 69)]) C yk_X4_cellCount vk_X4_cellCount lk_X8_99 kc_X4.1 (s_X4 hY (show is_X4 4 by decide)) dX8_findBestShares_16 (mX4_cellCount hY (show is_X4 4 by decide) h) rfl rfl ⟨Nat.le_of_ble_eq_true rfl, Nat.le_of_ble_eq_true rfl⟩ (Nat.le_of_ble_eq_true rfl) (fun r2 σ1 h => ?_)
  refine vv_callV (rest := []) C yk_X5_start vk_X5_start lk_X8_209 kc_X5.1 (s_X5 hY (show is_X5 69 by decide)) dX8_findBestShares_19 (mX5_start hY (show is_X5 69 by decide) h) rfl rfl ⟨Nat.le_of_ble_eq_true rfl, Nat.le_of_ble_eq_true rfl⟩ (Nat.le_of_ble_eq_true rfl) (fun σ3 h => ?_)
  refine vv_iconst C dX8_findBestShares_22 ki_0 ?_
  refine vv_istore (L' := [(6, .int (0 : Int32)), (5, .int (1 : Int32)), (4, .int (-4 : Int32)), (0, .ref (vv_q Y 0)), (1, .int a1), (2, .int a2), (3, .int a3)]) C dX8_findBestShares_23 (by decide) rfl ?_
  refine vv_join (fun k => ∀ (v4 : Int32) (σ5 : vv_S), k v4 σ5 → VJ Y X (va_Qi post (vv_B Y) X.2) 8 83 [(4, .int v4)] [] σ5) h (fun v4 σ5 h => ?_) (fun k83_5 hJk83_5 h => ?_)
  · refine vv_iload C 0 dX8_findBestShares_83 rfl ?_
    exact vv_iret C dX8_findBestShares_85 h
  · obtain ⟨n11, h⟩ := h
    have hl1 : ∀ (n11 : Nat) (v7 : Int32) (v8 : Int32) (v9 : Int32) (σ10 : vv_S), lX8_findBestShares_1 k83_5 a2 a3 n11 v7 v8 v9 σ10 → VJ Y X (va_Qi post (vv_B Y) X.2) 8 25 [(0, .ref (vv_q Y 0)), (2, .int a2), (3, .int a3), (4, .int v7), (5, .int v8), (6, .int v9)] [] σ10 := by
      clear h
      intro n11
      induction n11 with
      | zero => intro v7 v8 v9 σ10 h; exact False.elim h
      | succ n11 ih1 =>
        intro v7 v8 v9 σ10 h
        refine vv_iload C 5 dX8_findBestShares_25 rfl ?_
        refine vv_sipush C dX8_findBestShares_27 ks_1000 ?_
        refine vv_icmp_ge (pc := 30) C 83 dX8_findBestShares_30 (by decide) (fun hc12 => ?_) (fun hc12 => ?_)
        · replace h := h.1 hc12
          refine vv_sub [3] (L' := [(4, .int v7)]) rfl ?_
          exact hJk83_5 _ _ h
        · replace h := h.2 hc12
          refine vv_iload C 4 dX8_findBestShares_33 rfl ?_
          refine vv_if_eq (pc := 35) C 83 dX8_findBestShares_35 (by decide) (fun hc13 => ?_) (fun hc13 => ?_)
          · replace h := h.1 hc13
            refine vv_sub [3] (L' := [(4, .int v7)]) rfl ?_
            exact hJk83_5 _ _ h
          · replace h := h.2 hc13
            refine vv_aload_n C 0 dX8_findBestShares_38 rfl rfl ?_
            refine vv_iload_n C 1 dX8_findBestShares_39 rfl rfl ?_
            refine vv_iload_n C 2 dX8_findBestShares_40 rfl rfl ?_
            refine vv_callI (rest := []) C yk_X8_waterWithShares vk_X8_waterWithShares lk_X8_212 kc_X8.1 (s_X8 hY) dX8_findBestShares_41 (mX8_waterWithShares hY h) rfl rfl ⟨Nat.le_of_ble_eq_true rfl, Nat.le_of_ble_eq_true rfl⟩ (Nat.le_of_ble_eq_true rfl) (fun r15 σ14 h => ?_)
            refine vv_istore (L' := [(7, .int r15), (0, .ref (vv_q Y 0)), (2, .int a2), (3, .int a3), (4, .int v7), (5, .int v8), (6, .int v9)]) C dX8_findBestShares_44 (by decide) rfl ?_
            refine vv_iload C 0 dX8_findBestShares_46 rfl ?_
            refine vv_iload C 4 dX8_findBestShares_48 rfl ?_
            refine vv_join (fun k => ∀ (v16 : Int32) (σ17 : vv_S), k v16 σ17 → VJ Y X (va_Qi post (vv_B Y) X.2) 8 68 [(0, .ref (vv_q Y 0)), (2, .int a2), (3, .int a3), (4, .int v16), (6, .int v9)] [] σ17) h (fun v16 σ17 h => ?_) (fun k68_17 hJk68_17 h => ?_)
            · refine vv_aload_n C 0 dX8_findBestShares_68 rfl rfl ?_
              refine vv_getr (r := 69) C kc_X8 (s_X8 hY) 9 (by decide) rfl fk_X8_59 dX8_findBestShares_69 ?_
              refine vv_callI (rest := []) C yk_X5_next vk_X5_next lk_X8_219 kc_X5.1 (s_X5 hY (show is_X5 69 by decide)) dX8_findBestShares_72 (mX5_next hY (show is_X5 69 by decide) h) rfl rfl ⟨Nat.le_of_ble_eq_true rfl, Nat.le_of_ble_eq_true rfl⟩ (Nat.le_of_ble_eq_true rfl) (fun r20 σ19 h => ?_)
              refine vv_istore (L' := [(5, .int r20), (0, .ref (vv_q Y 0)), (2, .int a2), (3, .int a3), (4, .int v16), (6, .int v9)]) C dX8_findBestShares_75 (by decide) rfl ?_
              obtain ⟨v21, ev21⟩ : ∃ z : Int32, z = v9 + (1 : Int32) := ⟨_, rfl⟩
              replace h := h v21 ev21
              refine vv_iinc (v := v21) (L' := [(6, .int v21), (5, .int r20), (0, .ref (vv_q Y 0)), (2, .int a2), (3, .int a3), (4, .int v16)]) C 5 dX8_findBestShares_77 rfl ((kinc ki_1).trans ev21.symm) (by decide) rfl ?_
              refine vv_goto (pc := 80) (tgt := 25) C dX8_findBestShares_80 (by decide) ?_
              refine vv_sub [2, 3, 4, 5, 1, 0] (L' := [(0, .ref (vv_q Y 0)), (2, .int a2), (3, .int a3), (4, .int v16), (5, .int r20), (6, .int v21)]) rfl ?_
              exact ih1 _ _ _ _ h
            · refine vv_icmp_le (pc := 50) C 68 dX8_findBestShares_50 (by decide) (fun hc22 => ?_) (fun hc22 => ?_)
              · replace h := h.1 hc22
                refine vv_sub [1, 2, 3, 4, 6] (L' := [(0, .ref (vv_q Y 0)), (2, .int a2), (3, .int a3), (4, .int v7), (6, .int v9)]) rfl ?_
                exact hJk68_17 _ _ h
              · replace h := h.2 hc22
                refine vv_iload C 0 dX8_findBestShares_53 rfl ?_
                refine vv_istore (L' := [(4, .int r15), (7, .int r15), (0, .ref (vv_q Y 0)), (2, .int a2), (3, .int a3), (5, .int v8), (6, .int v9)]) C dX8_findBestShares_55 (by decide) rfl ?_
                refine vv_aload_n C 2 dX8_findBestShares_57 rfl rfl ?_
                refine vv_getr (r := 71) C kc_X8 (s_X8 hY) 10 (by decide) rfl fk_X8_63 dX8_findBestShares_58 ?_
                refine vv_aload_n C 2 dX8_findBestShares_61 rfl rfl ?_
                refine vv_getr (r := 69) C kc_X8 (s_X8 hY) 9 (by decide) rfl fk_X8_59 dX8_findBestShares_62 ?_
                refine vv_callV (rest := []) C yk_X5_copyFrom vk_X5_copyFrom lk_X8_216 kc_X5.1 (s_X5 hY (show is_X5 71 by decide)) dX8_findBestShares_65 (mX5_copyFrom hY (show is_X5 71 by decide) (show is_X5 69 by decide) h) rfl rfl ⟨Nat.le_of_ble_eq_true rfl, Nat.le_of_ble_eq_true rfl⟩ (Nat.le_of_ble_eq_true rfl) (fun σ23 h => ?_)
                refine vv_sub [2, 3, 4, 0, 6] (L' := [(0, .ref (vv_q Y 0)), (2, .int a2), (3, .int a3), (4, .int r15), (6, .int v9)]) rfl ?_
                exact hJk68_17 _ _ h
    refine vv_sub [3, 5, 6, 2, 1, 0] (L' := [(0, .ref (vv_q Y 0)), (2, .int a2), (3, .int a3), (4, .int (-4 : Int32)), (5, .int (1 : Int32)), (6, .int (0 : Int32))]) rfl ?_
    exact hl1 n11 _ _ _ _ h
set_option maxHeartbeats 2000000 in
set_option maxRecDepth 100000 in
theorem mX8_best {Y : vv_Y} (hY : Y.2.2.2.2 = wC) {a1 : Int32} {a2 : Int32} {a3 : Int32} {a4 : Int32} {σ : vv_S} {post : Int32 → vv_S → Prop} (h : wX8_best a1 a2 a3 a4 σ post) : vv_MI Y yX8_best cX8_best 6 (some .int) 6 142 [.ref (vv_q Y 0), .int a1, .int a2, .int a3, .int a4] σ post := by
  refine vv_ofI (by decide) (Nat.le_of_ble_eq_true rfl) (fun X C => ?_)
  have C : VC Y X RX8 cX8_best 6 (some .int) 6 142 := C
  refine vv_sub [0, 1, 2, 3, 4] (L' := [(0, .ref (vv_q Y 0)), (1, .int a1), (2, .int a2), (3, .int a3), (4, .int a4)]) rfl ?_
  refine vv_iload_n C 1 dX8_best_0 rfl rfl ?_
  refine vv_iconst C dX8_best_1 ki_1 ?_
  refine vv_iconst C dX8_best_2 ki_5 ?_
  refine vv_callS (rest := []) C yk_X8_isWithin sk_X8_isWithin lk_X8_92 dX8_best_3 (mX8_isWithin hY h) rfl rfl ⟨Nat.le_of_ble_eq_true rfl, Nat.le_of_ble_eq_true rfl⟩ (Nat.le_of_ble_eq_true rfl) (fun r2 σ1 h => ?_)
  refine vv_join (fun k => ∀ (σ3 : vv_S), k σ3 → VJ Y X (va_Qi post (vv_B Y) X.2) 6 44 [] [] σ3) h (fun σ3 h => ?_) (fun k44_3 hJk44_3 h => ?_)
  · refine vv_iconst C dX8_best_44 ki_m1 ?_
    exact vv_iret C dX8_best_45 h
  · refine vv_if_eq (pc := 6) C 44 dX8_best_6 (by decide) (fun hc5 => ?_) (fun hc5 => ?_)
    · replace h := h.1 hc5
      refine vv_sub [] (L' := []) rfl ?_
      exact hJk44_3 _ h
    · replace h := h.2 hc5
      refine vv_iload_n C 2 dX8_best_9 rfl rfl ?_
      refine vv_callS (rest := []) C yk_X8_isStuff sk_X8_isStuff lk_X8_151 dX8_best_10 (mX8_isStuff hY h) rfl rfl ⟨Nat.le_of_ble_eq_true rfl, Nat.le_of_ble_eq_true rfl⟩ (Nat.le_of_ble_eq_true rfl) (fun r7 σ6 h => ?_)
      refine vv_if_eq (pc := 13) C 44 dX8_best_13 (by decide) (fun hc8 => ?_) (fun hc8 => ?_)
      · replace h := h.1 hc8
        refine vv_sub [] (L' := []) rfl ?_
        exact hJk44_3 _ h
      · replace h := h.2 hc8
        refine vv_iload_n C 3 dX8_best_16 rfl rfl ?_
        refine vv_iconst C dX8_best_17 ki_1 ?_
        refine vv_bipush C dX8_best_18 kb_60 ?_
        refine vv_callS (rest := []) C yk_X8_isWithin sk_X8_isWithin lk_X8_92 dX8_best_20 (mX8_isWithin hY h) rfl rfl ⟨Nat.le_of_ble_eq_true rfl, Nat.le_of_ble_eq_true rfl⟩ (Nat.le_of_ble_eq_true rfl) (fun r10 σ9 h => ?_)
        refine vv_if_eq (pc := 23) C 44 dX8_best_23 (by decide) (fun hc11 => ?_) (fun hc11 => ?_)
        · replace h := h.1 hc11
          refine vv_sub [] (L' := []) rfl ?_
          exact hJk44_3 _ h
        · replace h := h.2 hc11
          refine vv_iload C 4 dX8_best_26 rfl ?_
          refine vv_iconst C dX8_best_28 ki_m1 ?_
          refine vv_aload_n C 0 dX8_best_29 rfl rfl ?_
          refine vv_getr (r := 4) C kc_X8 (s_X8 hY) 1 (by decide) rfl fk_X8_19 dX8_best_30 ?_
          refine vv_callI (rest := [.int (-1 : Int32), .int a4]) C yk_X4_cellCount vk_X4_cellCount lk_X8_99 kc_X4.1 (s_X4 hY (show is_X4 4 by decide)) dX8_best_33 (mX4_cellCount hY (show is_X4 4 by decide) h) rfl rfl ⟨Nat.le_of_ble_eq_true rfl, Nat.le_of_ble_eq_true rfl⟩ (Nat.le_of_ble_eq_true rfl) (fun r13 σ12 h => ?_)
          refine vv_iconst C dX8_best_36 ki_1 ?_
          refine vv_isub C dX8_best_37 ?_
          refine vv_callS (rest := []) C yk_X8_isWithin sk_X8_isWithin lk_X8_92 dX8_best_38 (mX8_isWithin hY h) rfl rfl ⟨Nat.le_of_ble_eq_true rfl, Nat.le_of_ble_eq_true rfl⟩ (Nat.le_of_ble_eq_true rfl) (fun r15 σ14 h => ?_)
          refine vv_if_ne (pc := 41) C 46 dX8_best_41 (by decide) (fun hc16 => ?_) (fun hc16 => ?_)
          · replace h := h.1 hc16
            refine vv_aload_n C 0 dX8_best_46 rfl rfl ?_
            refine vv_iload_n C 1 dX8_best_47 rfl rfl ?_
            refine vv_iload_n C 2 dX8_best_48 rfl rfl ?_
            refine vv_iload_n C 3 dX8_best_49 rfl rfl ?_
            refine vv_callI (rest := []) C yk_X8_findBestShares vk_X8_findBestShares lk_X8_202 kc_X8.1 (s_X8 hY) dX8_best_50 (mX8_findBestShares hY h) rfl rfl ⟨Nat.le_of_ble_eq_true rfl, Nat.le_of_ble_eq_true rfl⟩ (Nat.le_of_ble_eq_true rfl) (fun r18 σ17 h => ?_)
            refine vv_istore (L' := [(5, .int r18), (0, .ref (vv_q Y 0)), (1, .int a1), (2, .int a2), (3, .int a3), (4, .int a4)]) C dX8_best_53 (by decide) rfl ?_
            refine vv_iload C 0 dX8_best_55 rfl ?_
            refine vv_bipush C dX8_best_57 kb_m4 ?_
            refine vv_join (fun k => ∀ (v19 : Int32) (σ20 : vv_S), k v19 σ20 → VJ Y X (va_Qi post (vv_B Y) X.2) 6 82 [] [.int v19] σ20) h (fun v19 σ20 h => ?_) (fun k82_20 hJk82_20 h => ?_)
            · exact vv_iret C dX8_best_82 h
            · refine vv_join (fun k =>  k → VJ Y X (va_Qi post (vv_B Y) X.2) 6 68 [(5, .int r18)] [] σ17) h (fun h => ?_) (fun k68_21 hJk68_21 h => ?_)
              · refine vv_iload C 0 dX8_best_68 rfl ?_
                refine vv_goto (pc := 70) (tgt := 82) C dX8_best_70 (by decide) ?_
                refine vv_sub [] (L' := []) rfl ?_
                exact hJk82_20 _ _ h
              · refine vv_icmp_eq (pc := 59) C 68 dX8_best_59 (by decide) (fun hc23 => ?_) (fun hc23 => ?_)
                · replace h := h.1 hc23
                  refine vv_sub [0] (L' := [(5, .int r18)]) rfl ?_
                  exact hJk68_21 h
                · replace h := h.2 hc23
                  refine vv_iload C 5 dX8_best_62 rfl ?_
                  refine vv_iconst C dX8_best_64 ki_m1 ?_
                  refine vv_icmp_ne (pc := 65) C 73 dX8_best_65 (by decide) (fun hc24 => ?_) (fun hc24 => ?_)
                  · replace h := h.1 hc24
                    refine vv_aload_n C 1 dX8_best_73 rfl rfl ?_
                    refine vv_getr (r := 71) C kc_X8 (s_X8 hY) 10 (by decide) rfl fk_X8_63 dX8_best_74 ?_
                    refine vv_iload C 5 dX8_best_77 rfl ?_
                    refine vv_callI (rest := []) C yk_X5_inchesAt vk_X5_inchesAt lk_X8_206 kc_X5.1 (s_X5 hY (show is_X5 71 by decide)) dX8_best_79 (mX5_inchesAt hY (show is_X5 71 by decide) h) rfl rfl ⟨Nat.le_of_ble_eq_true rfl, Nat.le_of_ble_eq_true rfl⟩ (Nat.le_of_ble_eq_true rfl) (fun r26 σ25 h => ?_)
                    refine vv_sub [] (L' := []) rfl ?_
                    exact hJk82_20 _ _ h
                  · replace h := h.2 hc24
                    refine vv_sub [0] (L' := [(5, .int r18)]) rfl ?_
                    exact hJk68_21 h
          · replace h := h.2 hc16
            refine vv_sub [] (L' := []) rfl ?_
            exact hJk44_3 _ h
set_option maxHeartbeats 2000000 in
set_option maxRecDepth 100000 in
theorem mX8_isGap {Y : vv_Y} (hY : Y.2.2.2.2 = wC) {a1 : Int32} {a2 : Int32} {a3 : Int32} {σ : vv_S} {post : Int32 → vv_S → Prop} (h : wX8_isGap a1 a2 a3 σ post) : vv_MI Y yX8_isGap cX8_isGap 5 (some .boolean) 3 68 [.ref (vv_q Y 0), .int a1, .int a2, .int a3] σ post := by
  refine vv_ofI (by decide) (Nat.le_of_ble_eq_true rfl) (fun X C => ?_)
  have C : VC Y X RX8 cX8_isGap 5 (some .boolean) 3 68 := C
  refine vv_sub [0, 1, 2, 3] (L' := [(0, .ref (vv_q Y 0)), (1, .int a1), (2, .int a2), (3, .int a3)]) rfl ?_
  refine vv_aload_n C 0 dX8_isGap_0 rfl rfl ?_
  refine vv_getr (r := 46) C kc_X8 (s_X8 hY) 4 (by decide) rfl fk_X8_35 dX8_isGap_1 ?_
  refine vv_aload_n C 0 dX8_isGap_4 rfl rfl ?_
  refine vv_getr (r := 42) C kc_X8 (s_X8 hY) 3 (by decide) rfl fk_X8_31 dX8_isGap_5 ?_
  refine vv_callV (rest := []) C yk_X3_copyFrom vk_X3_copyFrom lk_X8_186 kc_X3.1 (s_X3 hY (show is_X3 46 by decide)) dX8_isGap_8 (mX3_copyFrom hY (show is_X3 46 by decide) (show is_X3 42 by decide) h) rfl rfl ⟨Nat.le_of_ble_eq_true rfl, Nat.le_of_ble_eq_true rfl⟩ (Nat.le_of_ble_eq_true rfl) (fun σ1 h => ?_)
  refine vv_aload_n C 0 dX8_isGap_11 rfl rfl ?_
  refine vv_getr (r := 46) C kc_X8 (s_X8 hY) 4 (by decide) rfl fk_X8_35 dX8_isGap_12 ?_
  refine vv_iload_n C 1 dX8_isGap_15 rfl rfl ?_
  refine vv_iconst C dX8_isGap_16 ki_2 ?_
  refine vv_iload_n C 2 dX8_isGap_17 rfl rfl ?_
  refine vv_callV (rest := []) C yk_X3_remake vk_X3_remake lk_X8_226 kc_X3.1 (s_X3 hY (show is_X3 46 by decide)) dX8_isGap_18 (mX3_remake hY (show is_X3 46 by decide) h) rfl rfl ⟨Nat.le_of_ble_eq_true rfl, Nat.le_of_ble_eq_true rfl⟩ (Nat.le_of_ble_eq_true rfl) (fun σ2 h => ?_)
  refine vv_iconst C dX8_isGap_21 ki_0 ?_
  refine vv_istore (L' := [(4, .int (0 : Int32)), (0, .ref (vv_q Y 0)), (1, .int a1), (2, .int a2), (3, .int a3)]) C dX8_isGap_22 (by decide) rfl ?_
  obtain ⟨n5, h⟩ := h
  have hl1 : ∀ (n5 : Nat) (v3 : Int32) (σ4 : vv_S), lX8_isGap_1 a3 post a1 n5 v3 σ4 → VJ Y X (va_Qi post (vv_B Y) X.2) 5 24 [(0, .ref (vv_q Y 0)), (1, .int a1), (3, .int a3), (4, .int v3)] [] σ4 := by
    clear h
    intro n5
    induction n5 with
    | zero => intro v3 σ4 h; exact False.elim h
    | succ n5 ih1 =>
      intro v3 σ4 h
      refine vv_iload C 3 dX8_isGap_24 rfl ?_
      refine vv_iload_n C 2 dX8_isGap_26 rfl rfl ?_
      refine vv_icmp_ge (pc := 27) C 67 dX8_isGap_27 (by decide) (fun hc6 => ?_) (fun hc6 => ?_)
      · replace h := h.1 hc6
        refine vv_iconst C dX8_isGap_67 ki_1 ?_
        exact vv_zret C (Or.inr rfl) dX8_isGap_68 h
      · replace h := h.2 hc6
        refine vv_aload_n C 0 dX8_isGap_30 rfl rfl ?_
        refine vv_getr (r := 46) C kc_X8 (s_X8 hY) 4 (by decide) rfl fk_X8_35 dX8_isGap_31 ?_
        refine vv_iconst C dX8_isGap_34 ki_0 ?_
        refine vv_callV (rest := []) C yk_X3_oneMinute vk_X3_oneMinute lk_X8_229 kc_X3.1 (s_X3 hY (show is_X3 46 by decide)) dX8_isGap_35 (mX3_oneMinute hY (show is_X3 46 by decide) h) rfl rfl ⟨Nat.le_of_ble_eq_true rfl, Nat.le_of_ble_eq_true rfl⟩ (Nat.le_of_ble_eq_true rfl) (fun σ7 h => ?_)
        refine vv_aload_n C 0 dX8_isGap_38 rfl rfl ?_
        refine vv_getr (r := 46) C kc_X8 (s_X8 hY) 4 (by decide) rfl fk_X8_35 dX8_isGap_39 ?_
        refine vv_callI (rest := []) C yk_X3_overInMinute vk_X3_overInMinute lk_X8_233 kc_X3.1 (s_X3 hY (show is_X3 46 by decide)) dX8_isGap_42 (mX3_overInMinute hY (show is_X3 46 by decide) h) rfl rfl ⟨Nat.le_of_ble_eq_true rfl, Nat.le_of_ble_eq_true rfl⟩ (Nat.le_of_ble_eq_true rfl) (fun r9 σ8 h => ?_)
        refine vv_join (fun k => ∀ (σ10 : vv_S), k σ10 → VJ Y X (va_Qi post (vv_B Y) X.2) 5 61 [(0, .ref (vv_q Y 0)), (1, .int a1), (3, .int a3), (4, .int v3)] [] σ10) h (fun σ10 h => ?_) (fun k61_10 hJk61_10 h => ?_)
        · obtain ⟨v12, ev12⟩ : ∃ z : Int32, z = v3 + (1 : Int32) := ⟨_, rfl⟩
          replace h := h v12 ev12
          refine vv_iinc (v := v12) (L' := [(4, .int v12), (0, .ref (vv_q Y 0)), (1, .int a1), (3, .int a3)]) C 3 dX8_isGap_61 rfl ((kinc ki_1).trans ev12.symm) (by decide) rfl ?_
          refine vv_goto (pc := 64) (tgt := 24) C dX8_isGap_64 (by decide) ?_
          refine vv_sub [1, 2, 3, 0] (L' := [(0, .ref (vv_q Y 0)), (1, .int a1), (3, .int a3), (4, .int v12)]) rfl ?_
          exact ih1 _ _ h
        · refine vv_if_le (pc := 45) C 61 dX8_isGap_45 (by decide) (fun hc13 => ?_) (fun hc13 => ?_)
          · replace h := h.1 hc13
            refine vv_sub [0, 1, 2, 3] (L' := [(0, .ref (vv_q Y 0)), (1, .int a1), (3, .int a3), (4, .int v3)]) rfl ?_
            exact hJk61_10 _ h
          · replace h := h.2 hc13
            refine vv_aload_n C 0 dX8_isGap_48 rfl rfl ?_
            refine vv_getr (r := 46) C kc_X8 (s_X8 hY) 4 (by decide) rfl fk_X8_35 dX8_isGap_49 ?_
            refine vv_callI (rest := []) C yk_X3_placeOver vk_X3_placeOver lk_X8_193 kc_X3.1 (s_X3 hY (show is_X3 46 by decide)) dX8_isGap_52 (mX3_placeOver hY (show is_X3 46 by decide) h) rfl rfl ⟨Nat.le_of_ble_eq_true rfl, Nat.le_of_ble_eq_true rfl⟩ (Nat.le_of_ble_eq_true rfl) (fun r15 σ14 h => ?_)
            refine vv_iload_n C 1 dX8_isGap_55 rfl rfl ?_
            refine vv_icmp_eq (pc := 56) C 61 dX8_isGap_56 (by decide) (fun hc16 => ?_) (fun hc16 => ?_)
            · replace h := h.1 hc16
              refine vv_sub [0, 1, 2, 3] (L' := [(0, .ref (vv_q Y 0)), (1, .int a1), (3, .int a3), (4, .int v3)]) rfl ?_
              exact hJk61_10 _ h
            · replace h := h.2 hc16
              refine vv_iconst C dX8_isGap_59 ki_0 ?_
              exact vv_zret C (Or.inl rfl) dX8_isGap_60 h
  refine vv_sub [1, 2, 4, 0] (L' := [(0, .ref (vv_q Y 0)), (1, .int a1), (3, .int a3), (4, .int (0 : Int32))]) rfl ?_
  exact hl1 n5 _ _ h
set_option maxHeartbeats 2000000 in
set_option maxRecDepth 100000 in
theorem mX8_gap {Y : vv_Y} (hY : Y.2.2.2.2 = wC) {a1 : Int32} {a2 : Int32} {σ : vv_S} {post : Int32 → vv_S → Prop} (h : wX8_gap a1 a2 σ post) : vv_MI Y yX8_gap cX8_gap 5 (some .int) 4 92 [.ref (vv_q Y 0), .int a1, .int a2] σ post := by
  refine vv_ofI (by decide) (Nat.le_of_ble_eq_true rfl) (fun X C => ?_)
  have C : VC Y X RX8 cX8_gap 5 (some .int) 4 92 := C
  refine vv_sub [0, 1, 2] (L' := [(0, .ref (vv_q Y 0)), (1, .int a1), (2, .int a2)]) rfl ?_
  refine vv_iload_n C 1 dX8_gap_0 rfl rfl ?_
  refine vv_iconst C dX8_gap_1 ki_1 ?_
  refine vv_bipush C dX8_gap_2 kb_60 ?_
  refine vv_callS (rest := []) C yk_X8_isWithin sk_X8_isWithin lk_X8_92 dX8_gap_4 (mX8_isWithin hY h) rfl rfl ⟨Nat.le_of_ble_eq_true rfl, Nat.le_of_ble_eq_true rfl⟩ (Nat.le_of_ble_eq_true rfl) (fun r2 σ1 h => ?_)
  refine vv_join (fun k => ∀ (σ3 : vv_S), k σ3 → VJ Y X (va_Qi post (vv_B Y) X.2) 5 19 [] [] σ3) h (fun σ3 h => ?_) (fun k19_3 hJk19_3 h => ?_)
  · refine vv_iconst C dX8_gap_19 ki_m1 ?_
    exact vv_iret C dX8_gap_20 h
  · refine vv_if_eq (pc := 7) C 19 dX8_gap_7 (by decide) (fun hc5 => ?_) (fun hc5 => ?_)
    · replace h := h.1 hc5
      refine vv_sub [] (L' := []) rfl ?_
      exact hJk19_3 _ h
    · replace h := h.2 hc5
      refine vv_iload_n C 2 dX8_gap_10 rfl rfl ?_
      refine vv_iconst C dX8_gap_11 ki_0 ?_
      refine vv_iconst C dX8_gap_12 ki_1 ?_
      refine vv_callS (rest := []) C yk_X8_isWithin sk_X8_isWithin lk_X8_92 dX8_gap_13 (mX8_isWithin hY h) rfl rfl ⟨Nat.le_of_ble_eq_true rfl, Nat.le_of_ble_eq_true rfl⟩ (Nat.le_of_ble_eq_true rfl) (fun r7 σ6 h => ?_)
      refine vv_if_ne (pc := 16) C 21 dX8_gap_16 (by decide) (fun hc8 => ?_) (fun hc8 => ?_)
      · replace h := h.1 hc8
        refine vv_bipush C dX8_gap_21 kb_40 ?_
        refine vv_istore_n (L' := [(3, .int (40 : Int32)), (0, .ref (vv_q Y 0)), (1, .int a1), (2, .int a2)]) C dX8_gap_23 rfl (by decide) rfl ?_
        refine vv_join (fun k => ∀ (v9 : Int32) (v10 : Int32) (σ11 : vv_S), k v9 v10 σ11 → VJ Y X (va_Qi post (vv_B Y) X.2) 5 54 [(2, .int a2), (3, .int v9), (4, .int v10)] [] σ11) h (fun v9 v10 σ11 h => ?_) (fun k54_11 hJk54_11 h => ?_)
        · refine vv_iload_n C 0 dX8_gap_54 rfl rfl ?_
          refine vv_join (fun k => ∀ (v13 : Int32), k v13 → VJ Y X (va_Qi post (vv_B Y) X.2) 5 64 [] [.int v13] σ11) h (fun v13 h => ?_) (fun k64_13 hJk64_13 h => ?_)
          · exact vv_iret C dX8_gap_64 h
          · refine vv_if_ne (pc := 55) C 62 dX8_gap_55 (by decide) (fun hc15 => ?_) (fun hc15 => ?_)
            · replace h := h.1 hc15
              refine vv_iload C 2 dX8_gap_62 rfl ?_
              refine vv_sub [] (L' := []) rfl ?_
              exact hJk64_13 _ h
            · replace h := h.2 hc15
              refine vv_iload_n C 1 dX8_gap_58 rfl rfl ?_
              refine vv_goto (pc := 59) (tgt := 64) C dX8_gap_59 (by decide) ?_
              refine vv_sub [] (L' := []) rfl ?_
              exact hJk64_13 _ h
        · obtain ⟨n18, h⟩ := h
          have hl1 : ∀ (n18 : Nat) (v16 : Int32) (σ17 : vv_S), lX8_gap_1 post a1 k54_11 n18 v16 σ17 → VJ Y X (va_Qi post (vv_B Y) X.2) 5 24 [(0, .ref (vv_q Y 0)), (1, .int a1), (2, .int a2), (3, .int v16)] [] σ17 := by
            clear h
            intro n18
            induction n18 with
            | zero => intro v16 σ17 h; exact False.elim h
            | succ n18 ih1 =>
              intro v16 σ17 h
              refine vv_iload_n C 3 dX8_gap_24 rfl rfl ?_
              refine vv_if_lt (pc := 25) C 77 dX8_gap_25 (by decide) (fun hc19 => ?_) (fun hc19 => ?_)
              · replace h := h.1 hc19
                refine vv_bipush C dX8_gap_77 kb_m4 ?_
                exact vv_iret C dX8_gap_79 h
              · replace h := h.2 hc19
                refine vv_iconst C dX8_gap_28 ki_0 ?_
                refine vv_istore (L' := [(4, .int (0 : Int32)), (0, .ref (vv_q Y 0)), (1, .int a1), (2, .int a2), (3, .int v16)]) C dX8_gap_29 (by decide) rfl ?_
                refine vv_join (fun k => ∀ (σ20 : vv_S), k σ20 → VJ Y X (va_Qi post (vv_B Y) X.2) 5 71 [(0, .ref (vv_q Y 0)), (1, .int a1), (2, .int a2), (3, .int v16)] [] σ20) h (fun σ20 h => ?_) (fun k71_20 hJk71_20 h => ?_)
                · obtain ⟨v22, ev22⟩ : ∃ z : Int32, z = v16 + (-1 : Int32) := ⟨_, rfl⟩
                  replace h := h v22 ev22
                  refine vv_iinc (v := v22) (L' := [(3, .int v22), (0, .ref (vv_q Y 0)), (1, .int a1), (2, .int a2)]) C 3 dX8_gap_71 rfl ((kinc ki_m1).trans ev22.symm) (by decide) rfl ?_
                  refine vv_goto (pc := 74) (tgt := 24) C dX8_gap_74 (by decide) ?_
                  refine vv_sub [1, 2, 3, 0] (L' := [(0, .ref (vv_q Y 0)), (1, .int a1), (2, .int a2), (3, .int v22)]) rfl ?_
                  exact ih1 _ _ h
                · obtain ⟨n25, h⟩ := h
                  have hl2 : ∀ (n25 : Nat) (v23 : Int32) (σ24 : vv_S), lX8_gap_2 k71_20 v16 a1 k54_11 n25 v23 σ24 → VJ Y X (va_Qi post (vv_B Y) X.2) 5 31 [(0, .ref (vv_q Y 0)), (1, .int a1), (2, .int a2), (3, .int v16), (4, .int v23)] [] σ24 := by
                    clear h
                    intro n25
                    induction n25 with
                    | zero => intro v23 σ24 h; exact False.elim h
                    | succ n25 ih2 =>
                      intro v23 σ24 h
                      refine vv_iload C 4 dX8_gap_31 rfl ?_
                      refine vv_aload_n C 0 dX8_gap_33 rfl rfl ?_
                      refine vv_getr (r := 4) C kc_X8 (s_X8 hY) 1 (by decide) rfl fk_X8_19 dX8_gap_34 ?_
                      refine vv_callI (rest := [.int v23]) C yk_X4_cellCount vk_X4_cellCount lk_X8_99 kc_X4.1 (s_X4 hY (show is_X4 4 by decide)) dX8_gap_37 (mX4_cellCount hY (show is_X4 4 by decide) h) rfl rfl ⟨Nat.le_of_ble_eq_true rfl, Nat.le_of_ble_eq_true rfl⟩ (Nat.le_of_ble_eq_true rfl) (fun r27 σ26 h => ?_)
                      refine vv_icmp_ge (pc := 40) C 71 dX8_gap_40 (by decide) (fun hc28 => ?_) (fun hc28 => ?_)
                      · replace h := h.1 hc28
                        refine vv_sub [0, 1, 2, 3] (L' := [(0, .ref (vv_q Y 0)), (1, .int a1), (2, .int a2), (3, .int v16)]) rfl ?_
                        exact hJk71_20 _ h
                      · replace h := h.2 hc28
                        refine vv_aload_n C 0 dX8_gap_43 rfl rfl ?_
                        refine vv_iload C 4 dX8_gap_44 rfl ?_
                        refine vv_iload_n C 3 dX8_gap_46 rfl rfl ?_
                        refine vv_iload_n C 1 dX8_gap_47 rfl rfl ?_
                        refine vv_callI (rest := []) C yk_X8_isGap vk_X8_isGap lk_X8_223 kc_X8.1 (s_X8 hY) dX8_gap_48 (mX8_isGap hY h) rfl rfl ⟨Nat.le_of_ble_eq_true rfl, Nat.le_of_ble_eq_true rfl⟩ (Nat.le_of_ble_eq_true rfl) (fun r30 σ29 h => ?_)
                        refine vv_if_eq (pc := 51) C 65 dX8_gap_51 (by decide) (fun hc31 => ?_) (fun hc31 => ?_)
                        · replace h := h.1 hc31
                          obtain ⟨v32, ev32⟩ : ∃ z : Int32, z = v23 + (1 : Int32) := ⟨_, rfl⟩
                          replace h := h v32 ev32
                          refine vv_iinc (v := v32) (L' := [(4, .int v32), (0, .ref (vv_q Y 0)), (1, .int a1), (2, .int a2), (3, .int v16)]) C 4 dX8_gap_65 rfl ((kinc ki_1).trans ev32.symm) (by decide) rfl ?_
                          refine vv_goto (pc := 68) (tgt := 31) C dX8_gap_68 (by decide) ?_
                          refine vv_sub [1, 2, 3, 4, 0] (L' := [(0, .ref (vv_q Y 0)), (1, .int a1), (2, .int a2), (3, .int v16), (4, .int v32)]) rfl ?_
                          exact ih2 _ _ h
                        · replace h := h.2 hc31
                          refine vv_sub [2, 3, 4] (L' := [(2, .int a2), (3, .int v16), (4, .int v23)]) rfl ?_
                          exact hJk54_11 _ _ _ h
                  refine vv_sub [1, 2, 3, 4, 0] (L' := [(0, .ref (vv_q Y 0)), (1, .int a1), (2, .int a2), (3, .int v16), (4, .int (0 : Int32))]) rfl ?_
                  exact hl2 n25 _ _ h
          refine vv_sub [1, 2, 3, 0] (L' := [(0, .ref (vv_q Y 0)), (1, .int a1), (2, .int a2), (3, .int (40 : Int32))]) rfl ?_
          exact hl1 n18 _ _ h
      · replace h := h.2 hc8
        refine vv_sub [] (L' := []) rfl ?_
        exact hJk19_3 _ h
set_option maxHeartbeats 2000000 in
set_option maxRecDepth 100000 in
theorem mX8_together {Y : vv_Y} (hY : Y.2.2.2.2 = wC) {a1 : Int32} {σ : vv_S} {post : Int32 → vv_S → Prop} (h : wX8_together a1 σ post) : vv_MI Y yX8_together cX8_together 3 (some .int) 3 74 [.ref (vv_q Y 0), .int a1] σ post := by
  refine vv_ofI (by decide) (Nat.le_of_ble_eq_true rfl) (fun X C => ?_)
  have C : VC Y X RX8 cX8_together 3 (some .int) 3 74 := C
  refine vv_sub [0, 1] (L' := [(0, .ref (vv_q Y 0)), (1, .int a1)]) rfl ?_
  refine vv_iload_n C 1 dX8_together_0 rfl rfl ?_
  refine vv_iconst C dX8_together_1 ki_m1 ?_
  refine vv_aload_n C 0 dX8_together_2 rfl rfl ?_
  refine vv_getr (r := 4) C kc_X8 (s_X8 hY) 1 (by decide) rfl fk_X8_19 dX8_together_3 ?_
  refine vv_callR (r := 14) (rest := [.int (-1 : Int32), .int a1]) C yk_X4_crew vk_X4_crew lk_X8_236 kc_X4.1 (s_X4 hY (show is_X4 4 by decide)) dX8_together_6 (mX4_crew hY (show is_X4 4 by decide) h) rfl rfl ⟨Nat.le_of_ble_eq_true rfl, Nat.le_of_ble_eq_true rfl⟩ (Nat.le_of_ble_eq_true rfl) (fun σ1 h => ?_)
  refine vv_callI (rest := [.int (-1 : Int32), .int a1]) C yk_X2_jobCount vk_X2_jobCount lk_X8_240 kc_X2.1 (s_X2 hY (show is_X2 14 by decide)) dX8_together_9 (mX2_jobCount hY (show is_X2 14 by decide) h) rfl rfl ⟨Nat.le_of_ble_eq_true rfl, Nat.le_of_ble_eq_true rfl⟩ (Nat.le_of_ble_eq_true rfl) (fun r3 σ2 h => ?_)
  refine vv_iconst C dX8_together_12 ki_1 ?_
  refine vv_isub C dX8_together_13 ?_
  refine vv_callS (rest := []) C yk_X8_isWithin sk_X8_isWithin lk_X8_92 dX8_together_14 (mX8_isWithin hY h) rfl rfl ⟨Nat.le_of_ble_eq_true rfl, Nat.le_of_ble_eq_true rfl⟩ (Nat.le_of_ble_eq_true rfl) (fun r5 σ4 h => ?_)
  refine vv_if_ne (pc := 17) C 22 dX8_together_17 (by decide) (fun hc6 => ?_) (fun hc6 => ?_)
  · replace h := h.1 hc6
    refine vv_aload_n C 0 dX8_together_22 rfl rfl ?_
    refine vv_getr (r := 4) C kc_X8 (s_X8 hY) 1 (by decide) rfl fk_X8_19 dX8_together_23 ?_
    refine vv_callR (r := 14) (rest := []) C yk_X4_crew vk_X4_crew lk_X8_236 kc_X4.1 (s_X4 hY (show is_X4 4 by decide)) dX8_together_26 (mX4_crew hY (show is_X4 4 by decide) h) rfl rfl ⟨Nat.le_of_ble_eq_true rfl, Nat.le_of_ble_eq_true rfl⟩ (Nat.le_of_ble_eq_true rfl) (fun σ7 h => ?_)
    refine vv_callI (rest := []) C yk_X2_quickestWay vk_X2_quickestWay lk_X8_245 kc_X2.1 (s_X2 hY (show is_X2 14 by decide)) dX8_together_29 (mX2_quickestWay hY (show is_X2 14 by decide) h) rfl rfl ⟨Nat.le_of_ble_eq_true rfl, Nat.le_of_ble_eq_true rfl⟩ (Nat.le_of_ble_eq_true rfl) (fun r9 σ8 h => ?_)
    refine vv_istore_n (L' := [(2, .int r9), (0, .ref (vv_q Y 0)), (1, .int a1)]) C dX8_together_32 rfl (by decide) rfl ?_
    refine vv_iload_n C 0 dX8_together_33 rfl rfl ?_
    refine vv_bipush C dX8_together_34 kb_m4 ?_
    refine vv_icmp_ne (pc := 36) C 42 dX8_together_36 (by decide) (fun hc10 => ?_) (fun hc10 => ?_)
    · replace h := h.1 hc10
      refine vv_iload_n C 2 dX8_together_42 rfl rfl ?_
      refine vv_iconst C dX8_together_43 ki_m1 ?_
      refine vv_join (fun k => ∀ (v11 : Int32) (σ12 : vv_S), k v11 σ12 → VJ Y X (va_Qi post (vv_B Y) X.2) 3 73 [] [.int v11] σ12) h (fun v11 σ12 h => ?_) (fun k73_12 hJk73_12 h => ?_)
      · exact vv_iret C dX8_together_73 h
      · refine vv_icmp_ne (pc := 44) C 61 dX8_together_44 (by decide) (fun hc14 => ?_) (fun hc14 => ?_)
        · replace h := h.1 hc14
          refine vv_aload_n C 1 dX8_together_61 rfl rfl ?_
          refine vv_getr (r := 4) C kc_X8 (s_X8 hY) 1 (by decide) rfl fk_X8_19 dX8_together_62 ?_
          refine vv_callR (r := 14) (rest := []) C yk_X4_crew vk_X4_crew lk_X8_236 kc_X4.1 (s_X4 hY (show is_X4 4 by decide)) dX8_together_65 (mX4_crew hY (show is_X4 4 by decide) h) rfl rfl ⟨Nat.le_of_ble_eq_true rfl, Nat.le_of_ble_eq_true rfl⟩ (Nat.le_of_ble_eq_true rfl) (fun σ15 h => ?_)
          refine vv_iload_n C 2 dX8_together_68 rfl rfl ?_
          refine vv_iload_n C 0 dX8_together_69 rfl rfl ?_
          refine vv_callI (rest := []) C yk_X2_whoDoes vk_X2_whoDoes lk_X8_251 kc_X2.1 (s_X2 hY (show is_X2 14 by decide)) dX8_together_70 (mX2_whoDoes hY (show is_X2 14 by decide) h) rfl rfl ⟨Nat.le_of_ble_eq_true rfl, Nat.le_of_ble_eq_true rfl⟩ (Nat.le_of_ble_eq_true rfl) (fun r17 σ16 h => ?_)
          refine vv_sub [] (L' := []) rfl ?_
          exact hJk73_12 _ _ h
        · replace h := h.2 hc14
          refine vv_aload_n C 1 dX8_together_47 rfl rfl ?_
          refine vv_getr (r := 4) C kc_X8 (s_X8 hY) 1 (by decide) rfl fk_X8_19 dX8_together_48 ?_
          refine vv_callR (r := 14) (rest := []) C yk_X4_crew vk_X4_crew lk_X8_236 kc_X4.1 (s_X4 hY (show is_X4 4 by decide)) dX8_together_51 (mX4_crew hY (show is_X4 4 by decide) h) rfl rfl ⟨Nat.le_of_ble_eq_true rfl, Nat.le_of_ble_eq_true rfl⟩ (Nat.le_of_ble_eq_true rfl) (fun σ18 h => ?_)
          refine vv_iload_n C 0 dX8_together_54 rfl rfl ?_
          refine vv_callI (rest := []) C yk_X2_minutesBy vk_X2_minutesBy lk_X8_248 kc_X2.1 (s_X2 hY (show is_X2 14 by decide)) dX8_together_55 (mX2_minutesBy hY (show is_X2 14 by decide) h) rfl rfl ⟨Nat.le_of_ble_eq_true rfl, Nat.le_of_ble_eq_true rfl⟩ (Nat.le_of_ble_eq_true rfl) (fun r20 σ19 h => ?_)
          refine vv_goto (pc := 58) (tgt := 73) C dX8_together_58 (by decide) ?_
          refine vv_sub [] (L' := []) rfl ?_
          exact hJk73_12 _ _ h
    · replace h := h.2 hc10
      refine vv_bipush C dX8_together_39 kb_m4 ?_
      exact vv_iret C dX8_together_41 h
  · replace h := h.2 hc6
    refine vv_iconst C dX8_together_20 ki_m1 ?_
    exact vv_iret C dX8_together_21 h
set_option maxHeartbeats 2000000 in
set_option maxRecDepth 100000 in
theorem mX8_letOut {Y : vv_Y} (hY : Y.2.2.2.2 = wC) {a1 : Int32} {a2 : Int32} {a3 : Int32} {σ : vv_S} {post : Int32 → vv_S → Prop} (h : wX8_letOut a1 a2 a3 σ post) : vv_MI Y yX8_letOut cX8_letOut 7 (some .int) 4 87 [.ref (vv_q Y 0), .int a1, .int a2, .int a3] σ post := by
  refine vv_ofI (by decide) (Nat.le_of_ble_eq_true rfl) (fun X C => ?_)
  have C : VC Y X RX8 cX8_letOut 7 (some .int) 4 87 := C
  refine vv_sub [0, 1, 2, 3] (L' := [(0, .ref (vv_q Y 0)), (1, .int a1), (2, .int a2), (3, .int a3)]) rfl ?_
  refine vv_iconst C dX8_letOut_0 ki_0 ?_
  refine vv_istore (L' := [(4, .int (0 : Int32)), (0, .ref (vv_q Y 0)), (1, .int a1), (2, .int a2), (3, .int a3)]) C dX8_letOut_1 (by decide) rfl ?_
  refine vv_iconst C dX8_letOut_3 ki_0 ?_
  refine vv_istore (L' := [(5, .int (0 : Int32)), (4, .int (0 : Int32)), (0, .ref (vv_q Y 0)), (1, .int a1), (2, .int a2), (3, .int a3)]) C dX8_letOut_4 (by decide) rfl ?_
  refine vv_aload_n C 2 dX8_letOut_6 rfl rfl ?_
  refine vv_getr (r := 46) C kc_X8 (s_X8 hY) 4 (by decide) rfl fk_X8_35 dX8_letOut_7 ?_
  refine vv_aload_n C 2 dX8_letOut_10 rfl rfl ?_
  refine vv_getr (r := 42) C kc_X8 (s_X8 hY) 3 (by decide) rfl fk_X8_31 dX8_letOut_11 ?_
  refine vv_callV (rest := []) C yk_X3_copyFrom vk_X3_copyFrom lk_X8_186 kc_X3.1 (s_X3 hY (show is_X3 46 by decide)) dX8_letOut_14 (mX3_copyFrom hY (show is_X3 46 by decide) (show is_X3 42 by decide) h) rfl rfl ⟨Nat.le_of_ble_eq_true rfl, Nat.le_of_ble_eq_true rfl⟩ (Nat.le_of_ble_eq_true rfl) (fun σ1 h => ?_)
  refine vv_iconst C dX8_letOut_17 ki_1 ?_
  refine vv_istore (L' := [(6, .int (1 : Int32)), (5, .int (0 : Int32)), (4, .int (0 : Int32)), (0, .ref (vv_q Y 0)), (1, .int a1), (2, .int a2), (3, .int a3)]) C dX8_letOut_18 (by decide) rfl ?_
  refine vv_join (fun k => ∀ (v2 : Int32) (σ3 : vv_S), k v2 σ3 → VJ Y X (va_Qi post (vv_B Y) X.2) 7 105 [(3, .int a3), (4, .int v2)] [] σ3) h (fun v2 σ3 h => ?_) (fun k105_3 hJk105_3 h => ?_)
  · refine vv_iload_n C 0 dX8_letOut_105 rfl rfl ?_
    refine vv_join (fun k => ∀ (v5 : Int32), k v5 → VJ Y X (va_Qi post (vv_B Y) X.2) 7 116 [] [.int v5] σ3) h (fun v5 h => ?_) (fun k116_5 hJk116_5 h => ?_)
    · exact vv_iret C dX8_letOut_116 h
    · refine vv_if_eq (pc := 106) C 114 dX8_letOut_106 (by decide) (fun hc7 => ?_) (fun hc7 => ?_)
      · replace h := h.1 hc7
        refine vv_iload C 1 dX8_letOut_114 rfl ?_
        refine vv_sub [] (L' := []) rfl ?_
        exact hJk116_5 _ h
      · replace h := h.2 hc7
        refine vv_bipush C dX8_letOut_109 kb_m4 ?_
        refine vv_goto (pc := 111) (tgt := 116) C dX8_letOut_111 (by decide) ?_
        refine vv_sub [] (L' := []) rfl ?_
        exact hJk116_5 _ h
  · obtain ⟨n12, h⟩ := h
    have hl1 : ∀ (n12 : Nat) (v8 : Int32) (v9 : Int32) (v10 : Int32) (σ11 : vv_S), lX8_letOut_1 k105_3 a3 post a2 a1 n12 v8 v9 v10 σ11 → VJ Y X (va_Qi post (vv_B Y) X.2) 7 20 [(0, .ref (vv_q Y 0)), (1, .int a1), (2, .int a2), (3, .int a3), (4, .int v8), (5, .int v9), (6, .int v10)] [] σ11 := by
      clear h
      intro n12
      induction n12 with
      | zero => intro v8 v9 v10 σ11 h; exact False.elim h
      | succ n12 ih1 =>
        intro v8 v9 v10 σ11 h
        refine vv_iload C 6 dX8_letOut_20 rfl ?_
        refine vv_bipush C dX8_letOut_22 kb_60 ?_
        refine vv_icmp_gt (pc := 24) C 105 dX8_letOut_24 (by decide) (fun hc13 => ?_) (fun hc13 => ?_)
        · replace h := h.1 hc13
          refine vv_sub [3, 4] (L' := [(3, .int a3), (4, .int v8)]) rfl ?_
          exact hJk105_3 _ _ h
        · replace h := h.2 hc13
          obtain ⟨v14, ev14⟩ : ∃ z : Int32, z = v9 + (1 : Int32) := ⟨_, rfl⟩
          replace h := h v14 ev14
          refine vv_iinc (v := v14) (L' := [(5, .int v14), (0, .ref (vv_q Y 0)), (1, .int a1), (2, .int a2), (3, .int a3), (4, .int v8), (6, .int v10)]) C 5 dX8_letOut_27 rfl ((kinc ki_1).trans ev14.symm) (by decide) rfl ?_
          refine vv_iload C 0 dX8_letOut_30 rfl ?_
          refine vv_iload_n C 3 dX8_letOut_32 rfl rfl ?_
          refine vv_join (fun k => ∀ (v15 : Int32) (σ16 : vv_S), k v15 σ16 → VJ Y X (va_Qi post (vv_B Y) X.2) 7 60 [(0, .ref (vv_q Y 0)), (1, .int a1), (2, .int a2), (3, .int a3), (4, .int v8), (5, .int v15), (6, .int v10)] [] σ16) h (fun v15 σ16 h => ?_) (fun k60_16 hJk60_16 h => ?_)
          · refine vv_aload_n C 0 dX8_letOut_60 rfl rfl ?_
            refine vv_getr (r := 46) C kc_X8 (s_X8 hY) 4 (by decide) rfl fk_X8_35 dX8_letOut_61 ?_
            refine vv_iconst C dX8_letOut_64 ki_0 ?_
            refine vv_callV (rest := []) C yk_X3_oneMinute vk_X3_oneMinute lk_X8_229 kc_X3.1 (s_X3 hY (show is_X3 46 by decide)) dX8_letOut_65 (mX3_oneMinute hY (show is_X3 46 by decide) h) rfl rfl ⟨Nat.le_of_ble_eq_true rfl, Nat.le_of_ble_eq_true rfl⟩ (Nat.le_of_ble_eq_true rfl) (fun σ18 h => ?_)
            refine vv_iload C 4 dX8_letOut_68 rfl ?_
            refine vv_aload_n C 0 dX8_letOut_70 rfl rfl ?_
            refine vv_getr (r := 46) C kc_X8 (s_X8 hY) 4 (by decide) rfl fk_X8_35 dX8_letOut_71 ?_
            refine vv_callI (rest := [.int v8]) C yk_X3_overInMinute vk_X3_overInMinute lk_X8_233 kc_X3.1 (s_X3 hY (show is_X3 46 by decide)) dX8_letOut_74 (mX3_overInMinute hY (show is_X3 46 by decide) h) rfl rfl ⟨Nat.le_of_ble_eq_true rfl, Nat.le_of_ble_eq_true rfl⟩ (Nat.le_of_ble_eq_true rfl) (fun r20 σ19 h => ?_)
            refine vv_max C lk_X8_258 mk_max (by decide) (Nat.le_of_ble_eq_true rfl) dX8_letOut_77 ?_
            refine vv_nm (fun v21 ev21 => ?_)
            replace h := h v21 ev21
            refine vv_istore (L' := [(4, .int v21), (0, .ref (vv_q Y 0)), (1, .int a1), (2, .int a2), (3, .int a3), (5, .int v15), (6, .int v10)]) C dX8_letOut_80 (by decide) rfl ?_
            refine vv_iload_n C 4 dX8_letOut_82 rfl rfl ?_
            refine vv_join (fun k => ∀ (σ22 : vv_S), k σ22 → VJ Y X (va_Qi post (vv_B Y) X.2) 7 99 [(0, .ref (vv_q Y 0)), (1, .int a1), (2, .int a2), (3, .int a3), (4, .int v21), (5, .int v15), (6, .int v10)] [] σ22) h (fun σ22 h => ?_) (fun k99_22 hJk99_22 h => ?_)
            · obtain ⟨v24, ev24⟩ : ∃ z : Int32, z = v10 + (1 : Int32) := ⟨_, rfl⟩
              replace h := h v24 ev24
              refine vv_iinc (v := v24) (L' := [(6, .int v24), (0, .ref (vv_q Y 0)), (1, .int a1), (2, .int a2), (3, .int a3), (4, .int v21), (5, .int v15)]) C 6 dX8_letOut_99 rfl ((kinc ki_1).trans ev24.symm) (by decide) rfl ?_
              refine vv_goto (pc := 102) (tgt := 20) C dX8_letOut_102 (by decide) ?_
              refine vv_sub [1, 2, 3, 4, 5, 6, 0] (L' := [(0, .ref (vv_q Y 0)), (1, .int a1), (2, .int a2), (3, .int a3), (4, .int v21), (5, .int v15), (6, .int v24)]) rfl ?_
              exact ih1 _ _ _ _ h
            · refine vv_if_eq (pc := 83) C 99 dX8_letOut_83 (by decide) (fun hc25 => ?_) (fun hc25 => ?_)
              · replace h := h.1 hc25
                refine vv_sub [1, 2, 3, 4, 0, 5, 6] (L' := [(0, .ref (vv_q Y 0)), (1, .int a1), (2, .int a2), (3, .int a3), (4, .int v21), (5, .int v15), (6, .int v10)]) rfl ?_
                exact hJk99_22 _ h
              · replace h := h.2 hc25
                refine vv_aload_n C 1 dX8_letOut_86 rfl rfl ?_
                refine vv_getr (r := 46) C kc_X8 (s_X8 hY) 4 (by decide) rfl fk_X8_35 dX8_letOut_87 ?_
                refine vv_callI (rest := []) C yk_X3_level vk_X3_level lk_X8_121 kc_X3.1 (s_X3 hY (show is_X3 46 by decide)) dX8_letOut_90 (mX3_level hY (show is_X3 46 by decide) h) rfl rfl ⟨Nat.le_of_ble_eq_true rfl, Nat.le_of_ble_eq_true rfl⟩ (Nat.le_of_ble_eq_true rfl) (fun r27 σ26 h => ?_)
                refine vv_if_ne (pc := 93) C 99 dX8_letOut_93 (by decide) (fun hc28 => ?_) (fun hc28 => ?_)
                · replace h := h.1 hc28
                  refine vv_sub [1, 2, 3, 4, 0, 5, 6] (L' := [(0, .ref (vv_q Y 0)), (1, .int a1), (2, .int a2), (3, .int a3), (4, .int v21), (5, .int v15), (6, .int v10)]) rfl ?_
                  exact hJk99_22 _ h
                · replace h := h.2 hc28
                  refine vv_iload C 6 dX8_letOut_96 rfl ?_
                  exact vv_iret C dX8_letOut_98 h
          · refine vv_icmp_ne (pc := 33) C 60 dX8_letOut_33 (by decide) (fun hc29 => ?_) (fun hc29 => ?_)
            · replace h := h.1 hc29
              refine vv_sub [1, 2, 3, 4, 5, 0, 6] (L' := [(0, .ref (vv_q Y 0)), (1, .int a1), (2, .int a2), (3, .int a3), (4, .int v8), (5, .int v14), (6, .int v10)]) rfl ?_
              exact hJk60_16 _ _ h
            · replace h := h.2 hc29
              refine vv_iconst C dX8_letOut_36 ki_0 ?_
              refine vv_istore (L' := [(5, .int (0 : Int32)), (0, .ref (vv_q Y 0)), (1, .int a1), (2, .int a2), (3, .int a3), (4, .int v8), (6, .int v10)]) C dX8_letOut_37 (by decide) rfl ?_
              refine vv_aload_n C 1 dX8_letOut_39 rfl rfl ?_
              refine vv_getr (r := 46) C kc_X8 (s_X8 hY) 4 (by decide) rfl fk_X8_35 dX8_letOut_40 ?_
              refine vv_iload_n C 2 dX8_letOut_43 rfl rfl ?_
              refine vv_iconst C dX8_letOut_44 ki_1 ?_
              refine vv_callI (rest := []) C yk_X3_canDig vk_X3_canDig lk_X8_165 kc_X3.1 (s_X3 hY (show is_X3 46 by decide)) dX8_letOut_45 (mX3_canDig hY (show is_X3 46 by decide) h) rfl rfl ⟨Nat.le_of_ble_eq_true rfl, Nat.le_of_ble_eq_true rfl⟩ (Nat.le_of_ble_eq_true rfl) (fun r31 σ30 h => ?_)
              refine vv_if_eq (pc := 48) C 60 dX8_letOut_48 (by decide) (fun hc32 => ?_) (fun hc32 => ?_)
              · replace h := h.1 hc32
                refine vv_sub [1, 2, 3, 4, 5, 0, 6] (L' := [(0, .ref (vv_q Y 0)), (1, .int a1), (2, .int a2), (3, .int a3), (4, .int v8), (5, .int (0 : Int32)), (6, .int v10)]) rfl ?_
                exact hJk60_16 _ _ h
              · replace h := h.2 hc32
                refine vv_aload_n C 1 dX8_letOut_51 rfl rfl ?_
                refine vv_getr (r := 46) C kc_X8 (s_X8 hY) 4 (by decide) rfl fk_X8_35 dX8_letOut_52 ?_
                refine vv_iload_n C 2 dX8_letOut_55 rfl rfl ?_
                refine vv_iconst C dX8_letOut_56 ki_1 ?_
                refine vv_callV (rest := []) C yk_X3_digAt vk_X3_digAt lk_X8_168 kc_X3.1 (s_X3 hY (show is_X3 46 by decide)) dX8_letOut_57 (mX3_digAt hY (show is_X3 46 by decide) h) rfl rfl ⟨Nat.le_of_ble_eq_true rfl, Nat.le_of_ble_eq_true rfl⟩ (Nat.le_of_ble_eq_true rfl) (fun σ33 h => ?_)
                refine vv_sub [1, 2, 3, 4, 5, 0, 6] (L' := [(0, .ref (vv_q Y 0)), (1, .int a1), (2, .int a2), (3, .int a3), (4, .int v8), (5, .int (0 : Int32)), (6, .int v10)]) rfl ?_
                exact hJk60_16 _ _ h
    refine vv_sub [3, 4, 5, 6, 2, 1, 0] (L' := [(0, .ref (vv_q Y 0)), (1, .int a1), (2, .int a2), (3, .int a3), (4, .int (0 : Int32)), (5, .int (0 : Int32)), (6, .int (1 : Int32))]) rfl ?_
    exact hl1 n12 _ _ _ _ h
set_option maxHeartbeats 2000000 in
set_option maxRecDepth 100000 in
theorem mX8_slow {Y : vv_Y} (hY : Y.2.2.2.2 = wC) {a1 : Int32} {a2 : Int32} {a3 : Int32} {σ : vv_S} {post : Int32 → vv_S → Prop} (h : wX8_slow a1 a2 a3 σ post) : vv_MI Y yX8_slow cX8_slow 6 (some .int) 5 113 [.ref (vv_q Y 0), .int a1, .int a2, .int a3] σ post := by
  refine vv_ofI (by decide) (Nat.le_of_ble_eq_true rfl) (fun X C => ?_)
  have C : VC Y X RX8 cX8_slow 6 (some .int) 5 113 := C
  refine vv_sub [0, 1, 2, 3] (L' := [(0, .ref (vv_q Y 0)), (1, .int a1), (2, .int a2), (3, .int a3)]) rfl ?_
  refine vv_aload_n C 0 dX8_slow_0 rfl rfl ?_
  refine vv_iload_n C 1 dX8_slow_1 rfl rfl ?_
  refine vv_callI (rest := []) C yk_X8_isCell vk_X8_isCell lk_X8_108 kc_X8.1 (s_X8 hY) dX8_slow_2 (mX8_isCell hY h) rfl rfl ⟨Nat.le_of_ble_eq_true rfl, Nat.le_of_ble_eq_true rfl⟩ (Nat.le_of_ble_eq_true rfl) (fun r2 σ1 h => ?_)
  refine vv_join (fun k => ∀ (σ3 : vv_S), k σ3 → VJ Y X (va_Qi post (vv_B Y) X.2) 6 28 [] [] σ3) h (fun σ3 h => ?_) (fun k28_3 hJk28_3 h => ?_)
  · refine vv_iconst C dX8_slow_28 ki_m1 ?_
    exact vv_iret C dX8_slow_29 h
  · refine vv_if_eq (pc := 5) C 28 dX8_slow_5 (by decide) (fun hc5 => ?_) (fun hc5 => ?_)
    · replace h := h.1 hc5
      refine vv_sub [] (L' := []) rfl ?_
      exact hJk28_3 _ h
    · replace h := h.2 hc5
      refine vv_iload_n C 2 dX8_slow_8 rfl rfl ?_
      refine vv_iconst C dX8_slow_9 ki_0 ?_
      refine vv_sipush C dX8_slow_10 ks_999 ?_
      refine vv_callS (rest := []) C yk_X8_isWithin sk_X8_isWithin lk_X8_92 dX8_slow_13 (mX8_isWithin hY h) rfl rfl ⟨Nat.le_of_ble_eq_true rfl, Nat.le_of_ble_eq_true rfl⟩ (Nat.le_of_ble_eq_true rfl) (fun r7 σ6 h => ?_)
      refine vv_if_eq (pc := 16) C 28 dX8_slow_16 (by decide) (fun hc8 => ?_) (fun hc8 => ?_)
      · replace h := h.1 hc8
        refine vv_sub [] (L' := []) rfl ?_
        exact hJk28_3 _ h
      · replace h := h.2 hc8
        refine vv_iload_n C 3 dX8_slow_19 rfl rfl ?_
        refine vv_iconst C dX8_slow_20 ki_0 ?_
        refine vv_iconst C dX8_slow_21 ki_1 ?_
        refine vv_callS (rest := []) C yk_X8_isWithin sk_X8_isWithin lk_X8_92 dX8_slow_22 (mX8_isWithin hY h) rfl rfl ⟨Nat.le_of_ble_eq_true rfl, Nat.le_of_ble_eq_true rfl⟩ (Nat.le_of_ble_eq_true rfl) (fun r10 σ9 h => ?_)
        refine vv_if_ne (pc := 25) C 30 dX8_slow_25 (by decide) (fun hc11 => ?_) (fun hc11 => ?_)
        · replace h := h.1 hc11
          refine vv_iconst C dX8_slow_30 ki_1 ?_
          refine vv_istore (L' := [(4, .int (1 : Int32)), (0, .ref (vv_q Y 0)), (1, .int a1), (2, .int a2), (3, .int a3)]) C dX8_slow_31 (by decide) rfl ?_
          refine vv_join (fun k => ∀ (v12 : Int32) (σ13 : vv_S), k v12 σ13 → VJ Y X (va_Qi post (vv_B Y) X.2) 6 56 [(0, .ref (vv_q Y 0)), (1, .int a1), (3, .int a3), (4, .int v12)] [] σ13) h (fun v12 σ13 h => ?_) (fun k56_13 hJk56_13 h => ?_)
          · refine vv_iload_n C 2 dX8_slow_56 rfl rfl ?_
            refine vv_join (fun k => ∀ (v15 : Int32) (σ16 : vv_S), k v15 σ16 → VJ Y X (va_Qi post (vv_B Y) X.2) 6 73 [] [.int v15] σ16) h (fun v15 σ16 h => ?_) (fun k73_16 hJk73_16 h => ?_)
            · exact vv_iret C dX8_slow_73 h
            · refine vv_if_ne (pc := 57) C 65 dX8_slow_57 (by decide) (fun hc18 => ?_) (fun hc18 => ?_)
              · replace h := h.1 hc18
                refine vv_aload_n C 0 dX8_slow_65 rfl rfl ?_
                refine vv_iload_n C 1 dX8_slow_66 rfl rfl ?_
                refine vv_iload C 3 dX8_slow_67 rfl ?_
                refine vv_iconst C dX8_slow_69 ki_1 ?_
                refine vv_callI (rest := []) C yk_X8_letOut vk_X8_letOut lk_X8_254 kc_X8.1 (s_X8 hY) dX8_slow_70 (mX8_letOut hY h) rfl rfl ⟨Nat.le_of_ble_eq_true rfl, Nat.le_of_ble_eq_true rfl⟩ (Nat.le_of_ble_eq_true rfl) (fun r20 σ19 h => ?_)
                refine vv_sub [] (L' := []) rfl ?_
                exact hJk73_16 _ _ h
              · replace h := h.2 hc18
                refine vv_iload C 3 dX8_slow_60 rfl ?_
                refine vv_goto (pc := 62) (tgt := 73) C dX8_slow_62 (by decide) ?_
                refine vv_sub [] (L' := []) rfl ?_
                exact hJk73_16 _ _ h
          · obtain ⟨n23, h⟩ := h
            have hl1 : ∀ (n23 : Nat) (v21 : Int32) (σ22 : vv_S), lX8_slow_1 post a1 a2 k56_13 n23 v21 σ22 → VJ Y X (va_Qi post (vv_B Y) X.2) 6 33 [(0, .ref (vv_q Y 0)), (1, .int a1), (2, .int a2), (3, .int a3), (4, .int v21)] [] σ22 := by
              clear h
              intro n23
              induction n23 with
              | zero => intro v21 σ22 h; exact False.elim h
              | succ n23 ih1 =>
                intro v21 σ22 h
                refine vv_iload C 4 dX8_slow_33 rfl ?_
                refine vv_bipush C dX8_slow_35 kb_9 ?_
                refine vv_icmp_gt (pc := 37) C 80 dX8_slow_37 (by decide) (fun hc24 => ?_) (fun hc24 => ?_)
                · replace h := h.1 hc24
                  refine vv_bipush C dX8_slow_80 kb_m4 ?_
                  exact vv_iret C dX8_slow_82 h
                · replace h := h.2 hc24
                  refine vv_aload_n C 0 dX8_slow_40 rfl rfl ?_
                  refine vv_iload_n C 1 dX8_slow_41 rfl rfl ?_
                  refine vv_iload C 4 dX8_slow_42 rfl ?_
                  refine vv_iconst C dX8_slow_44 ki_0 ?_
                  refine vv_callI (rest := []) C yk_X8_letOut vk_X8_letOut lk_X8_254 kc_X8.1 (s_X8 hY) dX8_slow_45 (mX8_letOut hY h) rfl rfl ⟨Nat.le_of_ble_eq_true rfl, Nat.le_of_ble_eq_true rfl⟩ (Nat.le_of_ble_eq_true rfl) (fun r26 σ25 h => ?_)
                  refine vv_istore (L' := [(5, .int r26), (0, .ref (vv_q Y 0)), (1, .int a1), (2, .int a2), (3, .int a3), (4, .int v21)]) C dX8_slow_48 (by decide) rfl ?_
                  refine vv_iload C 0 dX8_slow_50 rfl ?_
                  refine vv_iload_n C 3 dX8_slow_52 rfl rfl ?_
                  refine vv_icmp_gt (pc := 53) C 74 dX8_slow_53 (by decide) (fun hc27 => ?_) (fun hc27 => ?_)
                  · replace h := h.1 hc27
                    obtain ⟨v28, ev28⟩ : ∃ z : Int32, z = v21 + (1 : Int32) := ⟨_, rfl⟩
                    replace h := h v28 ev28
                    refine vv_iinc (v := v28) (L' := [(4, .int v28), (5, .int r26), (0, .ref (vv_q Y 0)), (1, .int a1), (2, .int a2), (3, .int a3)]) C 5 dX8_slow_74 rfl ((kinc ki_1).trans ev28.symm) (by decide) rfl ?_
                    refine vv_goto (pc := 77) (tgt := 33) C dX8_slow_77 (by decide) ?_
                    refine vv_sub [2, 3, 4, 5, 0] (L' := [(0, .ref (vv_q Y 0)), (1, .int a1), (2, .int a2), (3, .int a3), (4, .int v28)]) rfl ?_
                    exact ih1 _ _ h
                  · replace h := h.2 hc27
                    refine vv_sub [1, 2, 4, 5] (L' := [(0, .ref (vv_q Y 0)), (1, .int a1), (3, .int a3), (4, .int v21)]) rfl ?_
                    exact hJk56_13 _ _ h
            refine vv_sub [1, 2, 3, 4, 0] (L' := [(0, .ref (vv_q Y 0)), (1, .int a1), (2, .int a2), (3, .int a3), (4, .int (1 : Int32))]) rfl ?_
            exact hl1 n23 _ _ h
        · replace h := h.2 hc11
          refine vv_sub [] (L' := []) rfl ?_
          exact hJk28_3 _ h
set_option maxHeartbeats 2000000 in
set_option maxRecDepth 100000 in
theorem mX8_fill {Y : vv_Y} (hY : Y.2.2.2.2 = wC) {a1 : Int32} {σ : vv_S} {post : Int32 → vv_S → Prop} (h : wX8_fill a1 σ post) : vv_MI Y yX8_fill cX8_fill 3 (some .int) 3 68 [.ref (vv_q Y 0), .int a1] σ post := by
  refine vv_ofI (by decide) (Nat.le_of_ble_eq_true rfl) (fun X C => ?_)
  have C : VC Y X RX8 cX8_fill 3 (some .int) 3 68 := C
  refine vv_sub [0, 1] (L' := [(0, .ref (vv_q Y 0)), (1, .int a1)]) rfl ?_
  refine vv_iload_n C 1 dX8_fill_0 rfl rfl ?_
  refine vv_iconst C dX8_fill_1 ki_1 ?_
  refine vv_bipush C dX8_fill_2 kb_40 ?_
  refine vv_callS (rest := []) C yk_X8_isWithin sk_X8_isWithin lk_X8_92 dX8_fill_4 (mX8_isWithin hY h) rfl rfl ⟨Nat.le_of_ble_eq_true rfl, Nat.le_of_ble_eq_true rfl⟩ (Nat.le_of_ble_eq_true rfl) (fun r2 σ1 h => ?_)
  refine vv_if_ne (pc := 7) C 12 dX8_fill_7 (by decide) (fun hc3 => ?_) (fun hc3 => ?_)
  · replace h := h.1 hc3
    refine vv_aload_n C 0 dX8_fill_12 rfl rfl ?_
    refine vv_getr (r := 46) C kc_X8 (s_X8 hY) 4 (by decide) rfl fk_X8_35 dX8_fill_13 ?_
    refine vv_aload_n C 0 dX8_fill_16 rfl rfl ?_
    refine vv_getr (r := 42) C kc_X8 (s_X8 hY) 3 (by decide) rfl fk_X8_31 dX8_fill_17 ?_
    refine vv_callV (rest := []) C yk_X3_copyFrom vk_X3_copyFrom lk_X8_186 kc_X3.1 (s_X3 hY (show is_X3 46 by decide)) dX8_fill_20 (mX3_copyFrom hY (show is_X3 46 by decide) (show is_X3 42 by decide) h) rfl rfl ⟨Nat.le_of_ble_eq_true rfl, Nat.le_of_ble_eq_true rfl⟩ (Nat.le_of_ble_eq_true rfl) (fun σ4 h => ?_)
    refine vv_aload_n C 0 dX8_fill_23 rfl rfl ?_
    refine vv_getr (r := 46) C kc_X8 (s_X8 hY) 4 (by decide) rfl fk_X8_35 dX8_fill_24 ?_
    refine vv_callV (rest := []) C yk_X3_empty vk_X3_empty lk_X8_263 kc_X3.1 (s_X3 hY (show is_X3 46 by decide)) dX8_fill_27 (mX3_empty hY (show is_X3 46 by decide) h) rfl rfl ⟨Nat.le_of_ble_eq_true rfl, Nat.le_of_ble_eq_true rfl⟩ (Nat.le_of_ble_eq_true rfl) (fun σ5 h => ?_)
    refine vv_iconst C dX8_fill_30 ki_1 ?_
    refine vv_istore_n (L' := [(2, .int (1 : Int32)), (0, .ref (vv_q Y 0)), (1, .int a1)]) C dX8_fill_31 rfl (by decide) rfl ?_
    obtain ⟨n8, h⟩ := h
    have hl1 : ∀ (n8 : Nat) (v6 : Int32) (σ7 : vv_S), lX8_fill_1 post a1 n8 v6 σ7 → VJ Y X (va_Qi post (vv_B Y) X.2) 3 32 [(0, .ref (vv_q Y 0)), (1, .int a1), (2, .int v6)] [] σ7 := by
      clear h
      intro n8
      induction n8 with
      | zero => intro v6 σ7 h; exact False.elim h
      | succ n8 ih1 =>
        intro v6 σ7 h
        refine vv_iload_n C 2 dX8_fill_32 rfl rfl ?_
        refine vv_sipush C dX8_fill_33 ks_200 ?_
        refine vv_icmp_gt (pc := 36) C 66 dX8_fill_36 (by decide) (fun hc9 => ?_) (fun hc9 => ?_)
        · replace h := h.1 hc9
          refine vv_bipush C dX8_fill_66 kb_m4 ?_
          exact vv_iret C dX8_fill_68 h
        · replace h := h.2 hc9
          refine vv_aload_n C 0 dX8_fill_39 rfl rfl ?_
          refine vv_getr (r := 46) C kc_X8 (s_X8 hY) 4 (by decide) rfl fk_X8_35 dX8_fill_40 ?_
          refine vv_iconst C dX8_fill_43 ki_0 ?_
          refine vv_callV (rest := []) C yk_X3_oneMinute vk_X3_oneMinute lk_X8_229 kc_X3.1 (s_X3 hY (show is_X3 46 by decide)) dX8_fill_44 (mX3_oneMinute hY (show is_X3 46 by decide) h) rfl rfl ⟨Nat.le_of_ble_eq_true rfl, Nat.le_of_ble_eq_true rfl⟩ (Nat.le_of_ble_eq_true rfl) (fun σ10 h => ?_)
          refine vv_aload_n C 0 dX8_fill_47 rfl rfl ?_
          refine vv_getr (r := 46) C kc_X8 (s_X8 hY) 4 (by decide) rfl fk_X8_35 dX8_fill_48 ?_
          refine vv_callI (rest := []) C yk_X3_level vk_X3_level lk_X8_121 kc_X3.1 (s_X3 hY (show is_X3 46 by decide)) dX8_fill_51 (mX3_level hY (show is_X3 46 by decide) h) rfl rfl ⟨Nat.le_of_ble_eq_true rfl, Nat.le_of_ble_eq_true rfl⟩ (Nat.le_of_ble_eq_true rfl) (fun r12 σ11 h => ?_)
          refine vv_iload_n C 1 dX8_fill_54 rfl rfl ?_
          refine vv_icmp_lt (pc := 55) C 60 dX8_fill_55 (by decide) (fun hc13 => ?_) (fun hc13 => ?_)
          · replace h := h.1 hc13
            obtain ⟨v14, ev14⟩ : ∃ z : Int32, z = v6 + (1 : Int32) := ⟨_, rfl⟩
            replace h := h v14 ev14
            refine vv_iinc (v := v14) (L' := [(2, .int v14), (0, .ref (vv_q Y 0)), (1, .int a1)]) C 2 dX8_fill_60 rfl ((kinc ki_1).trans ev14.symm) (by decide) rfl ?_
            refine vv_goto (pc := 63) (tgt := 32) C dX8_fill_63 (by decide) ?_
            refine vv_sub [1, 2, 0] (L' := [(0, .ref (vv_q Y 0)), (1, .int a1), (2, .int v14)]) rfl ?_
            exact ih1 _ _ h
          · replace h := h.2 hc13
            refine vv_iload_n C 2 dX8_fill_58 rfl rfl ?_
            exact vv_iret C dX8_fill_59 h
    refine vv_sub [1, 2, 0] (L' := [(0, .ref (vv_q Y 0)), (1, .int a1), (2, .int (1 : Int32))]) rfl ?_
    exact hl1 n8 _ _ h
  · replace h := h.2 hc3
    refine vv_iconst C dX8_fill_10 ki_m1 ?_
    exact vv_iret C dX8_fill_11 h
set_option maxHeartbeats 2000000 in
set_option maxRecDepth 100000 in
theorem mX8_trodden {Y : vv_Y} (hY : Y.2.2.2.2 = wC) {a1 : Int32} {a2 : Int32} {σ : vv_S} {post : Int32 → vv_S → Prop} (h : wX8_trodden a1 a2 σ post) : vv_MI Y yX8_trodden cX8_trodden 5 (some .int) 4 89 [.ref (vv_q Y 0), .int a1, .int a2] σ post := by
  refine vv_ofI (by decide) (Nat.le_of_ble_eq_true rfl) (fun X C => ?_)
  have C : VC Y X RX8 cX8_trodden 5 (some .int) 4 89 := C
  refine vv_sub [0, 1, 2] (L' := [(0, .ref (vv_q Y 0)), (1, .int a1), (2, .int a2)]) rfl ?_
  refine vv_aload_n C 0 dX8_trodden_0 rfl rfl ?_
  refine vv_iload_n C 1 dX8_trodden_1 rfl rfl ?_
  refine vv_callI (rest := []) C yk_X8_isCell vk_X8_isCell lk_X8_108 kc_X8.1 (s_X8 hY) dX8_trodden_2 (mX8_isCell hY h) rfl rfl ⟨Nat.le_of_ble_eq_true rfl, Nat.le_of_ble_eq_true rfl⟩ (Nat.le_of_ble_eq_true rfl) (fun r2 σ1 h => ?_)
  refine vv_join (fun k => ∀ (σ3 : vv_S), k σ3 → VJ Y X (va_Qi post (vv_B Y) X.2) 5 18 [] [] σ3) h (fun σ3 h => ?_) (fun k18_3 hJk18_3 h => ?_)
  · refine vv_iconst C dX8_trodden_18 ki_m1 ?_
    exact vv_iret C dX8_trodden_19 h
  · refine vv_if_eq (pc := 5) C 18 dX8_trodden_5 (by decide) (fun hc5 => ?_) (fun hc5 => ?_)
    · replace h := h.1 hc5
      refine vv_sub [] (L' := []) rfl ?_
      exact hJk18_3 _ h
    · replace h := h.2 hc5
      refine vv_iload_n C 2 dX8_trodden_8 rfl rfl ?_
      refine vv_iconst C dX8_trodden_9 ki_1 ?_
      refine vv_bipush C dX8_trodden_10 kb_9 ?_
      refine vv_callS (rest := []) C yk_X8_isWithin sk_X8_isWithin lk_X8_92 dX8_trodden_12 (mX8_isWithin hY h) rfl rfl ⟨Nat.le_of_ble_eq_true rfl, Nat.le_of_ble_eq_true rfl⟩ (Nat.le_of_ble_eq_true rfl) (fun r7 σ6 h => ?_)
      refine vv_if_ne (pc := 15) C 20 dX8_trodden_15 (by decide) (fun hc8 => ?_) (fun hc8 => ?_)
      · replace h := h.1 hc8
        refine vv_aload_n C 0 dX8_trodden_20 rfl rfl ?_
        refine vv_getr (r := 42) C kc_X8 (s_X8 hY) 3 (by decide) rfl fk_X8_31 dX8_trodden_21 ?_
        refine vv_iload_n C 1 dX8_trodden_24 rfl rfl ?_
        refine vv_iload_n C 2 dX8_trodden_25 rfl rfl ?_
        refine vv_callI (rest := []) C yk_X3_canRaise vk_X3_canRaise lk_X8_154 kc_X3.1 (s_X3 hY (show is_X3 42 by decide)) dX8_trodden_26 (mX3_canRaise hY (show is_X3 42 by decide) h) rfl rfl ⟨Nat.le_of_ble_eq_true rfl, Nat.le_of_ble_eq_true rfl⟩ (Nat.le_of_ble_eq_true rfl) (fun r10 σ9 h => ?_)
        refine vv_if_ne (pc := 29) C 35 dX8_trodden_29 (by decide) (fun hc11 => ?_) (fun hc11 => ?_)
        · replace h := h.1 hc11
          refine vv_aload_n C 0 dX8_trodden_35 rfl rfl ?_
          refine vv_getr (r := 46) C kc_X8 (s_X8 hY) 4 (by decide) rfl fk_X8_35 dX8_trodden_36 ?_
          refine vv_aload_n C 0 dX8_trodden_39 rfl rfl ?_
          refine vv_getr (r := 42) C kc_X8 (s_X8 hY) 3 (by decide) rfl fk_X8_31 dX8_trodden_40 ?_
          refine vv_callV (rest := []) C yk_X3_copyFrom vk_X3_copyFrom lk_X8_186 kc_X3.1 (s_X3 hY (show is_X3 46 by decide)) dX8_trodden_43 (mX3_copyFrom hY (show is_X3 46 by decide) (show is_X3 42 by decide) h) rfl rfl ⟨Nat.le_of_ble_eq_true rfl, Nat.le_of_ble_eq_true rfl⟩ (Nat.le_of_ble_eq_true rfl) (fun σ12 h => ?_)
          refine vv_aload_n C 0 dX8_trodden_46 rfl rfl ?_
          refine vv_getr (r := 46) C kc_X8 (s_X8 hY) 4 (by decide) rfl fk_X8_35 dX8_trodden_47 ?_
          refine vv_callI (rest := []) C yk_X3_passTillBreach vk_X3_passTillBreach lk_X8_196 kc_X3.1 (s_X3 hY (show is_X3 46 by decide)) dX8_trodden_50 (mX3_passTillBreach hY (show is_X3 46 by decide) h) rfl rfl ⟨Nat.le_of_ble_eq_true rfl, Nat.le_of_ble_eq_true rfl⟩ (Nat.le_of_ble_eq_true rfl) (fun r14 σ13 h => ?_)
          refine vv_istore_n (L' := [(3, .int r14), (0, .ref (vv_q Y 0)), (1, .int a1), (2, .int a2)]) C dX8_trodden_53 rfl (by decide) rfl ?_
          refine vv_iload_n C 0 dX8_trodden_54 rfl rfl ?_
          refine vv_bipush C dX8_trodden_55 kb_m4 ?_
          refine vv_icmp_ne (pc := 57) C 63 dX8_trodden_57 (by decide) (fun hc15 => ?_) (fun hc15 => ?_)
          · replace h := h.1 hc15
            refine vv_aload_n C 1 dX8_trodden_63 rfl rfl ?_
            refine vv_getr (r := 46) C kc_X8 (s_X8 hY) 4 (by decide) rfl fk_X8_35 dX8_trodden_64 ?_
            refine vv_aload_n C 1 dX8_trodden_67 rfl rfl ?_
            refine vv_getr (r := 42) C kc_X8 (s_X8 hY) 3 (by decide) rfl fk_X8_31 dX8_trodden_68 ?_
            refine vv_callV (rest := []) C yk_X3_copyFrom vk_X3_copyFrom lk_X8_186 kc_X3.1 (s_X3 hY (show is_X3 46 by decide)) dX8_trodden_71 (mX3_copyFrom hY (show is_X3 46 by decide) (show is_X3 42 by decide) h) rfl rfl ⟨Nat.le_of_ble_eq_true rfl, Nat.le_of_ble_eq_true rfl⟩ (Nat.le_of_ble_eq_true rfl) (fun σ16 h => ?_)
            refine vv_aload_n C 1 dX8_trodden_74 rfl rfl ?_
            refine vv_getr (r := 46) C kc_X8 (s_X8 hY) 4 (by decide) rfl fk_X8_35 dX8_trodden_75 ?_
            refine vv_iload_n C 2 dX8_trodden_78 rfl rfl ?_
            refine vv_aload_n C 1 dX8_trodden_79 rfl rfl ?_
            refine vv_getr (r := 42) C kc_X8 (s_X8 hY) 3 (by decide) rfl fk_X8_31 dX8_trodden_80 ?_
            refine vv_iload_n C 2 dX8_trodden_83 rfl rfl ?_
            refine vv_callI (rest := [.int a1, .ref (vv_q Y 46)]) C yk_X3_stuffAt vk_X3_stuffAt lk_X8_115 kc_X3.1 (s_X3 hY (show is_X3 42 by decide)) dX8_trodden_84 (mX3_stuffAt hY (show is_X3 42 by decide) h) rfl rfl ⟨Nat.le_of_ble_eq_true rfl, Nat.le_of_ble_eq_true rfl⟩ (Nat.le_of_ble_eq_true rfl) (fun r18 σ17 h => ?_)
            refine vv_iload_n C 3 dX8_trodden_87 rfl rfl ?_
            refine vv_callV (rest := []) C yk_X3_layAt vk_X3_layAt lk_X8_161 kc_X3.1 (s_X3 hY (show is_X3 46 by decide)) dX8_trodden_88 (mX3_layAt hY (show is_X3 46 by decide) h) rfl rfl ⟨Nat.le_of_ble_eq_true rfl, Nat.le_of_ble_eq_true rfl⟩ (Nat.le_of_ble_eq_true rfl) (fun σ19 h => ?_)
            refine vv_aload_n C 1 dX8_trodden_91 rfl rfl ?_
            refine vv_getr (r := 46) C kc_X8 (s_X8 hY) 4 (by decide) rfl fk_X8_35 dX8_trodden_92 ?_
            refine vv_callI (rest := []) C yk_X3_passTillBreach vk_X3_passTillBreach lk_X8_196 kc_X3.1 (s_X3 hY (show is_X3 46 by decide)) dX8_trodden_95 (mX3_passTillBreach hY (show is_X3 46 by decide) h) rfl rfl ⟨Nat.le_of_ble_eq_true rfl, Nat.le_of_ble_eq_true rfl⟩ (Nat.le_of_ble_eq_true rfl) (fun r21 σ20 h => ?_)
            refine vv_istore (L' := [(4, .int r21), (3, .int r14), (0, .ref (vv_q Y 0)), (1, .int a1), (2, .int a2)]) C dX8_trodden_98 (by decide) rfl ?_
            refine vv_iload C 0 dX8_trodden_100 rfl ?_
            refine vv_bipush C dX8_trodden_102 kb_m4 ?_
            refine vv_join (fun k => ∀ (v22 : Int32), k v22 → VJ Y X (va_Qi post (vv_B Y) X.2) 5 115 [(3, .int r14)] [.int v22] σ20) h (fun v22 h => ?_) (fun k115_22 hJk115_22 h => ?_)
            · refine vv_iload_n C 0 dX8_trodden_115 rfl rfl ?_
              refine vv_isub C dX8_trodden_116 ?_
              refine vv_sipush C dX8_trodden_117 ks_200 ?_
              refine vv_iadd C dX8_trodden_120 ?_
              exact vv_iret C dX8_trodden_121 h
            · refine vv_icmp_ne (pc := 104) C 113 dX8_trodden_104 (by decide) (fun hc24 => ?_) (fun hc24 => ?_)
              · replace h := h.1 hc24
                refine vv_iload C 0 dX8_trodden_113 rfl ?_
                refine vv_sub [1] (L' := [(3, .int r14)]) rfl ?_
                exact hJk115_22 _ h
              · replace h := h.2 hc24
                refine vv_sipush C dX8_trodden_107 ks_200 ?_
                refine vv_goto (pc := 110) (tgt := 115) C dX8_trodden_110 (by decide) ?_
                refine vv_sub [1] (L' := [(3, .int r14)]) rfl ?_
                exact hJk115_22 _ h
          · replace h := h.2 hc15
            refine vv_bipush C dX8_trodden_60 kb_m4 ?_
            exact vv_iret C dX8_trodden_62 h
        · replace h := h.2 hc11
          refine vv_bipush C dX8_trodden_32 kb_m2 ?_
          exact vv_iret C dX8_trodden_34 h
      · replace h := h.2 hc8
        refine vv_sub [] (L' := []) rfl ?_
        exact hJk18_3 _ h
set_option maxHeartbeats 2000000 in
set_option maxRecDepth 100000 in
theorem mX8_blame {Y : vv_Y} (hY : Y.2.2.2.2 = wC)  {σ : vv_S} {post : Int32 → vv_S → Prop} (h : wX8_blame σ post) : vv_MI Y yX8_blame cX8_blame 2 (some .int) 6 138 [.ref (vv_q Y 0)] σ post := by
  refine vv_ofI (by decide) (Nat.le_of_ble_eq_true rfl) (fun X C => ?_)
  have C : VC Y X RX8 cX8_blame 2 (some .int) 6 138 := C
  refine vv_sub [0] (L' := [(0, .ref (vv_q Y 0))]) rfl ?_
  refine vv_aload_n C 0 dX8_blame_0 rfl rfl ?_
  refine vv_getr (r := 42) C kc_X8 (s_X8 hY) 3 (by decide) rfl fk_X8_31 dX8_blame_1 ?_
  refine vv_callI (rest := []) C yk_X3_wasBreached vk_X3_wasBreached lk_X8_266 kc_X3.1 (s_X3 hY (show is_X3 42 by decide)) dX8_blame_4 (mX3_wasBreached hY (show is_X3 42 by decide) h) rfl rfl ⟨Nat.le_of_ble_eq_true rfl, Nat.le_of_ble_eq_true rfl⟩ (Nat.le_of_ble_eq_true rfl) (fun r2 σ1 h => ?_)
  refine vv_if_ne (pc := 7) C 13 dX8_blame_7 (by decide) (fun hc3 => ?_) (fun hc3 => ?_)
  · replace h := h.1 hc3
    refine vv_iconst C dX8_blame_13 ki_0 ?_
    refine vv_istore_n (L' := [(1, .int (0 : Int32)), (0, .ref (vv_q Y 0))]) C dX8_blame_14 rfl (by decide) rfl ?_
    obtain ⟨n6, h⟩ := h
    have hl1 : ∀ (n6 : Nat) (v4 : Int32) (σ5 : vv_S), lX8_blame_1 post n6 v4 σ5 → VJ Y X (va_Qi post (vv_B Y) X.2) 2 15 [(0, .ref (vv_q Y 0)), (1, .int v4)] [] σ5 := by
      clear h
      intro n6
      induction n6 with
      | zero => intro v4 σ5 h; exact False.elim h
      | succ n6 ih1 =>
        intro v4 σ5 h
        refine vv_iload_n C 1 dX8_blame_15 rfl rfl ?_
        refine vv_aload_n C 0 dX8_blame_16 rfl rfl ?_
        refine vv_getr (r := 50) C kc_X8 (s_X8 hY) 5 (by decide) rfl fk_X8_41 dX8_blame_17 ?_
        refine vv_callI (rest := [.int v4]) C yk_X0_size vk_X0_size lk_X8_178 kc_X0.1 (s_X0 hY (show is_X0 50 by decide)) dX8_blame_20 (mX0_size hY (show is_X0 50 by decide) h) rfl rfl ⟨Nat.le_of_ble_eq_true rfl, Nat.le_of_ble_eq_true rfl⟩ (Nat.le_of_ble_eq_true rfl) (fun r8 σ7 h => ?_)
        refine vv_icmp_ge (pc := 23) C 56 dX8_blame_23 (by decide) (fun hc9 => ?_) (fun hc9 => ?_)
        · replace h := h.1 hc9
          refine vv_bipush C dX8_blame_56 kb_m4 ?_
          exact vv_iret C dX8_blame_58 h
        · replace h := h.2 hc9
          refine vv_aload_n C 0 dX8_blame_26 rfl rfl ?_
          refine vv_getr (r := 50) C kc_X8 (s_X8 hY) 5 (by decide) rfl fk_X8_41 dX8_blame_27 ?_
          refine vv_iload_n C 1 dX8_blame_30 rfl rfl ?_
          refine vv_aload_n C 0 dX8_blame_31 rfl rfl ?_
          refine vv_getr (r := 46) C kc_X8 (s_X8 hY) 4 (by decide) rfl fk_X8_35 dX8_blame_32 ?_
          refine vv_callV (rest := []) C yk_X0_doAllBut vk_X0_doAllBut lk_X8_182 kc_X0.1 (s_X0 hY (show is_X0 50 by decide)) dX8_blame_35 (mX0_doAllBut hY (show is_X0 50 by decide) (show is_X3 46 by decide) h) rfl rfl ⟨Nat.le_of_ble_eq_true rfl, Nat.le_of_ble_eq_true rfl⟩ (Nat.le_of_ble_eq_true rfl) (fun σ10 h => ?_)
          refine vv_aload_n C 0 dX8_blame_38 rfl rfl ?_
          refine vv_getr (r := 46) C kc_X8 (s_X8 hY) 4 (by decide) rfl fk_X8_35 dX8_blame_39 ?_
          refine vv_callI (rest := []) C yk_X3_wasBreached vk_X3_wasBreached lk_X8_266 kc_X3.1 (s_X3 hY (show is_X3 46 by decide)) dX8_blame_42 (mX3_wasBreached hY (show is_X3 46 by decide) h) rfl rfl ⟨Nat.le_of_ble_eq_true rfl, Nat.le_of_ble_eq_true rfl⟩ (Nat.le_of_ble_eq_true rfl) (fun r12 σ11 h => ?_)
          refine vv_if_ne (pc := 45) C 50 dX8_blame_45 (by decide) (fun hc13 => ?_) (fun hc13 => ?_)
          · replace h := h.1 hc13
            obtain ⟨v14, ev14⟩ : ∃ z : Int32, z = v4 + (1 : Int32) := ⟨_, rfl⟩
            replace h := h v14 ev14
            refine vv_iinc (v := v14) (L' := [(1, .int v14), (0, .ref (vv_q Y 0))]) C 1 dX8_blame_50 rfl ((kinc ki_1).trans ev14.symm) (by decide) rfl ?_
            refine vv_goto (pc := 53) (tgt := 15) C dX8_blame_53 (by decide) ?_
            refine vv_sub [1, 0] (L' := [(0, .ref (vv_q Y 0)), (1, .int v14)]) rfl ?_
            exact ih1 _ _ h
          · replace h := h.2 hc13
            refine vv_iload_n C 1 dX8_blame_48 rfl rfl ?_
            exact vv_iret C dX8_blame_49 h
    refine vv_sub [1, 0] (L' := [(0, .ref (vv_q Y 0)), (1, .int (0 : Int32))]) rfl ?_
    exact hl1 n6 _ _ h
  · replace h := h.2 hc3
    refine vv_bipush C dX8_blame_10 kb_m4 ?_
    exact vv_iret C dX8_blame_12 h
set_option maxHeartbeats 2000000 in
set_option maxRecDepth 100000 in
theorem mX8_seen {Y : vv_Y} (hY : Y.2.2.2.2 = wC) {a1 : Int32} {a2 : Int32} {σ : vv_S} {post : Int32 → vv_S → Prop} (h : wX8_seen a1 a2 σ post) : vv_MI Y yX8_seen cX8_seen 3 (some .int) 1 22 [.ref (vv_q Y 0), .int a1, .int a2] σ post := by
  refine vv_ofI (by decide) (Nat.le_of_ble_eq_true rfl) (fun X C => ?_)
  have C : VC Y X RX8 cX8_seen 3 (some .int) 1 22 := C
  refine vv_sub [0, 1, 2] (L' := [(0, .ref (vv_q Y 0)), (1, .int a1), (2, .int a2)]) rfl ?_
  refine vv_iload_n C 1 dX8_seen_0 rfl rfl ?_
  refine vv_iconst C dX8_seen_1 ki_0 ?_
  refine vv_bipush C dX8_seen_2 kb_60 ?_
  refine vv_callS (rest := []) C yk_X8_isWithin sk_X8_isWithin lk_X8_92 dX8_seen_4 (mX8_isWithin hY h) rfl rfl ⟨Nat.le_of_ble_eq_true rfl, Nat.le_of_ble_eq_true rfl⟩ (Nat.le_of_ble_eq_true rfl) (fun r2 σ1 h => ?_)
  refine vv_join (fun k => ∀ (σ3 : vv_S), k σ3 → VJ Y X (va_Qi post (vv_B Y) X.2) 3 20 [] [] σ3) h (fun σ3 h => ?_) (fun k20_3 hJk20_3 h => ?_)
  · refine vv_iconst C dX8_seen_20 ki_m1 ?_
    exact vv_iret C dX8_seen_21 h
  · refine vv_if_eq (pc := 7) C 20 dX8_seen_7 (by decide) (fun hc5 => ?_) (fun hc5 => ?_)
    · replace h := h.1 hc5
      refine vv_sub [] (L' := []) rfl ?_
      exact hJk20_3 _ h
    · replace h := h.2 hc5
      refine vv_iload_n C 2 dX8_seen_10 rfl rfl ?_
      refine vv_iconst C dX8_seen_11 ki_1 ?_
      refine vv_bipush C dX8_seen_12 kb_99 ?_
      refine vv_callS (rest := []) C yk_X8_isWithin sk_X8_isWithin lk_X8_92 dX8_seen_14 (mX8_isWithin hY h) rfl rfl ⟨Nat.le_of_ble_eq_true rfl, Nat.le_of_ble_eq_true rfl⟩ (Nat.le_of_ble_eq_true rfl) (fun r7 σ6 h => ?_)
      refine vv_if_ne (pc := 17) C 22 dX8_seen_17 (by decide) (fun hc8 => ?_) (fun hc8 => ?_)
      · replace h := h.1 hc8
        refine vv_aload_n C 0 dX8_seen_22 rfl rfl ?_
        refine vv_getr (r := 66) C kc_X8 (s_X8 hY) 8 (by decide) rfl fk_X8_52 dX8_seen_23 ?_
        refine vv_iload_n C 1 dX8_seen_26 rfl rfl ?_
        refine vv_iload_n C 2 dX8_seen_27 rfl rfl ?_
        refine vv_callI (rest := []) C yk_X6_add vk_X6_add lk_X8_269 kc_X6.1 (s_X6 hY) dX8_seen_28 (mX6_add hY h) rfl rfl ⟨Nat.le_of_ble_eq_true rfl, Nat.le_of_ble_eq_true rfl⟩ (Nat.le_of_ble_eq_true rfl) (fun r10 σ9 h => ?_)
        refine vv_join (fun k => ∀ (v11 : Int32) (σ12 : vv_S), k v11 σ12 → VJ Y X (va_Qi post (vv_B Y) X.2) 3 46 [] [.int v11] σ12) h (fun v11 σ12 h => ?_) (fun k46_12 hJk46_12 h => ?_)
        · exact vv_iret C dX8_seen_46 h
        · refine vv_if_eq (pc := 31) C 44 dX8_seen_31 (by decide) (fun hc14 => ?_) (fun hc14 => ?_)
          · replace h := h.1 hc14
            refine vv_bipush C dX8_seen_44 kb_m3 ?_
            refine vv_sub [] (L' := []) rfl ?_
            exact hJk46_12 _ _ h
          · replace h := h.2 hc14
            refine vv_aload_n C 0 dX8_seen_34 rfl rfl ?_
            refine vv_getr (r := 66) C kc_X8 (s_X8 hY) 8 (by decide) rfl fk_X8_52 dX8_seen_35 ?_
            refine vv_callI (rest := []) C yk_X6_size vk_X6_size lk_X8_271 kc_X6.1 (s_X6 hY) dX8_seen_38 (mX6_size hY h) rfl rfl ⟨Nat.le_of_ble_eq_true rfl, Nat.le_of_ble_eq_true rfl⟩ (Nat.le_of_ble_eq_true rfl) (fun r16 σ15 h => ?_)
            refine vv_goto (pc := 41) (tgt := 46) C dX8_seen_41 (by decide) ?_
            refine vv_sub [] (L' := []) rfl ?_
            exact hJk46_12 _ _ h
      · replace h := h.2 hc8
        refine vv_sub [] (L' := []) rfl ?_
        exact hJk20_3 _ h
set_option maxHeartbeats 2000000 in
set_option maxRecDepth 100000 in
theorem mX8_forget {Y : vv_Y} (hY : Y.2.2.2.2 = wC)  {σ : vv_S} {post : Int32 → vv_S → Prop} (h : wX8_forget σ post) : vv_MI Y yX8_forget cX8_forget 2 (some .int) 1 20 [.ref (vv_q Y 0)] σ post := by
  refine vv_ofI (by decide) (Nat.le_of_ble_eq_true rfl) (fun X C => ?_)
  have C : VC Y X RX8 cX8_forget 2 (some .int) 1 20 := C
  refine vv_sub [0] (L' := [(0, .ref (vv_q Y 0))]) rfl ?_
  refine vv_aload_n C 0 dX8_forget_0 rfl rfl ?_
  refine vv_getr (r := 66) C kc_X8 (s_X8 hY) 8 (by decide) rfl fk_X8_52 dX8_forget_1 ?_
  refine vv_callI (rest := []) C yk_X6_size vk_X6_size lk_X8_271 kc_X6.1 (s_X6 hY) dX8_forget_4 (mX6_size hY h) rfl rfl ⟨Nat.le_of_ble_eq_true rfl, Nat.le_of_ble_eq_true rfl⟩ (Nat.le_of_ble_eq_true rfl) (fun r2 σ1 h => ?_)
  refine vv_istore_n (L' := [(1, .int r2), (0, .ref (vv_q Y 0))]) C dX8_forget_7 rfl (by decide) rfl ?_
  refine vv_aload_n C 1 dX8_forget_8 rfl rfl ?_
  refine vv_getr (r := 66) C kc_X8 (s_X8 hY) 8 (by decide) rfl fk_X8_52 dX8_forget_9 ?_
  refine vv_callV (rest := []) C yk_X6_clear vk_X6_clear lk_X8_107 kc_X6.1 (s_X6 hY) dX8_forget_12 (mX6_clear hY h) rfl rfl ⟨Nat.le_of_ble_eq_true rfl, Nat.le_of_ble_eq_true rfl⟩ (Nat.le_of_ble_eq_true rfl) (fun σ3 h => ?_)
  refine vv_iload_n C 0 dX8_forget_15 rfl rfl ?_
  exact vv_iret C dX8_forget_16 h
set_option maxHeartbeats 2000000 in
set_option maxRecDepth 100000 in
theorem mX8_flows {Y : vv_Y} (hY : Y.2.2.2.2 = wC)  {σ : vv_S} {post : Int32 → vv_S → Prop} (h : wX8_flows σ post) : vv_MI Y yX8_flows cX8_flows 3 (some .int) 3 68 [.ref (vv_q Y 0)] σ post := by
  refine vv_ofI (by decide) (Nat.le_of_ble_eq_true rfl) (fun X C => ?_)
  have C : VC Y X RX8 cX8_flows 3 (some .int) 3 68 := C
  refine vv_sub [0] (L' := [(0, .ref (vv_q Y 0))]) rfl ?_
  refine vv_iconst C dX8_flows_0 ki_0 ?_
  refine vv_istore_n (L' := [(1, .int (0 : Int32)), (0, .ref (vv_q Y 0))]) C dX8_flows_1 rfl (by decide) rfl ?_
  refine vv_iconst C dX8_flows_2 ki_0 ?_
  refine vv_istore_n (L' := [(2, .int (0 : Int32)), (1, .int (0 : Int32)), (0, .ref (vv_q Y 0))]) C dX8_flows_3 rfl (by decide) rfl ?_
  obtain ⟨n4, h⟩ := h
  have hl1 : ∀ (n4 : Nat) (v1 : Int32) (v2 : Int32) (σ3 : vv_S), lX8_flows_1 post n4 v1 v2 σ3 → VJ Y X (va_Qi post (vv_B Y) X.2) 3 4 [(0, .ref (vv_q Y 0)), (1, .int v1), (2, .int v2)] [] σ3 := by
    clear h
    intro n4
    induction n4 with
    | zero => intro v1 v2 σ3 h; exact False.elim h
    | succ n4 ih1 =>
      intro v1 v2 σ3 h
      refine vv_iload_n C 2 dX8_flows_4 rfl rfl ?_
      refine vv_bipush C dX8_flows_5 kb_30 ?_
      refine vv_icmp_gt (pc := 7) C 37 dX8_flows_7 (by decide) (fun hc5 => ?_) (fun hc5 => ?_)
      · replace h := h.1 hc5
        refine vv_iload_n C 1 dX8_flows_37 rfl rfl ?_
        exact vv_iret C dX8_flows_38 h
      · replace h := h.2 hc5
        refine vv_aload_n C 0 dX8_flows_10 rfl rfl ?_
        refine vv_getr (r := 66) C kc_X8 (s_X8 hY) 8 (by decide) rfl fk_X8_52 dX8_flows_11 ?_
        refine vv_iload_n C 2 dX8_flows_14 rfl rfl ?_
        refine vv_aload_n C 0 dX8_flows_15 rfl rfl ?_
        refine vv_getr (r := 4) C kc_X8 (s_X8 hY) 1 (by decide) rfl fk_X8_19 dX8_flows_16 ?_
        refine vv_callI (rest := []) C yk_X6_agreeWith vk_X6_agreeWith lk_X8_272 kc_X6.1 (s_X6 hY) dX8_flows_19 (mX6_agreeWith hY (show is_X4 4 by decide) h) rfl rfl ⟨Nat.le_of_ble_eq_true rfl, Nat.le_of_ble_eq_true rfl⟩ (Nat.le_of_ble_eq_true rfl) (fun r7 σ6 h => ?_)
        refine vv_join (fun k => ∀ (v8 : Int32), k v8 → VJ Y X (va_Qi post (vv_B Y) X.2) 3 31 [(0, .ref (vv_q Y 0)), (1, .int v8), (2, .int v2)] [] σ6) h (fun v8 h => ?_) (fun k31_8 hJk31_8 h => ?_)
        · obtain ⟨v10, ev10⟩ : ∃ z : Int32, z = v2 + (1 : Int32) := ⟨_, rfl⟩
          replace h := h v10 ev10
          refine vv_iinc (v := v10) (L' := [(2, .int v10), (0, .ref (vv_q Y 0)), (1, .int v8)]) C 2 dX8_flows_31 rfl ((kinc ki_1).trans ev10.symm) (by decide) rfl ?_
          refine vv_goto (pc := 34) (tgt := 4) C dX8_flows_34 (by decide) ?_
          refine vv_sub [1, 2, 0] (L' := [(0, .ref (vv_q Y 0)), (1, .int v8), (2, .int v10)]) rfl ?_
          exact ih1 _ _ _ h
        · refine vv_if_eq (pc := 22) C 31 dX8_flows_22 (by decide) (fun hc11 => ?_) (fun hc11 => ?_)
          · replace h := h.1 hc11
            refine vv_sub [0, 1, 2] (L' := [(0, .ref (vv_q Y 0)), (1, .int v1), (2, .int v2)]) rfl ?_
            exact hJk31_8 _ h
          · replace h := h.2 hc11
            refine vv_iload_n C 1 dX8_flows_25 rfl rfl ?_
            refine vv_iconst C dX8_flows_26 ki_1 ?_
            refine vv_iload_n C 2 dX8_flows_27 rfl rfl ?_
            refine vv_ishl C dX8_flows_28 ?_
            refine vv_ior C dX8_flows_29 ?_
            refine vv_nm (fun v12 ev12 => ?_)
            replace h := h v12 ev12
            refine vv_istore_n (L' := [(1, .int v12), (0, .ref (vv_q Y 0)), (2, .int v2)]) C dX8_flows_30 rfl (by decide) rfl ?_
            refine vv_sub [1, 0, 2] (L' := [(0, .ref (vv_q Y 0)), (1, .int v12), (2, .int v2)]) rfl ?_
            exact hJk31_8 _ h
  refine vv_sub [2, 1, 0] (L' := [(0, .ref (vv_q Y 0)), (1, .int (0 : Int32)), (2, .int (0 : Int32))]) rfl ?_
  exact hl1 n4 _ _ _ h
set_option maxHeartbeats 2000000 in
set_option maxRecDepth 100000 in
theorem mX8_greatestDivisor {Y : vv_Y} (hY : Y.2.2.2.2 = wC) {a1 : Int32} {a2 : Int32} {σ : vv_S} {post : Int32 → vv_S → Prop} (h : wX8_greatestDivisor a1 a2 σ post) : vv_MI Y yX8_greatestDivisor cX8_greatestDivisor 6 (some .int) 0 0 [.int a1, .int a2] σ post := by
  refine vv_ofI (by decide) (Nat.le_of_ble_eq_true rfl) (fun X C => ?_)
  have C : VC Y X RX8 cX8_greatestDivisor 6 (some .int) 0 0 := C
  refine vv_sub [0, 1] (L' := [(0, .int a1), (1, .int a2)]) rfl ?_
  refine vv_iload_n C 0 dX8_greatestDivisor_0 rfl rfl ?_
  refine vv_istore_n (L' := [(2, .int a1), (0, .int a1), (1, .int a2)]) C dX8_greatestDivisor_1 rfl (by decide) rfl ?_
  refine vv_iload_n C 2 dX8_greatestDivisor_2 rfl rfl ?_
  refine vv_istore_n (L' := [(3, .int a2), (2, .int a1), (0, .int a1), (1, .int a2)]) C dX8_greatestDivisor_3 rfl (by decide) rfl ?_
  refine vv_iconst C dX8_greatestDivisor_4 ki_0 ?_
  refine vv_istore (L' := [(4, .int (0 : Int32)), (3, .int a2), (2, .int a1), (0, .int a1), (1, .int a2)]) C dX8_greatestDivisor_5 (by decide) rfl ?_
  refine vv_join (fun k => ∀ (v1 : Int32), k v1 → VJ Y X (va_Qi post (vv_B Y) X.2) 6 34 [(2, .int v1)] [] σ) h (fun v1 h => ?_) (fun k34_1 hJk34_1 h => ?_)
  · refine vv_iload_n C 0 dX8_greatestDivisor_34 rfl rfl ?_
    exact vv_iret C dX8_greatestDivisor_35 h
  · obtain ⟨n6, h⟩ := h
    have hl1 : ∀ (n6 : Nat) (v3 : Int32) (v4 : Int32) (v5 : Int32), lX8_greatestDivisor_1 k34_1 n6 v3 v4 v5 → VJ Y X (va_Qi post (vv_B Y) X.2) 6 7 [(2, .int v3), (3, .int v4), (4, .int v5)] [] σ := by
      clear h
      intro n6
      induction n6 with
      | zero => intro v3 v4 v5 h; exact False.elim h
      | succ n6 ih1 =>
        intro v3 v4 v5 h
        refine vv_iload C 2 dX8_greatestDivisor_7 rfl ?_
        refine vv_bipush C dX8_greatestDivisor_9 kb_100 ?_
        refine vv_icmp_ge (pc := 11) C 34 dX8_greatestDivisor_11 (by decide) (fun hc7 => ?_) (fun hc7 => ?_)
        · replace h := h.1 hc7
          refine vv_sub [0] (L' := [(2, .int v3)]) rfl ?_
          exact hJk34_1 _ h
        · replace h := h.2 hc7
          refine vv_iload_n C 1 dX8_greatestDivisor_14 rfl rfl ?_
          refine vv_if_eq (pc := 15) C 34 dX8_greatestDivisor_15 (by decide) (fun hc8 => ?_) (fun hc8 => ?_)
          · replace h := h.1 hc8
            refine vv_sub [0] (L' := [(2, .int v3)]) rfl ?_
            exact hJk34_1 _ h
          · replace h := h.2 hc8
            refine vv_iload_n C 0 dX8_greatestDivisor_18 rfl rfl ?_
            refine vv_iload_n C 1 dX8_greatestDivisor_19 rfl rfl ?_
            obtain ⟨hne, h⟩ := h
            refine vv_irem C dX8_greatestDivisor_20 hne ?_
            refine vv_nm (fun v9 ev9 => ?_)
            replace h := h v9 ev9
            refine vv_istore (L' := [(5, .int v9), (2, .int v3), (3, .int v4), (4, .int v5)]) C dX8_greatestDivisor_21 (by decide) rfl ?_
            refine vv_iload_n C 2 dX8_greatestDivisor_23 rfl rfl ?_
            refine vv_istore_n (L' := [(2, .int v4), (5, .int v9), (3, .int v4), (4, .int v5)]) C dX8_greatestDivisor_24 rfl (by decide) rfl ?_
            refine vv_iload C 1 dX8_greatestDivisor_25 rfl ?_
            refine vv_istore_n (L' := [(3, .int v9), (2, .int v4), (5, .int v9), (4, .int v5)]) C dX8_greatestDivisor_27 rfl (by decide) rfl ?_
            obtain ⟨v10, ev10⟩ : ∃ z : Int32, z = v5 + (1 : Int32) := ⟨_, rfl⟩
            replace h := h v10 ev10
            refine vv_iinc (v := v10) (L' := [(4, .int v10), (3, .int v9), (2, .int v4), (5, .int v9)]) C 3 dX8_greatestDivisor_28 rfl ((kinc ki_1).trans ev10.symm) (by decide) rfl ?_
            refine vv_goto (pc := 31) (tgt := 7) C dX8_greatestDivisor_31 (by decide) ?_
            refine vv_sub [2, 1, 0] (L' := [(2, .int v4), (3, .int v9), (4, .int v10)]) rfl ?_
            exact ih1 _ _ _ h
    refine vv_sub [2, 1, 0] (L' := [(2, .int a1), (3, .int a2), (4, .int (0 : Int32))]) rfl ?_
    exact hl1 n6 _ _ _ h
set_option maxHeartbeats 2000000 in
set_option maxRecDepth 100000 in
theorem mX8_holdsIn {Y : vv_Y} (hY : Y.2.2.2.2 = wC) {a1 : Int32} {a2 : Int32} {a3 : Int32} {σ : vv_S} {post : Int32 → vv_S → Prop} (h : wX8_holdsIn a1 a2 a3 σ post) : vv_MI Y yX8_holdsIn cX8_holdsIn 6 (some .boolean) 4 91 [.ref (vv_q Y 0), .int a1, .int a2, .int a3] σ post := by
  refine vv_ofI (by decide) (Nat.le_of_ble_eq_true rfl) (fun X C => ?_)
  have C : VC Y X RX8 cX8_holdsIn 6 (some .boolean) 4 91 := C
  refine vv_sub [0, 1, 2, 3] (L' := [(0, .ref (vv_q Y 0)), (1, .int a1), (2, .int a2), (3, .int a3)]) rfl ?_
  refine vv_aload_n C 0 dX8_holdsIn_0 rfl rfl ?_
  refine vv_getr (r := 46) C kc_X8 (s_X8 hY) 4 (by decide) rfl fk_X8_35 dX8_holdsIn_1 ?_
  refine vv_aload_n C 0 dX8_holdsIn_4 rfl rfl ?_
  refine vv_getr (r := 42) C kc_X8 (s_X8 hY) 3 (by decide) rfl fk_X8_31 dX8_holdsIn_5 ?_
  refine vv_callV (rest := []) C yk_X3_copyFrom vk_X3_copyFrom lk_X8_186 kc_X3.1 (s_X3 hY (show is_X3 46 by decide)) dX8_holdsIn_8 (mX3_copyFrom hY (show is_X3 46 by decide) (show is_X3 42 by decide) h) rfl rfl ⟨Nat.le_of_ble_eq_true rfl, Nat.le_of_ble_eq_true rfl⟩ (Nat.le_of_ble_eq_true rfl) (fun σ1 h => ?_)
  refine vv_aload_n C 0 dX8_holdsIn_11 rfl rfl ?_
  refine vv_getr (r := 46) C kc_X8 (s_X8 hY) 4 (by decide) rfl fk_X8_35 dX8_holdsIn_12 ?_
  refine vv_callI (rest := []) C yk_X3_allBreaches vk_X3_allBreaches lk_X8_285 kc_X3.1 (s_X3 hY (show is_X3 46 by decide)) dX8_holdsIn_15 (mX3_allBreaches hY (show is_X3 46 by decide) h) rfl rfl ⟨Nat.le_of_ble_eq_true rfl, Nat.le_of_ble_eq_true rfl⟩ (Nat.le_of_ble_eq_true rfl) (fun r3 σ2 h => ?_)
  refine vv_istore (L' := [(4, .int r3), (0, .ref (vv_q Y 0)), (1, .int a1), (2, .int a2), (3, .int a3)]) C dX8_holdsIn_18 (by decide) rfl ?_
  refine vv_iconst C dX8_holdsIn_20 ki_0 ?_
  refine vv_istore (L' := [(5, .int (0 : Int32)), (4, .int r3), (0, .ref (vv_q Y 0)), (1, .int a1), (2, .int a2), (3, .int a3)]) C dX8_holdsIn_21 (by decide) rfl ?_
  refine vv_join (fun k => ∀ (σ4 : vv_S), k σ4 → VJ Y X (va_Qi post (vv_B Y) X.2) 6 59 [(0, .ref (vv_q Y 0)), (4, .int r3)] [] σ4) h (fun σ4 h => ?_) (fun k59_4 hJk59_4 h => ?_)
  · refine vv_aload_n C 0 dX8_holdsIn_59 rfl rfl ?_
    refine vv_getr (r := 46) C kc_X8 (s_X8 hY) 4 (by decide) rfl fk_X8_35 dX8_holdsIn_60 ?_
    refine vv_callI (rest := []) C yk_X3_allBreaches vk_X3_allBreaches lk_X8_285 kc_X3.1 (s_X3 hY (show is_X3 46 by decide)) dX8_holdsIn_63 (mX3_allBreaches hY (show is_X3 46 by decide) h) rfl rfl ⟨Nat.le_of_ble_eq_true rfl, Nat.le_of_ble_eq_true rfl⟩ (Nat.le_of_ble_eq_true rfl) (fun r7 σ6 h => ?_)
    refine vv_iload C 1 dX8_holdsIn_66 rfl ?_
    refine vv_join (fun k => ∀ (v8 : Int32), k v8 → VJ Y X (va_Qi post (vv_B Y) X.2) 6 76 [] [.int v8] σ6) h (fun v8 h => ?_) (fun k76_8 hJk76_8 h => ?_)
    · exact vv_zret C h.1 dX8_holdsIn_76 h.2
    · refine vv_icmp_ne (pc := 68) C 75 dX8_holdsIn_68 (by decide) (fun hc10 => ?_) (fun hc10 => ?_)
      · replace h := h.1 hc10
        refine vv_iconst C dX8_holdsIn_75 ki_0 ?_
        refine vv_sub [] (L' := []) rfl ?_
        exact hJk76_8 _ h
      · replace h := h.2 hc10
        refine vv_iconst C dX8_holdsIn_71 ki_1 ?_
        refine vv_goto (pc := 72) (tgt := 76) C dX8_holdsIn_72 (by decide) ?_
        refine vv_sub [] (L' := []) rfl ?_
        exact hJk76_8 _ h
  · obtain ⟨n13, h⟩ := h
    have hl1 : ∀ (n13 : Nat) (v11 : Int32) (σ12 : vv_S), lX8_holdsIn_1 a2 k59_4 a1 a3 n13 v11 σ12 → VJ Y X (va_Qi post (vv_B Y) X.2) 6 23 [(0, .ref (vv_q Y 0)), (1, .int a1), (2, .int a2), (3, .int a3), (4, .int r3), (5, .int v11)] [] σ12 := by
      clear h
      intro n13
      induction n13 with
      | zero => intro v11 σ12 h; exact False.elim h
      | succ n13 ih1 =>
        intro v11 σ12 h
        refine vv_iload C 5 dX8_holdsIn_23 rfl ?_
        refine vv_iload_n C 2 dX8_holdsIn_25 rfl rfl ?_
        refine vv_icmp_ge (pc := 26) C 59 dX8_holdsIn_26 (by decide) (fun hc14 => ?_) (fun hc14 => ?_)
        · replace h := h.1 hc14
          refine vv_sub [0, 4] (L' := [(0, .ref (vv_q Y 0)), (4, .int r3)]) rfl ?_
          exact hJk59_4 _ h
        · replace h := h.2 hc14
          refine vv_aload_n C 0 dX8_holdsIn_29 rfl rfl ?_
          refine vv_getr (r := 46) C kc_X8 (s_X8 hY) 4 (by decide) rfl fk_X8_35 dX8_holdsIn_30 ?_
          refine vv_bipush C dX8_holdsIn_33 kb_10 ?_
          refine vv_iload_n C 1 dX8_holdsIn_35 rfl rfl ?_
          refine vv_iload C 5 dX8_holdsIn_36 rfl ?_
          refine vv_ishr C dX8_holdsIn_38 ?_
          refine vv_iconst C dX8_holdsIn_39 ki_1 ?_
          refine vv_iand C dX8_holdsIn_40 ?_
          refine vv_iconst C dX8_holdsIn_41 ki_1 ?_
          refine vv_join (fun k => ∀ (v15 : Int32), k v15 → VJ Y X (va_Qi post (vv_B Y) X.2) 6 50 [(0, .ref (vv_q Y 0)), (1, .int a1), (2, .int a2), (3, .int a3), (4, .int r3), (5, .int v11)] [.int v15, .int (10 : Int32), .ref (vv_q Y 46)] σ12) h (fun v15 h => ?_) (fun k50_15 hJk50_15 h => ?_)
          · refine vv_callV (rest := []) C yk_X3_letPass vk_X3_letPass lk_X8_175 kc_X3.1 (s_X3 hY (show is_X3 46 by decide)) dX8_holdsIn_50 (mX3_letPass hY (show is_X3 46 by decide) h) rfl rfl ⟨Nat.le_of_ble_eq_true rfl, Nat.le_of_ble_eq_true rfl⟩ (Nat.le_of_ble_eq_true rfl) (fun σ17 h => ?_)
            obtain ⟨v18, ev18⟩ : ∃ z : Int32, z = v11 + (1 : Int32) := ⟨_, rfl⟩
            replace h := h v18 ev18
            refine vv_iinc (v := v18) (L' := [(5, .int v18), (0, .ref (vv_q Y 0)), (1, .int a1), (2, .int a2), (3, .int a3), (4, .int r3)]) C 5 dX8_holdsIn_53 rfl ((kinc ki_1).trans ev18.symm) (by decide) rfl ?_
            refine vv_goto (pc := 56) (tgt := 23) C dX8_holdsIn_56 (by decide) ?_
            refine vv_sub [1, 2, 3, 4, 5, 0] (L' := [(0, .ref (vv_q Y 0)), (1, .int a1), (2, .int a2), (3, .int a3), (4, .int r3), (5, .int v18)]) rfl ?_
            exact ih1 _ _ h
          · refine vv_icmp_ne (pc := 42) C 49 dX8_holdsIn_42 (by decide) (fun hc19 => ?_) (fun hc19 => ?_)
            · replace h := h.1 hc19
              refine vv_iconst C dX8_holdsIn_49 ki_0 ?_
              refine vv_sub [0, 1, 2, 3, 4, 5] (L' := [(0, .ref (vv_q Y 0)), (1, .int a1), (2, .int a2), (3, .int a3), (4, .int r3), (5, .int v11)]) rfl ?_
              exact hJk50_15 _ h
            · replace h := h.2 hc19
              refine vv_iload_n C 3 dX8_holdsIn_45 rfl rfl ?_
              refine vv_goto (pc := 46) (tgt := 50) C dX8_holdsIn_46 (by decide) ?_
              refine vv_sub [0, 1, 2, 3, 4, 5] (L' := [(0, .ref (vv_q Y 0)), (1, .int a1), (2, .int a2), (3, .int a3), (4, .int r3), (5, .int v11)]) rfl ?_
              exact hJk50_15 _ h
    refine vv_sub [2, 3, 4, 5, 1, 0] (L' := [(0, .ref (vv_q Y 0)), (1, .int a1), (2, .int a2), (3, .int a3), (4, .int r3), (5, .int (0 : Int32))]) rfl ?_
    exact hl1 n13 _ _ h
set_option maxHeartbeats 2000000 in
set_option maxRecDepth 100000 in
theorem mX8_chanceOf {Y : vv_Y} (hY : Y.2.2.2.2 = wC) {a1 : Int32} {a2 : Int32} {a3 : Int32} {σ : vv_S} {post : Int32 → vv_S → Prop} (h : wX8_chanceOf a1 a2 a3 σ post) : vv_MI Y yX8_chanceOf cX8_chanceOf 5 (some .int) 0 0 [.int a1, .int a2, .int a3] σ post := by
  refine vv_ofI (by decide) (Nat.le_of_ble_eq_true rfl) (fun X C => ?_)
  have C : VC Y X RX8 cX8_chanceOf 5 (some .int) 0 0 := C
  refine vv_sub [0, 1, 2] (L' := [(0, .int a1), (1, .int a2), (2, .int a3)]) rfl ?_
  refine vv_iconst C dX8_chanceOf_0 ki_1 ?_
  refine vv_istore_n (L' := [(3, .int (1 : Int32)), (0, .int a1), (1, .int a2), (2, .int a3)]) C dX8_chanceOf_1 rfl (by decide) rfl ?_
  refine vv_iconst C dX8_chanceOf_2 ki_0 ?_
  refine vv_istore (L' := [(4, .int (0 : Int32)), (3, .int (1 : Int32)), (0, .int a1), (1, .int a2), (2, .int a3)]) C dX8_chanceOf_3 (by decide) rfl ?_
  obtain ⟨n3, h⟩ := h
  have hl1 : ∀ (n3 : Nat) (v1 : Int32) (v2 : Int32), lX8_chanceOf_1 a2 post σ a1 a3 n3 v1 v2 → VJ Y X (va_Qi post (vv_B Y) X.2) 5 5 [(0, .int a1), (1, .int a2), (2, .int a3), (3, .int v1), (4, .int v2)] [] σ := by
    clear h
    intro n3
    induction n3 with
    | zero => intro v1 v2 h; exact False.elim h
    | succ n3 ih1 =>
      intro v1 v2 h
      refine vv_iload C 4 dX8_chanceOf_5 rfl ?_
      refine vv_iload_n C 1 dX8_chanceOf_7 rfl rfl ?_
      refine vv_icmp_ge (pc := 8) C 38 dX8_chanceOf_8 (by decide) (fun hc4 => ?_) (fun hc4 => ?_)
      · replace h := h.1 hc4
        refine vv_iload_n C 3 dX8_chanceOf_38 rfl rfl ?_
        exact vv_iret C dX8_chanceOf_39 h
      · replace h := h.2 hc4
        refine vv_iload_n C 3 dX8_chanceOf_11 rfl rfl ?_
        refine vv_iload_n C 0 dX8_chanceOf_12 rfl rfl ?_
        refine vv_iload C 4 dX8_chanceOf_13 rfl ?_
        refine vv_ishr C dX8_chanceOf_15 ?_
        refine vv_iconst C dX8_chanceOf_16 ki_1 ?_
        refine vv_iand C dX8_chanceOf_17 ?_
        refine vv_iconst C dX8_chanceOf_18 ki_1 ?_
        refine vv_join (fun k => ∀ (v5 : Int32), k v5 → VJ Y X (va_Qi post (vv_B Y) X.2) 5 30 [(0, .int a1), (1, .int a2), (2, .int a3), (4, .int v2)] [.int v5, .int v1] σ) h (fun v5 h => ?_) (fun k30_5 hJk30_5 h => ?_)
        · refine vv_imul C dX8_chanceOf_30 ?_
          refine vv_nm (fun v7 ev7 => ?_)
          replace h := h v7 ev7
          refine vv_istore_n (L' := [(3, .int v7), (0, .int a1), (1, .int a2), (2, .int a3), (4, .int v2)]) C dX8_chanceOf_31 rfl (by decide) rfl ?_
          obtain ⟨v8, ev8⟩ : ∃ z : Int32, z = v2 + (1 : Int32) := ⟨_, rfl⟩
          replace h := h v8 ev8
          refine vv_iinc (v := v8) (L' := [(4, .int v8), (3, .int v7), (0, .int a1), (1, .int a2), (2, .int a3)]) C 4 dX8_chanceOf_32 rfl ((kinc ki_1).trans ev8.symm) (by decide) rfl ?_
          refine vv_goto (pc := 35) (tgt := 5) C dX8_chanceOf_35 (by decide) ?_
          refine vv_sub [2, 3, 4, 1, 0] (L' := [(0, .int a1), (1, .int a2), (2, .int a3), (3, .int v7), (4, .int v8)]) rfl ?_
          exact ih1 _ _ h
        · refine vv_icmp_ne (pc := 19) C 26 dX8_chanceOf_19 (by decide) (fun hc9 => ?_) (fun hc9 => ?_)
          · replace h := h.1 hc9
            refine vv_bipush C dX8_chanceOf_26 kb_10 ?_
            refine vv_iload_n C 2 dX8_chanceOf_28 rfl rfl ?_
            refine vv_isub C dX8_chanceOf_29 ?_
            refine vv_sub [0, 1, 2, 4] (L' := [(0, .int a1), (1, .int a2), (2, .int a3), (4, .int v2)]) rfl ?_
            exact hJk30_5 _ h
          · replace h := h.2 hc9
            refine vv_iload_n C 2 dX8_chanceOf_22 rfl rfl ?_
            refine vv_goto (pc := 23) (tgt := 30) C dX8_chanceOf_23 (by decide) ?_
            refine vv_sub [0, 1, 2, 4] (L' := [(0, .int a1), (1, .int a2), (2, .int a3), (4, .int v2)]) rfl ?_
            exact hJk30_5 _ h
  refine vv_sub [2, 3, 4, 1, 0] (L' := [(0, .int a1), (1, .int a2), (2, .int a3), (3, .int (1 : Int32)), (4, .int (0 : Int32))]) rfl ?_
  exact hl1 n3 _ _ h
set_option maxHeartbeats 2000000 in
set_option maxRecDepth 100000 in
theorem mX8_odds {Y : vv_Y} (hY : Y.2.2.2.2 = wC) {a1 : Int32} {a2 : Int32} {a3 : Int32} {a4 : Int32} {σ : vv_S} {post : Int32 → vv_S → Prop} (h : wX8_odds a1 a2 a3 a4 σ post) : vv_MI Y yX8_odds cX8_odds 8 (some .int) 5 116 [.ref (vv_q Y 0), .int a1, .int a2, .int a3, .int a4] σ post := by
  refine vv_ofI (by decide) (Nat.le_of_ble_eq_true rfl) (fun X C => ?_)
  have C : VC Y X RX8 cX8_odds 8 (some .int) 5 116 := C
  refine vv_sub [0, 1, 2, 3, 4] (L' := [(0, .ref (vv_q Y 0)), (1, .int a1), (2, .int a2), (3, .int a3), (4, .int a4)]) rfl ?_
  refine vv_iload_n C 1 dX8_odds_0 rfl rfl ?_
  refine vv_iconst C dX8_odds_1 ki_0 ?_
  refine vv_iconst C dX8_odds_2 ki_5 ?_
  refine vv_callS (rest := []) C yk_X8_isWithin sk_X8_isWithin lk_X8_92 dX8_odds_3 (mX8_isWithin hY h) rfl rfl ⟨Nat.le_of_ble_eq_true rfl, Nat.le_of_ble_eq_true rfl⟩ (Nat.le_of_ble_eq_true rfl) (fun r2 σ1 h => ?_)
  refine vv_join (fun k => ∀ (σ3 : vv_S), k σ3 → VJ Y X (va_Qi post (vv_B Y) X.2) 8 39 [] [] σ3) h (fun σ3 h => ?_) (fun k39_3 hJk39_3 h => ?_)
  · refine vv_iconst C dX8_odds_39 ki_m1 ?_
    exact vv_iret C dX8_odds_40 h
  · refine vv_if_eq (pc := 6) C 39 dX8_odds_6 (by decide) (fun hc5 => ?_) (fun hc5 => ?_)
    · replace h := h.1 hc5
      refine vv_sub [] (L' := []) rfl ?_
      exact hJk39_3 _ h
    · replace h := h.2 hc5
      refine vv_iload_n C 2 dX8_odds_9 rfl rfl ?_
      refine vv_iconst C dX8_odds_10 ki_0 ?_
      refine vv_bipush C dX8_odds_11 kb_30 ?_
      refine vv_callS (rest := []) C yk_X8_isWithin sk_X8_isWithin lk_X8_92 dX8_odds_13 (mX8_isWithin hY h) rfl rfl ⟨Nat.le_of_ble_eq_true rfl, Nat.le_of_ble_eq_true rfl⟩ (Nat.le_of_ble_eq_true rfl) (fun r7 σ6 h => ?_)
      refine vv_if_eq (pc := 16) C 39 dX8_odds_16 (by decide) (fun hc8 => ?_) (fun hc8 => ?_)
      · replace h := h.1 hc8
        refine vv_sub [] (L' := []) rfl ?_
        exact hJk39_3 _ h
      · replace h := h.2 hc8
        refine vv_iload_n C 3 dX8_odds_19 rfl rfl ?_
        refine vv_iconst C dX8_odds_20 ki_0 ?_
        refine vv_bipush C dX8_odds_21 kb_10 ?_
        refine vv_callS (rest := []) C yk_X8_isWithin sk_X8_isWithin lk_X8_92 dX8_odds_23 (mX8_isWithin hY h) rfl rfl ⟨Nat.le_of_ble_eq_true rfl, Nat.le_of_ble_eq_true rfl⟩ (Nat.le_of_ble_eq_true rfl) (fun r10 σ9 h => ?_)
        refine vv_if_eq (pc := 26) C 39 dX8_odds_26 (by decide) (fun hc11 => ?_) (fun hc11 => ?_)
        · replace h := h.1 hc11
          refine vv_sub [] (L' := []) rfl ?_
          exact hJk39_3 _ h
        · replace h := h.2 hc11
          refine vv_iload C 4 dX8_odds_29 rfl ?_
          refine vv_iconst C dX8_odds_31 ki_0 ?_
          refine vv_iconst C dX8_odds_32 ki_1 ?_
          refine vv_callS (rest := []) C yk_X8_isWithin sk_X8_isWithin lk_X8_92 dX8_odds_33 (mX8_isWithin hY h) rfl rfl ⟨Nat.le_of_ble_eq_true rfl, Nat.le_of_ble_eq_true rfl⟩ (Nat.le_of_ble_eq_true rfl) (fun r13 σ12 h => ?_)
          refine vv_if_ne (pc := 36) C 41 dX8_odds_36 (by decide) (fun hc14 => ?_) (fun hc14 => ?_)
          · replace h := h.1 hc14
            refine vv_iconst C dX8_odds_41 ki_0 ?_
            refine vv_istore (L' := [(5, .int (0 : Int32)), (0, .ref (vv_q Y 0)), (1, .int a1), (2, .int a2), (3, .int a3), (4, .int a4)]) C dX8_odds_42 (by decide) rfl ?_
            refine vv_iconst C dX8_odds_44 ki_1 ?_
            refine vv_istore (L' := [(6, .int (1 : Int32)), (5, .int (0 : Int32)), (0, .ref (vv_q Y 0)), (1, .int a1), (2, .int a2), (3, .int a3), (4, .int a4)]) C dX8_odds_45 (by decide) rfl ?_
            refine vv_iconst C dX8_odds_47 ki_0 ?_
            refine vv_istore (L' := [(7, .int (0 : Int32)), (6, .int (1 : Int32)), (5, .int (0 : Int32)), (0, .ref (vv_q Y 0)), (1, .int a1), (2, .int a2), (3, .int a3), (4, .int a4)]) C dX8_odds_48 (by decide) rfl ?_
            refine vv_join (fun k => ∀ (v15 : Int32), k v15 → VJ Y X (va_Qi post (vv_B Y) X.2) 8 69 [(0, .ref (vv_q Y 0)), (1, .int a1), (2, .int a2), (3, .int a3), (4, .int a4), (5, .int (0 : Int32)), (6, .int v15)] [] σ12) h (fun v15 h => ?_) (fun k69_15 hJk69_15 h => ?_)
            · refine vv_iconst C dX8_odds_69 ki_0 ?_
              refine vv_istore (L' := [(7, .int (0 : Int32)), (0, .ref (vv_q Y 0)), (1, .int a1), (2, .int a2), (3, .int a3), (4, .int a4), (5, .int (0 : Int32)), (6, .int v15)]) C dX8_odds_70 (by decide) rfl ?_
              refine vv_join (fun k => ∀ (v17 : Int32) (σ18 : vv_S), k v17 σ18 → VJ Y X (va_Qi post (vv_B Y) X.2) 8 109 [(4, .int a4), (5, .int v17), (6, .int v15)] [] σ18) h (fun v17 σ18 h => ?_) (fun k109_18 hJk109_18 h => ?_)
              · refine vv_iload C 1 dX8_odds_109 rfl ?_
                refine vv_iload C 2 dX8_odds_111 rfl ?_
                refine vv_callS (rest := []) C yk_X8_greatestDivisor sk_X8_greatestDivisor lk_X8_282 dX8_odds_113 (mX8_greatestDivisor hY h) rfl rfl ⟨Nat.le_of_ble_eq_true rfl, Nat.le_of_ble_eq_true rfl⟩ (Nat.le_of_ble_eq_true rfl) (fun r21 σ20 h => ?_)
                refine vv_istore (L' := [(7, .int r21), (4, .int a4), (5, .int v17), (6, .int v15)]) C dX8_odds_116 (by decide) rfl ?_
                refine vv_iload C 0 dX8_odds_118 rfl ?_
                refine vv_iconst C dX8_odds_120 ki_1 ?_
                refine vv_icmp_ge (pc := 121) C 126 dX8_odds_121 (by decide) (fun hc22 => ?_) (fun hc22 => ?_)
                · replace h := h.1 hc22
                  refine vv_iload C 1 dX8_odds_126 rfl ?_
                  refine vv_join (fun k => ∀ (v23 : Int32), k v23 → VJ Y X (va_Qi post (vv_B Y) X.2) 8 144 [] [.int v23] σ20) h (fun v23 h => ?_) (fun k144_23 hJk144_23 h => ?_)
                  · exact vv_iret C dX8_odds_144 h
                  · refine vv_if_ne (pc := 128) C 139 dX8_odds_128 (by decide) (fun hc25 => ?_) (fun hc25 => ?_)
                    · replace h := h.1 hc25
                      refine vv_iload C 3 dX8_odds_139 rfl ?_
                      refine vv_iload C 0 dX8_odds_141 rfl ?_
                      obtain ⟨hne, h⟩ := h
                      refine vv_idiv C dX8_odds_143 hne ?_
                      refine vv_sub [] (L' := []) rfl ?_
                      exact hJk144_23 _ h
                    · replace h := h.2 hc25
                      refine vv_iload C 2 dX8_odds_131 rfl ?_
                      refine vv_iload C 0 dX8_odds_133 rfl ?_
                      obtain ⟨hne, h⟩ := h
                      refine vv_idiv C dX8_odds_135 hne ?_
                      refine vv_goto (pc := 136) (tgt := 144) C dX8_odds_136 (by decide) ?_
                      refine vv_sub [] (L' := []) rfl ?_
                      exact hJk144_23 _ h
                · replace h := h.2 hc22
                  refine vv_iconst C dX8_odds_124 ki_m1 ?_
                  exact vv_iret C dX8_odds_125 h
              · obtain ⟨n29, h⟩ := h
                have hl1 : ∀ (n29 : Nat) (v26 : Int32) (v27 : Int32) (σ28 : vv_S), lX8_odds_1 a1 k109_18 a2 a3 n29 v26 v27 σ28 → VJ Y X (va_Qi post (vv_B Y) X.2) 8 72 [(0, .ref (vv_q Y 0)), (1, .int a1), (2, .int a2), (3, .int a3), (4, .int a4), (5, .int v26), (6, .int v15), (7, .int v27)] [] σ28 := by
                  clear h
                  intro n29
                  induction n29 with
                  | zero => intro v26 v27 σ28 h; exact False.elim h
                  | succ n29 ih1 =>
                    intro v26 v27 σ28 h
                    refine vv_iload C 7 dX8_odds_72 rfl ?_
                    refine vv_iconst C dX8_odds_74 ki_1 ?_
                    refine vv_iload_n C 1 dX8_odds_75 rfl rfl ?_
                    refine vv_ishl C dX8_odds_76 ?_
                    refine vv_icmp_ge (pc := 77) C 109 dX8_odds_77 (by decide) (fun hc30 => ?_) (fun hc30 => ?_)
                    · replace h := h.1 hc30
                      refine vv_sub [4, 5, 6] (L' := [(4, .int a4), (5, .int v26), (6, .int v15)]) rfl ?_
                      exact hJk109_18 _ _ h
                    · replace h := h.2 hc30
                      refine vv_aload_n C 0 dX8_odds_80 rfl rfl ?_
                      refine vv_iload C 7 dX8_odds_81 rfl ?_
                      refine vv_iload_n C 1 dX8_odds_83 rfl rfl ?_
                      refine vv_iload_n C 2 dX8_odds_84 rfl rfl ?_
                      refine vv_callI (rest := []) C yk_X8_holdsIn vk_X8_holdsIn lk_X8_276 kc_X8.1 (s_X8 hY) dX8_odds_85 (mX8_holdsIn hY h) rfl rfl ⟨Nat.le_of_ble_eq_true rfl, Nat.le_of_ble_eq_true rfl⟩ (Nat.le_of_ble_eq_true rfl) (fun r32 σ31 h => ?_)
                      refine vv_join (fun k => ∀ (v33 : Int32) (σ34 : vv_S), k v33 σ34 → VJ Y X (va_Qi post (vv_B Y) X.2) 8 103 [(0, .ref (vv_q Y 0)), (1, .int a1), (2, .int a2), (3, .int a3), (4, .int a4), (5, .int v33), (6, .int v15), (7, .int v27)] [] σ34) h (fun v33 σ34 h => ?_) (fun k103_34 hJk103_34 h => ?_)
                      · obtain ⟨v36, ev36⟩ : ∃ z : Int32, z = v27 + (1 : Int32) := ⟨_, rfl⟩
                        replace h := h v36 ev36
                        refine vv_iinc (v := v36) (L' := [(7, .int v36), (0, .ref (vv_q Y 0)), (1, .int a1), (2, .int a2), (3, .int a3), (4, .int a4), (5, .int v33), (6, .int v15)]) C 7 dX8_odds_103 rfl ((kinc ki_1).trans ev36.symm) (by decide) rfl ?_
                        refine vv_goto (pc := 106) (tgt := 72) C dX8_odds_106 (by decide) ?_
                        refine vv_sub [1, 2, 3, 4, 5, 6, 7, 0] (L' := [(0, .ref (vv_q Y 0)), (1, .int a1), (2, .int a2), (3, .int a3), (4, .int a4), (5, .int v33), (6, .int v15), (7, .int v36)]) rfl ?_
                        exact ih1 _ _ _ h
                      · refine vv_if_eq (pc := 88) C 103 dX8_odds_88 (by decide) (fun hc37 => ?_) (fun hc37 => ?_)
                        · replace h := h.1 hc37
                          refine vv_sub [0, 1, 2, 3, 4, 5, 6, 7] (L' := [(0, .ref (vv_q Y 0)), (1, .int a1), (2, .int a2), (3, .int a3), (4, .int a4), (5, .int v26), (6, .int v15), (7, .int v27)]) rfl ?_
                          exact hJk103_34 _ _ h
                        · replace h := h.2 hc37
                          refine vv_iload C 5 dX8_odds_91 rfl ?_
                          refine vv_iload C 7 dX8_odds_93 rfl ?_
                          refine vv_iload_n C 1 dX8_odds_95 rfl rfl ?_
                          refine vv_iload_n C 3 dX8_odds_96 rfl rfl ?_
                          refine vv_callS (rest := [.int v26]) C yk_X8_chanceOf sk_X8_chanceOf lk_X8_279 dX8_odds_97 (mX8_chanceOf hY h) rfl rfl ⟨Nat.le_of_ble_eq_true rfl, Nat.le_of_ble_eq_true rfl⟩ (Nat.le_of_ble_eq_true rfl) (fun r39 σ38 h => ?_)
                          refine vv_iadd C dX8_odds_100 ?_
                          refine vv_nm (fun v40 ev40 => ?_)
                          replace h := h v40 ev40
                          refine vv_istore (L' := [(5, .int v40), (0, .ref (vv_q Y 0)), (1, .int a1), (2, .int a2), (3, .int a3), (4, .int a4), (6, .int v15), (7, .int v27)]) C dX8_odds_101 (by decide) rfl ?_
                          refine vv_sub [1, 2, 3, 4, 5, 0, 6, 7] (L' := [(0, .ref (vv_q Y 0)), (1, .int a1), (2, .int a2), (3, .int a3), (4, .int a4), (5, .int v40), (6, .int v15), (7, .int v27)]) rfl ?_
                          exact hJk103_34 _ _ h
                refine vv_sub [1, 2, 3, 4, 5, 6, 7, 0] (L' := [(0, .ref (vv_q Y 0)), (1, .int a1), (2, .int a2), (3, .int a3), (4, .int a4), (5, .int (0 : Int32)), (6, .int v15), (7, .int (0 : Int32))]) rfl ?_
                exact hl1 n29 _ _ _ h
            · obtain ⟨n43, h⟩ := h
              have hl2 : ∀ (n43 : Nat) (v41 : Int32) (v42 : Int32), lX8_odds_2 a1 k69_15 n43 v41 v42 → VJ Y X (va_Qi post (vv_B Y) X.2) 8 50 [(0, .ref (vv_q Y 0)), (1, .int a1), (2, .int a2), (3, .int a3), (4, .int a4), (5, .int (0 : Int32)), (6, .int v41), (7, .int v42)] [] σ12 := by
                clear h
                intro n43
                induction n43 with
                | zero => intro v41 v42 h; exact False.elim h
                | succ n43 ih2 =>
                  intro v41 v42 h
                  refine vv_iload C 7 dX8_odds_50 rfl ?_
                  refine vv_iload_n C 1 dX8_odds_52 rfl rfl ?_
                  refine vv_icmp_ge (pc := 53) C 69 dX8_odds_53 (by decide) (fun hc44 => ?_) (fun hc44 => ?_)
                  · replace h := h.1 hc44
                    refine vv_sub [0, 1, 2, 3, 4, 5, 6] (L' := [(0, .ref (vv_q Y 0)), (1, .int a1), (2, .int a2), (3, .int a3), (4, .int a4), (5, .int (0 : Int32)), (6, .int v41)]) rfl ?_
                    exact hJk69_15 _ h
                  · replace h := h.2 hc44
                    refine vv_iload C 6 dX8_odds_56 rfl ?_
                    refine vv_bipush C dX8_odds_58 kb_10 ?_
                    refine vv_imul C dX8_odds_60 ?_
                    refine vv_nm (fun v45 ev45 => ?_)
                    replace h := h v45 ev45
                    refine vv_istore (L' := [(6, .int v45), (0, .ref (vv_q Y 0)), (1, .int a1), (2, .int a2), (3, .int a3), (4, .int a4), (5, .int (0 : Int32)), (7, .int v42)]) C dX8_odds_61 (by decide) rfl ?_
                    obtain ⟨v46, ev46⟩ : ∃ z : Int32, z = v42 + (1 : Int32) := ⟨_, rfl⟩
                    replace h := h v46 ev46
                    refine vv_iinc (v := v46) (L' := [(7, .int v46), (6, .int v45), (0, .ref (vv_q Y 0)), (1, .int a1), (2, .int a2), (3, .int a3), (4, .int a4), (5, .int (0 : Int32))]) C 7 dX8_odds_63 rfl ((kinc ki_1).trans ev46.symm) (by decide) rfl ?_
                    refine vv_goto (pc := 66) (tgt := 50) C dX8_odds_66 (by decide) ?_
                    refine vv_sub [2, 3, 4, 5, 6, 7, 1, 0] (L' := [(0, .ref (vv_q Y 0)), (1, .int a1), (2, .int a2), (3, .int a3), (4, .int a4), (5, .int (0 : Int32)), (6, .int v45), (7, .int v46)]) rfl ?_
                    exact ih2 _ _ h
              refine vv_sub [3, 4, 5, 6, 7, 2, 1, 0] (L' := [(0, .ref (vv_q Y 0)), (1, .int a1), (2, .int a2), (3, .int a3), (4, .int a4), (5, .int (0 : Int32)), (6, .int (1 : Int32)), (7, .int (0 : Int32))]) rfl ?_
              exact hl2 n43 _ _ h
          · replace h := h.2 hc14
            refine vv_sub [] (L' := []) rfl ?_
            exact hJk39_3 _ h
set_option maxHeartbeats 2000000 in
set_option maxRecDepth 100000 in
theorem mX8_drawOf {Y : vv_Y} (hY : Y.2.2.2.2 = wC) {a1 : Int32} {a2 : Int32} {σ : vv_S} {post : Int32 → vv_S → Prop} (h : wX8_drawOf a1 a2 σ post) : vv_MI Y yX8_drawOf cX8_drawOf 4 (some .int) 0 0 [.int a1, .int a2] σ post := by
  refine vv_ofI (by decide) (Nat.le_of_ble_eq_true rfl) (fun X C => ?_)
  have C : VC Y X RX8 cX8_drawOf 4 (some .int) 0 0 := C
  refine vv_sub [0, 1] (L' := [(0, .int a1), (1, .int a2)]) rfl ?_
  refine vv_ldc2 C lc_X8_291 dX8_drawOf_0 ?_
  refine vv_iload_n C 0 dX8_drawOf_3 rfl rfl ?_
  refine vv_i2l C dX8_drawOf_4 ?_
  refine vv_lmul C dX8_drawOf_5 ?_
  refine vv_ldc2 C lc_X8_293 dX8_drawOf_6 ?_
  refine vv_iload_n C 1 dX8_drawOf_9 rfl rfl ?_
  refine vv_i2l C dX8_drawOf_10 ?_
  refine vv_lmul C dX8_drawOf_11 ?_
  refine vv_ladd C dX8_drawOf_12 ?_
  refine vv_lconst (v := 1) C dX8_drawOf_13 (by decide) ?_
  refine vv_ladd C dX8_drawOf_14 ?_
  refine vv_lstore_n (L' := [(2, .long ((((7919 : Int64) * (a1).toInt64) + ((6151 : Int64) * (a2).toInt64)) + (1 : Int64))), (0, .int a1), (1, .int a2)]) C dX8_drawOf_15 rfl (by decide) rfl ?_
  refine vv_lload_n C 0 dX8_drawOf_16 rfl rfl ?_
  refine vv_lload_n C 0 dX8_drawOf_17 rfl rfl ?_
  refine vv_lmul C dX8_drawOf_18 ?_
  refine vv_ldc2 C lc_X8_295 dX8_drawOf_19 ?_
  refine vv_lrem C dX8_drawOf_22 (by decide) ?_
  refine vv_ldc2 C lc_X8_297 dX8_drawOf_23 ?_
  refine vv_lrem C dX8_drawOf_26 (by decide) ?_
  refine vv_l2i C dX8_drawOf_27 ?_
  exact vv_iret C dX8_drawOf_28 h
set_option maxHeartbeats 2000000 in
set_option maxRecDepth 100000 in
theorem mX8_night {Y : vv_Y} (hY : Y.2.2.2.2 = wC) {a1 : Int32} {a2 : Int32} {σ : vv_S} {post : Int32 → vv_S → Prop} (h : wX8_night a1 a2 σ post) : vv_MI Y yX8_night cX8_night 4 (some .int) 3 68 [.ref (vv_q Y 0), .int a1, .int a2] σ post := by
  refine vv_ofI (by decide) (Nat.le_of_ble_eq_true rfl) (fun X C => ?_)
  have C : VC Y X RX8 cX8_night 4 (some .int) 3 68 := C
  refine vv_sub [0, 1, 2] (L' := [(0, .ref (vv_q Y 0)), (1, .int a1), (2, .int a2)]) rfl ?_
  refine vv_iload_n C 1 dX8_night_0 rfl rfl ?_
  refine vv_iconst C dX8_night_1 ki_0 ?_
  refine vv_sipush C dX8_night_2 ks_9999 ?_
  refine vv_callS (rest := []) C yk_X8_isWithin sk_X8_isWithin lk_X8_92 dX8_night_5 (mX8_isWithin hY h) rfl rfl ⟨Nat.le_of_ble_eq_true rfl, Nat.le_of_ble_eq_true rfl⟩ (Nat.le_of_ble_eq_true rfl) (fun r2 σ1 h => ?_)
  refine vv_join (fun k => ∀ (σ3 : vv_S), k σ3 → VJ Y X (va_Qi post (vv_B Y) X.2) 4 20 [] [] σ3) h (fun σ3 h => ?_) (fun k20_3 hJk20_3 h => ?_)
  · refine vv_iconst C dX8_night_20 ki_m1 ?_
    exact vv_iret C dX8_night_21 h
  · refine vv_if_eq (pc := 8) C 20 dX8_night_8 (by decide) (fun hc5 => ?_) (fun hc5 => ?_)
    · replace h := h.1 hc5
      refine vv_sub [] (L' := []) rfl ?_
      exact hJk20_3 _ h
    · replace h := h.2 hc5
      refine vv_iload_n C 2 dX8_night_11 rfl rfl ?_
      refine vv_iconst C dX8_night_12 ki_0 ?_
      refine vv_iconst C dX8_night_13 ki_1 ?_
      refine vv_callS (rest := []) C yk_X8_isWithin sk_X8_isWithin lk_X8_92 dX8_night_14 (mX8_isWithin hY h) rfl rfl ⟨Nat.le_of_ble_eq_true rfl, Nat.le_of_ble_eq_true rfl⟩ (Nat.le_of_ble_eq_true rfl) (fun r7 σ6 h => ?_)
      refine vv_if_ne (pc := 17) C 22 dX8_night_17 (by decide) (fun hc8 => ?_) (fun hc8 => ?_)
      · replace h := h.1 hc8
        refine vv_aload_n C 0 dX8_night_22 rfl rfl ?_
        refine vv_getr (r := 46) C kc_X8 (s_X8 hY) 4 (by decide) rfl fk_X8_35 dX8_night_23 ?_
        refine vv_aload_n C 0 dX8_night_26 rfl rfl ?_
        refine vv_getr (r := 42) C kc_X8 (s_X8 hY) 3 (by decide) rfl fk_X8_31 dX8_night_27 ?_
        refine vv_callV (rest := []) C yk_X3_copyFrom vk_X3_copyFrom lk_X8_186 kc_X3.1 (s_X3 hY (show is_X3 46 by decide)) dX8_night_30 (mX3_copyFrom hY (show is_X3 46 by decide) (show is_X3 42 by decide) h) rfl rfl ⟨Nat.le_of_ble_eq_true rfl, Nat.le_of_ble_eq_true rfl⟩ (Nat.le_of_ble_eq_true rfl) (fun σ9 h => ?_)
        refine vv_iconst C dX8_night_33 ki_1 ?_
        refine vv_istore_n (L' := [(3, .int (1 : Int32)), (0, .ref (vv_q Y 0)), (1, .int a1), (2, .int a2)]) C dX8_night_34 rfl (by decide) rfl ?_
        refine vv_join (fun k => ∀ (σ10 : vv_S), k σ10 → VJ Y X (va_Qi post (vv_B Y) X.2) 4 59 [(0, .ref (vv_q Y 0)), (2, .int a2)] [] σ10) h (fun σ10 h => ?_) (fun k59_10 hJk59_10 h => ?_)
        · refine vv_iload_n C 1 dX8_night_59 rfl rfl ?_
          refine vv_join (fun k => ∀ (v12 : Int32) (σ13 : vv_S), k v12 σ13 → VJ Y X (va_Qi post (vv_B Y) X.2) 4 88 [] [.int v12] σ13) h (fun v12 σ13 h => ?_) (fun k88_13 hJk88_13 h => ?_)
          · exact vv_iret C dX8_night_88 h
          · refine vv_if_ne (pc := 60) C 73 dX8_night_60 (by decide) (fun hc15 => ?_) (fun hc15 => ?_)
            · replace h := h.1 hc15
              refine vv_aload_n C 0 dX8_night_73 rfl rfl ?_
              refine vv_getr (r := 46) C kc_X8 (s_X8 hY) 4 (by decide) rfl fk_X8_35 dX8_night_74 ?_
              refine vv_callI (rest := []) C yk_X3_allBreaches vk_X3_allBreaches lk_X8_285 kc_X3.1 (s_X3 hY (show is_X3 46 by decide)) dX8_night_77 (mX3_allBreaches hY (show is_X3 46 by decide) h) rfl rfl ⟨Nat.le_of_ble_eq_true rfl, Nat.le_of_ble_eq_true rfl⟩ (Nat.le_of_ble_eq_true rfl) (fun r17 σ16 h => ?_)
              refine vv_aload_n C 0 dX8_night_80 rfl rfl ?_
              refine vv_getr (r := 42) C kc_X8 (s_X8 hY) 3 (by decide) rfl fk_X8_31 dX8_night_81 ?_
              refine vv_callI (rest := [.int r17]) C yk_X3_allBreaches vk_X3_allBreaches lk_X8_285 kc_X3.1 (s_X3 hY (show is_X3 42 by decide)) dX8_night_84 (mX3_allBreaches hY (show is_X3 42 by decide) h) rfl rfl ⟨Nat.le_of_ble_eq_true rfl, Nat.le_of_ble_eq_true rfl⟩ (Nat.le_of_ble_eq_true rfl) (fun r19 σ18 h => ?_)
              refine vv_isub C dX8_night_87 ?_
              refine vv_sub [] (L' := []) rfl ?_
              exact hJk88_13 _ _ h
            · replace h := h.2 hc15
              refine vv_aload_n C 0 dX8_night_63 rfl rfl ?_
              refine vv_getr (r := 46) C kc_X8 (s_X8 hY) 4 (by decide) rfl fk_X8_35 dX8_night_64 ?_
              refine vv_callI (rest := []) C yk_X3_units vk_X3_units lk_X8_124 kc_X3.1 (s_X3 hY (show is_X3 46 by decide)) dX8_night_67 (mX3_units hY (show is_X3 46 by decide) h) rfl rfl ⟨Nat.le_of_ble_eq_true rfl, Nat.le_of_ble_eq_true rfl⟩ (Nat.le_of_ble_eq_true rfl) (fun r21 σ20 h => ?_)
              refine vv_goto (pc := 70) (tgt := 88) C dX8_night_70 (by decide) ?_
              refine vv_sub [] (L' := []) rfl ?_
              exact hJk88_13 _ _ h
        · obtain ⟨n24, h⟩ := h
          have hl1 : ∀ (n24 : Nat) (v22 : Int32) (σ23 : vv_S), lX8_night_1 k59_10 a1 n24 v22 σ23 → VJ Y X (va_Qi post (vv_B Y) X.2) 4 35 [(0, .ref (vv_q Y 0)), (1, .int a1), (2, .int a2), (3, .int v22)] [] σ23 := by
            clear h
            intro n24
            induction n24 with
            | zero => intro v22 σ23 h; exact False.elim h
            | succ n24 ih1 =>
              intro v22 σ23 h
              refine vv_iload_n C 3 dX8_night_35 rfl rfl ?_
              refine vv_bipush C dX8_night_36 kb_60 ?_
              refine vv_icmp_gt (pc := 38) C 59 dX8_night_38 (by decide) (fun hc25 => ?_) (fun hc25 => ?_)
              · replace h := h.1 hc25
                refine vv_sub [0, 2] (L' := [(0, .ref (vv_q Y 0)), (2, .int a2)]) rfl ?_
                exact hJk59_10 _ h
              · replace h := h.2 hc25
                refine vv_aload_n C 0 dX8_night_41 rfl rfl ?_
                refine vv_getr (r := 46) C kc_X8 (s_X8 hY) 4 (by decide) rfl fk_X8_35 dX8_night_42 ?_
                refine vv_iload_n C 1 dX8_night_45 rfl rfl ?_
                refine vv_iload_n C 3 dX8_night_46 rfl rfl ?_
                refine vv_callS (rest := [.ref (vv_q Y 46)]) C yk_X8_drawOf sk_X8_drawOf lk_X8_288 dX8_night_47 (mX8_drawOf hY h) rfl rfl ⟨Nat.le_of_ble_eq_true rfl, Nat.le_of_ble_eq_true rfl⟩ (Nat.le_of_ble_eq_true rfl) (fun r27 σ26 h => ?_)
                refine vv_callV (rest := []) C yk_X3_oneMinute vk_X3_oneMinute lk_X8_229 kc_X3.1 (s_X3 hY (show is_X3 46 by decide)) dX8_night_50 (mX3_oneMinute hY (show is_X3 46 by decide) h) rfl rfl ⟨Nat.le_of_ble_eq_true rfl, Nat.le_of_ble_eq_true rfl⟩ (Nat.le_of_ble_eq_true rfl) (fun σ28 h => ?_)
                obtain ⟨v29, ev29⟩ : ∃ z : Int32, z = v22 + (1 : Int32) := ⟨_, rfl⟩
                replace h := h v29 ev29
                refine vv_iinc (v := v29) (L' := [(3, .int v29), (0, .ref (vv_q Y 0)), (1, .int a1), (2, .int a2)]) C 3 dX8_night_53 rfl ((kinc ki_1).trans ev29.symm) (by decide) rfl ?_
                refine vv_goto (pc := 56) (tgt := 35) C dX8_night_56 (by decide) ?_
                refine vv_sub [1, 2, 3, 0] (L' := [(0, .ref (vv_q Y 0)), (1, .int a1), (2, .int a2), (3, .int v29)]) rfl ?_
                exact ih1 _ _ h
          refine vv_sub [1, 2, 3, 0] (L' := [(0, .ref (vv_q Y 0)), (1, .int a1), (2, .int a2), (3, .int (1 : Int32))]) rfl ?_
          exact hl1 n24 _ _ h
      · replace h := h.2 hc8
        refine vv_sub [] (L' := []) rfl ?_
        exact hJk20_3 _ h
set_option maxHeartbeats 2000000 in
set_option maxRecDepth 100000 in
theorem mX8_keep {Y : vv_Y} (hY : Y.2.2.2.2 = wC)  {σ : vv_S} {post : Int32 → vv_S → Prop} (h : wX8_keep σ post) : vv_MI Y yX8_keep cX8_keep 1 (some .int) 1 22 [.ref (vv_q Y 0)] σ post := by
  refine vv_ofI (by decide) (Nat.le_of_ble_eq_true rfl) (fun X C => ?_)
  have C : VC Y X RX8 cX8_keep 1 (some .int) 1 22 := C
  refine vv_sub [0] (L' := [(0, .ref (vv_q Y 0))]) rfl ?_
  refine vv_aload_n C 0 dX8_keep_0 rfl rfl ?_
  refine vv_geti C kc_X8 (s_X8 hY) 7 (by decide) rfl fk_X8_103 dX8_keep_1 ?_
  refine vv_join (fun k =>  k → VJ Y X (va_Qi post (vv_B Y) X.2) 1 15 [] [] σ) h (fun h => ?_) (fun k15_0 hJk15_0 h => ?_)
  · refine vv_bipush C dX8_keep_15 kb_m3 ?_
    exact vv_iret C dX8_keep_17 h
  · refine vv_if_lt (pc := 4) C 15 dX8_keep_4 (by decide) (fun hc2 => ?_) (fun hc2 => ?_)
    · replace h := h.1 hc2
      refine vv_sub [] (L' := []) rfl ?_
      exact hJk15_0 h
    · replace h := h.2 hc2
      refine vv_aload_n C 0 dX8_keep_7 rfl rfl ?_
      refine vv_geti C kc_X8 (s_X8 hY) 7 (by decide) rfl fk_X8_103 dX8_keep_8 ?_
      refine vv_iconst C dX8_keep_11 ki_2 ?_
      refine vv_icmp_lt (pc := 12) C 18 dX8_keep_12 (by decide) (fun hc3 => ?_) (fun hc3 => ?_)
      · replace h := h.1 hc3
        refine vv_aload_n C 0 dX8_keep_18 rfl rfl ?_
        refine vv_getr (r := 65) C kc_X8 (s_X8 hY) 6 (by decide) rfl fk_X8_45 dX8_keep_19 ?_
        refine vv_aload_n C 0 dX8_keep_22 rfl rfl ?_
        refine vv_geti C kc_X8 (s_X8 hY) 7 (by decide) rfl fk_X8_103 dX8_keep_23 ?_
        obtain ⟨hi4, h⟩ := h
        refine vv_aaldO C (a_X8_kept hY) hi4 dX8_keep_26 ?_
        refine vv_aload_n C 0 dX8_keep_27 rfl rfl ?_
        refine vv_getr (r := 50) C kc_X8 (s_X8 hY) 5 (by decide) rfl fk_X8_41 dX8_keep_28 ?_
        refine vv_callV (rest := []) C yk_X0_copyFrom vk_X0_copyFrom lk_X8_299 kc_X0.1 (s_X0 hY (is_X0_kept hi4)) dX8_keep_31 (mX0_copyFrom hY (is_X0_kept hi4) (show is_X0 50 by decide) h) rfl rfl ⟨Nat.le_of_ble_eq_true rfl, Nat.le_of_ble_eq_true rfl⟩ (Nat.le_of_ble_eq_true rfl) (fun σ5 h => ?_)
        refine vv_aload_n C 0 dX8_keep_34 rfl rfl ?_
        refine vv_dup C dX8_keep_35 rfl ?_
        refine vv_geti C kc_X8 (s_X8 hY) 7 (by decide) rfl fk_X8_103 dX8_keep_36 ?_
        refine vv_iconst C dX8_keep_39 ki_1 ?_
        refine vv_iadd C dX8_keep_40 ?_
        refine vv_puti C kc_X8 (s_X8 hY) 7 (by decide) rfl pf_X8_7 fk_X8_103 dX8_keep_41 (fun σ6 eσ6 => ?_)
        replace h := h σ6 eσ6
        refine vv_aload_n C 0 dX8_keep_44 rfl rfl ?_
        refine vv_geti C kc_X8 (s_X8 hY) 7 (by decide) rfl fk_X8_103 dX8_keep_45 ?_
        exact vv_iret C dX8_keep_48 h
      · replace h := h.2 hc3
        refine vv_sub [] (L' := []) rfl ?_
        exact hJk15_0 h
set_option maxHeartbeats 2000000 in
set_option maxRecDepth 100000 in
theorem mX8_back {Y : vv_Y} (hY : Y.2.2.2.2 = wC)  {σ : vv_S} {post : Int32 → vv_S → Prop} (h : wX8_back σ post) : vv_MI Y yX8_back cX8_back 1 (some .int) 6 138 [.ref (vv_q Y 0)] σ post := by
  refine vv_ofI (by decide) (Nat.le_of_ble_eq_true rfl) (fun X C => ?_)
  have C : VC Y X RX8 cX8_back 1 (some .int) 6 138 := C
  refine vv_sub [0] (L' := [(0, .ref (vv_q Y 0))]) rfl ?_
  refine vv_aload_n C 0 dX8_back_0 rfl rfl ?_
  refine vv_geti C kc_X8 (s_X8 hY) 7 (by decide) rfl fk_X8_103 dX8_back_1 ?_
  refine vv_iconst C dX8_back_4 ki_1 ?_
  refine vv_join (fun k =>  k → VJ Y X (va_Qi post (vv_B Y) X.2) 1 16 [] [] σ) h (fun h => ?_) (fun k16_0 hJk16_0 h => ?_)
  · refine vv_bipush C dX8_back_16 kb_m2 ?_
    exact vv_iret C dX8_back_18 h
  · refine vv_icmp_lt (pc := 5) C 16 dX8_back_5 (by decide) (fun hc2 => ?_) (fun hc2 => ?_)
    · replace h := h.1 hc2
      refine vv_sub [] (L' := []) rfl ?_
      exact hJk16_0 h
    · replace h := h.2 hc2
      refine vv_aload_n C 0 dX8_back_8 rfl rfl ?_
      refine vv_geti C kc_X8 (s_X8 hY) 7 (by decide) rfl fk_X8_103 dX8_back_9 ?_
      refine vv_iconst C dX8_back_12 ki_2 ?_
      refine vv_icmp_le (pc := 13) C 19 dX8_back_13 (by decide) (fun hc3 => ?_) (fun hc3 => ?_)
      · replace h := h.1 hc3
        refine vv_aload_n C 0 dX8_back_19 rfl rfl ?_
        refine vv_dup C dX8_back_20 rfl ?_
        refine vv_geti C kc_X8 (s_X8 hY) 7 (by decide) rfl fk_X8_103 dX8_back_21 ?_
        refine vv_iconst C dX8_back_24 ki_1 ?_
        refine vv_isub C dX8_back_25 ?_
        refine vv_puti C kc_X8 (s_X8 hY) 7 (by decide) rfl pf_X8_7 fk_X8_103 dX8_back_26 (fun σ4 eσ4 => ?_)
        replace h := h σ4 eσ4
        refine vv_aload_n C 0 dX8_back_29 rfl rfl ?_
        refine vv_getr (r := 50) C kc_X8 (s_X8 hY) 5 (by decide) rfl fk_X8_41 dX8_back_30 ?_
        refine vv_aload_n C 0 dX8_back_33 rfl rfl ?_
        refine vv_getr (r := 65) C kc_X8 (s_X8 hY) 6 (by decide) rfl fk_X8_45 dX8_back_34 ?_
        refine vv_aload_n C 0 dX8_back_37 rfl rfl ?_
        refine vv_geti C kc_X8 (s_X8 hY) 7 (by decide) rfl fk_X8_103 dX8_back_38 ?_
        obtain ⟨hi5, h⟩ := h
        refine vv_aaldO C (a_X8_kept hY) hi5 dX8_back_41 ?_
        refine vv_callV (rest := []) C yk_X0_copyFrom vk_X0_copyFrom lk_X8_299 kc_X0.1 (s_X0 hY (show is_X0 50 by decide)) dX8_back_42 (mX0_copyFrom hY (show is_X0 50 by decide) (is_X0_kept hi5) h) rfl rfl ⟨Nat.le_of_ble_eq_true rfl, Nat.le_of_ble_eq_true rfl⟩ (Nat.le_of_ble_eq_true rfl) (fun σ6 h => ?_)
        refine vv_aload_n C 0 dX8_back_45 rfl rfl ?_
        refine vv_getr (r := 50) C kc_X8 (s_X8 hY) 5 (by decide) rfl fk_X8_41 dX8_back_46 ?_
        refine vv_bipush C dX8_back_49 kb_m4 ?_
        refine vv_aload_n C 0 dX8_back_51 rfl rfl ?_
        refine vv_getr (r := 42) C kc_X8 (s_X8 hY) 3 (by decide) rfl fk_X8_31 dX8_back_52 ?_
        refine vv_callV (rest := []) C yk_X0_doAllBut vk_X0_doAllBut lk_X8_182 kc_X0.1 (s_X0 hY (show is_X0 50 by decide)) dX8_back_55 (mX0_doAllBut hY (show is_X0 50 by decide) (show is_X3 42 by decide) h) rfl rfl ⟨Nat.le_of_ble_eq_true rfl, Nat.le_of_ble_eq_true rfl⟩ (Nat.le_of_ble_eq_true rfl) (fun σ7 h => ?_)
        refine vv_aload_n C 0 dX8_back_58 rfl rfl ?_
        refine vv_geti C kc_X8 (s_X8 hY) 7 (by decide) rfl fk_X8_103 dX8_back_59 ?_
        exact vv_iret C dX8_back_62 h
      · replace h := h.2 hc3
        refine vv_sub [] (L' := []) rfl ?_
        exact hJk16_0 h
set_option maxHeartbeats 2000000 in
set_option maxRecDepth 100000 in
theorem mX8_count {Y : vv_Y} (hY : Y.2.2.2.2 = wC) {a1 : Int32} {σ : vv_S} {post : Int32 → vv_S → Prop} (h : wX8_count a1 σ post) : vv_MI Y yX8_count cX8_count 2 (some .int) 1 20 [.ref (vv_q Y 0), .int a1] σ post := by
  refine vv_ofI (by decide) (Nat.le_of_ble_eq_true rfl) (fun X C => ?_)
  have C : VC Y X RX8 cX8_count 2 (some .int) 1 20 := C
  refine vv_sub [0, 1] (L' := [(0, .ref (vv_q Y 0)), (1, .int a1)]) rfl ?_
  refine vv_iload_n C 1 dX8_count_0 rfl rfl ?_
  by_cases hc1 : a1 = (0 : Int32)
  · replace h := h.1 hc1
    refine vv_tab (pc := 1) C 44 dX8_count_1 hc1 (by decide) (by decide) rfl (by decide) ?_
    refine vv_aload_n C 0 dX8_count_44 rfl rfl ?_
    refine vv_getr (r := 4) C kc_X8 (s_X8 hY) 1 (by decide) rfl fk_X8_19 dX8_count_45 ?_
    refine vv_callI (rest := []) C yk_X4_cellCount vk_X4_cellCount lk_X8_99 kc_X4.1 (s_X4 hY (show is_X4 4 by decide)) dX8_count_48 (mX4_cellCount hY (show is_X4 4 by decide) h) rfl rfl ⟨Nat.le_of_ble_eq_true rfl, Nat.le_of_ble_eq_true rfl⟩ (Nat.le_of_ble_eq_true rfl) (fun r3 σ2 h => ?_)
    exact vv_iret C dX8_count_51 h
  replace h := h.2
  by_cases hc4 : a1 = (1 : Int32)
  · replace h := h.1 hc4
    refine vv_tab (pc := 1) C 52 dX8_count_1 hc4 (by decide) (by decide) rfl (by decide) ?_
    refine vv_aload_n C 0 dX8_count_52 rfl rfl ?_
    refine vv_getr (r := 4) C kc_X8 (s_X8 hY) 1 (by decide) rfl fk_X8_19 dX8_count_53 ?_
    refine vv_callR (r := 14) (rest := []) C yk_X4_crew vk_X4_crew lk_X8_236 kc_X4.1 (s_X4 hY (show is_X4 4 by decide)) dX8_count_56 (mX4_crew hY (show is_X4 4 by decide) h) rfl rfl ⟨Nat.le_of_ble_eq_true rfl, Nat.le_of_ble_eq_true rfl⟩ (Nat.le_of_ble_eq_true rfl) (fun σ5 h => ?_)
    refine vv_callI (rest := []) C yk_X2_childCount vk_X2_childCount lk_X8_302 kc_X2.1 (s_X2 hY (show is_X2 14 by decide)) dX8_count_59 (mX2_childCount hY (show is_X2 14 by decide) h) rfl rfl ⟨Nat.le_of_ble_eq_true rfl, Nat.le_of_ble_eq_true rfl⟩ (Nat.le_of_ble_eq_true rfl) (fun r7 σ6 h => ?_)
    exact vv_iret C dX8_count_62 h
  replace h := h.2
  by_cases hc8 : a1 = (2 : Int32)
  · replace h := h.1 hc8
    refine vv_tab (pc := 1) C 63 dX8_count_1 hc8 (by decide) (by decide) rfl (by decide) ?_
    refine vv_aload_n C 0 dX8_count_63 rfl rfl ?_
    refine vv_getr (r := 4) C kc_X8 (s_X8 hY) 1 (by decide) rfl fk_X8_19 dX8_count_64 ?_
    refine vv_callR (r := 14) (rest := []) C yk_X4_crew vk_X4_crew lk_X8_236 kc_X4.1 (s_X4 hY (show is_X4 4 by decide)) dX8_count_67 (mX4_crew hY (show is_X4 4 by decide) h) rfl rfl ⟨Nat.le_of_ble_eq_true rfl, Nat.le_of_ble_eq_true rfl⟩ (Nat.le_of_ble_eq_true rfl) (fun σ9 h => ?_)
    refine vv_callI (rest := []) C yk_X2_jobCount vk_X2_jobCount lk_X8_240 kc_X2.1 (s_X2 hY (show is_X2 14 by decide)) dX8_count_70 (mX2_jobCount hY (show is_X2 14 by decide) h) rfl rfl ⟨Nat.le_of_ble_eq_true rfl, Nat.le_of_ble_eq_true rfl⟩ (Nat.le_of_ble_eq_true rfl) (fun r11 σ10 h => ?_)
    exact vv_iret C dX8_count_73 h
  replace h := h.2
  by_cases hc12 : a1 = (3 : Int32)
  · replace h := h.1 hc12
    refine vv_tab (pc := 1) C 74 dX8_count_1 hc12 (by decide) (by decide) rfl (by decide) ?_
    refine vv_aload_n C 0 dX8_count_74 rfl rfl ?_
    refine vv_getr (r := 50) C kc_X8 (s_X8 hY) 5 (by decide) rfl fk_X8_41 dX8_count_75 ?_
    refine vv_callI (rest := []) C yk_X0_size vk_X0_size lk_X8_178 kc_X0.1 (s_X0 hY (show is_X0 50 by decide)) dX8_count_78 (mX0_size hY (show is_X0 50 by decide) h) rfl rfl ⟨Nat.le_of_ble_eq_true rfl, Nat.le_of_ble_eq_true rfl⟩ (Nat.le_of_ble_eq_true rfl) (fun r14 σ13 h => ?_)
    exact vv_iret C dX8_count_81 h
  replace h := h.2
  by_cases hc15 : a1 = (4 : Int32)
  · replace h := h.1 hc15
    refine vv_tab (pc := 1) C 82 dX8_count_1 hc15 (by decide) (by decide) rfl (by decide) ?_
    refine vv_aload_n C 0 dX8_count_82 rfl rfl ?_
    refine vv_getr (r := 66) C kc_X8 (s_X8 hY) 8 (by decide) rfl fk_X8_52 dX8_count_83 ?_
    refine vv_callI (rest := []) C yk_X6_size vk_X6_size lk_X8_271 kc_X6.1 (s_X6 hY) dX8_count_86 (mX6_size hY h) rfl rfl ⟨Nat.le_of_ble_eq_true rfl, Nat.le_of_ble_eq_true rfl⟩ (Nat.le_of_ble_eq_true rfl) (fun r17 σ16 h => ?_)
    exact vv_iret C dX8_count_89 h
  replace h := h.2
  by_cases hc18 : a1 = (5 : Int32)
  · replace h := h.1 hc18
    refine vv_tab (pc := 1) C 90 dX8_count_1 hc18 (by decide) (by decide) rfl (by decide) ?_
    refine vv_aload_n C 0 dX8_count_90 rfl rfl ?_
    refine vv_geti C kc_X8 (s_X8 hY) 7 (by decide) rfl fk_X8_103 dX8_count_91 ?_
    exact vv_iret C dX8_count_94 h
  replace h := h.2
  by_cases hc19 : a1 = (6 : Int32)
  · replace h := h.1 hc19
    refine vv_tab (pc := 1) C 95 dX8_count_1 hc19 (by decide) (by decide) rfl (by decide) ?_
    refine vv_aload_n C 0 dX8_count_95 rfl rfl ?_
    refine vv_getr (r := 1) C kc_X8 (s_X8 hY) 0 (by decide) rfl fk_X8_10 dX8_count_96 ?_
    refine vv_callI (rest := []) C yk_X7_size vk_X7_size lk_X8_96 kc_X7.1 (s_X7 hY) dX8_count_99 (mX7_size hY h) rfl rfl ⟨Nat.le_of_ble_eq_true rfl, Nat.le_of_ble_eq_true rfl⟩ (Nat.le_of_ble_eq_true rfl) (fun r21 σ20 h => ?_)
    exact vv_iret C dX8_count_102 h
  replace h := h.2
  replace h := h ⟨hc1, hc4, hc8, hc12, hc15, hc18, hc19⟩
  have hgap : ∀ n : Nat, n < 7 → ((#[43, 51, 62, 73, 81, 89, 94] : Array Int)[n]? = some (102) ∨ ((0 : Int) + n = 0 ∨ (0 : Int) + n = 1 ∨ (0 : Int) + n = 2 ∨ (0 : Int) + n = 3 ∨ (0 : Int) + n = 4 ∨ (0 : Int) + n = 5 ∨ (0 : Int) + n = 6)) := by decide
  refine vv_tabD (pc := 1) C 103 dX8_count_1 (fun n hn hx => by
      rcases hgap n (by omega) with h9 | h9
      · exact h9
      · exfalso; have nhc1 := lv_neT (a := 0) hc1 (by decide); have nhc4 := lv_neT (a := 1) hc4 (by decide); have nhc8 := lv_neT (a := 2) hc8 (by decide); have nhc12 := lv_neT (a := 3) hc12 (by decide); have nhc15 := lv_neT (a := 4) hc15 (by decide); have nhc18 := lv_neT (a := 5) hc18 (by decide); have nhc19 := lv_neT (a := 6) hc19 (by decide); omega) (by decide) ?_
  refine vv_iconst C dX8_count_103 ki_m1 ?_
  exact vv_iret C dX8_count_104 h

def owX0 : vv_Wd := (fun k => ([.inl (0, [2, 3, 4, 5, 0]), .inr (.inl 30), .inr (.inl 30), .inr (.inl 30), .inr (.inl 30)] : List vv_Sh).getD k (.inr (.inl 0)), 5)
set_option maxRecDepth 20000 in
theorem ci_X0 (l : Launch) (D : va_G) (ty : Nat → ClassId) : vi_M l D ty yX0_init cX0_init 1 1 12 4 120 0 [.null, .null, .null, .null, .int 0] owX0 [] (fun _ => True) := by
  refine vi_of (by decide) rfl (fun _ => Nat.le_of_ble_eq_true rfl) ?_
  intro p e s m args below meth c A q ls Q C hP hD hS hl fin
  have C : VI D ty p s m args meth c A RX0 cX0_init 1 := C
  have hl : lv_has ls 1 [(0, .ref q)] := hl
  refine lv_aload_n C.hx C.hb dX0_init_0 rfl (lv_at hl 0 rfl) ?_
  refine vn_obj C oi_X0 hl.1 dX0_init_1 (Nat.le_of_ble_eq_true rfl) (Nat.le_of_ble_eq_true rfl) ?_
  refine lv_aload_n C.hx C.hb dX0_init_4 rfl (lv_at hl 0 rfl) ?_
  refine lv_bipush (v := 30) C.hx C.hb dX0_init_5 (by decide) ?_
  refine vn_arr C kc_X0 0 pn_X0_0 (by decide) fk_X0_9 hP hD hS (Nat.le_of_ble_eq_true rfl) (n' := 30) ⟨by decide, by decide, by decide⟩ ⟨Nat.le_of_ble_eq_true rfl, Nat.le_of_ble_eq_true rfl⟩ dX0_init_7 dX0_init_9 (fun q1 H locs hP hD hS => ?_)
  refine lv_aload_n C.hx C.hb dX0_init_12 rfl (lv_at hl 0 rfl) ?_
  refine lv_bipush (v := 30) C.hx C.hb dX0_init_13 (by decide) ?_
  refine vn_arr C kc_X0 1 pn_X0_1 (by decide) fk_X0_15 hP hD hS (Nat.le_of_ble_eq_true rfl) (n' := 30) ⟨by decide, by decide, by decide⟩ ⟨Nat.le_of_ble_eq_true rfl, Nat.le_of_ble_eq_true rfl⟩ dX0_init_15 dX0_init_17 (fun q2 H locs hP hD hS => ?_)
  refine lv_aload_n C.hx C.hb dX0_init_20 rfl (lv_at hl 0 rfl) ?_
  refine lv_bipush (v := 30) C.hx C.hb dX0_init_21 (by decide) ?_
  refine vn_arr C kc_X0 2 pn_X0_2 (by decide) fk_X0_18 hP hD hS (Nat.le_of_ble_eq_true rfl) (n' := 30) ⟨by decide, by decide, by decide⟩ ⟨Nat.le_of_ble_eq_true rfl, Nat.le_of_ble_eq_true rfl⟩ dX0_init_23 dX0_init_25 (fun q3 H locs hP hD hS => ?_)
  refine lv_aload_n C.hx C.hb dX0_init_28 rfl (lv_at hl 0 rfl) ?_
  refine lv_bipush (v := 30) C.hx C.hb dX0_init_29 (by decide) ?_
  refine vn_arr C kc_X0 3 pn_X0_3 (by decide) fk_X0_21 hP hD hS (Nat.le_of_ble_eq_true rfl) (n' := 30) ⟨by decide, by decide, by decide⟩ ⟨Nat.le_of_ble_eq_true rfl, Nat.le_of_ble_eq_true rfl⟩ dX0_init_31 dX0_init_33 (fun q4 H locs hP hD hS => ?_)
  exact fin (fun k => ([q, q1, q2, q3, q4] : List Nat).getD k 0) H locs 36 ls rfl trivial hP hD hS dX0_init_36
def owX1 : vv_Wd := (fun k => ([.inl (1, [2, 3, 0, 4, 5, 6, 0, 7]), .inr (.inl 4), .inr (.inl 4), .inr (.inl 4), .inr (.inl 4), .inr (.inl 4), .inr (.inl 101)] : List vv_Sh).getD k (.inr (.inl 0)), 7)
set_option maxRecDepth 20000 in
theorem ci_X1 (l : Launch) (D : va_G) (ty : Nat → ClassId) : vi_M l D ty yX1_init cX1_init 1 1 12 6 121 1 [.null, .null, .int 0, .null, .null, .null, .int 0, .null] owX1 [] (fun _ => True) := by
  refine vi_of (by decide) rfl (fun _ => Nat.le_of_ble_eq_true rfl) ?_
  intro p e s m args below meth c A q ls Q C hP hD hS hl fin
  have C : VI D ty p s m args meth c A RX1 cX1_init 1 := C
  have hl : lv_has ls 1 [(0, .ref q)] := hl
  refine lv_aload_n C.hx C.hb dX1_init_0 rfl (lv_at hl 0 rfl) ?_
  refine vn_obj C oi_X1 hl.1 dX1_init_1 (Nat.le_of_ble_eq_true rfl) (Nat.le_of_ble_eq_true rfl) ?_
  refine lv_aload_n C.hx C.hb dX1_init_4 rfl (lv_at hl 0 rfl) ?_
  refine lv_iconst (v := 4) C.hx C.hb dX1_init_5 (by decide) ?_
  refine vn_arr C kc_X1 0 pn_X1_0 (by decide) fk_X1_9 hP hD hS (Nat.le_of_ble_eq_true rfl) (n' := 4) ⟨by decide, by decide, by decide⟩ ⟨Nat.le_of_ble_eq_true rfl, Nat.le_of_ble_eq_true rfl⟩ dX1_init_6 dX1_init_8 (fun q1 H locs hP hD hS => ?_)
  refine lv_aload_n C.hx C.hb dX1_init_11 rfl (lv_at hl 0 rfl) ?_
  refine lv_iconst (v := 4) C.hx C.hb dX1_init_12 (by decide) ?_
  refine vn_arr C kc_X1 1 pn_X1_1 (by decide) fk_X1_15 hP hD hS (Nat.le_of_ble_eq_true rfl) (n' := 4) ⟨by decide, by decide, by decide⟩ ⟨Nat.le_of_ble_eq_true rfl, Nat.le_of_ble_eq_true rfl⟩ dX1_init_13 dX1_init_15 (fun q2 H locs hP hD hS => ?_)
  refine lv_aload_n C.hx C.hb dX1_init_18 rfl (lv_at hl 0 rfl) ?_
  refine lv_iconst (v := 4) C.hx C.hb dX1_init_19 (by decide) ?_
  refine vn_arr C kc_X1 3 pn_X1_3 (by decide) fk_X1_18 hP hD hS (Nat.le_of_ble_eq_true rfl) (n' := 4) ⟨by decide, by decide, by decide⟩ ⟨Nat.le_of_ble_eq_true rfl, Nat.le_of_ble_eq_true rfl⟩ dX1_init_20 dX1_init_22 (fun q3 H locs hP hD hS => ?_)
  refine lv_aload_n C.hx C.hb dX1_init_25 rfl (lv_at hl 0 rfl) ?_
  refine lv_iconst (v := 4) C.hx C.hb dX1_init_26 (by decide) ?_
  refine vn_arr C kc_X1 4 pn_X1_4 (by decide) fk_X1_21 hP hD hS (Nat.le_of_ble_eq_true rfl) (n' := 4) ⟨by decide, by decide, by decide⟩ ⟨Nat.le_of_ble_eq_true rfl, Nat.le_of_ble_eq_true rfl⟩ dX1_init_27 dX1_init_29 (fun q4 H locs hP hD hS => ?_)
  refine lv_aload_n C.hx C.hb dX1_init_32 rfl (lv_at hl 0 rfl) ?_
  refine lv_iconst (v := 4) C.hx C.hb dX1_init_33 (by decide) ?_
  refine vn_arr C kc_X1 5 pn_X1_5 (by decide) fk_X1_24 hP hD hS (Nat.le_of_ble_eq_true rfl) (n' := 4) ⟨by decide, by decide, by decide⟩ ⟨Nat.le_of_ble_eq_true rfl, Nat.le_of_ble_eq_true rfl⟩ dX1_init_34 dX1_init_36 (fun q5 H locs hP hD hS => ?_)
  refine lv_aload_n C.hx C.hb dX1_init_39 rfl (lv_at hl 0 rfl) ?_
  refine lv_bipush (v := 101) C.hx C.hb dX1_init_40 (by decide) ?_
  refine vn_arr C kc_X1 7 pn_X1_7 (by decide) fk_X1_27 hP hD hS (Nat.le_of_ble_eq_true rfl) (n' := 101) ⟨by decide, by decide, by decide⟩ ⟨Nat.le_of_ble_eq_true rfl, Nat.le_of_ble_eq_true rfl⟩ dX1_init_42 dX1_init_44 (fun q6 H locs hP hD hS => ?_)
  exact fin (fun k => ([q, q1, q2, q3, q4, q5, q6] : List Nat).getD k 0) H locs 47 ls rfl trivial hP hD hS dX1_init_47
def owX2 : vv_Wd := (fun k => ([.inl (2, [2, 0, 7, 8, 0, 9]), .inr (.inr (2, 4, 2, 1)), .inr (.inl 4), .inr (.inl 4), .inr (.inl 4), .inr (.inl 4), .inr (.inl 5), .inr (.inl 5), .inr (.inl 4)] : List vv_Sh).getD k (.inr (.inl 0)), 9)
set_option maxRecDepth 20000 in
theorem ci_X2 (l : Launch) (D : va_G) (ty : Nat → ClassId) : vi_M l D ty yX2_init cX2_init 1 1 12 8 34 2 [.null, .int 0, .null, .null, .int 0, .null] owX2 [] (fun _ => True) := by
  refine vi_of (by decide) rfl (fun _ => Nat.le_of_ble_eq_true rfl) ?_
  intro p e s m args below meth c A q ls Q C hP hD hS hl fin
  have C : VI D ty p s m args meth c A RX2 cX2_init 1 := C
  have hl : lv_has ls 1 [(0, .ref q)] := hl
  refine lv_aload_n C.hx C.hb dX2_init_0 rfl (lv_at hl 0 rfl) ?_
  refine vn_obj C oi_X2 hl.1 dX2_init_1 (Nat.le_of_ble_eq_true rfl) (Nat.le_of_ble_eq_true rfl) ?_
  refine lv_aload_n C.hx C.hb dX2_init_4 rfl (lv_at hl 0 rfl) ?_
  refine lv_iconst (v := 4) C.hx C.hb dX2_init_5 (by decide) ?_
  refine lv_iconst (v := 4) C.hx C.hb dX2_init_6 (by decide) ?_
  have hPm : va_P D vv_cl (([(q, .inr (2, [.null, .int 0, .null, .null, .int 0, .null]))] : va_W) ++ va_pl [] (fun _ => .inr (0, []))) s.heap := hP
  have hDm : va_D A (([(q, .inr (2, [.null, .int 0, .null, .null, .int 0, .null]))] : va_W) ++ va_pl [] (fun _ => .inr (0, []))) := hD
  obtain ⟨kI, -, eI⟩ : ∃ kI : Unit, True ∧ s.vm.findClass "[I" = some (ty 0) := ⟨(), trivial, (C.hK.2 0 _ rfl).2⟩
  refine va_mna (z := (4, .inl (fun _ => 0))) (N' := 4) (K' := 4) (ty := .int) C.hx C.hb C.hown (C.hts _ cl_X2_9) C.hN.2.2.2 (C.hts _ ac_int) eI C.hK hPm hDm hS C.hA (by decide) (by decide) (by decide) (by decide) (by decide) (by decide) (by decide) rfl rfl (Nat.le_of_ble_eq_true rfl) (Nat.le_of_ble_eq_true rfl) (fun cA => ?_) dX2_init_7 (fun q1 r cA H hri hrn hK1 hP hD hS => ?_)
  · show ({ cls := cA, slots := Array.replicate 4 (.int 0), vm := .none } : Cell) = _
    rw [arrV_new]; rfl
  have ecA : cA = ty 2 := vn_ty (i := 3) (j := 2) hK1 rfl rfl
  subst ecA
  have hP : va_P D vv_cl [(q, .inr (2, [.null, .int 0, .null, .null, .int 0, .null])), (q1, .inl (ty 2, 4, .inr (.inr (.inr (.inr (fun i => if i < 4 then some (r i) else none)))))), (r 0, .inl (ty 0, 4, .inl (fun _ => 0))), (r 1, .inl (ty 0, 4, .inl (fun _ => 0))), (r 2, .inl (ty 0, 4, .inl (fun _ => 0))), (r 3, .inl (ty 0, 4, .inl (fun _ => 0)))] H := by
    have e : va_pl ([] ++ (List.range 4).map r) (vr_up (fun _ => .inr (0, [])) ((List.range 4).map r) (.inl (ty 0, 4, .inl (fun _ => 0)))) = [(r 0, .inl (ty 0, 4, .inl (fun _ => 0))), (r 1, .inl (ty 0, 4, .inl (fun _ => 0))), (r 2, .inl (ty 0, 4, .inl (fun _ => 0))), (r 3, .inl (ty 0, 4, .inl (fun _ => 0)))] := by simp [va_pl, vr_up, List.range, List.range.loop]
    rw [e] at hP
    exact hP
  have hD : va_D A [(q, .inr (2, [.null, .int 0, .null, .null, .int 0, .null])), (q1, .inl (ty 2, 4, .inr (.inr (.inr (.inr (fun i => if i < 4 then some (r i) else none)))))), (r 0, .inl (ty 0, 4, .inl (fun _ => 0))), (r 1, .inl (ty 0, 4, .inl (fun _ => 0))), (r 2, .inl (ty 0, 4, .inl (fun _ => 0))), (r 3, .inl (ty 0, 4, .inl (fun _ => 0)))] := by
    have e : va_pl ([] ++ (List.range 4).map r) (vr_up (fun _ => .inr (0, [])) ((List.range 4).map r) (.inl (ty 0, 4, .inl (fun _ => 0)))) = [(r 0, .inl (ty 0, 4, .inl (fun _ => 0))), (r 1, .inl (ty 0, 4, .inl (fun _ => 0))), (r 2, .inl (ty 0, 4, .inl (fun _ => 0))), (r 3, .inl (ty 0, 4, .inl (fun _ => 0)))] := by simp [va_pl, vr_up, List.range, List.range.loop]
    rw [e] at hD
    exact hD
  refine vn_put C kc_X2 0 pn_X2_0 (by decide) fk_X2_11 hP hD hS (Nat.le_of_ble_eq_true rfl) ⟨rfl, rfl⟩ dX2_init_11 (fun H locs hP hD hS => ?_)
  refine lv_aload_n C.hx C.hb dX2_init_14 rfl (lv_at hl 0 rfl) ?_
  refine lv_iconst (v := 5) C.hx C.hb dX2_init_15 (by decide) ?_
  refine vn_arr C kc_X2 2 pn_X2_2 (by decide) fk_X2_16 hP hD hS (Nat.le_of_ble_eq_true rfl) (n' := 5) ⟨by decide, by decide, by decide⟩ ⟨Nat.le_of_ble_eq_true rfl, Nat.le_of_ble_eq_true rfl⟩ dX2_init_16 dX2_init_18 (fun q2 H locs hP hD hS => ?_)
  refine lv_aload_n C.hx C.hb dX2_init_21 rfl (lv_at hl 0 rfl) ?_
  refine lv_iconst (v := 5) C.hx C.hb dX2_init_22 (by decide) ?_
  refine vn_arr C kc_X2 3 pn_X2_3 (by decide) fk_X2_20 hP hD hS (Nat.le_of_ble_eq_true rfl) (n' := 5) ⟨by decide, by decide, by decide⟩ ⟨Nat.le_of_ble_eq_true rfl, Nat.le_of_ble_eq_true rfl⟩ dX2_init_23 dX2_init_25 (fun q3 H locs hP hD hS => ?_)
  refine lv_aload_n C.hx C.hb dX2_init_28 rfl (lv_at hl 0 rfl) ?_
  refine lv_iconst (v := 4) C.hx C.hb dX2_init_29 (by decide) ?_
  refine vn_arr C kc_X2 5 pn_X2_5 (by decide) fk_X2_23 hP hD hS (Nat.le_of_ble_eq_true rfl) (n' := 4) ⟨by decide, by decide, by decide⟩ ⟨Nat.le_of_ble_eq_true rfl, Nat.le_of_ble_eq_true rfl⟩ dX2_init_30 dX2_init_32 (fun q4 H locs hP hD hS => ?_)
  obtain ⟨hP, hD⟩ := va_refs (k := 1) (g := fun j => some ((fun k => ([q, q1, (r 0), (r 1), (r 2), (r 3), q2, q3, q4] : List Nat).getD k 0) (2 + 1 * j))) hP hD rfl (fun j hj => by rcases (show j = 0 ∨ j = 1 ∨ j = 2 ∨ j = 3 by have hj : j < 4 := hj; omega) with rfl | rfl | rfl | rfl <;> rfl)
  exact fin (fun k => ([q, q1, (r 0), (r 1), (r 2), (r 3), q2, q3, q4] : List Nat).getD k 0) H locs 35 ls rfl trivial hP hD hS dX2_init_35
def owX3 : vv_Wd := (fun k => ([.inl (3, [5, 2, 3, 4, 0, 0, 0, 0, 0, 0, 0, 0, 0, 0, 0, 0]), .inr (.inl 8), .inr (.inl 8), .inr (.inl 8)] : List vv_Sh).getD k (.inr (.inl 0)), 4)
set_option maxRecDepth 20000 in
theorem ci_X3 (l : Launch) (D : va_G) (ty : Nat → ClassId) (pl : Nat) : vi_M l D ty yX3_init cX3_init 2 1 12 3 24 3 [.null, .null, .null, .null, .int 0, .int 0, .int 0, .int 0, .int 0, .int 0, .int 0, .int 0, .int 0, .int 0, .int 0, .int 0] owX3 [.ref pl] (fun r => r 4 = pl) := by
  refine vi_of (by decide) rfl (fun _ => Nat.le_of_ble_eq_true rfl) ?_
  intro p e s m args below meth c A q ls Q C hP hD hS hl fin
  have C : VI D ty p s m args meth c A RX3 cX3_init 2 := C
  have hl : lv_has ls 2 [(0, .ref q), (1, .ref pl)] := hl
  refine lv_aload_n C.hx C.hb dX3_init_0 rfl (lv_at hl 0 rfl) ?_
  refine vn_obj C oi_X3 hl.1 dX3_init_1 (Nat.le_of_ble_eq_true rfl) (Nat.le_of_ble_eq_true rfl) ?_
  refine lv_aload_n C.hx C.hb dX3_init_4 rfl (lv_at hl 0 rfl) ?_
  refine lv_bipush (v := 8) C.hx C.hb dX3_init_5 (by decide) ?_
  refine vn_arr C kc_X3 1 pn_X3_1 (by decide) fk_X3_9 hP hD hS (Nat.le_of_ble_eq_true rfl) (n' := 8) ⟨by decide, by decide, by decide⟩ ⟨Nat.le_of_ble_eq_true rfl, Nat.le_of_ble_eq_true rfl⟩ dX3_init_7 dX3_init_9 (fun q1 H locs hP hD hS => ?_)
  refine lv_aload_n C.hx C.hb dX3_init_12 rfl (lv_at hl 0 rfl) ?_
  refine lv_bipush (v := 8) C.hx C.hb dX3_init_13 (by decide) ?_
  refine vn_arr C kc_X3 2 pn_X3_2 (by decide) fk_X3_15 hP hD hS (Nat.le_of_ble_eq_true rfl) (n' := 8) ⟨by decide, by decide, by decide⟩ ⟨Nat.le_of_ble_eq_true rfl, Nat.le_of_ble_eq_true rfl⟩ dX3_init_15 dX3_init_17 (fun q2 H locs hP hD hS => ?_)
  refine lv_aload_n C.hx C.hb dX3_init_20 rfl (lv_at hl 0 rfl) ?_
  refine lv_bipush (v := 8) C.hx C.hb dX3_init_21 (by decide) ?_
  refine vn_arr C kc_X3 3 pn_X3_3 (by decide) fk_X3_18 hP hD hS (Nat.le_of_ble_eq_true rfl) (n' := 8) ⟨by decide, by decide, by decide⟩ ⟨Nat.le_of_ble_eq_true rfl, Nat.le_of_ble_eq_true rfl⟩ dX3_init_23 dX3_init_25 (fun q3 H locs hP hD hS => ?_)
  refine lv_aload_n C.hx C.hb dX3_init_28 rfl (lv_at hl 0 rfl) ?_
  refine lv_aload_n C.hx C.hb dX3_init_29 rfl (lv_at hl 1 rfl) ?_
  refine vn_put C kc_X3 0 pn_X3_0 (by decide) fk_X3_21 hP hD hS (Nat.le_of_ble_eq_true rfl) ⟨rfl, rfl⟩ dX3_init_30 (fun H locs hP hD hS => ?_)
  exact fin (fun k => ([q, q1, q2, q3, pl] : List Nat).getD k 0) H locs 33 ls rfl rfl hP hD hS dX3_init_33
def owX5 : vv_Wd := (fun k => ([.inl (5, [2, 0]), .inr (.inl 8)] : List vv_Sh).getD k (.inr (.inl 0)), 2)
set_option maxRecDepth 20000 in
theorem ci_X5 (l : Launch) (D : va_G) (ty : Nat → ClassId) : vi_M l D ty yX5_init cX5_init 1 1 12 1 8 5 [.null, .int 0] owX5 [] (fun _ => True) := by
  refine vi_of (by decide) rfl (fun _ => Nat.le_of_ble_eq_true rfl) ?_
  intro p e s m args below meth c A q ls Q C hP hD hS hl fin
  have C : VI D ty p s m args meth c A RX5 cX5_init 1 := C
  have hl : lv_has ls 1 [(0, .ref q)] := hl
  refine lv_aload_n C.hx C.hb dX5_init_0 rfl (lv_at hl 0 rfl) ?_
  refine vn_obj C oi_X5 hl.1 dX5_init_1 (Nat.le_of_ble_eq_true rfl) (Nat.le_of_ble_eq_true rfl) ?_
  refine lv_aload_n C.hx C.hb dX5_init_4 rfl (lv_at hl 0 rfl) ?_
  refine lv_bipush (v := 8) C.hx C.hb dX5_init_5 (by decide) ?_
  refine vn_arr C kc_X5 0 pn_X5_0 (by decide) fk_X5_9 hP hD hS (Nat.le_of_ble_eq_true rfl) (n' := 8) ⟨by decide, by decide, by decide⟩ ⟨Nat.le_of_ble_eq_true rfl, Nat.le_of_ble_eq_true rfl⟩ dX5_init_7 dX5_init_9 (fun q1 H locs hP hD hS => ?_)
  exact fin (fun k => ([q, q1] : List Nat).getD k 0) H locs 12 ls rfl trivial hP hD hS dX5_init_12
def owX6 : vv_Wd := (fun k => ([.inl (6, [2, 3, 0]), .inr (.inl 8), .inr (.inl 8)] : List vv_Sh).getD k (.inr (.inl 0)), 3)
set_option maxRecDepth 20000 in
theorem ci_X6 (l : Launch) (D : va_G) (ty : Nat → ClassId) : vi_M l D ty yX6_init cX6_init 1 1 12 2 16 6 [.null, .null, .int 0] owX6 [] (fun _ => True) := by
  refine vi_of (by decide) rfl (fun _ => Nat.le_of_ble_eq_true rfl) ?_
  intro p e s m args below meth c A q ls Q C hP hD hS hl fin
  have C : VI D ty p s m args meth c A RX6 cX6_init 1 := C
  have hl : lv_has ls 1 [(0, .ref q)] := hl
  refine lv_aload_n C.hx C.hb dX6_init_0 rfl (lv_at hl 0 rfl) ?_
  refine vn_obj C oi_X6 hl.1 dX6_init_1 (Nat.le_of_ble_eq_true rfl) (Nat.le_of_ble_eq_true rfl) ?_
  refine lv_aload_n C.hx C.hb dX6_init_4 rfl (lv_at hl 0 rfl) ?_
  refine lv_bipush (v := 8) C.hx C.hb dX6_init_5 (by decide) ?_
  refine vn_arr C kc_X6 0 pn_X6_0 (by decide) fk_X6_9 hP hD hS (Nat.le_of_ble_eq_true rfl) (n' := 8) ⟨by decide, by decide, by decide⟩ ⟨Nat.le_of_ble_eq_true rfl, Nat.le_of_ble_eq_true rfl⟩ dX6_init_7 dX6_init_9 (fun q1 H locs hP hD hS => ?_)
  refine lv_aload_n C.hx C.hb dX6_init_12 rfl (lv_at hl 0 rfl) ?_
  refine lv_bipush (v := 8) C.hx C.hb dX6_init_13 (by decide) ?_
  refine vn_arr C kc_X6 1 pn_X6_1 (by decide) fk_X6_15 hP hD hS (Nat.le_of_ble_eq_true rfl) (n' := 8) ⟨by decide, by decide, by decide⟩ ⟨Nat.le_of_ble_eq_true rfl, Nat.le_of_ble_eq_true rfl⟩ dX6_init_15 dX6_init_17 (fun q2 H locs hP hD hS => ?_)
  exact fin (fun k => ([q, q1, q2] : List Nat).getD k 0) H locs 20 ls rfl trivial hP hD hS dX6_init_20
def owX7 : vv_Wd := (fun k => ([.inl (7, [2, 0, 3, 0]), .inr (.inl 200), .inr (.inl 4)] : List vv_Sh).getD k (.inr (.inl 0)), 3)
set_option maxRecDepth 20000 in
theorem ci_X7 (l : Launch) (D : va_G) (ty : Nat → ClassId) : vi_M l D ty yX7_init cX7_init 1 1 12 2 204 7 [.null, .int 0, .null, .int 0] owX7 [] (fun _ => True) := by
  refine vi_of (by decide) rfl (fun _ => Nat.le_of_ble_eq_true rfl) ?_
  intro p e s m args below meth c A q ls Q C hP hD hS hl fin
  have C : VI D ty p s m args meth c A RX7 cX7_init 1 := C
  have hl : lv_has ls 1 [(0, .ref q)] := hl
  refine lv_aload_n C.hx C.hb dX7_init_0 rfl (lv_at hl 0 rfl) ?_
  refine vn_obj C oi_X7 hl.1 dX7_init_1 (Nat.le_of_ble_eq_true rfl) (Nat.le_of_ble_eq_true rfl) ?_
  refine lv_aload_n C.hx C.hb dX7_init_4 rfl (lv_at hl 0 rfl) ?_
  refine lv_sipush (v := 200) C.hx C.hb dX7_init_5 (by decide) ?_
  refine vn_arr C kc_X7 0 pn_X7_0 (by decide) fk_X7_9 hP hD hS (Nat.le_of_ble_eq_true rfl) (n' := 200) ⟨by decide, by decide, by decide⟩ ⟨Nat.le_of_ble_eq_true rfl, Nat.le_of_ble_eq_true rfl⟩ dX7_init_8 dX7_init_10 (fun q1 H locs hP hD hS => ?_)
  refine lv_aload_n C.hx C.hb dX7_init_13 rfl (lv_at hl 0 rfl) ?_
  refine lv_iconst (v := 4) C.hx C.hb dX7_init_14 (by decide) ?_
  refine vn_arr C kc_X7 2 pn_X7_2 (by decide) fk_X7_15 hP hD hS (Nat.le_of_ble_eq_true rfl) (n' := 4) ⟨by decide, by decide, by decide⟩ ⟨Nat.le_of_ble_eq_true rfl, Nat.le_of_ble_eq_true rfl⟩ dX7_init_15 dX7_init_17 (fun q2 H locs hP hD hS => ?_)
  exact fin (fun k => ([q, q1, q2] : List Nat).getD k 0) H locs 20 ls rfl trivial hP hD hS dX7_init_20
def owX4 : vv_Wd := (fun k => ([.inl (4, [2, 3, 0, 0, 0, 0, 0, 4, 11]), .inr (.inl 8), .inr (.inl 8), .inl (1, [5, 6, 0, 7, 8, 9, 0, 10]), .inr (.inl 4), .inr (.inl 4), .inr (.inl 4), .inr (.inl 4), .inr (.inl 4), .inr (.inl 101), .inl (2, [12, 0, 17, 18, 0, 19]), .inr (.inr (2, 4, 12, 1)), .inr (.inl 4), .inr (.inl 4), .inr (.inl 4), .inr (.inl 4), .inr (.inl 5), .inr (.inl 5), .inr (.inl 4)] : List vv_Sh).getD k (.inr (.inl 0)), 19)
set_option maxRecDepth 20000 in
theorem ci_X4 (l : Launch) (D : va_G) (ty : Nat → ClassId) : vi_M l D ty yX4_init cX4_init 1 2 32 18 185 4 [.null, .null, .int 0, .int 0, .int 0, .int 0, .int 0, .null, .null] owX4 [] (fun _ => True) := by
  refine vi_of (by decide) rfl (fun _ => Nat.le_of_ble_eq_true rfl) ?_
  intro p e s m args below meth c A q ls Q C hP hD hS hl fin
  have C : VI D ty p s m args meth c A RX4 cX4_init 1 := C
  have hl : lv_has ls 1 [(0, .ref q)] := hl
  refine lv_aload_n C.hx C.hb dX4_init_0 rfl (lv_at hl 0 rfl) ?_
  refine vn_obj C oi_X4 hl.1 dX4_init_1 (Nat.le_of_ble_eq_true rfl) (Nat.le_of_ble_eq_true rfl) ?_
  refine lv_aload_n C.hx C.hb dX4_init_4 rfl (lv_at hl 0 rfl) ?_
  refine lv_bipush (v := 8) C.hx C.hb dX4_init_5 (by decide) ?_
  refine vn_arr C kc_X4 0 pn_X4_0 (by decide) fk_X4_9 hP hD hS (Nat.le_of_ble_eq_true rfl) (n' := 8) ⟨by decide, by decide, by decide⟩ ⟨Nat.le_of_ble_eq_true rfl, Nat.le_of_ble_eq_true rfl⟩ dX4_init_7 dX4_init_9 (fun q1 H locs hP hD hS => ?_)
  refine lv_aload_n C.hx C.hb dX4_init_12 rfl (lv_at hl 0 rfl) ?_
  refine lv_bipush (v := 8) C.hx C.hb dX4_init_13 (by decide) ?_
  refine vn_arr C kc_X4 1 pn_X4_1 (by decide) fk_X4_15 hP hD hS (Nat.le_of_ble_eq_true rfl) (n' := 8) ⟨by decide, by decide, by decide⟩ ⟨Nat.le_of_ble_eq_true rfl, Nat.le_of_ble_eq_true rfl⟩ dX4_init_15 dX4_init_17 (fun q2 H locs hP hD hS => ?_)
  refine lv_aload_n C.hx C.hb dX4_init_20 rfl (lv_at hl 0 rfl) ?_
  refine vn_new C kc_X1 tyX1 tyX1_ok cl_X4_18 iz_X1 in_X1 hP hD hS (fs := [.null, .null, .int 0, .null, .null, .null, .int 0, .null]) (fun j hj => by rcases (show j = 0 ∨ j = 1 ∨ j = 2 ∨ j = 3 ∨ j = 4 ∨ j = 5 ∨ j = 6 ∨ j = 7 by omega) with rfl | rfl | rfl | rfl | rfl | rfl | rfl | rfl <;> rfl) ⟨Nat.le_of_ble_eq_true rfl, Nat.le_of_ble_eq_true rfl⟩ dX4_init_21 (fun q3 H hP hD hS => ?_)
  refine lv_dup C.hx C.hb dX4_init_24 rfl ?_
  refine vn_initN (As := []) (rest := [.ref q3, .ref q]) C (ci_X1 l D ty) yk_X1_init rfl ni_X1 (List.mem_of_getElem? (i := 0) rfl) hP hD hS rfl hl.1 rfl (Nat.le_of_ble_eq_true rfl) dX4_init_25 ⟨Nat.le_of_ble_eq_true rfl, Nat.le_of_ble_eq_true rfl⟩ ⟨Nat.le_of_ble_eq_true rfl, Nat.le_of_ble_eq_true rfl⟩ (fun r4 H1 locs1 er4 _ hP1 hD1 hS1 => ?_)
  subst er4
  have hP : va_P D vv_cl ((q, .inr (4, (List.set (List.set [.null, .null, .int 0, .int 0, .int 0, .int 0, .int 0, .null, .null] 0 (.ref q1)) 1 (.ref q2)))) :: ((([] ++ [(q1, .inl (ty 0, 8, .inl (fun _ => 0)))]) ++ [(q2, .inl (ty 0, 8, .inl (fun _ => 0)))]) ++ vv_W owX1 ty r4 (fun _ _ => 0))) H1 := hP1
  have hD : va_D A ((q, .inr (4, (List.set (List.set [.null, .null, .int 0, .int 0, .int 0, .int 0, .int 0, .null, .null] 0 (.ref q1)) 1 (.ref q2)))) :: ((([] ++ [(q1, .inl (ty 0, 8, .inl (fun _ => 0)))]) ++ [(q2, .inl (ty 0, 8, .inl (fun _ => 0)))]) ++ vv_W owX1 ty r4 (fun _ _ => 0))) := hD1
  have hS := hS1
  refine vn_put C kc_X4 7 pn_X4_7 (by decide) fk_X4_21 hP hD hS (Nat.le_of_ble_eq_true rfl) ⟨rfl, rfl⟩ dX4_init_28 (fun H locs hP hD hS => ?_)
  refine lv_aload_n C.hx C.hb dX4_init_31 rfl (lv_at hl 0 rfl) ?_
  refine vn_new C kc_X2 tyX2 tyX2_ok cl_X4_25 iz_X2 in_X2 hP hD hS (fs := [.null, .int 0, .null, .null, .int 0, .null]) (fun j hj => by rcases (show j = 0 ∨ j = 1 ∨ j = 2 ∨ j = 3 ∨ j = 4 ∨ j = 5 by omega) with rfl | rfl | rfl | rfl | rfl | rfl <;> rfl) ⟨Nat.le_of_ble_eq_true rfl, Nat.le_of_ble_eq_true rfl⟩ dX4_init_32 (fun q5 H hP hD hS => ?_)
  refine lv_dup C.hx C.hb dX4_init_35 rfl ?_
  refine vn_initN (As := []) (rest := [.ref q5, .ref q]) C (ci_X2 l D ty) yk_X2_init rfl ni_X2 (List.mem_of_getElem? (i := 1) rfl) hP hD hS rfl hl.1 rfl (Nat.le_of_ble_eq_true rfl) dX4_init_36 ⟨Nat.le_of_ble_eq_true rfl, Nat.le_of_ble_eq_true rfl⟩ ⟨Nat.le_of_ble_eq_true rfl, Nat.le_of_ble_eq_true rfl⟩ (fun r6 H1 locs1 er6 _ hP1 hD1 hS1 => ?_)
  subst er6
  have hP : va_P D vv_cl ((q, .inr (4, (List.set (List.set (List.set [.null, .null, .int 0, .int 0, .int 0, .int 0, .int 0, .null, .null] 0 (.ref q1)) 1 (.ref q2)) 7 (.ref (r4 0))))) :: (((([] ++ [(q1, .inl (ty 0, 8, .inl (fun _ => 0)))]) ++ [(q2, .inl (ty 0, 8, .inl (fun _ => 0)))]) ++ vv_W owX1 ty r4 (fun _ _ => 0)) ++ vv_W owX2 ty r6 (fun _ _ => 0))) H1 := hP1
  have hD : va_D A ((q, .inr (4, (List.set (List.set (List.set [.null, .null, .int 0, .int 0, .int 0, .int 0, .int 0, .null, .null] 0 (.ref q1)) 1 (.ref q2)) 7 (.ref (r4 0))))) :: (((([] ++ [(q1, .inl (ty 0, 8, .inl (fun _ => 0)))]) ++ [(q2, .inl (ty 0, 8, .inl (fun _ => 0)))]) ++ vv_W owX1 ty r4 (fun _ _ => 0)) ++ vv_W owX2 ty r6 (fun _ _ => 0))) := hD1
  have hS := hS1
  refine vn_put C kc_X4 8 pn_X4_8 (by decide) fk_X4_28 hP hD hS (Nat.le_of_ble_eq_true rfl) ⟨rfl, rfl⟩ dX4_init_39 (fun H locs hP hD hS => ?_)
  obtain ⟨hP, hD⟩ := va_refs (k := 11) (g := fun j => some ((fun k => ([q, q1, q2, (r4 0), (r4 1), (r4 2), (r4 3), (r4 4), (r4 5), (r4 6), (r6 0), (r6 1), (r6 2), (r6 3), (r6 4), (r6 5), (r6 6), (r6 7), (r6 8)] : List Nat).getD k 0) (12 + 1 * j))) hP hD rfl (fun j hj => by rcases (show j = 0 ∨ j = 1 ∨ j = 2 ∨ j = 3 by have hj : j < 4 := hj; omega) with rfl | rfl | rfl | rfl <;> rfl)
  exact fin (fun k => ([q, q1, q2, (r4 0), (r4 1), (r4 2), (r4 3), (r4 4), (r4 5), (r4 6), (r6 0), (r6 1), (r6 2), (r6 3), (r6 4), (r6 5), (r6 6), (r6 7), (r6 8)] : List Nat).getD k 0) H locs 42 ls rfl trivial hP hD hS dX4_init_42

set_option maxHeartbeats 4000000 in
theorem whole_start {p : Program} {e : Env} {s : State} {m : MethodId} {below : List Frame} {meth : Method} {c : Code} (l : Launch) (hflags : l.flags = flags0) {b L : Nat} {xs : Nat → Int32} (hL : L ≤ 320) (C0 : lw_At p s m meth c b L xs) : W p l e room_1 s m #[Value.ref b] below meth c s.heap [] 0 0 (lw_Z below #[Value.ref b] s) (entryFrame m ([Value.ref b] : List Value).toArray 4) := by
  obtain ⟨hx, hb, hr, hml, hown, hts, hX, hbl, hlocks, hgv⟩ := id C0
  have hok : ∀ w ∈ lw_ok, w.before #[Value.ref b] s = true := fun w hw => hts w (lw_ok_tbl hw)
  have hA : ∀ q : Nat, s.heap.size ≤ q → (fun q : Nat => s.heap.size ≤ q) q := fun _ h => h
  obtain ⟨D, ty, hK⟩ := k_start hts
  have hN := ne_start hts
  obtain ⟨k0, v0, r0, hZ, hR⟩ := s_start0 hts hgv
  have hfix : CallFix p m c code 4 s #[Value.ref b] lw_ok RL := ⟨hx, hb, hml, hown, hok⟩
  have hS : va_S (fun q : Nat => s.heap.size ≤ q) s.heap s.heap [] := va_S.rf
  have hP : va_P D vv_cl [] s.heap := fun k q h => by simp at h
  have hD : va_D (fun q : Nat => s.heap.size ≤ q) [] := ⟨fun i j p q h => by simp at h, fun k q h => by simp at h⟩
  have hl := lv_entry ([.ref b]) (n := 4) (Nat.le_of_ble_eq_true rfl)
  rw [lg_entry_eq]
  generalize (lg_sl ([.ref b]) ++ List.replicate (4 - (lg_sl ([.ref b])).length) Slot.unset).toArray = ls at hl ⊢
  have hl : lv_has ls 4 [(0, .ref b)] := hl
  refine va_new (ci := 8) (fs := [.null, .null, .null, .null, .null, .null, .null, .int 0, .null, .null, .null]) hx hb hok kc_X8.2.1 tyX8 tyX8_ok hown (hok _ cl_L_7) (hok _ iz_X8) (hok _ in_X8) hK hP hD hS hA kc_X8.1 (fun j hj => by rcases (show j = 0 ∨ j = 1 ∨ j = 2 ∨ j = 3 ∨ j = 4 ∨ j = 5 ∨ j = 6 ∨ j = 7 ∨ j = 8 ∨ j = 9 ∨ j = 10 by omega) with rfl | rfl | rfl | rfl | rfl | rfl | rfl | rfl | rfl | rfl | rfl <;> rfl) (Nat.le_of_ble_eq_true rfl) (Nat.le_of_ble_eq_true rfl) dL_law_0 (fun a H hP hD hS => ?_)
  refine lv_dup hx hb dL_law_3 rfl ?_
  have hP0 : va_P D vv_cl [(a, .inr (8, [.null, .null, .null, .null, .null, .null, .null, .int 0, .null, .null, .null]))] H := hP
  have hD0 : va_D (fun q : Nat => s.heap.size ≤ q) [(a, .inr (8, [.null, .null, .null, .null, .null, .null, .null, .int 0, .null, .null, .null]))] := hD
  have hF := vn_frees hA hD0 hS
  have hpre : ∀ U : State, U.heap = H → s.WarmedH U.vm → va_Pc [.ref a] (fun U => U.heap.size = H.size ∧ va_P D vv_cl [(a, .inr (8, [.null, .null, .null, .null, .null, .null, .null, .int 0, .null, .null, .null]))] U.heap ∧ va_K D vv_cl (vv_tys ty) U ∧ vi_Ne U ∧ va_D (fun _ => True) [(a, .inr (8, [.null, .null, .null, .null, .null, .null, .null, .int 0, .null, .null, .null]))] ∧ (fun A U => vz_S k0 v0 r0 A U U.heap ∧ vk_R RX8 66 tx1 k0 U) (va_A [(a, .inr (8, [.null, .null, .null, .null, .null, .null, .null, .int 0, .null, .null, .null]))] H.size) U) ([.ref a] : List Value).toArray U := fun U hU hWm =>
    ⟨rfl, by rw [hU], by rw [hU]; exact hP0, va_K.moved hWm.alike hK, hN.warm hWm, hD0.weaken (fun _ _ _ _ => trivial), by rw [hU]; exact ((hZ.kept (fun a h1 h2 => hS.2.1 a h1 h2)).narrow hF).moved hWm.alike, hR.warm hWm⟩
  refine va_callv (va_runI (As := []) (rest := [.ref a]) hfix (ci_X8 l D ty k0 v0 r0 a H.size) ⟨callB_of 0 hok (lw_good yk_X8_init.1) rfl rfl rfl (hok _ yk_X8_init.2.1) (hok _ lk_L_9) yk_X8_init.2.2 ⟨Nat.le_of_ble_eq_true rfl, Nat.le_of_ble_eq_true rfl⟩, rfl, hok _ ni_X8⟩ ⟨?_, hpre⟩ rfl rfl hl.1 rfl (lv_room (Nat.le_of_ble_eq_true rfl)) dL_law_4 ⟨Nat.le_of_ble_eq_true rfl, Nat.le_of_ble_eq_true rfl⟩) hS (fun q _ h => hF q h) hF (fun u t H1 locs1 ht hvm hw hB hz1 hk1 hS1 => ?_)
  · intro a U g mk q
    obtain ⟨q0, q1, qP, qK, qN, qD, qZ, qR⟩ := q
    exact ⟨q0, q1, qP, va_K.moved (u := U) (U := U.calling g mk a) (Vm.Alike.refl U.vm) qK, vi_Ne.same (s := U) (U := U.calling g mk a) rfl qN, qD, vz_S.moved (u := U) (U := U.calling g mk a) (Vm.Alike.refl U.vm) qZ, vk_R.same (u := U) (U := U.calling g mk a) rfl qR⟩
  obtain ⟨qC, σ⟩ := u
  obtain ⟨ea, hrc⟩ := hw
  obtain ⟨hP1, hD1⟩ := hB
  rw [ht] at hP1
  have ea : qC 0 = a := ea
  have hrc : RC P1 (D0 P1) A0 Q1 B1 σ := hrc
  obtain ⟨hP1, hD1⟩ := vk_join (wr := []) hP hD hk1 hF hP1 hD1
  rw [← ea]
  refine lv_astore_n (lv' := [(1, .ref (qC 0)), (0, .ref b)]) hx hb dL_law_7 rfl hl (by decide) rfl (fun ls hl => ?_)
  clear hP0 hD0 hF hpre hP hD hS hk1
  have hP : va_P D vv_cl (vv_W wC ty qC σ) H1 := hP1
  have hD : va_D (fun q : Nat => s.heap.size ≤ q) (vv_W wC ty qC σ) := hD1
  refine va_new (ci := 9) (fs := [.int 0, .null, .null, .null, .null, .null, .null, .null, .null, .null, .null, .null, .null, .null, .null, .null, .null, .null, .null, .null, .null, .null, .null, .null, .null, .int 0, .int 0, .null, .null, .int 0, .null, .null, .null, .null, .null, .null, .null, .null, .int 0, .int 0, .int 0, .int 0, .null, .null, .null, .null, .null, .int 0]) hx hb hok kc_X9.2.1 tyX9 tyX9_ok hown (hok _ cl_L_10) (hok _ iz_X9) (hok _ in_X9) hK hP hD hS1 hA kc_X9.1 (fun j hj => by rcases (show j = 0 ∨ j = 1 ∨ j = 2 ∨ j = 3 ∨ j = 4 ∨ j = 5 ∨ j = 6 ∨ j = 7 ∨ j = 8 ∨ j = 9 ∨ j = 10 ∨ j = 11 ∨ j = 12 ∨ j = 13 ∨ j = 14 ∨ j = 15 ∨ j = 16 ∨ j = 17 ∨ j = 18 ∨ j = 19 ∨ j = 20 ∨ j = 21 ∨ j = 22 ∨ j = 23 ∨ j = 24 ∨ j = 25 ∨ j = 26 ∨ j = 27 ∨ j = 28 ∨ j = 29 ∨ j = 30 ∨ j = 31 ∨ j = 32 ∨ j = 33 ∨ j = 34 ∨ j = 35 ∨ j = 36 ∨ j = 37 ∨ j = 38 ∨ j = 39 ∨ j = 40 ∨ j = 41 ∨ j = 42 ∨ j = 43 ∨ j = 44 ∨ j = 45 ∨ j = 46 ∨ j = 47 by omega) with rfl | rfl | rfl | rfl | rfl | rfl | rfl | rfl | rfl | rfl | rfl | rfl | rfl | rfl | rfl | rfl | rfl | rfl | rfl | rfl | rfl | rfl | rfl | rfl | rfl | rfl | rfl | rfl | rfl | rfl | rfl | rfl | rfl | rfl | rfl | rfl | rfl | rfl | rfl | rfl | rfl | rfl | rfl | rfl | rfl | rfl | rfl | rfl <;> rfl) (Nat.le_of_ble_eq_true rfl) (Nat.le_of_ble_eq_true rfl) dL_law_8 (fun a2 H2 hP2 hD2 hS2 => ?_)
  refine lv_dup hx hb dL_law_11 rfl ?_
  have hPq : va_P D vv_cl [(a2, .inr (9, [.int 0, .null, .null, .null, .null, .null, .null, .null, .null, .null, .null, .null, .null, .null, .null, .null, .null, .null, .null, .null, .null, .null, .null, .null, .null, .int 0, .int 0, .null, .null, .int 0, .null, .null, .null, .null, .null, .null, .null, .null, .int 0, .int 0, .int 0, .int 0, .null, .null, .null, .null, .null, .int 0]))] H2 := fun k x hx => hP2 ((vv_W wC ty qC σ).length + k) x (by rw [List.getElem?_append_right (Nat.le_add_right _ _), Nat.add_sub_cancel_left]; exact hx)
  have hDq : va_D (fun q : Nat => s.heap.size ≤ q) [(a2, .inr (9, [.int 0, .null, .null, .null, .null, .null, .null, .null, .null, .null, .null, .null, .null, .null, .null, .null, .null, .null, .null, .null, .null, .null, .null, .null, .null, .int 0, .int 0, .null, .null, .int 0, .null, .null, .null, .null, .null, .null, .null, .null, .int 0, .int 0, .int 0, .int 0, .null, .null, .null, .null, .null, .int 0]))] := ⟨fun i j a b hi hj _ => by
    have h1 := (List.getElem?_eq_some_iff.mp hi).1
    have h2 := (List.getElem?_eq_some_iff.mp hj).1
    simp at h1 h2
    omega, fun k x hx => hD2.2 ((vv_W wC ty qC σ).length + k) x (by rw [List.getElem?_append_right (Nat.le_add_right _ _), Nat.add_sub_cancel_left]; exact hx)⟩
  have hF2 := vn_frees hA hDq hS2
  have hpre2 : ∀ U : State, U.heap = H2 → s.WarmedH U.vm → va_Pc [.ref a2] (fun U => U.heap.size = H2.size ∧ va_P D vv_cl [(a2, .inr (9, [.int 0, .null, .null, .null, .null, .null, .null, .null, .null, .null, .null, .null, .null, .null, .null, .null, .null, .null, .null, .null, .null, .null, .null, .null, .null, .int 0, .int 0, .null, .null, .int 0, .null, .null, .null, .null, .null, .null, .null, .null, .int 0, .int 0, .int 0, .int 0, .null, .null, .null, .null, .null, .int 0]))] U.heap ∧ va_K D vv_cl (vv_tys ty) U ∧ vi_Ne U ∧ va_D (fun _ => True) [(a2, .inr (9, [.int 0, .null, .null, .null, .null, .null, .null, .null, .null, .null, .null, .null, .null, .null, .null, .null, .null, .null, .null, .null, .null, .null, .null, .null, .null, .int 0, .int 0, .null, .null, .int 0, .null, .null, .null, .null, .null, .null, .null, .null, .int 0, .int 0, .int 0, .int 0, .null, .null, .null, .null, .null, .int 0]))] ∧ (fun (_ : Nat → Prop) (_ : State) => True) (va_A [(a2, .inr (9, [.int 0, .null, .null, .null, .null, .null, .null, .null, .null, .null, .null, .null, .null, .null, .null, .null, .null, .null, .null, .null, .null, .null, .null, .null, .null, .int 0, .int 0, .null, .null, .int 0, .null, .null, .null, .null, .null, .null, .null, .null, .int 0, .int 0, .int 0, .int 0, .null, .null, .null, .null, .null, .int 0]))] H2.size) U) ([.ref a2] : List Value).toArray U := fun U hU hWm =>
    ⟨rfl, by rw [hU], by rw [hU]; exact hPq, va_K.moved hWm.alike hK, hN.warm hWm, hDq.weaken (fun _ _ _ _ => trivial), trivial⟩
  refine va_callv (va_runI (As := []) (rest := [.ref a2]) hfix (ci_X9 l D ty a2 H2.size) ⟨callB_of 0 hok (lw_good yk_X9_init.1) rfl rfl rfl (hok _ yk_X9_init.2.1) (hok _ lk_L_12) yk_X9_init.2.2 ⟨Nat.le_of_ble_eq_true rfl, Nat.le_of_ble_eq_true rfl⟩, rfl, hok _ ni_X9⟩ ⟨?_, hpre2⟩ rfl rfl hl.1 rfl (lv_room (Nat.le_of_ble_eq_true rfl)) dL_law_12 ⟨Nat.le_of_ble_eq_true rfl, Nat.le_of_ble_eq_true rfl⟩) hS2 (fun q _ h => hF2 q h) hF2 (fun u t H3 locs3 ht hvm hw hB hz1 hk3 hS3 => ?_)
  · intro a U g mk q
    obtain ⟨q0, q1, qP, qK, qN, qD, -⟩ := q
    exact ⟨q0, q1, qP, va_K.moved (u := U) (U := U.calling g mk a) (Vm.Alike.refl U.vm) qK, vi_Ne.same (s := U) (U := U.calling g mk a) rfl qN, qD, trivial⟩
  obtain ⟨qM, τ⟩ := u
  obtain ⟨ea2, hrm⟩ := hw
  obtain ⟨hP3, hD3⟩ := hB
  rw [ht] at hP3
  have ea2 : qM 0 = a2 := ea2
  have hrm : RM P1 (D0 P1) A0 Q1 B1 τ := hrm
  obtain ⟨hP3, hD3⟩ := vk_join hP2 hD2 hk3 hF2 hP3 hD3
  have hP3 : va_P D vv_cl (vv_W wC ty qC σ ++ vv_W wM ty qM τ) H3 := hP3
  have hD3 : va_D (fun q : Nat => s.heap.size ≤ q) (vv_W wC ty qC σ ++ vv_W wM ty qM τ) := hD3
  rw [← ea2]
  have hlen : (vv_W wC ty qC σ).length = 73 := by unfold vv_W; rw [List.length_map, List.length_range]; rfl
  have gC : ∀ (k : Nat) (x : Nat × va_E), (vv_W wC ty qC σ)[k]? = some x → (vv_W wC ty qC σ ++ vv_W wM ty qM τ)[k]? = some x := fun k x h => by
    rw [List.getElem?_append_left (List.getElem?_eq_some_iff.mp h).1]; exact h
  have gM : ∀ (k : Nat) (x : Nat × va_E), (vv_W wM ty qM τ)[k]? = some x → (vv_W wC ty qC σ ++ vv_W wM ty qM τ)[73 + k]? = some x := fun k x h => by
    rw [List.getElem?_append_right (by omega), hlen, Nat.add_sub_cancel_left]; exact h
  have hPC : va_P D vv_cl (vv_W wC ty qC σ) H3 := fun k x h => hP3 k x (gC k x h)
  have hPM : va_P D vv_cl (vv_W wM ty qM τ) H3 := fun k x h => hP3 (73 + k) x (gM k x h)
  have hDC : va_D (fun q : Nat => s.heap.size ≤ q) (vv_W wC ty qC σ) := ⟨fun i j p q hi hj e => hD3.1 i j p q (gC i p hi) (gC j q hj) e, fun k q h => hD3.2 k q (gC k q h)⟩
  have hDM : va_D (fun q : Nat => s.heap.size ≤ q) (vv_W wM ty qM τ) := ⟨fun i j p q hi hj e => by have := hD3.1 _ _ p q (gM i p hi) (gM j q hj) e; omega, fun k q h => hD3.2 _ q (gM k q h)⟩
  have hap : ∀ i j, i < 73 → j < 40 → qC i ≠ qM j := fun i j hi hj h => by
    have := hD3.1 i (73 + j) _ _ (gC i _ (vv_W_get hi)) (gM j _ (vv_W_get hj)) h
    omega
  refine lv_astore_n (lv' := [(2, .ref (qM 0)), (1, .ref (qC 0)), (0, .ref b)]) hx hb dL_law_15 rfl hl (by decide) rfl (fun ls hl => ?_)
  refine lv_iconst (v := nI 0) hx hb dL_law_16 (by decide) ?_
  refine lv_istore_n (lv' := [(3, .int (nI 0)), (2, .ref (qM 0)), (1, .ref (qC 0)), (0, .ref b)]) hx hb dL_law_17 rfl hl (by decide) rfl (fun ls hl => ?_)
  refine W.widen (k := 600000) (n := 7302249) (Nat.le_of_ble_eq_true rfl) (Nat.le_of_ble_eq_true rfl) ?_
  have C : LC p s m c b L xs D ty qC qM := ⟨hx, hb, hml, hown, hok, hK, hN.2.1, hX, hbl, vv_W_D hDC, vv_W_D hDM, hap⟩
  exact law_loop C hL hr hlocks L 0 σ τ (by omega) (Nat.zero_le _) (rel1 hrc hrm) H3 locs3 ls hPC hPM hS3 (lv_sub hl [0, 3, 2, 1] rfl)
-- ===== YOUR PART ENDS =====
set_option maxHeartbeats 4000000 in
theorem lw_walk (l : Launch) (hflags : l.flags = flags0) (b : Addr) (xs : List Int32) : MetFree l x (headSpec (Jvm.Cond.code x code maxLocals ret :: tables_1) room_1) (lw_P b xs) (fun _ _ _ _ _ => True) lw_Q := by
  refine MetFree.of_bodyS (code := code) (maxLocals := maxLocals) (ret := ret) (by decide) ?_ ?_
  · intro args s m h hn
    obtain ⟨meth, c, h1, h2, h3, h4, h5, h6, -, -⟩ := Cond.code_spec hn (atoms_spec (ws := Jvm.Cond.code x code maxLocals ret :: tables_1) h _ List.mem_cons_self)
    exact ⟨meth, c, h1, h2, h3, h4, h5, h6⟩
  · intro p e s m args below meth c s₁ B hml0 hP _
    obtain ⟨rfl, hx, hbd, hgv⟩ := hP
    obtain ⟨scr, harrAt, hlist, hof, hsmall⟩ := hx
    obtain ⟨hcb, hkn, -, -⟩ := State.arrayAt?_spec harrAt
    have hown : s.vm.findClass R_law = some m.cls := findClass_of_methodNamed B.named
    have hts0 : ∀ c ∈ (Jvm.Cond.code x code maxLocals ret :: tables_1), c.before #[Value.ref b] s = true := atoms_spec (ws := Jvm.Cond.code x code maxLocals ret :: tables_1) B.pre
    have hts : ∀ w ∈ lw_tbl, w.before #[Value.ref b] s = true := k2_hts_sels lw_privs (fun w hw => hts0 w (List.mem_cons_of_mem _ hw)) lw_privs_ok
    have hml : c.maxLocals = 4 := B.maxLocals_eq (hts0 _ List.mem_cons_self)
    have X₀ : Stand p l e room_1 s m #[Value.ref b] below meth c s₁ [] 0 0 := Stand.of_body B
    have hh0 : s₁.heap = s.heap := by rw [B.state]; rfl
    have hsz : scr.slots.size = xs.length := by rw [← Array.length_toList, hlist, List.length_map]
    have hval : ∀ j : Nat, j < xs.length → scr.slots[j]? = some (.int (xs.getD j 0)) := fun j hj => by
      rw [← Array.getElem?_toList, hlist]
      simp [hj]
    have hbl : b < s.heap.size := (Array.getElem?_eq_some_iff.mp hcb).1
    have hX : va_X b xs.length (fun j => xs.getD j 0) s s.heap := ⟨scr, hcb, hof, hkn, hsz, hval⟩
    have K : W p l e room_1 s m #[Value.ref b] below meth c s₁.heap [] 0 0 (lw_Z below #[Value.ref b] s) (entryFrame m ([Value.ref b] : List Value).toArray 4) := by
      rw [hh0]
      exact whole_start l hflags hbd ⟨B.exec, B.bytes, B.returns, hml, hown, hts, hX, hbl, B.notSynchronized, hgv⟩
    obtain ⟨t, a1, o, b1, b2, b3⟩ := K s₁ rfl X₀
    exact ⟨t, o, a1, b1, b2, b3⟩
theorem lw_pre_spec {args : Array Value} {s : State} (h : (Jvm.Cond.and given_1 narrow_1).before args s = true) (hr : rest_1_c.before args s = true) : ∃ (b : Addr) (xs : List Int32), lw_P b xs args s := by
  have hs := flat_of_before _ h
  have hq := flat_of_before _ hr
  have hc : (Cond.count 1).before args s = true := hs _ (by decide +kernel)
  have harr : (Cond.arrayOf (.arg 0) .int).before args s = true := hs _ (by decide +kernel)
  have hle : (Cond.le (.length (.arg 0)) (.int 320)).before args s = true := hs _ (by decide +kernel)
  have hlen : (Cond.isInt (.length (.arg 0))).before args s = true := hq _ (by decide +kernel)
  have hall : (Cond.all (.arg 0) (.isInt (.elem (.arg 0) (.index 0)))).before args s = true := hq _ (by decide +kernel)
  obtain ⟨b, xs, hb, hx⟩ := State.ints_of_pre rfl harr hlen hall
  have hsm : xs.length < 2 ^ 31 := hx.choose_spec.2.2.2
  have hev : (Term.length (.arg 0)).eval args s none [] s = some (.int xs.length.toInt32) := hx.length_eval hb
  have hv := Cond.le_ints hev (show (Term.int 320).eval args s none [] s = some (.int 320) from rfl)
  have hd : xs.length.toInt32 ≤ 320 := by
    simpa [Cond.before, Cond.holds, hv] using hle
  have hN : xs.length ≤ 320 := (Int32.ofNat_le_ofNat hsm (by decide)).mp (show Int32.ofNat xs.length ≤ Int32.ofNat 320 from hd)
  exact ⟨b, xs, Cond.one_arg hc (show args[0]? = some (.ref b) from hb), hx, hN, h⟩
theorem lw_comes (l : Launch) (hflags : l.flags = flags0) : Comes l x (Jvm.Cond.code x code maxLocals ret :: tables_1) room_1 (fun tb e args s => Calls_1 tb e args s ∧ rest_1 tb e args s ∧ Pre_1 tb e args s)
    (fun _ _ args s o t => lw_Q args s o t) := by
  intro p e ha hc hk s m args below hf hfit hheap happ hpre
  obtain ⟨b, xs, hP⟩ := lw_pre_spec hpre.2.2 hpre.2.1
  obtain ⟨k, o, h1, h2, h3, hQ⟩ := lw_walk l hflags b xs p e ha hc hk s m args below hf ((Spec.applies_iff_loose hf).mp happ).1 hP trivial
  exact ⟨k, o, h1, h2, h3, hQ⟩
theorem lw_frame {s t : State} {o : Outcome} {args : Array Value} (h : Framed s o t [] 600000 7302249) :
    Framed s o t (fieldLocs frame_1_writes args s ++ arrayLocs frame_1_arrays args s ++ staticLocs frame_1_statics s) 600000 7302249 := h
theorem lw_limb (L : Cond) (hL : ∀ (args : Array Value) (s t : State), L.after args s (.returned (some (.int 1))) t = true) :
    ArmFor flags0 classFile x code maxLocals ret World_1 tables_1 room_1 Calls_1 rest_1 Pre_1
      (fun tb e a s o t => postC L tb e a s o t ∧ Framed s o t (fieldLocs frame_1_writes a s ++ arrayLocs frame_1_arrays a s ++ staticLocs frame_1_statics s) 600000 7302249) := by
  intro l hflags _ _ p e ha hc hk s m args below hf hfit hheap happ hpre
  obtain ⟨k, o, h1, h2, h3, rfl, hF⟩ := lw_comes l hflags p e ha hc hk s m args below hf hfit hheap happ hpre
  exact ⟨k, _, h1, h2, h3, hL args s _, lw_frame hF⟩
theorem i_vc : Claimed_1_1 ∧ Claimed_1_2 := ⟨lw_limb limb_1_1 (fun args s t => by simp [limb_1_1, Cond.after, Cond.holds, Cond.value]), lw_limb limb_1_2 (fun args s t => Cond.after_iff.mpr (by
  first | (rw [show limb_1_2 = Cond.eq .result (.int 1) from rfl, Cond.eq_ints (x := 1) (y := 1) rfl rfl]; simp; done) | (simp [limb_1_2, Cond.value, Term.eval]; done)))⟩

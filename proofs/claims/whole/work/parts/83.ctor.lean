/-! ===== constructors: worlds that grow ===== -/
/-- behind a call: the rest, and the callee's new world -/
theorem vk_join {A0 : Nat → Prop} {D : va_G} {cl : List vw_C} {wr wc w1 : va_W} {H H1 : Heap} (hP : va_P D cl (wr ++ wc) H) (hD : va_D A0 (wr ++ wc)) (hk : ∀ q : Nat, q < H.size → ¬ va_A wc H.size q → H1[q]? = H[q]?) (hF : ∀ q, va_A wc H.size q → A0 q) (hP1 : va_P D cl w1 H1) (hD1 : va_D (va_A wc H.size) w1) : va_P D cl (wr ++ w1) H1 ∧ va_D A0 (wr ++ w1) := by
  have hl : ∀ (k : Nat) (x : Nat × va_E), wr[k]? = some x → k < wr.length ∧ (wr ++ wc)[k]? = some x := fun k x hx => by
    have h1 := (List.getElem?_eq_some_iff.mp hx).1
    exact ⟨h1, by rw [List.getElem?_append_left h1]; exact hx⟩
  have hout : ∀ (k : Nat) (x : Nat × va_E), wr[k]? = some x → ¬ va_A wc H.size x.1 := fun k x hx h => by
    obtain ⟨h1, h2⟩ := hl k x hx
    rcases h with ⟨j, e, hj⟩ | h
    · have h3 : (wr ++ wc)[wr.length + j]? = some (x.1, e) := by
        rw [List.getElem?_append_right (Nat.le_add_right _ _), Nat.add_sub_cancel_left]
        exact hj
      have := hD.1 k (wr.length + j) x (x.1, e) h2 h3 rfl
      omega
    · exact absurd ((hP k x h2).lt) (Nat.not_lt.mpr h)
  have hPr : va_P D cl wr H := fun k x hx => hP k x (hl k x hx).2
  have hDr : va_D A0 wr := ⟨fun i j p q hi hj e => hD.1 i j p q (hl i p hi).2 (hl j q hj).2 e, fun k q hk => hD.2 k q (hl k q hk).2⟩
  refine ⟨(hPr.kept (fun k x hx => hk x.1 ((hPr k x hx).lt) (hout k x hx))).app hP1, va_D.app hDr (hD1.weaken (fun k q _ h => hF q.1 h)) (fun i j p q hi hj e => ?_)⟩
  exact hout i p hi (by rw [e]; exact hD1.2 j q hj)
def vi_nest : List (String × Nat × MethodName × String) := [(RX4, 20, yX1_init, "DamOfTurf"), (RX4, 27, yX2_init, "DamOfTurf"), (RX8, 9, yX7_init, "DamOfTurf"), (RX8, 18, yX4_init, "DamOfTurf"), (RX8, 40, yX0_init, "DamOfTurf"), (RX8, 51, yX6_init, "DamOfTurf"), (RX8, 58, yX5_init, "DamOfTurf")]
/-- what is no word that calls keep, but goes on holding: links of nest mates, arrays over objects and arrays -/
def vi_Ne (U : State) : Prop := (∀ x ∈ vi_nest, va_Nw (.methodLinkNest x.1 x.2.1 x.2.2.1 x.2.2.2) U) ∧ vv_Ne U ∧ va_AO "DamOfTurf$Acts" U ∧ va_AOA .int U
theorem vi_Ne.warm {s U : State} (hW : s.WarmedH U.vm) (h : vi_Ne s) : vi_Ne U := ⟨fun x hx => va_Nw.warmM hW (h.1 x hx), h.2.1.warm hW, h.2.2.1.moved hW.alike, h.2.2.2.moved hW.alike⟩
theorem vi_Ne.same {s U : State} (e : s.vm = U.vm) (h : vi_Ne s) : vi_Ne U := ⟨fun x hx => va_Nw.same rfl e (h.1 x hx), h.2.1.same e, h.2.2.1.moved (by rw [e]; exact Vm.Alike.refl _), h.2.2.2.moved (by rw [e]; exact Vm.Alike.refl _)⟩
/-- a constructor's frame -/
def VI (D : va_G) (ty : Nat → ClassId) (p : Program) (s : State) (m : MethodId) (args : Array Value) (meth : Method) (c : Code) (A : Nat → Prop) (own : String) (cc : ByteArray) (nL : Nat) : Prop :=
  p.tables.exec = Jvm.exec ∧ c.code = cc ∧ c.maxLocals = nL ∧ s.vm.findClass own = some m.cls ∧ (∀ w ∈ lw_ok, w.before args s = true) ∧ va_K D vv_cl (vv_tys ty) s ∧ (∀ q : Nat, s.heap.size ≤ q → A q) ∧ meth.locks = false ∧ meth.name = "<init>" ∧ meth.sig.returnType = none ∧ vi_Ne s
/-- a constructor's contract: out of the new object of class ci, its fields fs, comes the world w, all ints 0, its first cell the object -/
def vi_M (l : Launch) (D : va_G) (ty : Nat → ClassId) (y : MethodName) (cc : ByteArray) (maxL fr lo mc ms ci : Nat) (fs : List Value) (w : vv_Wd) (As : List Value) (post : (Nat → Nat) → Prop) : Prop :=
  ∀ q sz : Nat, Met l y (.code y cc maxL none :: lw_ok) { frames := fr, cells := mc, slots := ms, locals := lo } (va_Pc (.ref q :: As) (fun U => U.heap.size = sz ∧ va_P D vv_cl [(q, .inr (ci, fs))] U.heap ∧ va_K D vv_cl (vv_tys ty) U ∧ vi_Ne U ∧ va_D (fun _ => True) [(q, .inr (ci, fs))])) (va_Qv (fun r : Nat → Nat => r 0 = q ∧ post r) (fun r t => va_P D vv_cl (vv_W w ty r (fun _ _ => 0)) t.heap ∧ va_D (va_A [(q, .inr (ci, fs))] sz) (vv_W w ty r (fun _ _ => 0))) (va_A [(q, .inr (ci, fs))] sz)) mc ms (va_A [(q, .inr (ci, fs))] sz)
section VIR
variable {p : Program} {l : Launch} {e : Env} {R : Room} {s : State} {m : MethodId} {args : Array Value} {below : List Frame} {meth : Method} {c : Code} {H : Heap} {locs : List Loc} {cells slots : Nat} {Q : State → Prop}
variable {D : va_G} {ty : Nat → ClassId} {A : Nat → Prop} {own : String} {cc : ByteArray} {nL pc : Nat} {ls : Array Slot} {rest : List Value} {b ci : Nat} {fs : List Value} {wt : va_W}
theorem VI.hx (C : VI D ty p s m args meth c A own cc nL) : p.tables.exec = Jvm.exec := C.1
theorem VI.hb (C : VI D ty p s m args meth c A own cc nL) : c.code = cc := C.2.1
theorem VI.hml (C : VI D ty p s m args meth c A own cc nL) : c.maxLocals = nL := C.2.2.1
theorem VI.hown (C : VI D ty p s m args meth c A own cc nL) : s.vm.findClass own = some m.cls := C.2.2.2.1
theorem VI.hts (C : VI D ty p s m args meth c A own cc nL) : ∀ w ∈ lw_ok, w.before args s = true := C.2.2.2.2.1
theorem VI.hK (C : VI D ty p s m args meth c A own cc nL) : va_K D vv_cl (vv_tys ty) s := C.2.2.2.2.2.1
theorem VI.hA (C : VI D ty p s m args meth c A own cc nL) : ∀ q : Nat, s.heap.size ≤ q → A q := C.2.2.2.2.2.2.1
theorem VI.hlk (C : VI D ty p s m args meth c A own cc nL) : meth.locks = false := C.2.2.2.2.2.2.2.1
theorem VI.hin (C : VI D ty p s m args meth c A own cc nL) : meth.name = "<init>" := C.2.2.2.2.2.2.2.2.1
theorem VI.hr (C : VI D ty p s m args meth c A own cc nL) : meth.sig.returnType = none := C.2.2.2.2.2.2.2.2.2.1
theorem VI.hN (C : VI D ty p s m args meth c A own cc nL) : vi_Ne s := C.2.2.2.2.2.2.2.2.2.2
theorem VI.fix (C : VI D ty p s m args meth c A own cc nL) : CallFix p m c cc nL s args lw_ok own := ⟨C.hx, C.hb, C.hml, C.hown, C.hts⟩
theorem vn_ty {tys : List (ClassId × FieldType)} {cl : List vw_C} {U : State} {i j : Nat} {a b : ClassId} {t : FieldType} (hK : va_K D cl tys U) (hi : tys[i]? = some (a, .array t)) (hj : tys[j]? = some (b, .array t)) : a = b := Option.some.inj ((hK.2 i _ hi).2.symm.trans (hK.2 j _ hj).2)
theorem vn_tyI {tys : List (ClassId × FieldType)} {cl : List vw_C} {U : State} {i j : Nat} {a b : ClassId} (hK : va_K D cl tys U) (hi : tys[i]? = some (a, .int)) (hj : tys[j]? = some (b, .int)) : a = b := Option.some.inj ((hK.2 i _ hi).2.symm.trans (hK.2 j _ hj).2)
theorem vn_tyO {tys : List (ClassId × FieldType)} {cl : List vw_C} {U : State} {i j : Nat} {a b : ClassId} {n : String} (hK : va_K D cl tys U) (hi : tys[i]? = some (a, .object n)) (hj : tys[j]? = some (b, .object n)) : a = b := by
  obtain ⟨_, _, -, -, -, h1⟩ := (hK.2 i _ hi).2
  obtain ⟨_, _, -, -, -, h2⟩ := (hK.2 j _ hj).2
  exact Option.some.inj (h1.symm.trans h2)
theorem vn_obj (C : VI D ty p s m args meth c A own cc nL) {idx : Nat} (hl : Cond.methodLink own idx objectInit ∈ lw_ok) (hsz : ls.size = nL) (hd : decode cc pc = .ok (.invokespecial idx, 3)) (hf : 1 ≤ R.frames) (hlo : 12 ≤ R.locals) (kk : W p l e R s m args below meth c H locs cells slots Q (F0 m (pc + 3) ls [])) : W p l e R s m args below meth c H locs cells slots Q (F0 m pc ls [.ref b]) :=
  W.objInit C.hx C.hb C.hown (C.hts _ hl) (C.hts _ oi_i) (C.hts _ oi_c) rfl (by rw [C.hml]; exact hsz) rfl hd hf hlo kk
/-- a row of ints, made and put into a field of the object -/
theorem vn_arr (C : VI D ty p s m args meth c A own cc nL) {N idx : Nat} {T : u_T} (hk : vv_Kc ci own T N) (k : Nat) (hf : parseFieldDescriptor (T k).2.2.1 = some (.array .int) ∧ (T k).2.2.2 = true ∧ (T k).1 = own) (hkN : k < N) (hl : Cond.fieldLink own idx (T k).1 (T k).2.1 (T k).2.2.1 ∈ lw_ok) (hP : va_P D vv_cl ((b, .inr (ci, fs)) :: wt) H) (hD : va_D A ((b, .inr (ci, fs)) :: wt)) (hS : va_S A s.heap H locs) (hlen : k < fs.length) {n : Int32} {n' : Nat} (hn : ¬ n < 0 ∧ n.toNatClampNeg = n' ∧ n' * 4 ≤ 536870912) (hc : cells + 1 ≤ R.cells ∧ slots + n' ≤ R.slots) (hd1 : decode cc pc = .ok (.newarray .int, 2)) (hd2 : decode cc (pc + 2) = .ok (.putfield idx, 3))
    (kk : ∀ (q : Nat) (H : Heap) (locs : List Loc), va_P D vv_cl ((b, .inr (ci, fs.set k (.ref q))) :: (wt ++ [(q, .inl (ty 0, n', .inl (fun _ => 0)))])) H → va_D A ((b, .inr (ci, fs.set k (.ref q))) :: (wt ++ [(q, .inl (ty 0, n', .inl (fun _ => 0)))])) → va_S A s.heap H locs → W p l e R s m args below meth c H locs (cells + 1) (slots + n') Q (F0 m (pc + 2 + 3) ls rest)) : W p l e R s m args below meth c H locs cells slots Q (F0 m pc ls (.int n :: .ref b :: rest)) := by
  refine va_newa (atype := .int) (ty := .int) (a0 := (n', .inl (fun _ => 0))) C.hx C.hb (C.hts _ ac_int) rfl C.hK hP hD hS C.hA (fun cA => rfl) hn.1 hn.2.1 hn.2.2 hc.1 hc.2 hd1 (fun q cA H1 hK1 hP1 hD1 hS1 => ?_)
  have ecA : cA = ty 0 := vn_tyI (i := 3) (j := 0) hK1 rfl rfl
  subst ecA
  obtain ⟨ty0, hty⟩ := hk.2.2.2
  exact va_putF (ci := ci) (v := .ref q) (ty := .array .int) C.hx C.hb C.hts hk.2.1 ty0 hty hk.2.2.1 C.hown hK1 hP1 hD1 hS1 0 (fs := fs) rfl hk.1 k hkN (C.hts _ hl) (fun _ h9 => h9) hf.2.1 C.hin hf.2.2 hf.1 rfl rfl hlen hd2 (fun H2 locs2 hP2 hD2 hS2 => kk q H2 locs2 hP2 hD2 hS2)
/-- a cell put into a field of the object -/
theorem vn_put (C : VI D ty p s m args meth c A own cc nL) {N idx : Nat} {T : u_T} (hk : vv_Kc ci own T N) (k : Nat) {fty : FieldType} (hf : parseFieldDescriptor (T k).2.2.1 = some fty ∧ (T k).2.2.2 = true ∧ (T k).1 = own) (hkN : k < N) (hl : Cond.fieldLink own idx (T k).1 (T k).2.1 (T k).2.2.1 ∈ lw_ok) (hP : va_P D vv_cl ((b, .inr (ci, fs)) :: wt) H) (hD : va_D A ((b, .inr (ci, fs)) :: wt)) (hS : va_S A s.heap H locs) (hlen : k < fs.length) {q : Nat} (hn : narrow fty (.ref q) = .ref q ∧ fits fty (.ref q) = true) (hd : decode cc pc = .ok (.putfield idx, 3))
    (kk : ∀ (H : Heap) (locs : List Loc), va_P D vv_cl ((b, .inr (ci, fs.set k (.ref q))) :: wt) H → va_D A ((b, .inr (ci, fs.set k (.ref q))) :: wt) → va_S A s.heap H locs → W p l e R s m args below meth c H locs cells slots Q (F0 m (pc + 3) ls rest)) : W p l e R s m args below meth c H locs cells slots Q (F0 m pc ls (.ref q :: .ref b :: rest)) := by
  obtain ⟨ty0, hty⟩ := hk.2.2.2
  exact va_putF (ci := ci) (v := .ref q) (ty := fty) C.hx C.hb C.hts hk.2.1 ty0 hty hk.2.2.1 C.hown C.hK hP hD hS 0 (fs := fs) rfl hk.1 k hkN (C.hts _ hl) (fun _ h9 => h9) hf.2.1 C.hin hf.2.2 hf.1 hn.1 hn.2 hlen hd (fun H2 locs2 hP2 hD2 hS2 => kk H2 locs2 hP2 hD2 hS2)
theorem vn_get (C : VI D ty p s m args meth c A own cc nL) {N idx : Nat} {T : u_T} (hk : vv_Kc ci own T N) (k : Nat) (hkN : k < N) (hl : Cond.fieldLink own idx (T k).1 (T k).2.1 (T k).2.2.1 ∈ lw_ok) (hP : va_P D vv_cl ((b, .inr (ci, fs)) :: wt) H) {v : Value} (hv : fs[k]? = some v) (hd : decode cc pc = .ok (.getfield idx, 3)) (kk : W p l e R s m args below meth c H locs cells slots Q (F0 m (pc + 3) ls (v :: rest))) : W p l e R s m args below meth c H locs cells slots Q (F0 m pc ls (.ref b :: rest)) :=
  va_get C.hx C.hb C.hts hk.2.1 C.hown C.hK hP 0 rfl hk.1 k hkN (C.hts _ hl) (fun _ h9 => h9) hv hd kk
/-- a new object -/
theorem vn_new (C : VI D ty p s m args meth c A own cc nL) {ws : va_W} {N idx : Nat} {Cn : String} {T : u_T} (hk : vv_Kc ci Cn T N) (tyf : Nat → FieldType) (htyf : ∀ k, k < N → parseFieldDescriptor (T k).2.2.1 = some (tyf k)) (hcl : Cond.classLink own idx Cn ∈ lw_ok) (hiz : Cond.instantiable Cn N ∈ lw_ok) (hini : Cond.initialized Cn ∈ lw_ok) (hP : va_P D vv_cl ws H) (hD : va_D A ws) (hS : va_S A s.heap H locs) (hfs : ∀ j, j < N → defaultValue (tyf j) = vp_V fs j) (hc : cells + 1 ≤ R.cells ∧ slots + N ≤ R.slots) (hd : decode cc pc = .ok (.new idx, 3))
    (kk : ∀ (q : Nat) (H : Heap), va_P D vv_cl (ws ++ [(q, .inr (ci, fs))]) H → va_D A (ws ++ [(q, .inr (ci, fs))]) → va_S A s.heap H locs → W p l e R s m args below meth c H locs (cells + 1) (slots + N) Q (F0 m (pc + 3) ls (.ref q :: rest))) : W p l e R s m args below meth c H locs cells slots Q (F0 m pc ls rest) :=
  va_new (ci := ci) C.hx C.hb C.hts hk.2.1 tyf htyf C.hown (C.hts _ hcl) (C.hts _ hiz) (C.hts _ hini) C.hK hP hD hS C.hA hk.1 hfs hc.1 hc.2 hd kk
theorem vn_frees {ws : va_W} (hA : ∀ q : Nat, s.heap.size ≤ q → A q) (hD : va_D A ws) (hS : va_S A s.heap H locs) : ∀ q, va_A ws H.size q → A q := fun q h => by
  rcases h with ⟨k, e, h⟩ | h
  · exact hD.2 k _ h
  · exact hA q (Nat.le_trans hS.1 h)
theorem vi_blind {av : List Value} {sz : Nat} {ws : va_W} : FrameBlind (va_Pc av (fun U => U.heap.size = sz ∧ va_P D vv_cl ws U.heap ∧ va_K D vv_cl (vv_tys ty) U ∧ vi_Ne U ∧ va_D (fun _ => True) ws)) := fun a U g mk q => by
  obtain ⟨q0, q1, qP, qK, qN, qD⟩ := q
  exact ⟨q0, q1, qP, va_K.moved (u := U) (U := U.calling g mk a) (Vm.Alike.refl U.vm) qK, vi_Ne.same (s := U) (U := U.calling g mk a) rfl qN, qD⟩
/-- a constructor of a nest mate runs over the new object -/
theorem vn_initN (C : VI D ty p s m args meth c A own cc nL) {ws : va_W} {y : MethodName} {cc2 : ByteArray} {maxL2 fr2 lo2 mc2 ms2 n idx q : Nat} {w : vv_Wd} {As stk : List Value} {post : (Nat → Nat) → Prop} {host : String} (hM : vi_M l D ty y cc2 maxL2 fr2 lo2 mc2 ms2 ci fs w As post) (hy : vv_yok y cc2 maxL2 none n) (hnm : y.name = "<init>") (hi : Cond.instanceMethod y ∈ lw_ok) (hl : (own, idx, y, host) ∈ vi_nest) (hP : va_P D vv_cl (ws ++ [(q, .inr (ci, fs))]) H) (hD : va_D A (ws ++ [(q, .inr (ci, fs))])) (hS : va_S A s.heap H locs) (hn : As.length = n) (hsz : ls.size = nL) (hst : As.reverse ++ .ref q :: rest = stk) (hW : (rest.map fun v => v.category).sum ≤ 8) (hd : decode cc pc = .ok (.invokespecial idx, 3)) (hR : fr2 + 1 ≤ R.frames ∧ 8 + (maxL2 + 11) + lo2 ≤ R.locals) (hc : cells + mc2 ≤ R.cells ∧ slots + ms2 ≤ R.slots)
    (kk : ∀ (r : Nat → Nat) (H : Heap) (locs : List Loc), r 0 = q → post r → va_P D vv_cl (ws ++ vv_W w ty r (fun _ _ => 0)) H → va_D A (ws ++ vv_W w ty r (fun _ _ => 0)) → va_S A s.heap H locs → W p l e R s m args below meth c H locs (cells + mc2) (slots + ms2) Q (F0 m (pc + 3) ls rest)) : W p l e R s m args below meth c H locs cells slots Q (F0 m pc ls stk) := by
  subst hst
  have hPq : va_P D vv_cl [(q, .inr (ci, fs))] H := fun k x hx => hP (ws.length + k) x (by rw [List.getElem?_append_right (Nat.le_add_right _ _), Nat.add_sub_cancel_left]; exact hx)
  have hDq : va_D A [(q, .inr (ci, fs))] := ⟨fun i j a b hi hj _ => by
    have h1 := (List.getElem?_eq_some_iff.mp hi).1
    have h2 := (List.getElem?_eq_some_iff.mp hj).1
    simp at h1 h2
    omega, fun k x hx => hD.2 (ws.length + k) x (by rw [List.getElem?_append_right (Nat.le_add_right _ _), Nat.add_sub_cancel_left]; exact hx)⟩
  have hF := vn_frees C.hA hDq hS
  refine va_callv (va_runIN (As := As) (rest := rest) C.fix (hM q H.size) ⟨va_cnB n C.hts (lw_good hy.1) rfl rfl rfl (C.hN.1 _ hl) (C.hts _ hy.2.1) hy.2.2 hR, hnm, C.hts _ hi⟩ ⟨vi_blind, fun U hU hWm => ⟨rfl, by rw [hU], by rw [hU]; exact hPq, va_K.moved hWm.alike C.hK, C.hN.warm hWm, hDq.weaken (fun _ _ _ _ => trivial)⟩⟩ rfl hn hsz rfl (lv_room hW) hd hc) hS (fun q _ h => hF q h) hF (fun r t H1 locs1 ht hvm hw hB hz1 hk1 hS1 => ?_)
  obtain ⟨hP1, hD1⟩ := hB
  rw [ht] at hP1
  obtain ⟨hP2, hD2⟩ := vk_join hP hD hk1 hF hP1 hD1
  exact kk r H1 locs1 hw.1 hw.2 hP2 hD2 hS1
theorem vn_init (C : VI D ty p s m args meth c A own cc nL) {ws : va_W} {y : MethodName} {cc2 : ByteArray} {maxL2 fr2 lo2 mc2 ms2 n idx q : Nat} {w : vv_Wd} {As stk : List Value} {post : (Nat → Nat) → Prop} (hM : vi_M l D ty y cc2 maxL2 fr2 lo2 mc2 ms2 ci fs w As post) (hy : vv_yok y cc2 maxL2 none n) (hnm : y.name = "<init>") (hi : Cond.instanceMethod y ∈ lw_ok) (hl : Cond.methodLink own idx y ∈ lw_ok) (hP : va_P D vv_cl (ws ++ [(q, .inr (ci, fs))]) H) (hD : va_D A (ws ++ [(q, .inr (ci, fs))])) (hS : va_S A s.heap H locs) (hn : As.length = n) (hsz : ls.size = nL) (hst : As.reverse ++ .ref q :: rest = stk) (hW : (rest.map fun v => v.category).sum ≤ 8) (hd : decode cc pc = .ok (.invokespecial idx, 3)) (hR : fr2 + 1 ≤ R.frames ∧ 8 + (maxL2 + 11) + lo2 ≤ R.locals) (hc : cells + mc2 ≤ R.cells ∧ slots + ms2 ≤ R.slots)
    (kk : ∀ (r : Nat → Nat) (H : Heap) (locs : List Loc), r 0 = q → post r → va_P D vv_cl (ws ++ vv_W w ty r (fun _ _ => 0)) H → va_D A (ws ++ vv_W w ty r (fun _ _ => 0)) → va_S A s.heap H locs → W p l e R s m args below meth c H locs (cells + mc2) (slots + ms2) Q (F0 m (pc + 3) ls rest)) : W p l e R s m args below meth c H locs cells slots Q (F0 m pc ls stk) := by
  subst hst
  have hPq : va_P D vv_cl [(q, .inr (ci, fs))] H := fun k x hx => hP (ws.length + k) x (by rw [List.getElem?_append_right (Nat.le_add_right _ _), Nat.add_sub_cancel_left]; exact hx)
  have hDq : va_D A [(q, .inr (ci, fs))] := ⟨fun i j a b hi hj _ => by
    have h1 := (List.getElem?_eq_some_iff.mp hi).1
    have h2 := (List.getElem?_eq_some_iff.mp hj).1
    simp at h1 h2
    omega, fun k x hx => hD.2 (ws.length + k) x (by rw [List.getElem?_append_right (Nat.le_add_right _ _), Nat.add_sub_cancel_left]; exact hx)⟩
  have hF := vn_frees C.hA hDq hS
  refine va_callv (va_runI (As := As) (rest := rest) C.fix (hM q H.size) ⟨callB_of n C.hts (lw_good hy.1) rfl rfl rfl (C.hts _ hy.2.1) (C.hts _ hl) hy.2.2 hR, hnm, C.hts _ hi⟩ ⟨vi_blind, fun U hU hWm => ⟨rfl, by rw [hU], by rw [hU]; exact hPq, va_K.moved hWm.alike C.hK, C.hN.warm hWm, hDq.weaken (fun _ _ _ _ => trivial)⟩⟩ rfl hn hsz rfl (lv_room hW) hd hc) hS (fun q _ h => hF q h) hF (fun r t H1 locs1 ht hvm hw hB hz1 hk1 hS1 => ?_)
  obtain ⟨hP1, hD1⟩ := hB
  rw [ht] at hP1
  obtain ⟨hP2, hD2⟩ := vk_join hP hD hk1 hF hP1 hD1
  exact kk r H1 locs1 hw.1 hw.2 hP2 hD2 hS1
end VIR
/-- the walk of a constructor, from its entry -/
theorem vi_of {l : Launch} {D : va_G} {ty : Nat → ClassId} {y : MethodName} {cc : ByteArray} {maxL fr lo mc ms ci : Nat} {fs : List Value} {w : vv_Wd} {As : List Value} {post : (Nat → Nat) → Prop} (hy : plainName y.cls = true) (hnm : y.name = "<init>") (hlen : ∀ q : Nat, (lg_sl (.ref q :: As)).length ≤ maxL)
    (body : ∀ (p : Program) (e : Env) (s : State) (m : MethodId) (args : Array Value) (below : List Frame) (meth : Method) (c : Code) (A : Nat → Prop) (q : Nat) (ls : Array Slot) (Q : State → Prop), VI D ty p s m args meth c A y.cls cc maxL → va_P D vv_cl [(q, .inr (ci, fs))] s.heap → va_D A [(q, .inr (ci, fs))] → va_S A s.heap s.heap [] → lv_has ls maxL (lv_args 0 (.ref q :: As)) →
      (∀ (r : Nat → Nat) (H : Heap) (locs : List Loc) (pc : Nat) (ls : Array Slot), r 0 = q → post r → va_P D vv_cl (vv_W w ty r (fun _ _ => 0)) H → va_D A (vv_W w ty r (fun _ _ => 0)) → va_S A s.heap H locs → decode cc pc = .ok (.return_, 1) → W p l e { frames := fr, cells := mc, slots := ms, locals := lo } s m args below meth c H locs mc ms Q (F0 m pc ls [])) →
      W p l e { frames := fr, cells := mc, slots := ms, locals := lo } s m args below meth c s.heap [] 0 0 Q (F0 m 0 ls [])) : vi_M l D ty y cc maxL fr lo mc ms ci fs w As post := by
  intro q sz
  refine Met.ofW (cc := cc) (maxL := maxL) (ret := none) hy rfl ?_
  intro p e s m args below meth c s₁ B hml hv
  obtain ⟨rfl, hsz, hP, hK, hN, hD0⟩ := hv
  subst hsz
  have hts := atoms_spec (ws := .code y cc maxL none :: lw_ok) B.pre
  have hD := hD0.self (sz := s.heap.size)
  have hl := lv_entry (.ref q :: As) (n := maxL) (hlen q)
  have hin : meth.name = "<init>" := (name_of_methodNamed B.named B.method).1.trans hnm
  have hrr := B.returns
  have hlk := B.notSynchronized
  have hxx := B.exec
  have hbb := B.bytes
  rw [lg_entry_eq]
  refine body p e s m _ below meth c (va_A [(q, .inr (ci, fs))] s.heap.size) q _ _ ⟨hxx, hbb, hml, findClass_of_methodNamed B.named, fun w hw => hts w (List.mem_cons_of_mem _ hw), hK, fun q h => Or.inr h, hlk, hin, hrr, hN⟩ hP hD va_S.rf hl ?_
  intro r H locs pc ls' h0 hp hP1 hD1 hS1 hd
  exact W.vret hxx hbb hrr (fun t ht hW => ⟨⟨r, rfl, ⟨h0, hp⟩, by rw [ht]; exact hP1, hD1⟩, hS1.F ht⟩) hS1.2.2 hd hlk

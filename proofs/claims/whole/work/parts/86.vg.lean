/-! ===== worlds of fixed shape beside others, in frames with room for new cells ===== -/
section VG
variable {p : Program} {l : Launch} {e : Env} {R : Room} {s : State} {m : MethodId} {args : Array Value} {below : List Frame} {meth : Method} {c : Code} {H : Heap} {locs : List Loc} {cells slots : Nat} {Q : State → Prop}
variable {D : va_G} {ty : Nat → ClassId} {A : Nat → Prop} {own : String} {cc : ByteArray} {nL pc : Nat} {ls : Array Slot} {rest stk As : List Value} {w : vv_Wd} {q : Nat → Nat} {σ : vv_S} {wr : va_W}
variable {y : MethodName} {cc2 : ByteArray} {maxL2 fr2 lo2 n idx b ci N : Nat} {ret2 : Option FieldType} {fl : List Nat} {T : u_T}
theorem vg_kept {σ' : vv_S} {H1 : Heap} (hPr : va_P D vv_cl wr H) (hap : ∀ (k : Nat) (x : Nat × va_E), wr[k]? = some x → ∀ i, i < w.2 → q i ≠ x.1) (hk1 : ∀ a : Nat, a < H.size → ¬ va_A (vv_W w ty q σ') H.size a → H1[a]? = H[a]?) : va_P D vv_cl wr H1 := by
  refine hPr.kept (fun k x hx => hk1 x.1 ((hPr k x hx).lt) (fun h => ?_))
  rcases h with ⟨j, e, hj⟩ | h
  · by_cases hj2 : j < w.2
    · rw [vv_W_get hj2] at hj
      exact hap k x hx j hj2 (congrArg Prod.fst (Option.some.inj hj))
    · rw [vv_W_none hj2] at hj
      cases hj
  · exact absurd ((hPr k x hx).lt) (Nat.not_lt.mpr h)
theorem vg_getr {k r : Nat} (hx : p.tables.exec = Jvm.exec) (hb : c.code = cc) (hown : s.vm.findClass own = some m.cls) (hts : ∀ w ∈ lw_ok, w.before args s = true) (hK : va_K D vv_cl (vv_tys ty) s) {Cn : String} (hk : vv_Kc ci Cn T N) (hs : b < w.2 ∧ w.1 b = .inl (ci, fl)) (hP : va_P D vv_cl (vv_W w ty q σ) H) (hkN : k < N) (hf : fl[k]? = some (r + 1)) (hl : Cond.fieldLink own idx (T k).1 (T k).2.1 (T k).2.2.1 ∈ lw_ok) (hd : decode cc pc = .ok (.getfield idx, 3)) (kk : W p l e R s m args below meth c H locs cells slots Q (F0 m (pc + 3) ls (.ref (q r) :: rest))) : W p l e R s m args below meth c H locs cells slots Q (F0 m pc ls (.ref (q b) :: rest)) := by
  have he : (vv_W w ty q σ)[b]? = some (q b, .inr (ci, vv_fs q (σ b) 0 fl)) := by rw [vv_W_get hs.1, hs.2]; rfl
  exact va_get hx hb hts hk.2.1 hown hK hP b he hk.1 k hkN (hts _ hl) (fun _ h9 => h9) (vv_fs_ref (q := q) (row := σ b) fl 0 k hf) hd kk
theorem vg_iast {i v : Int32} {a n' j : Nat} (hx : p.tables.exec = Jvm.exec) (hb : c.code = cc) (hK : va_K D vv_cl (vv_tys ty) s) (hs : a < w.2 ∧ w.1 a = .inr (.inl n')) (hP : va_P D vv_cl (vv_W w ty q σ) H) (hD : va_D A (vv_W w ty q σ)) (hS : va_S A s.heap H locs) (hi : vp_in i n') (hj : i.toNatClampNeg = j) (hd : decode cc pc = .ok (.iastore, 1)) (kk : ∀ (H : Heap) (locs : List Loc), va_P D vv_cl (vv_W w ty q (vv_up σ a j v)) H → va_D A (vv_W w ty q (vv_up σ a j v)) → va_S A s.heap H locs → W p l e R s m args below meth c H locs cells slots Q (F0 m (pc + 1) ls rest)) : W p l e R s m args below meth c H locs cells slots Q (F0 m pc ls (.int v :: .int i :: .ref (q a) :: rest)) := by
  have he : (vv_W w ty q σ)[a]? = some (q a, .inl (ty 0, n', .inl (σ a))) := by rw [vv_W_get hs.1, hs.2]; rfl
  subst hj
  refine va_iast hx hb hK hP hD hS a 0 he rfl hi hd (fun H1 locs1 hP1 _ hS1 => kk H1 locs1 ?_ (vv_W_D hD) hS1)
  have e2 := vv_W_set (w := w) (ty := ty) (q := q) (σ := σ) (k := a) (j := i.toNatClampNeg) (v := v) (e := .inl (ty 0, n', .inl (upd (σ a) i.toNatClampNeg v))) hs.1 (by rw [hs.2]; rfl)
  rw [← e2]
  exact hP1
theorem vg_frees (hA : ∀ x : Nat, s.heap.size ≤ x → A x) (hD : va_D A (vv_W w ty q σ)) (hS : va_S A s.heap H locs) : ∀ x, va_A (vv_W w ty q σ) H.size x → A x := fun x h => by
  rcases h with ⟨k, e, h⟩ | h
  · exact hD.2 k _ h
  · exact hA x (Nat.le_trans hS.1 h)
theorem vg_pre (hK : va_K D vv_cl (vv_tys ty) s) (hN : vv_Ne s) (hP : va_P D vv_cl (vv_W w ty q σ) H) (hD : va_D A (vv_W w ty q σ)) (av : List Value) : ∀ U : State, U.heap = H → s.WarmedH U.vm → va_Pc av (fun U => U.heap.size = H.size ∧ vv_B (l, D, ty, q, w) σ U ∧ vv_Ne U ∧ va_D (fun _ => True) (vv_w (l, D, ty, q, w) σ)) av.toArray U := fun U hU hW =>
  ⟨rfl, by rw [hU], ⟨by rw [hU]; exact hP, va_K.moved hW.alike hK⟩, hN.warm hW, hD.weaken (fun _ _ _ _ => trivial)⟩
theorem vg_callI {post : Int32 → vv_S → Prop} (hfix : CallFix p m c cc nL s args lw_ok own) (hK : va_K D vv_cl (vv_tys ty) s) (hN : vv_Ne s) (hA : ∀ x : Nat, s.heap.size ≤ x → A x) (hP : va_P D vv_cl (vv_W w ty q σ) H) (hPr : va_P D vv_cl wr H) (hD : va_D A (vv_W w ty q σ)) (hap : ∀ (k : Nat) (x : Nat × va_E), wr[k]? = some x → ∀ i, i < w.2 → q i ≠ x.1) (hS : va_S A s.heap H locs)
    (hM : vv_MI (l, D, ty, q, w) y cc2 maxL2 ret2 fr2 lo2 (.ref (q b) :: As) σ post) (hy : vv_yok y cc2 maxL2 ret2 n) (hv : vv_vok y) (hl : Cond.methodLink own idx y ∈ lw_ok) (hk : vv_cl[ci]? = some (y.cls, T, N)) (hs : b < w.2 ∧ w.1 b = .inl (ci, fl)) (hd : decode cc pc = .ok (.invokevirtual idx, 3)) (hn : As.length = n) (hsz : ls.size = nL) (hst : As.reverse ++ .ref (q b) :: rest = stk) (hR : fr2 + 1 ≤ R.frames ∧ 8 + (maxL2 + 11) + lo2 ≤ R.locals) (hc : cells ≤ R.cells ∧ slots ≤ R.slots) (hW : (rest.map fun v => v.category).sum ≤ 8)
    (kk : ∀ (x : Int32) (σ' : vv_S) (H1 : Heap) (locs1 : List Loc), post x σ' → va_P D vv_cl (vv_W w ty q σ') H1 → va_P D vv_cl wr H1 → va_S A s.heap H1 locs1 → W p l e R s m args below meth c H1 locs1 cells slots Q (F0 m (pc + 3) ls (.int x :: rest))) : W p l e R s m args below meth c H locs cells slots Q (F0 m pc ls stk) := by
  subst hst
  have hts := hfix.2.2.2.2
  have he : (vv_W w ty q σ)[b]? = some (q b, .inr (ci, vv_fs q (σ b) 0 fl)) := by rw [vv_W_get hs.1, hs.2]; rfl
  refine va_calli (va_runV (As := As) (rest := rest) hfix (hM H.size) ⟨callB_of n hts (lw_good hy.1) rfl rfl rfl (hts _ hy.2.1) (hts _ hl) hy.2.2 hR, hts _ hv.1, hts _ hv.2⟩ ⟨vv_blind, va_recv hK hP hk he, vg_pre hK hN hP hD _⟩ rfl hn hsz rfl (lv_room hW) hd hc) hS (fun x _ h => vg_frees hA hD hS x h) (vg_frees hA hD hS) (fun x σ' t H1 locs1 ht hvm hw hB hz1 hk1 hS1 => ?_)
  exact kk x σ' H1 locs1 hw (by rw [← ht]; exact hB.1) (vg_kept hPr hap hk1) hS1
theorem vg_callV {post : vv_S → Prop} (hfix : CallFix p m c cc nL s args lw_ok own) (hK : va_K D vv_cl (vv_tys ty) s) (hN : vv_Ne s) (hA : ∀ x : Nat, s.heap.size ≤ x → A x) (hP : va_P D vv_cl (vv_W w ty q σ) H) (hPr : va_P D vv_cl wr H) (hD : va_D A (vv_W w ty q σ)) (hap : ∀ (k : Nat) (x : Nat × va_E), wr[k]? = some x → ∀ i, i < w.2 → q i ≠ x.1) (hS : va_S A s.heap H locs)
    (hM : vv_MV (l, D, ty, q, w) y cc2 maxL2 ret2 fr2 lo2 (.ref (q b) :: As) σ post) (hy : vv_yok y cc2 maxL2 ret2 n) (hv : vv_vok y) (hl : Cond.methodLink own idx y ∈ lw_ok) (hk : vv_cl[ci]? = some (y.cls, T, N)) (hs : b < w.2 ∧ w.1 b = .inl (ci, fl)) (hd : decode cc pc = .ok (.invokevirtual idx, 3)) (hn : As.length = n) (hsz : ls.size = nL) (hst : As.reverse ++ .ref (q b) :: rest = stk) (hR : fr2 + 1 ≤ R.frames ∧ 8 + (maxL2 + 11) + lo2 ≤ R.locals) (hc : cells ≤ R.cells ∧ slots ≤ R.slots) (hW : (rest.map fun v => v.category).sum ≤ 8)
    (kk : ∀ (σ' : vv_S) (H1 : Heap) (locs1 : List Loc), post σ' → va_P D vv_cl (vv_W w ty q σ') H1 → va_P D vv_cl wr H1 → va_S A s.heap H1 locs1 → W p l e R s m args below meth c H1 locs1 cells slots Q (F0 m (pc + 3) ls rest)) : W p l e R s m args below meth c H locs cells slots Q (F0 m pc ls stk) := by
  subst hst
  have hts := hfix.2.2.2.2
  have he : (vv_W w ty q σ)[b]? = some (q b, .inr (ci, vv_fs q (σ b) 0 fl)) := by rw [vv_W_get hs.1, hs.2]; rfl
  refine va_callv (va_runV (As := As) (rest := rest) hfix (hM H.size) ⟨callB_of n hts (lw_good hy.1) rfl rfl rfl (hts _ hy.2.1) (hts _ hl) hy.2.2 hR, hts _ hv.1, hts _ hv.2⟩ ⟨vv_blind, va_recv hK hP hk he, vg_pre hK hN hP hD _⟩ rfl hn hsz rfl (lv_room hW) hd hc) hS (fun x _ h => vg_frees hA hD hS x h) (vg_frees hA hD hS) (fun σ' t H1 locs1 ht hvm hw hB hz1 hk1 hS1 => ?_)
  exact kk σ' H1 locs1 hw (by rw [← ht]; exact hB.1) (vg_kept hPr hap hk1) hS1
end VG

/-! ===== the first text: a String constant's length and letters ===== -/
def tFT : List Int32 := [99, 49, 48, 44, 48, 59, 99, 56, 44, 49, 59, 99, 49, 50, 44, 51, 59, 98, 50, 48, 44, 50, 48, 59, 97, 54, 44, 49, 59, 102, 48, 44, 57, 59, 112, 51, 44, 49, 44, 48, 44, 50, 59, 112, 49, 44, 50, 44, 49, 44, 48, 59, 106, 48, 44, 48, 44, 54, 59, 106, 49, 44, 49, 44, 52, 59]
def fTX (j : Nat) : Int32 := tFT.getD j 0
def vz_S (k v : Nat) (r : Option Nat) (A : Nat → Prop) (U : State) (H : Heap) : Prop :=
  va_O "java/lang/String" k A U H ∧ va_OF "java/lang/String" "coder" "B" (.int 0) k A U H ∧ va_OF "java/lang/String" "value" "[B" (.ref v) k A U H ∧ va_T .byte v 66 (fun j => .int (fTX j)) A U H ∧ va_Z "java/lang/String" "COMPACT_STRINGS" "Z" (.int 1) A U H ∧ va_Z "jdk/internal/util/Preconditions" "SIOOBE_FORMATTER" "Ljava/util/function/BiFunction;" (va_rf r) A U H
theorem vz_S.moved {k v : Nat} {r : Option Nat} {A : Nat → Prop} {u U : State} {H : Heap} (hvm : u.vm.Alike U.vm) (h : vz_S k v r A u H) : vz_S k v r A U H := ⟨h.1.moved hvm, h.2.1.moved hvm, h.2.2.1.moved hvm, h.2.2.2.1.moved hvm, h.2.2.2.2.1.moved hvm, h.2.2.2.2.2.moved hvm⟩
theorem vz_S.kept {k v : Nat} {r : Option Nat} {A : Nat → Prop} {U : State} {H H1 : Heap} (h : vz_S k v r A U H) (hq : ∀ a : Nat, a < H.size → ¬ A a → H1[a]? = H[a]?) : vz_S k v r A U H1 := ⟨h.1.kept hq, h.2.1.kept hq, h.2.2.1.kept hq, h.2.2.2.1.kept hq, h.2.2.2.2.1.kept hq, h.2.2.2.2.2.kept hq⟩
theorem vz_S.narrow {k v : Nat} {r : Option Nat} {A B : Nat → Prop} {U : State} {H : Heap} (h : vz_S k v r A U H) (hAB : ∀ q, B q → A q) : vz_S k v r B U H := ⟨h.1.narrow hAB, h.2.1.narrow hAB, h.2.2.1.narrow hAB, h.2.2.2.1.narrow hAB, h.2.2.2.2.1.narrow hAB, h.2.2.2.2.2.narrow hAB⟩
/-- a contract of a method that makes and writes nothing -/
def vz_M (l : Launch) (k v : Nat) (r : Option Nat) (y : MethodName) (cc : ByteArray) (maxL : Nat) (ret : Option FieldType) (fr lo : Nat) (av : List Value) (R : Int32) : Prop :=
  ∀ sz : Nat, Met l y (.code y cc maxL ret :: lw_ok) { frames := fr, cells := 0, slots := 0, locals := lo } (va_Pc av (fun U => U.heap.size = sz ∧ vz_S k v r (va_A [] sz) U U.heap)) (va_Qi (fun (x : Int32) (_ : Unit) => x = R) (fun _ _ => True) (va_A [] sz)) 0 0 (va_A [] sz)
def vz_MV (l : Launch) (k v : Nat) (r : Option Nat) (y : MethodName) (cc : ByteArray) (maxL : Nat) (fr lo : Nat) (av : List Value) : Prop :=
  ∀ sz : Nat, Met l y (.code y cc maxL none :: lw_ok) { frames := fr, cells := 0, slots := 0, locals := lo } (va_Pc av (fun U => U.heap.size = sz ∧ vz_S k v r (va_A [] sz) U U.heap)) (va_Qv (fun (_ : Unit) => True) (fun _ _ => True) (va_A [] sz)) 0 0 (va_A [] sz)
def VZ (k v : Nat) (r : Option Nat) (p : Program) (s : State) (m : MethodId) (args : Array Value) (meth : Method) (c : Code) (A : Nat → Prop) (own : String) (cc : ByteArray) (nL : Nat) (ret : Option FieldType) : Prop :=
  p.tables.exec = Jvm.exec ∧ c.code = cc ∧ c.maxLocals = nL ∧ s.vm.findClass own = some m.cls ∧ (∀ w ∈ lw_ok, w.before args s = true) ∧ (∀ q : Nat, s.heap.size ≤ q → A q) ∧ meth.locks = false ∧ meth.sig.returnType = ret ∧ vz_S k v r A s s.heap
section VZR
variable {p : Program} {l : Launch} {e : Env} {R : Room} {s : State} {m : MethodId} {args : Array Value} {below : List Frame} {meth : Method} {c : Code} {H : Heap} {locs : List Loc} {cells slots : Nat} {Q : State → Prop}
variable {k v : Nat} {r : Option Nat} {A : Nat → Prop} {own : String} {cc : ByteArray} {nL pc : Nat} {ret : Option FieldType} {ls : Array Slot} {rest : List Value}
theorem VZ.hx (C : VZ k v r p s m args meth c A own cc nL ret) : p.tables.exec = Jvm.exec := C.1
theorem VZ.hb (C : VZ k v r p s m args meth c A own cc nL ret) : c.code = cc := C.2.1
theorem VZ.hml (C : VZ k v r p s m args meth c A own cc nL ret) : c.maxLocals = nL := C.2.2.1
theorem VZ.hown (C : VZ k v r p s m args meth c A own cc nL ret) : s.vm.findClass own = some m.cls := C.2.2.2.1
theorem VZ.hts (C : VZ k v r p s m args meth c A own cc nL ret) : ∀ w ∈ lw_ok, w.before args s = true := C.2.2.2.2.1
theorem VZ.hA (C : VZ k v r p s m args meth c A own cc nL ret) : ∀ q : Nat, s.heap.size ≤ q → A q := C.2.2.2.2.2.1
theorem VZ.hlk (C : VZ k v r p s m args meth c A own cc nL ret) : meth.locks = false := C.2.2.2.2.2.2.1
theorem VZ.hr (C : VZ k v r p s m args meth c A own cc nL ret) : meth.sig.returnType = ret := C.2.2.2.2.2.2.2.1
theorem VZ.hZ (C : VZ k v r p s m args meth c A own cc nL ret) : vz_S k v r A s s.heap := C.2.2.2.2.2.2.2.2
theorem VZ.fix (C : VZ k v r p s m args meth c A own cc nL ret) : CallFix p m c cc nL s args lw_ok own := ⟨C.hx, C.hb, C.hml, C.hown, C.hts⟩
theorem vz_blind {av : List Value} {sz : Nat} : FrameBlind (va_Pc av (fun U => U.heap.size = sz ∧ vz_S k v r (va_A [] sz) U U.heap)) := fun a U g mk q => by
  obtain ⟨q0, q1, q2⟩ := q
  exact ⟨q0, q1, vz_S.moved (u := U) (U := U.calling g mk a) (Vm.Alike.refl U.vm) q2⟩
theorem vz_A (hA : ∀ q : Nat, s.heap.size ≤ q → A q) (hS : va_S A s.heap H locs) : ∀ q, va_A [] H.size q → A q := fun q h => by
  rcases h with ⟨k, e, h⟩ | h
  · simp at h
  · exact hA q (Nat.le_trans hS.1 h)
theorem vz_pre (hA : ∀ q : Nat, s.heap.size ≤ q → A q) (hZ : vz_S k v r A s s.heap) (hS : va_S A s.heap H locs) (av : List Value) : ∀ U : State, U.heap = H → s.WarmedH U.vm → va_Pc av (fun U => U.heap.size = H.size ∧ vz_S k v r (va_A [] H.size) U U.heap) av.toArray U := fun U hU hW =>
  ⟨rfl, by rw [hU], by rw [hU]; exact ((hZ.kept (fun a h1 h2 => hS.2.1 a h1 h2)).narrow (vz_A hA hS)).moved hW.alike⟩
theorem vz_runS (C : VZ k v r p s m args meth c A own cc nL ret) {y : MethodName} {cc2 : ByteArray} {maxL2 : Nat} {ret2 : Option FieldType} {fr2 lo2 n idx : Nat} {As stk : List Value} {Rv : Int32} (hM : vz_M l k v r y cc2 maxL2 ret2 fr2 lo2 As Rv) (hy : vv_yok y cc2 maxL2 ret2 n) (hv : Cond.static y ∈ lw_ok) (hl : Cond.methodLink own idx y ∈ lw_ok) (hS : va_S A s.heap H locs) (hn : As.length = n) (hsz : ls.size = nL) (hst : As.reverse ++ rest = stk) (hW : (rest.map fun v => v.category).sum ≤ 8) (hd : decode cc pc = .ok (.invokestatic idx, 3)) (hR : fr2 + 1 ≤ R.frames ∧ 8 + (maxL2 + 11) + lo2 ≤ R.locals) (hc : cells ≤ R.cells ∧ slots ≤ R.slots)
    (kk : ∀ (H1 : Heap) (locs1 : List Loc), va_S A s.heap H1 locs1 → W p l e R s m args below meth c H1 locs1 cells slots Q (F0 m (pc + 3) ls (.int Rv :: rest))) : W p l e R s m args below meth c H locs cells slots Q (F0 m pc ls stk) := by
  subst hst
  refine va_calli (va_runS (As := As) (rest := rest) C.fix (hM H.size) ⟨callB_of n C.hts (lw_good hy.1) rfl rfl rfl (C.hts _ hy.2.1) (C.hts _ hl) hy.2.2 hR, C.hts _ hv⟩ ⟨vz_blind, vz_pre C.hA C.hZ hS As⟩ rfl hn hsz rfl (lv_room hW) hd hc) hS (fun q _ h => vz_A C.hA hS q h) (vz_A C.hA hS) (fun x u t H1 locs1 ht hvm hw hB hz1 hk1 hS1 => ?_)
  subst hw
  exact kk H1 locs1 hS1
theorem vz_runSv (C : VZ k v r p s m args meth c A own cc nL ret) {y : MethodName} {cc2 : ByteArray} {maxL2 : Nat} {fr2 lo2 n idx : Nat} {As stk : List Value} (hM : vz_MV l k v r y cc2 maxL2 fr2 lo2 As) (hy : vv_yok y cc2 maxL2 none n) (hv : Cond.static y ∈ lw_ok) (hl : Cond.methodLink own idx y ∈ lw_ok) (hS : va_S A s.heap H locs) (hn : As.length = n) (hsz : ls.size = nL) (hst : As.reverse ++ rest = stk) (hW : (rest.map fun v => v.category).sum ≤ 8) (hd : decode cc pc = .ok (.invokestatic idx, 3)) (hR : fr2 + 1 ≤ R.frames ∧ 8 + (maxL2 + 11) + lo2 ≤ R.locals) (hc : cells ≤ R.cells ∧ slots ≤ R.slots)
    (kk : ∀ (H1 : Heap) (locs1 : List Loc), va_S A s.heap H1 locs1 → W p l e R s m args below meth c H1 locs1 cells slots Q (F0 m (pc + 3) ls rest)) : W p l e R s m args below meth c H locs cells slots Q (F0 m pc ls stk) := by
  subst hst
  refine va_callv (va_runS (As := As) (rest := rest) C.fix (hM H.size) ⟨callB_of n C.hts (lw_good hy.1) rfl rfl rfl (C.hts _ hy.2.1) (C.hts _ hl) hy.2.2 hR, C.hts _ hv⟩ ⟨vz_blind, vz_pre C.hA C.hZ hS As⟩ rfl hn hsz rfl (lv_room hW) hd hc) hS (fun q _ h => vz_A C.hA hS q h) (vz_A C.hA hS) (fun u t H1 locs1 ht hvm hw hB hz1 hk1 hS1 => ?_)
  exact kk H1 locs1 hS1
/-- on the String itself -/
theorem vz_runV (hfix : CallFix p m c cc nL s args lw_ok own) (hA : ∀ q : Nat, s.heap.size ≤ q → A q) (hZ : vz_S k v r A s s.heap) {y : MethodName} {cc2 : ByteArray} {maxL2 : Nat} {ret2 : Option FieldType} {fr2 lo2 n idx : Nat} {As stk : List Value} {Rv : Int32} (hM : vz_M l k v r y cc2 maxL2 ret2 fr2 lo2 (.ref k :: As) Rv) (hy : vv_yok y cc2 maxL2 ret2 n) (hyc : y.cls = "java/lang/String") (hv : vv_vok y) (hl : Cond.methodLink own idx y ∈ lw_ok) (hS : va_S A s.heap H locs) (hn : As.length = n) (hsz : ls.size = nL) (hst : As.reverse ++ .ref k :: rest = stk) (hW : (rest.map fun v => v.category).sum ≤ 8) (hd : decode cc pc = .ok (.invokevirtual idx, 3)) (hR : fr2 + 1 ≤ R.frames ∧ 8 + (maxL2 + 11) + lo2 ≤ R.locals) (hc : cells ≤ R.cells ∧ slots ≤ R.slots)
    (kk : ∀ (H1 : Heap) (locs1 : List Loc), va_S A s.heap H1 locs1 → (∀ q : Nat, q < H.size → H1[q]? = H[q]?) → W p l e R s m args below meth c H1 locs1 cells slots Q (F0 m (pc + 3) ls (.int Rv :: rest))) : W p l e R s m args below meth c H locs cells slots Q (F0 m pc ls stk) := by
  subst hst
  have hts := hfix.2.2.2.2
  obtain ⟨cell, g1, g2, g3, -⟩ := hZ.1.kept (fun a h1 h2 => hS.2.1 a h1 h2)
  refine va_calli (va_runV (As := As) (rest := rest) (C := y.cls) hfix (hM H.size) ⟨callB_of n hts (lw_good hy.1) rfl rfl rfl (hts _ hy.2.1) (hts _ hl) hy.2.2 hR, hts _ hv.1, hts _ hv.2⟩ ⟨vz_blind, ⟨cell, g1, g2, by rw [hyc]; exact g3⟩, vz_pre hA hZ hS (.ref k :: As)⟩ rfl hn hsz rfl (lv_room hW) hd hc) hS (fun q _ h => vz_A hA hS q h) (vz_A hA hS) (fun x u t H1 locs1 ht hvm hw hB hz1 hk1 hS1 => ?_)
  subst hw
  refine kk H1 locs1 hS1 (fun q hq => hk1 q hq (fun h => ?_))
  rcases h with ⟨j, e, h⟩ | h
  · simp at h
  · omega
end VZR
theorem vz_of {l : Launch} {k v : Nat} {r : Option Nat} {y : MethodName} {cc : ByteArray} {maxL : Nat} {ret : Option FieldType} {fr lo : Nat} {av : List Value} {Rv : Int32} (hy : plainName y.cls = true) (hlen : (lg_sl av).length ≤ maxL)
    (body : ∀ (p : Program) (e : Env) (s : State) (m : MethodId) (args : Array Value) (below : List Frame) (meth : Method) (c : Code) (A : Nat → Prop) (ls : Array Slot) (Q : State → Prop), VZ k v r p s m args meth c A y.cls cc maxL ret → va_S A s.heap s.heap [] → lv_has ls maxL (lv_args 0 av) →
      (∀ (H : Heap) (locs : List Loc) (pc : Nat) (ls : Array Slot) (ty : FieldType), ret = some ty → narrow ty (.int Rv) = .int Rv → va_S A s.heap H locs → decode cc pc = .ok (.ireturn, 1) → W p l e { frames := fr, cells := 0, slots := 0, locals := lo } s m args below meth c H locs 0 0 Q (F0 m pc ls [.int Rv])) →
      W p l e { frames := fr, cells := 0, slots := 0, locals := lo } s m args below meth c s.heap [] 0 0 Q (F0 m 0 ls [])) : vz_M l k v r y cc maxL ret fr lo av Rv := by
  intro sz
  refine Met.ofW (cc := cc) (maxL := maxL) (ret := ret) hy rfl ?_
  intro p e s m args below meth c s₁ B hml hv
  obtain ⟨rfl, hsz, hZ⟩ := hv
  subst hsz
  have hts := atoms_spec (ws := .code y cc maxL ret :: lw_ok) B.pre
  have hl := lv_entry av (n := maxL) hlen
  have hrr := B.returns
  have hlk := B.notSynchronized
  have hxx := B.exec
  have hbb := B.bytes
  rw [lg_entry_eq]
  refine body p e s m _ below meth c (va_A [] s.heap.size) _ _ ⟨hxx, hbb, hml, findClass_of_methodNamed B.named, fun w hw => hts w (List.mem_cons_of_mem _ hw), fun q h => Or.inr h, hlk, hrr, hZ⟩ va_S.rf hl ?_
  intro H locs pc ls' ty hty hn hS1 hd
  exact W.zret hxx hbb (hrr.trans hty) hn (fun t ht hW => ⟨⟨Rv, (), rfl, rfl, trivial⟩, hS1.F ht⟩) hS1.2.2 hd hlk
theorem vz_ofV {l : Launch} {k v : Nat} {r : Option Nat} {y : MethodName} {cc : ByteArray} {maxL : Nat} {fr lo : Nat} {av : List Value} (hy : plainName y.cls = true) (hlen : (lg_sl av).length ≤ maxL)
    (body : ∀ (p : Program) (e : Env) (s : State) (m : MethodId) (args : Array Value) (below : List Frame) (meth : Method) (c : Code) (A : Nat → Prop) (ls : Array Slot) (Q : State → Prop), VZ k v r p s m args meth c A y.cls cc maxL none → va_S A s.heap s.heap [] → lv_has ls maxL (lv_args 0 av) →
      (∀ (H : Heap) (locs : List Loc) (pc : Nat) (ls : Array Slot), va_S A s.heap H locs → decode cc pc = .ok (.return_, 1) → W p l e { frames := fr, cells := 0, slots := 0, locals := lo } s m args below meth c H locs 0 0 Q (F0 m pc ls [])) →
      W p l e { frames := fr, cells := 0, slots := 0, locals := lo } s m args below meth c s.heap [] 0 0 Q (F0 m 0 ls [])) : vz_MV l k v r y cc maxL fr lo av := by
  intro sz
  refine Met.ofW (cc := cc) (maxL := maxL) (ret := none) hy rfl ?_
  intro p e s m args below meth c s₁ B hml hv
  obtain ⟨rfl, hsz, hZ⟩ := hv
  subst hsz
  have hts := atoms_spec (ws := .code y cc maxL none :: lw_ok) B.pre
  have hl := lv_entry av (n := maxL) hlen
  have hrr := B.returns
  have hlk := B.notSynchronized
  have hxx := B.exec
  have hbb := B.bytes
  rw [lg_entry_eq]
  refine body p e s m _ below meth c (va_A [] s.heap.size) _ _ ⟨hxx, hbb, hml, findClass_of_methodNamed B.named, fun w hw => hts w (List.mem_cons_of_mem _ hw), fun q h => Or.inr h, hlk, hrr, hZ⟩ va_S.rf hl ?_
  intro H locs pc ls' hS1 hd
  exact W.vret hxx hbb hrr (fun t ht hW => ⟨⟨(), rfl, trivial, trivial⟩, hS1.F ht⟩) hS1.2.2 hd hlk
theorem cz_coder (l : Launch) (k v : Nat) (r : Option Nat) : vz_M l k v r yJ0_coder_7d493 cJ0_coder_7d493 1 (some .byte) 0 0 [.ref k] 0 := by
  refine vz_of (by decide) (Nat.le_of_ble_eq_true rfl) ?_
  intro p e s m args below meth c A ls Q C hS hl fin
  have C : VZ k v r p s m args meth c A RJ0 cJ0_coder_7d493 1 (some .byte) := C
  have hl : lv_has ls 1 [(0, .ref k)] := hl
  refine va_gets C.hx C.hb C.hZ.2.2.2.2.1 hS C.hown (C.hts _ fk_J0_38) (fun _ h => h) dJ0_coder_7d493_0 ?_
  refine lv_if_eq (tgt := 13) C.hx C.hb dJ0_coder_7d493_3 (by decide) (fun h => absurd h (by decide)) (fun _ => ?_)
  refine lv_aload_n C.hx C.hb dJ0_coder_7d493_6 rfl (lv_at hl 0 rfl) ?_
  refine vk_getf C.hx C.hb C.hZ.2.1 hS C.hown (C.hts _ fk_J0_15) (fun _ h => h) dJ0_coder_7d493_7 ?_
  refine lv_goto (tgt := 14) C.hx C.hb dJ0_coder_7d493_10 (by decide) ?_
  exact fin s.heap [] 14 ls .byte rfl rfl hS dJ0_coder_7d493_14
theorem cz_isLatin1 (l : Launch) (k v : Nat) (r : Option Nat) : vz_M l k v r yJ0_isLatin1_aae02 cJ0_isLatin1_aae02 1 (some .boolean) 0 0 [.ref k] 1 := by
  refine vz_of (by decide) (Nat.le_of_ble_eq_true rfl) ?_
  intro p e s m args below meth c A ls Q C hS hl fin
  have C : VZ k v r p s m args meth c A RJ0 cJ0_isLatin1_aae02 1 (some .boolean) := C
  have hl : lv_has ls 1 [(0, .ref k)] := hl
  refine va_gets C.hx C.hb C.hZ.2.2.2.2.1 hS C.hown (C.hts _ fk_J0_38) (fun _ h => h) dJ0_isLatin1_aae02_0 ?_
  refine lv_if_eq (tgt := 17) C.hx C.hb dJ0_isLatin1_aae02_3 (by decide) (fun h => absurd h (by decide)) (fun _ => ?_)
  refine lv_aload_n C.hx C.hb dJ0_isLatin1_aae02_6 rfl (lv_at hl 0 rfl) ?_
  refine vk_getf C.hx C.hb C.hZ.2.1 hS C.hown (C.hts _ fk_J0_15) (fun _ h => h) dJ0_isLatin1_aae02_7 ?_
  refine lv_if_ne (tgt := 17) C.hx C.hb dJ0_isLatin1_aae02_10 (by decide) (fun h => absurd rfl h) (fun _ => ?_)
  refine lv_iconst (v := 1) C.hx C.hb dJ0_isLatin1_aae02_13 (by decide) ?_
  refine lv_goto (tgt := 18) C.hx C.hb dJ0_isLatin1_aae02_14 (by decide) ?_
  exact fin s.heap [] 18 ls .boolean rfl rfl hS dJ0_isLatin1_aae02_18
theorem cz_length (l : Launch) (k v : Nat) (r : Option Nat) : vz_M l k v r yJ0_length_8abf5 cJ0_length_8abf5 1 (some .int) 1 20 [.ref k] 66 := by
  refine vz_of (by decide) (Nat.le_of_ble_eq_true rfl) ?_
  intro p e s m args below meth c A ls Q C hS hl fin
  have C : VZ k v r p s m args meth c A RJ0 cJ0_length_8abf5 1 (some .int) := C
  have hl : lv_has ls 1 [(0, .ref k)] := hl
  refine lv_aload_n C.hx C.hb dJ0_length_8abf5_0 rfl (lv_at hl 0 rfl) ?_
  refine vk_getf C.hx C.hb C.hZ.2.2.1 hS C.hown (C.hts _ fk_J0_9) (fun _ h => h) dJ0_length_8abf5_1 ?_
  refine va_tlen C.hx C.hb C.hZ.2.2.2.1 hS (v := 66) (by decide) dJ0_length_8abf5_4 ?_
  refine lv_aload_n C.hx C.hb dJ0_length_8abf5_5 rfl (lv_at hl 0 rfl) ?_
  refine vz_runV (As := []) (rest := [.int 66]) C.fix C.hA C.hZ (cz_coder l k v r) yk_J0_coder_7d493 rfl vk_J0_coder_7d493 lk_J0_335 hS rfl hl.1 rfl (Nat.le_of_ble_eq_true rfl) dJ0_length_8abf5_6 ⟨Nat.le_of_ble_eq_true rfl, Nat.le_of_ble_eq_true rfl⟩ ⟨Nat.le_of_ble_eq_true rfl, Nat.le_of_ble_eq_true rfl⟩ (fun H locs hS _ => ?_)
  refine lv_ishr C.hx C.hb dJ0_length_8abf5_9 ?_
  exact fin H locs 10 ls .int rfl rfl hS dJ0_length_8abf5_10
theorem cz_pcheck (l : Launch) (k v : Nat) (r : Option Nat) {i : Nat} (hi : i < 66) : vz_M l k v r yJ3_checkIndex_8e157 cJ3_checkIndex_8e157 3 (some .int) 0 0 [.int (nI i), .int 66, va_rf r] (nI i) := by
  refine vz_of (by decide) (by cases r <;> exact Nat.le_of_ble_eq_true rfl) ?_
  intro p e s m args below meth c A ls Q C hS hl fin
  have C : VZ k v r p s m args meth c A RJ3 cJ3_checkIndex_8e157 3 (some .int) := C
  have hl : lv_has ls 3 [(0, .int (nI i)), (1, .int 66), (2, va_rf r)] := hl
  refine lv_iload_n C.hx C.hb dJ3_checkIndex_8e157_0 rfl (lv_at hl 0 rfl) ?_
  refine lv_if_lt (tgt := 9) C.hx C.hb dJ3_checkIndex_8e157_1 (by decide) (fun h => absurd h (nI_pos (by omega))) (fun _ => ?_)
  refine lv_iload_n C.hx C.hb dJ3_checkIndex_8e157_4 rfl (lv_at hl 0 rfl) ?_
  refine lv_iload_n C.hx C.hb dJ3_checkIndex_8e157_5 rfl (lv_at hl 1 rfl) ?_
  refine lv_icmp_lt (tgt := 16) C.hx C.hb dJ3_checkIndex_8e157_6 (by decide) (fun _ => ?_) (fun h => absurd (show nI i < nI 66 from nI_lt hi (by omega)) h)
  refine lv_iload_n C.hx C.hb dJ3_checkIndex_8e157_16 rfl (lv_at hl 0 rfl) ?_
  exact fin s.heap [] 17 ls .int rfl rfl hS dJ3_checkIndex_8e157_17
theorem cz_check (l : Launch) (k v : Nat) (r : Option Nat) {i : Nat} (hi : i < 66) : vz_MV l k v r yJ0_checkIndex_df160 cJ0_checkIndex_df160 2 1 22 [.int (nI i), .int 66] := by
  refine vz_ofV (by decide) (Nat.le_of_ble_eq_true rfl) ?_
  intro p e s m args below meth c A ls Q C hS hl fin
  have C : VZ k v r p s m args meth c A RJ0 cJ0_checkIndex_df160 2 none := C
  have hl : lv_has ls 2 [(0, .int (nI i)), (1, .int 66)] := hl
  refine lv_iload_n C.hx C.hb dJ0_checkIndex_df160_0 rfl (lv_at hl 0 rfl) ?_
  refine lv_iload_n C.hx C.hb dJ0_checkIndex_df160_1 rfl (lv_at hl 1 rfl) ?_
  refine va_gets C.hx C.hb C.hZ.2.2.2.2.2 hS C.hown (C.hts _ fk_J0_1053) (fun _ h => h) dJ0_checkIndex_df160_2 ?_
  refine vz_runS (As := [.int (nI i), .int 66, va_rf r]) (rest := []) C (cz_pcheck l k v r hi) yk_J3_checkIndex_8e157 sk_J3_checkIndex_8e157 lk_J0_1059 hS rfl hl.1 rfl (Nat.le_of_ble_eq_true rfl) dJ0_checkIndex_df160_5 ⟨Nat.le_of_ble_eq_true rfl, Nat.le_of_ble_eq_true rfl⟩ ⟨Nat.le_of_ble_eq_true rfl, Nat.le_of_ble_eq_true rfl⟩ (fun H locs hS => ?_)
  refine lv_pop C.hx C.hb dJ0_checkIndex_df160_8 rfl ?_
  exact fin H locs 9 ls hS dJ0_checkIndex_df160_9
theorem fTX_c : ∀ i, i < 66 → ((fTX i &&& 255).toUInt32 % 65536).toInt32 = fTX i ∧ narrow .char (.int (fTX i)) = .int (fTX i) := by decide +kernel
theorem cz_lcharAt (l : Launch) (k v : Nat) (r : Option Nat) {i : Nat} (hi : i < 66) : vz_M l k v r yJ1_charAt_3b067 cJ1_charAt_3b067 2 (some .char) 2 43 [.ref v, .int (nI i)] (fTX i) := by
  refine vz_of (by decide) (Nat.le_of_ble_eq_true rfl) ?_
  intro p e s m args below meth c A ls Q C hS hl fin
  have C : VZ k v r p s m args meth c A RJ1 cJ1_charAt_3b067 2 (some .char) := C
  have hl : lv_has ls 2 [(0, .ref v), (1, .int (nI i))] := hl
  refine lv_iload_n C.hx C.hb dJ1_charAt_3b067_0 rfl (lv_at hl 1 rfl) ?_
  refine lv_aload_n C.hx C.hb dJ1_charAt_3b067_1 rfl (lv_at hl 0 rfl) ?_
  refine va_tlen C.hx C.hb C.hZ.2.2.2.1 hS (v := 66) (by decide) dJ1_charAt_3b067_2 ?_
  refine vz_runSv (As := [.int (nI i), .int 66]) (rest := []) C (cz_check l k v r hi) yk_J0_checkIndex_df160 sk_J0_checkIndex_df160 lk_J1_9 hS rfl hl.1 rfl (Nat.le_of_ble_eq_true rfl) dJ1_charAt_3b067_3 ⟨Nat.le_of_ble_eq_true rfl, Nat.le_of_ble_eq_true rfl⟩ ⟨Nat.le_of_ble_eq_true rfl, Nat.le_of_ble_eq_true rfl⟩ (fun H locs hS => ?_)
  refine lv_aload_n C.hx C.hb dJ1_charAt_3b067_6 rfl (lv_at hl 0 rfl) ?_
  refine lv_iload_n C.hx C.hb dJ1_charAt_3b067_7 rfl (lv_at hl 1 rfl) ?_
  refine va_tb C.hx C.hb C.hZ.2.2.2.1 hS (v := .int (fTX i)) (vp_in_nI hi (by decide)) (by rw [nI_clamp (by omega)]) dJ1_charAt_3b067_8 ?_
  refine lv_sipush (v := 255) C.hx C.hb dJ1_charAt_3b067_9 (by decide) ?_
  refine lv_iand C.hx C.hb dJ1_charAt_3b067_12 ?_
  refine lv_i2c (v := fTX i) C.hx C.hb dJ1_charAt_3b067_13 (fTX_c i hi).1 ?_
  exact fin H locs 14 ls .char rfl (fTX_c i hi).2 hS dJ1_charAt_3b067_14
theorem cz_charAt (l : Launch) (k v : Nat) (r : Option Nat) {i : Nat} (hi : i < 66) : vz_M l k v r yJ0_charAt_5068e cJ0_charAt_5068e 2 (some .char) 3 64 [.ref k, .int (nI i)] (fTX i) := by
  refine vz_of (by decide) (Nat.le_of_ble_eq_true rfl) ?_
  intro p e s m args below meth c A ls Q C hS hl fin
  have C : VZ k v r p s m args meth c A RJ0 cJ0_charAt_5068e 2 (some .char) := C
  have hl : lv_has ls 2 [(0, .ref k), (1, .int (nI i))] := hl
  refine lv_aload_n C.hx C.hb dJ0_charAt_5068e_0 rfl (lv_at hl 0 rfl) ?_
  refine vz_runV (As := []) (rest := []) C.fix C.hA C.hZ (cz_isLatin1 l k v r) yk_J0_isLatin1_aae02 rfl vk_J0_isLatin1_aae02 lk_J0_492 hS rfl hl.1 rfl (Nat.le_of_ble_eq_true rfl) dJ0_charAt_5068e_1 ⟨Nat.le_of_ble_eq_true rfl, Nat.le_of_ble_eq_true rfl⟩ ⟨Nat.le_of_ble_eq_true rfl, Nat.le_of_ble_eq_true rfl⟩ (fun H locs hS _ => ?_)
  refine lv_if_eq (tgt := 16) C.hx C.hb dJ0_charAt_5068e_4 (by decide) (fun h => absurd h (by decide)) (fun _ => ?_)
  refine lv_aload_n C.hx C.hb dJ0_charAt_5068e_7 rfl (lv_at hl 0 rfl) ?_
  refine vk_getf C.hx C.hb C.hZ.2.2.1 hS C.hown (C.hts _ fk_J0_9) (fun _ h => h) dJ0_charAt_5068e_8 ?_
  refine lv_iload_n C.hx C.hb dJ0_charAt_5068e_11 rfl (lv_at hl 1 rfl) ?_
  refine vz_runS (As := [.ref v, .int (nI i)]) (rest := []) C (cz_lcharAt l k v r hi) yk_J1_charAt_3b067 sk_J1_charAt_3b067 lk_J0_495 hS rfl hl.1 rfl (Nat.le_of_ble_eq_true rfl) dJ0_charAt_5068e_12 ⟨Nat.le_of_ble_eq_true rfl, Nat.le_of_ble_eq_true rfl⟩ ⟨Nat.le_of_ble_eq_true rfl, Nat.le_of_ble_eq_true rfl⟩ (fun H locs hS => ?_)
  exact fin H locs 15 ls .char rfl (fTX_c i hi).2 hS dJ0_charAt_5068e_15

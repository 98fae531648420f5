theorem lw_good {y : MethodName} {cc : ByteArray} {maxL : Nat} {ret : Option FieldType} (h : Cond.code y cc maxL ret ∈ lw_ok) : GoodIn lw_ok (.code y cc maxL ret :: lw_ok) := by
  intro w hw
  have hm : w ∈ lw_ok := by
    rcases List.mem_cons.mp hw with rfl | h2
    · exact h
    · exact h2
  exact ⟨hm, good_of_word (List.mem_filter.mp hm).2⟩
/-- contracts over a world of fixed shape: from σ, with these arguments, what 'post' says comes of it -/
def vv_MI (Y : vv_Y) (y : MethodName) (cc : ByteArray) (maxL : Nat) (ret : Option FieldType) (fr lo : Nat) (av : List Value) (σ : vv_S) (post : Int32 → vv_S → Prop) : Prop :=
  ∀ sz : Nat, Met Y.1 y (.code y cc maxL ret :: lw_ok) { frames := fr, cells := 0, slots := 0, locals := lo } (va_Pc av (fun U => U.heap.size = sz ∧ vv_B Y σ U ∧ vv_Ne U ∧ va_D (fun _ => True) (vv_w Y σ))) (va_Qi post (vv_B Y) (va_A (vv_w Y σ) sz)) 0 0 (va_A (vv_w Y σ) sz)
def vv_MV (Y : vv_Y) (y : MethodName) (cc : ByteArray) (maxL : Nat) (ret : Option FieldType) (fr lo : Nat) (av : List Value) (σ : vv_S) (post : vv_S → Prop) : Prop :=
  ∀ sz : Nat, Met Y.1 y (.code y cc maxL ret :: lw_ok) { frames := fr, cells := 0, slots := 0, locals := lo } (va_Pc av (fun U => U.heap.size = sz ∧ vv_B Y σ U ∧ vv_Ne U ∧ va_D (fun _ => True) (vv_w Y σ))) (va_Qv post (vv_B Y) (va_A (vv_w Y σ) sz)) 0 0 (va_A (vv_w Y σ) sz)
/-- the answer is the cell r -/
def vv_MR (Y : vv_Y) (y : MethodName) (cc : ByteArray) (maxL : Nat) (ret : Option FieldType) (fr lo : Nat) (av : List Value) (σ : vv_S) (r : Nat) (post : vv_S → Prop) : Prop :=
  ∀ sz : Nat, Met Y.1 y (.code y cc maxL ret :: lw_ok) { frames := fr, cells := 0, slots := 0, locals := lo } (va_Pc av (fun U => U.heap.size = sz ∧ vv_B Y σ U ∧ vv_Ne U ∧ va_D (fun _ => True) (vv_w Y σ))) (va_Qr post (fun u a t => a = vv_q Y r ∧ vv_B Y u t) (va_A (vv_w Y σ) sz)) 0 0 (va_A (vv_w Y σ) sz)
section VM
variable {Y : vv_Y} {y : MethodName} {cc : ByteArray} {maxL : Nat} {ret : Option FieldType} {fr lo : Nat} {av : List Value} {σ : vv_S}
theorem vv_ofI {post : Int32 → vv_S → Prop} (hy : plainName y.cls = true) (hlen : (lg_sl av).length ≤ maxL) (body : ∀ X : vv_X, VC Y X y.cls cc maxL ret fr lo → VJ Y X (va_Qi post (vv_B Y) X.2) maxL 0 (lv_args 0 av) [] σ) : vv_MI Y y cc maxL ret fr lo av σ post := by
  intro sz
  refine Met.ofW (cc := cc) (maxL := maxL) (ret := ret) hy rfl ?_
  intro p e s m args below meth c s₁ B hml hv
  obtain ⟨rfl, hsz, ⟨hP, hK⟩, hN, hD0⟩ := hv
  subst hsz
  have hts := atoms_spec (ws := .code y cc maxL ret :: lw_ok) B.pre
  have hb := body ((p, e, _, s, m, av.toArray, below, meth, c), va_A (vv_w Y σ) s.heap.size) ⟨B.exec, B.bytes, hml, findClass_of_methodNamed B.named, fun w hw => hts w (List.mem_cons_of_mem _ hw), hK, fun q h => Or.inr h, B.notSynchronized, vv_W_D (hD0.self (sz := s.heap.size)), B.returns, rfl, hN⟩
  have hl := lv_entry av (n := maxL) hlen
  rw [lg_entry_eq]
  exact hb s.heap [] _ hP va_S.rf hl
theorem vv_ofV {post : vv_S → Prop} (hy : plainName y.cls = true) (hlen : (lg_sl av).length ≤ maxL) (body : ∀ X : vv_X, VC Y X y.cls cc maxL ret fr lo → VJ Y X (va_Qv post (vv_B Y) X.2) maxL 0 (lv_args 0 av) [] σ) : vv_MV Y y cc maxL ret fr lo av σ post := by
  intro sz
  refine Met.ofW (cc := cc) (maxL := maxL) (ret := ret) hy rfl ?_
  intro p e s m args below meth c s₁ B hml hv
  obtain ⟨rfl, hsz, ⟨hP, hK⟩, hN, hD0⟩ := hv
  subst hsz
  have hts := atoms_spec (ws := .code y cc maxL ret :: lw_ok) B.pre
  have hb := body ((p, e, _, s, m, av.toArray, below, meth, c), va_A (vv_w Y σ) s.heap.size) ⟨B.exec, B.bytes, hml, findClass_of_methodNamed B.named, fun w hw => hts w (List.mem_cons_of_mem _ hw), hK, fun q h => Or.inr h, B.notSynchronized, vv_W_D (hD0.self (sz := s.heap.size)), B.returns, rfl, hN⟩
  have hl := lv_entry av (n := maxL) hlen
  rw [lg_entry_eq]
  exact hb s.heap [] _ hP va_S.rf hl
theorem vv_ofR {r : Nat} {post : vv_S → Prop} (hy : plainName y.cls = true) (hlen : (lg_sl av).length ≤ maxL) (body : ∀ X : vv_X, VC Y X y.cls cc maxL ret fr lo → VJ Y X (va_Qr post (fun u a t => a = vv_q Y r ∧ vv_B Y u t) X.2) maxL 0 (lv_args 0 av) [] σ) : vv_MR Y y cc maxL ret fr lo av σ r post := by
  intro sz
  refine Met.ofW (cc := cc) (maxL := maxL) (ret := ret) hy rfl ?_
  intro p e s m args below meth c s₁ B hml hv
  obtain ⟨rfl, hsz, ⟨hP, hK⟩, hN, hD0⟩ := hv
  subst hsz
  have hts := atoms_spec (ws := .code y cc maxL ret :: lw_ok) B.pre
  have hb := body ((p, e, _, s, m, av.toArray, below, meth, c), va_A (vv_w Y σ) s.heap.size) ⟨B.exec, B.bytes, hml, findClass_of_methodNamed B.named, fun w hw => hts w (List.mem_cons_of_mem _ hw), hK, fun q h => Or.inr h, B.notSynchronized, vv_W_D (hD0.self (sz := s.heap.size)), B.returns, rfl, hN⟩
  have hl := lv_entry av (n := maxL) hlen
  rw [lg_entry_eq]
  exact hb s.heap [] _ hP va_S.rf hl
end VM
/-- what a call needs of the tables -/
def vv_yok (y : MethodName) (cc : ByteArray) (maxL : Nat) (ret : Option FieldType) (n : Nat) : Prop := Cond.code y cc maxL ret ∈ lw_ok ∧ Cond.initialized y.cls ∈ lw_ok ∧ (y.cls ≠ "java/lang/invoke/MethodHandle" ∧ y.cls ≠ "java/lang/invoke/VarHandle" ∧ (parseMethodDescriptor y.desc).map (fun d => d.parameters.length) = some n)
def vv_vok (y : MethodName) : Prop := Cond.instanceMethod y ∈ lw_ok ∧ Cond.selects y.cls y y ∈ lw_ok
section VCA
variable {Y : vv_Y} {X : vv_X} {K : Array Value → State → Outcome → State → Prop} {own : String} {cc : ByteArray} {nL : Nat} {ret : Option FieldType} {fr lo pc : Nat} {L L' : List (Nat × Value)} {st : List Value} {σ : vv_S}
variable {y : MethodName} {cc2 : ByteArray} {maxL2 : Nat} {ret2 : Option FieldType} {fr2 lo2 n idx b ci N r : Nat} {fl : List Nat} {T : u_T} {As rest : List Value}
theorem vv_cwB (C : VC Y X own cc nL ret fr lo) (hy : vv_yok y cc2 maxL2 ret2 n) (hl : Cond.methodLink own idx y ∈ lw_ok) (hR : fr2 + 1 ≤ fr ∧ 8 + (maxL2 + 11) + lo2 ≤ lo) : CallB X.1.2.2.1 X.1.2.2.2.1 X.1.2.2.2.2.2.1 own idx y cc2 maxL2 ret2 (.code y cc2 maxL2 ret2 :: lw_ok) { frames := fr2, cells := 0, slots := 0, locals := lo2 } 0 0 n :=
  callB_of n C.hts (lw_good hy.1) rfl rfl rfl (C.hts _ hy.2.1) (C.hts _ hl) hy.2.2 (by rw [C.hR]; exact hR)
theorem vv_cnB (C : VC Y X own cc nL ret fr lo) {host : String} (hy : vv_yok y cc2 maxL2 ret2 n) (hl : (own, idx, y, host) ∈ vv_nest) (hR : fr2 + 1 ≤ fr ∧ 8 + (maxL2 + 11) + lo2 ≤ lo) : va_CN X.1.2.2.1 X.1.2.2.2.1 X.1.2.2.2.2.2.1 own idx y host cc2 maxL2 ret2 (.code y cc2 maxL2 ret2 :: lw_ok) { frames := fr2, cells := 0, slots := 0, locals := lo2 } 0 0 n :=
  va_cnB n C.hts (lw_good hy.1) rfl rfl rfl (C.hN _ hl) (C.hts _ hy.2.1) hy.2.2 (by rw [C.hR]; exact hR)
theorem vv_blind {av : List Value} {sz : Nat} : FrameBlind (va_Pc av (fun U => U.heap.size = sz ∧ vv_B Y σ U ∧ vv_Ne U ∧ va_D (fun _ => True) (vv_w Y σ))) := fun a U g mk q => by
  obtain ⟨q0, q1, ⟨qP, qK⟩, qN, qD⟩ := q
  exact ⟨q0, q1, ⟨qP, va_K.moved (u := U) (U := U.calling g mk a) (Vm.Alike.refl U.vm) qK⟩, vv_Ne.same (s := U) (U := U.calling g mk a) rfl qN, qD⟩
theorem vv_frees (C : VC Y X own cc nL ret fr lo) {H : Heap} {locs : List Loc} (hS : va_S X.2 X.1.2.2.2.1.heap H locs) : ∀ q, va_A (vv_w Y σ) H.size q → X.2 q := by
  intro q h
  rcases h with ⟨k, e, h⟩ | h
  · exact (C.hD σ).2 k _ h
  · exact C.hA q (Nat.le_trans hS.1 h)
theorem vv_pre (C : VC Y X own cc nL ret fr lo) {H : Heap} (hP : va_P Y.2.1 vv_cl (vv_w Y σ) H) (av : List Value) : ∀ U : State, U.heap = H → X.1.2.2.2.1.WarmedH U.vm → va_Pc av (fun U => U.heap.size = H.size ∧ vv_B Y σ U ∧ vv_Ne U ∧ va_D (fun _ => True) (vv_w Y σ)) av.toArray U :=
  fun U hU hW => ⟨rfl, by rw [hU], vv_B_of C hP hU hW, vv_Ne.warm hW C.hN, (C.hD σ).weaken (fun _ _ _ _ => trivial)⟩
theorem vv_cV (C : VC Y X own cc nL ret fr lo) (hy : vv_yok y cc2 maxL2 ret2 n) (hv : vv_vok y) (hl : Cond.methodLink own idx y ∈ lw_ok) (hR : fr2 + 1 ≤ fr ∧ 8 + (maxL2 + 11) + lo2 ≤ lo) : CallW X.1.2.2.1 X.1.2.2.2.1 X.1.2.2.2.2.2.1 own y.cls idx y cc2 maxL2 ret2 (.code y cc2 maxL2 ret2 :: lw_ok) { frames := fr2, cells := 0, slots := 0, locals := lo2 } 0 0 n :=
  ⟨vv_cwB C hy hl hR, C.hts _ hv.1, C.hts _ hv.2⟩
theorem vv_callI {post : Int32 → vv_S → Prop} (C : VC Y X own cc nL ret fr lo) (hy : vv_yok y cc2 maxL2 ret2 n) (hv : vv_vok y) (hl : Cond.methodLink own idx y ∈ lw_ok) (hk : vv_cl[ci]? = some (y.cls, T, N)) (hs : b < Y.2.2.2.2.2 ∧ vv_sh Y b = .inl (ci, fl)) (hd : decode cc pc = .ok (.invokevirtual idx, 3)) (hM : vv_MI Y y cc2 maxL2 ret2 fr2 lo2 (.ref (vv_q Y b) :: As) σ post) (hn : As.length = n) (hst : As.reverse ++ .ref (vv_q Y b) :: rest = st) (hR : fr2 + 1 ≤ fr ∧ 8 + (maxL2 + 11) + lo2 ≤ lo) (hW : (rest.map fun v => v.category).sum ≤ 8) (kk : ∀ r σ', post r σ' → VJ Y X K nL (pc + 3) L (.int r :: rest) σ') : VJ Y X K nL pc L st σ := by
  subst hst
  intro H locs ls hP hS h
  have he : (vv_w Y σ)[b]? = some (vv_q Y b, .inr (ci, vv_fs Y.2.2.2.1 (σ b) 0 fl)) := by rw [vv_W_get hs.1]; rw [show Y.2.2.2.2.1 b = .inl (ci, fl) from hs.2]; rfl
  refine va_calli (va_runV (As := As) (rest := rest) C.fix (hM H.size) (vv_cV C hy hv hl hR) ⟨vv_blind, va_recv C.hK hP hk he, vv_pre C hP _⟩ rfl hn h.1 rfl (lv_room hW) hd ⟨Nat.zero_le _, Nat.zero_le _⟩) hS (fun q _ h => vv_frees C hS q h) (vv_frees C hS) (fun r σ' t H1 locs1 ht hvm hw hB hz1 hk1 hS1 => ?_)
  exact kk r σ' hw H1 locs1 ls (by rw [← ht]; exact hB.1) hS1 h
theorem vv_callV {post : vv_S → Prop} (C : VC Y X own cc nL ret fr lo) (hy : vv_yok y cc2 maxL2 ret2 n) (hv : vv_vok y) (hl : Cond.methodLink own idx y ∈ lw_ok) (hk : vv_cl[ci]? = some (y.cls, T, N)) (hs : b < Y.2.2.2.2.2 ∧ vv_sh Y b = .inl (ci, fl)) (hd : decode cc pc = .ok (.invokevirtual idx, 3)) (hM : vv_MV Y y cc2 maxL2 ret2 fr2 lo2 (.ref (vv_q Y b) :: As) σ post) (hn : As.length = n) (hst : As.reverse ++ .ref (vv_q Y b) :: rest = st) (hR : fr2 + 1 ≤ fr ∧ 8 + (maxL2 + 11) + lo2 ≤ lo) (hW : (rest.map fun v => v.category).sum ≤ 8) (kk : ∀ σ', post σ' → VJ Y X K nL (pc + 3) L rest σ') : VJ Y X K nL pc L st σ := by
  subst hst
  intro H locs ls hP hS h
  have he : (vv_w Y σ)[b]? = some (vv_q Y b, .inr (ci, vv_fs Y.2.2.2.1 (σ b) 0 fl)) := by rw [vv_W_get hs.1]; rw [show Y.2.2.2.2.1 b = .inl (ci, fl) from hs.2]; rfl
  refine va_callv (va_runV (As := As) (rest := rest) C.fix (hM H.size) (vv_cV C hy hv hl hR) ⟨vv_blind, va_recv C.hK hP hk he, vv_pre C hP _⟩ rfl hn h.1 rfl (lv_room hW) hd ⟨Nat.zero_le _, Nat.zero_le _⟩) hS (fun q _ h => vv_frees C hS q h) (vv_frees C hS) (fun σ' t H1 locs1 ht hvm hw hB hz1 hk1 hS1 => ?_)
  exact kk σ' hw H1 locs1 ls (by rw [← ht]; exact hB.1) hS1 h
theorem vv_callR {post : vv_S → Prop} (C : VC Y X own cc nL ret fr lo) (hy : vv_yok y cc2 maxL2 ret2 n) (hv : vv_vok y) (hl : Cond.methodLink own idx y ∈ lw_ok) (hk : vv_cl[ci]? = some (y.cls, T, N)) (hs : b < Y.2.2.2.2.2 ∧ vv_sh Y b = .inl (ci, fl)) (hd : decode cc pc = .ok (.invokevirtual idx, 3)) (hM : vv_MR Y y cc2 maxL2 ret2 fr2 lo2 (.ref (vv_q Y b) :: As) σ r post) (hn : As.length = n) (hst : As.reverse ++ .ref (vv_q Y b) :: rest = st) (hR : fr2 + 1 ≤ fr ∧ 8 + (maxL2 + 11) + lo2 ≤ lo) (hW : (rest.map fun v => v.category).sum ≤ 8) (kk : ∀ σ', post σ' → VJ Y X K nL (pc + 3) L (.ref (vv_q Y r) :: rest) σ') : VJ Y X K nL pc L st σ := by
  subst hst
  intro H locs ls hP hS h
  have he : (vv_w Y σ)[b]? = some (vv_q Y b, .inr (ci, vv_fs Y.2.2.2.1 (σ b) 0 fl)) := by rw [vv_W_get hs.1]; rw [show Y.2.2.2.2.1 b = .inl (ci, fl) from hs.2]; rfl
  refine va_callr (va_runV (As := As) (rest := rest) C.fix (hM H.size) (vv_cV C hy hv hl hR) ⟨vv_blind, va_recv C.hK hP hk he, vv_pre C hP _⟩ rfl hn h.1 rfl (lv_room hW) hd ⟨Nat.zero_le _, Nat.zero_le _⟩) hS (fun q _ h => vv_frees C hS q h) (vv_frees C hS) (fun σ' ra t H1 locs1 ht hvm hw hB hz1 hk1 hS1 => ?_)
  obtain ⟨rfl, hB⟩ := hB
  exact kk σ' hw H1 locs1 ls (by rw [← ht]; exact hB.1) hS1 h
/-- a static method of the same class -/
theorem vv_callS {post : Int32 → vv_S → Prop} (C : VC Y X own cc nL ret fr lo) (hy : vv_yok y cc2 maxL2 ret2 n) (hv : Cond.static y ∈ lw_ok) (hl : Cond.methodLink own idx y ∈ lw_ok) (hd : decode cc pc = .ok (.invokestatic idx, 3)) (hM : vv_MI Y y cc2 maxL2 ret2 fr2 lo2 As σ post) (hn : As.length = n) (hst : As.reverse ++ rest = st) (hR : fr2 + 1 ≤ fr ∧ 8 + (maxL2 + 11) + lo2 ≤ lo) (hW : (rest.map fun v => v.category).sum ≤ 8) (kk : ∀ r σ', post r σ' → VJ Y X K nL (pc + 3) L (.int r :: rest) σ') : VJ Y X K nL pc L st σ := by
  subst hst
  intro H locs ls hP hS h
  refine va_calli (va_runS (As := As) (rest := rest) C.fix (hM H.size) ⟨vv_cwB C hy hl hR, C.hts _ hv⟩ ⟨vv_blind, vv_pre C hP _⟩ rfl hn h.1 rfl (lv_room hW) hd ⟨Nat.zero_le _, Nat.zero_le _⟩) hS (fun q _ h => vv_frees C hS q h) (vv_frees C hS) (fun r σ' t H1 locs1 ht hvm hw hB hz1 hk1 hS1 => ?_)
  exact kk r σ' hw H1 locs1 ls (by rw [← ht]; exact hB.1) hS1 h
theorem vv_callSv {post : vv_S → Prop} (C : VC Y X own cc nL ret fr lo) (hy : vv_yok y cc2 maxL2 ret2 n) (hv : Cond.static y ∈ lw_ok) (hl : Cond.methodLink own idx y ∈ lw_ok) (hd : decode cc pc = .ok (.invokestatic idx, 3)) (hM : vv_MV Y y cc2 maxL2 ret2 fr2 lo2 As σ post) (hn : As.length = n) (hst : As.reverse ++ rest = st) (hR : fr2 + 1 ≤ fr ∧ 8 + (maxL2 + 11) + lo2 ≤ lo) (hW : (rest.map fun v => v.category).sum ≤ 8) (kk : ∀ σ', post σ' → VJ Y X K nL (pc + 3) L rest σ') : VJ Y X K nL pc L st σ := by
  subst hst
  intro H locs ls hP hS h
  refine va_callv (va_runS (As := As) (rest := rest) C.fix (hM H.size) ⟨vv_cwB C hy hl hR, C.hts _ hv⟩ ⟨vv_blind, vv_pre C hP _⟩ rfl hn h.1 rfl (lv_room hW) hd ⟨Nat.zero_le _, Nat.zero_le _⟩) hS (fun q _ h => vv_frees C hS q h) (vv_frees C hS) (fun σ' t H1 locs1 ht hvm hw hB hz1 hk1 hS1 => ?_)
  exact kk σ' hw H1 locs1 ls (by rw [← ht]; exact hB.1) hS1 h
/-- a static method of a nest mate -/
theorem vv_callSN {post : Int32 → vv_S → Prop} {host : String} (C : VC Y X own cc nL ret fr lo) (hy : vv_yok y cc2 maxL2 ret2 n) (hv : Cond.static y ∈ lw_ok) (hl : (own, idx, y, host) ∈ vv_nest) (hd : decode cc pc = .ok (.invokestatic idx, 3)) (hM : vv_MI Y y cc2 maxL2 ret2 fr2 lo2 As σ post) (hn : As.length = n) (hst : As.reverse ++ rest = st) (hR : fr2 + 1 ≤ fr ∧ 8 + (maxL2 + 11) + lo2 ≤ lo) (hW : (rest.map fun v => v.category).sum ≤ 8) (kk : ∀ r σ', post r σ' → VJ Y X K nL (pc + 3) L (.int r :: rest) σ') : VJ Y X K nL pc L st σ := by
  subst hst
  intro H locs ls hP hS h
  refine va_calli (va_runSN (As := As) (rest := rest) C.fix (hM H.size) ⟨vv_cnB C hy hl hR, C.hts _ hv, trivial⟩ ⟨vv_blind, vv_pre C hP _⟩ rfl hn h.1 rfl (lv_room hW) hd ⟨Nat.zero_le _, Nat.zero_le _⟩) hS (fun q _ h => vv_frees C hS q h) (vv_frees C hS) (fun r σ' t H1 locs1 ht hvm hw hB hz1 hk1 hS1 => ?_)
  exact kk r σ' hw H1 locs1 ls (by rw [← ht]; exact hB.1) hS1 h
end VCA
/-- a place where ways meet: what follows is 'k' -/
def vv_jn {α : Type} (k : α) (f : α → Prop) : Prop := f k
theorem vv_join {α : Type} {k : α} {f : α → Prop} {P : Prop} (J : α → Prop) (h : vv_jn k f) (hk : J k) (body : ∀ k', J k' → f k' → P) : P := body k hk h
section VSW
variable {Y : vv_Y} {X : vv_X} {K : Array Value → State → Outcome → State → Prop} {own : String} {cc : ByteArray} {nL : Nat} {ret : Option FieldType} {fr lo pc : Nat} {L L' : List (Nat × Value)} {st : List Value} {σ : vv_S}
/-- a switch by table: to a known number's place -/
theorem vv_tab (C : VC Y X own cc nL ret fr lo) {dflt a b : Int} {offs : Array Int} {len : Nat} {x j : Int32} {off : Int} (tgt : Nat) (hd : decode cc pc = .ok (.tableswitch dflt a b offs, len)) (hx : x = j) (h1 : ¬ j.toInt < a) (h2 : ¬ b < j.toInt) (ho : offs[(j.toInt - a).toNat]? = some off) (ht : (pc : Int) + off = (tgt : Int)) (k : VJ Y X K nL tgt L st σ) : VJ Y X K nL pc L (.int x :: st) σ := by
  subst hx
  exact vv_tabIn C tgt hd h1 h2 ho ht k
/-- a switch by table: to none of the places but the default -/
theorem vv_tabD (C : VC Y X own cc nL ret fr lo) {dflt a b : Int} {offs : Array Int} {len : Nat} {x : Int32} (tgt : Nat) (hd : decode cc pc = .ok (.tableswitch dflt a b offs, len)) (hg : ∀ n : Nat, (n : Int) ≤ b - a → x.toInt = a + n → offs[n]? = some dflt) (ht : (pc : Int) + dflt = (tgt : Int)) (k : VJ Y X K nL tgt L st σ) : VJ Y X K nL pc L (.int x :: st) σ := by
  by_cases h1 : x.toInt < a
  · exact vv_tabOut C tgt hd (Or.inl h1) ht k
  · by_cases h2 : b < x.toInt
    · exact vv_tabOut C tgt hd (Or.inr h2) ht k
    · exact vv_tabIn C tgt hd h1 h2 (hg (x.toInt - a).toNat (by omega) (by omega)) ht k
theorem vv_lkp (C : VC Y X own cc nL ret fr lo) {dflt : Int} {ps : Array (Int × Int)} {len : Nat} {x j : Int32} {off : Int} (tgt : Nat) (hd : decode cc pc = .ok (.lookupswitch dflt ps, len)) (hx : x = j) (hp : (ps.toList.zip (ps.toList.drop 1)).all (fun (a, next) => a.1 < next.1) = true) (ho : Op.lookupswitch.offset ps.toList dflt j.toInt = off) (ht : (pc : Int) + off = (tgt : Int)) (k : VJ Y X K nL tgt L st σ) : VJ Y X K nL pc L (.int x :: st) σ := by
  subst hx
  exact vv_lookup C tgt hd hp ho ht k
end VSW

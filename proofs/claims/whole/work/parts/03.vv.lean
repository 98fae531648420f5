/-- the words of the tables that go on holding through calls -/
def lw_ok : List Cond := lw_tbl.filter goodWord
theorem lw_ok_in {w : Cond} (h : w ∈ lw_tbl) (g : goodWord w = true) : w ∈ lw_ok := List.mem_filter.mpr ⟨h, g⟩
theorem lw_g0 {w : Cond} (h : w ∈ k2_sels lw_privs) : w ∈ lw_tbl := List.mem_append_left _ h
theorem lw_g1 {w : Cond} (h : w ∈ tables_1_1) : w ∈ lw_tbl := List.mem_append_right _ (List.mem_append_left _ h)
theorem lw_g2 {w : Cond} (h : w ∈ tables_1_2) : w ∈ lw_tbl := List.mem_append_right _ (List.mem_append_right _ (List.mem_append_left _ h))
theorem lw_g3 {w : Cond} (h : w ∈ tables_1_3) : w ∈ lw_tbl := List.mem_append_right _ (List.mem_append_right _ (List.mem_append_right _ (List.mem_append_left _ h)))
theorem lw_g4 {w : Cond} (h : w ∈ tables_1_4) : w ∈ lw_tbl := List.mem_append_right _ (List.mem_append_right _ (List.mem_append_right _ (List.mem_append_right _ (List.mem_append_left _ h))))
theorem lw_g5 {w : Cond} (h : w ∈ tables_1_5) : w ∈ lw_tbl := List.mem_append_right _ (List.mem_append_right _ (List.mem_append_right _ (List.mem_append_right _ (List.mem_append_right _ (List.mem_append_left _ h)))))
theorem lw_g6 {w : Cond} (h : w ∈ tables_1_6) : w ∈ lw_tbl := List.mem_append_right _ (List.mem_append_right _ (List.mem_append_right _ (List.mem_append_right _ (List.mem_append_right _ (List.mem_append_right _ h)))))
theorem lw_ok_tbl {w : Cond} (h : w ∈ lw_ok) : w ∈ lw_tbl := (List.mem_filter.mp h).1
/-! ===== worlds of cells whose shape stays: what they hold is σ, cell by cell, place by place ===== -/
abbrev vv_S : Type := Nat → Nat → Int32
/-- the shape of a cell: an object (its class's place in vv_cl; of each field 0 an int, r + 1 the cell r), an int array of so many places, an array of references (its type's place, how many, the cell at place j is b + st j) -/
abbrev vv_Sh : Type := (Nat × List Nat) ⊕ (Nat ⊕ (Nat × Nat × Nat × Nat))
def vv_up (σ : vv_S) (k j : Nat) (v : Int32) : vv_S := fun c => if c = k then upd (σ c) j v else σ c
theorem vv_up_s {σ : vv_S} {k j : Nat} {v : Int32} : vv_up σ k j v k j = v := by simp [vv_up, upd]
theorem vv_up_c {σ : vv_S} {k j c i : Nat} {v : Int32} (h : c ≠ k) : vv_up σ k j v c i = σ c i := by simp [vv_up, h]
theorem vv_up_r {σ : vv_S} {k j c : Nat} {v : Int32} (h : c ≠ k) : vv_up σ k j v c = σ c := by simp [vv_up, h]
theorem vv_up_i {σ : vv_S} {k j i : Nat} {v : Int32} (h : i ≠ j) : vv_up σ k j v k i = σ k i := by simp [vv_up, upd, h]
theorem vv_up_row {σ : vv_S} {k j : Nat} {v : Int32} : vv_up σ k j v k = upd (σ k) j v := by simp [vv_up]
def vv_fs (q : Nat → Nat) (row : Nat → Int32) : Nat → List Nat → List Value
  | _, [] => []
  | j, 0 :: t => .int (row j) :: vv_fs q row (j + 1) t
  | j, (r + 1) :: t => .ref (q r) :: vv_fs q row (j + 1) t
theorem vv_fs_len {q : Nat → Nat} {row : Nat → Int32} : ∀ (fl : List Nat) (j : Nat), (vv_fs q row j fl).length = fl.length
  | [], _ => rfl
  | 0 :: t, j => congrArg (· + 1) (vv_fs_len t (j + 1))
  | (_ + 1) :: t, j => congrArg (· + 1) (vv_fs_len t (j + 1))
theorem vv_fs_int {q : Nat → Nat} {row : Nat → Int32} : ∀ (fl : List Nat) (j i : Nat), fl[i]? = some 0 → (vv_fs q row j fl)[i]? = some (.int (row (j + i)))
  | [], _, _, h => by simp at h
  | 0 :: t, j, 0, _ => rfl
  | (r + 1) :: t, j, 0, h => by simp at h
  | 0 :: t, j, i + 1, h => by
    have h2 := vv_fs_int (q := q) (row := row) t (j + 1) i (by simpa using h)
    rw [show j + (i + 1) = j + 1 + i by omega]
    simpa [vv_fs] using h2
  | (r + 1) :: t, j, i + 1, h => by
    have h2 := vv_fs_int (q := q) (row := row) t (j + 1) i (by simpa using h)
    rw [show j + (i + 1) = j + 1 + i by omega]
    simpa [vv_fs] using h2
theorem vv_fs_ref {q : Nat → Nat} {row : Nat → Int32} {r : Nat} : ∀ (fl : List Nat) (j i : Nat), fl[i]? = some (r + 1) → (vv_fs q row j fl)[i]? = some (.ref (q r))
  | [], _, _, h => by simp at h
  | 0 :: t, j, 0, h => by simp at h
  | (r' + 1) :: t, j, 0, h => by
    have : r' = r := by simpa using h
    subst this
    rfl
  | 0 :: t, j, i + 1, h => by
    have h2 := vv_fs_ref (q := q) (row := row) t (j + 1) i (by simpa using h)
    simpa [vv_fs] using h2
  | (r' + 1) :: t, j, i + 1, h => by
    have h2 := vv_fs_ref (q := q) (row := row) t (j + 1) i (by simpa using h)
    simpa [vv_fs] using h2
theorem vv_fs_congr {q : Nat → Nat} {row row' : Nat → Int32} : ∀ (fl : List Nat) (j : Nat), (∀ k, j ≤ k → row k = row' k) → vv_fs q row j fl = vv_fs q row' j fl
  | [], _, _ => rfl
  | 0 :: t, j, h => by
    show _ :: _ = _ :: _
    rw [h j (Nat.le_refl j), vv_fs_congr t (j + 1) (fun k hk => h k (by omega))]
  | (r + 1) :: t, j, h => by
    show _ :: _ = _ :: _
    rw [vv_fs_congr t (j + 1) (fun k hk => h k (by omega))]
theorem vv_fs_set {q : Nat → Nat} {row : Nat → Int32} {v : Int32} : ∀ (fl : List Nat) (j i : Nat), fl[i]? = some 0 → (vv_fs q row j fl).set i (.int v) = vv_fs q (upd row (j + i) v) j fl
  | [], _, _, h => by simp at h
  | 0 :: t, j, 0, _ => by
    show _ :: _ = _ :: _
    rw [show upd row (j + 0) v j = v by simp [upd], vv_fs_congr (row' := upd row (j + 0) v) t (j + 1) (fun k hk => by simp [upd, show k ≠ j by omega])]
  | (r + 1) :: t, j, 0, h => by simp at h
  | 0 :: t, j, i + 1, h => by
    have h2 := vv_fs_set (q := q) (row := row) (v := v) t (j + 1) i (by simpa using h)
    show _ :: _ = _ :: _
    rw [h2, show j + (i + 1) = j + 1 + i by omega]
    congr 2
    simp [upd, show j ≠ j + 1 + i by omega]
  | (r + 1) :: t, j, i + 1, h => by
    have h2 := vv_fs_set (q := q) (row := row) (v := v) t (j + 1) i (by simpa using h)
    show _ :: _ = _ :: _
    rw [h2, show j + (i + 1) = j + 1 + i by omega]
def vv_e (ty : Nat → ClassId) (q : Nat → Nat) (row : Nat → Int32) (s : vv_Sh) : va_E := match s with
  | .inl o => .inr (o.1, vv_fs q row 0 o.2)
  | .inr (.inl n) => .inl (ty 0, n, .inl row)
  | .inr (.inr a) => .inl (ty a.1, a.2.1, .inr (.inr (.inr (.inr (fun j => some (q (a.2.2.1 + a.2.2.2 * j)))))))
abbrev vv_Wd : Type := (Nat → vv_Sh) × Nat
def vv_W (w : vv_Wd) (ty : Nat → ClassId) (q : Nat → Nat) (σ : vv_S) : va_W := (List.range w.2).map (fun k => (q k, vv_e ty q (σ k) (w.1 k)))
theorem vv_W_get {w : vv_Wd} {ty : Nat → ClassId} {q : Nat → Nat} {σ : vv_S} {k : Nat} (h : k < w.2) : (vv_W w ty q σ)[k]? = some (q k, vv_e ty q (σ k) (w.1 k)) := by simp [vv_W, h]
theorem vv_W_none {w : vv_Wd} {ty : Nat → ClassId} {q : Nat → Nat} {σ : vv_S} {k : Nat} (h : ¬ k < w.2) : (vv_W w ty q σ)[k]? = none := by simp [vv_W]; omega
theorem vv_W_set {w : vv_Wd} {ty : Nat → ClassId} {q : Nat → Nat} {σ : vv_S} {k j : Nat} {v : Int32} {e : va_E} (h : k < w.2) (he : vv_e ty q (upd (σ k) j v) (w.1 k) = e) : (vv_W w ty q σ).set k (q k, e) = vv_W w ty q (vv_up σ k j v) := by
  apply List.ext_getElem?
  intro i
  rw [List.getElem?_set]
  by_cases e1 : k = i
  · subst e1
    rw [if_pos rfl, vv_W_get h, vv_up_row, he]
    have : k < (vv_W w ty q σ).length := by simp [vv_W, h]
    simp [this]
  · rw [if_neg e1]
    by_cases e2 : i < w.2
    · rw [vv_W_get e2, vv_W_get e2, vv_up_r (fun z => e1 z.symm)]
    · rw [vv_W_none e2, vv_W_none e2]
theorem vv_W_D {A : Nat → Prop} {w : vv_Wd} {ty : Nat → ClassId} {q : Nat → Nat} {σ σ' : vv_S} (h : va_D A (vv_W w ty q σ)) : va_D A (vv_W w ty q σ') := by
  have key : ∀ (k : Nat) (x : Nat × va_E), (vv_W w ty q σ')[k]? = some x → ∃ y, (vv_W w ty q σ)[k]? = some y ∧ y.1 = x.1 := by
    intro k x hx
    by_cases hk : k < w.2
    · rw [vv_W_get hk] at hx
      cases hx
      exact ⟨_, vv_W_get hk, rfl⟩
    · rw [vv_W_none hk] at hx
      cases hx
  refine ⟨fun i j x y hx hy hxy => ?_, fun k x hx => ?_⟩
  · obtain ⟨x', hx', e1⟩ := key i x hx
    obtain ⟨y', hy', e2⟩ := key j y hy
    exact h.1 i j x' y' hx' hy' (by rw [e1, e2, hxy])
  · obtain ⟨x', hx', e1⟩ := key k x hx
    rw [← e1]
    exact h.2 k x' hx'
theorem vv_W_A {w : vv_Wd} {ty : Nat → ClassId} {q : Nat → Nat} {σ σ' : vv_S} {sz a : Nat} (h : va_A (vv_W w ty q σ') sz a) : va_A (vv_W w ty q σ) sz a := by
  rcases h with ⟨k, e, h⟩ | h
  · by_cases hk : k < w.2
    · rw [vv_W_get hk] at h
      cases h
      exact Or.inl ⟨k, _, vv_W_get hk⟩
    · rw [vv_W_none hk] at h
      cases h
  · exact Or.inr h
/-- all classes of the worlds -/
abbrev vv_cl : List vw_C := [(RX0, TX0, 5), (RX1, TX1, 8), (RX2, TX2, 6), (RX3, TX3, 16), (RX4, TX4, 9), (RX5, TX5, 2), (RX6, TX6, 3), (RX7, TX7, 4), (RX8, TX8, 11), (RX9, TX9, 48)]
abbrev vv_tys (ty : Nat → ClassId) : List (ClassId × FieldType) := [(ty 0, .int), (ty 1, .object RX0), (ty 2, .array .int)]
/-- a world's setting: launch, classes, array classes, addresses, shape -/
abbrev vv_Y : Type := Launch × va_G × (Nat → ClassId) × (Nat → Nat) × vv_Wd
abbrev vv_q (Y : vv_Y) (k : Nat) : Nat := Y.2.2.2.1 k
abbrev vv_sh (Y : vv_Y) (k : Nat) : vv_Sh := Y.2.2.2.2.1 k
abbrev vv_w (Y : vv_Y) (σ : vv_S) : va_W := vv_W Y.2.2.2.2 Y.2.2.1 Y.2.2.2.1 σ
/-- a frame's setting -/
abbrev vv_X : Type := (Program × Env × Room × State × MethodId × Array Value × List Frame × Method × Code) × (Nat → Prop)
def vv_B (Y : vv_Y) (σ : vv_S) (U : State) : Prop := va_P Y.2.1 vv_cl (vv_w Y σ) U.heap ∧ va_K Y.2.1 vv_cl (vv_tys Y.2.2.1) U
/-- the machine, in the frame of a method, with these locals and this stack, the world holding σ -/
def VJ (Y : vv_Y) (X : vv_X) (K : Array Value → State → Outcome → State → Prop) (nL pc : Nat) (L : List (Nat × Value)) (st : List Value) (σ : vv_S) : Prop :=
  ∀ (H : Heap) (locs : List Loc) (ls : Array Slot), va_P Y.2.1 vv_cl (vv_w Y σ) H → va_S X.2 X.1.2.2.2.1.heap H locs → lv_has ls nL L →
    W X.1.1 Y.1 X.1.2.1 X.1.2.2.1 X.1.2.2.2.1 X.1.2.2.2.2.1 X.1.2.2.2.2.2.1 X.1.2.2.2.2.2.2.1 X.1.2.2.2.2.2.2.2.1 X.1.2.2.2.2.2.2.2.2 H locs 0 0 (MQ X.1.2.2.2.2.2.2.1 K X.1.2.2.2.2.2.1 X.1.2.2.2.1 0 0 X.2) (F0 X.1.2.2.2.2.1 pc ls st)
/-- the links to nest mates' private methods (not to constructors) -/
def vv_nest : List (String × Nat × MethodName × String) := [(RX2, 39, yX8_isStuff, "DamOfTurf"), (RX2, 43, yX8_isWithin, "DamOfTurf"), (RX4, 103, yX8_isStuff, "DamOfTurf"), (RX4, 107, yX8_isWithin, "DamOfTurf")]
def vv_Ne (U : State) : Prop := ∀ x ∈ vv_nest, va_Nw (.methodLinkNest x.1 x.2.1 x.2.2.1 x.2.2.2) U
theorem vv_Ne.warm {s U : State} (hW : s.WarmedH U.vm) (h : vv_Ne s) : vv_Ne U := fun x hx => va_Nw.warmM hW (h x hx)
theorem vv_Ne.same {s U : State} (e : s.vm = U.vm) (h : vv_Ne s) : vv_Ne U := fun x hx => va_Nw.same rfl e (h x hx)
def VC (Y : vv_Y) (X : vv_X) (own : String) (cc : ByteArray) (nL : Nat) (ret : Option FieldType) (fr lo : Nat) : Prop :=
  X.1.1.tables.exec = Jvm.exec ∧ X.1.2.2.2.2.2.2.2.2.code = cc ∧ X.1.2.2.2.2.2.2.2.2.maxLocals = nL ∧ X.1.2.2.2.1.vm.findClass own = some X.1.2.2.2.2.1.cls ∧ (∀ w ∈ lw_ok, w.before X.1.2.2.2.2.2.1 X.1.2.2.2.1 = true) ∧ va_K Y.2.1 vv_cl (vv_tys Y.2.2.1) X.1.2.2.2.1 ∧ (∀ q : Nat, X.1.2.2.2.1.heap.size ≤ q → X.2 q) ∧ X.1.2.2.2.2.2.2.2.1.locks = false ∧ va_D X.2 (vv_w Y (fun _ _ => 0)) ∧ X.1.2.2.2.2.2.2.2.1.sig.returnType = ret ∧ X.1.2.2.1 = { frames := fr, cells := 0, slots := 0, locals := lo } ∧ vv_Ne X.1.2.2.2.1
section VR
variable {Y : vv_Y} {X : vv_X} {K : Array Value → State → Outcome → State → Prop} {own : String} {cc : ByteArray} {nL : Nat} {ret : Option FieldType} {fr lo pc : Nat} {L L' : List (Nat × Value)} {st : List Value} {σ : vv_S}
theorem VC.hx (C : VC Y X own cc nL ret fr lo) : X.1.1.tables.exec = Jvm.exec := C.1
theorem VC.hb (C : VC Y X own cc nL ret fr lo) : X.1.2.2.2.2.2.2.2.2.code = cc := C.2.1
theorem VC.hml (C : VC Y X own cc nL ret fr lo) : X.1.2.2.2.2.2.2.2.2.maxLocals = nL := C.2.2.1
theorem VC.hown (C : VC Y X own cc nL ret fr lo) : X.1.2.2.2.1.vm.findClass own = some X.1.2.2.2.2.1.cls := C.2.2.2.1
theorem VC.hts (C : VC Y X own cc nL ret fr lo) : ∀ w ∈ lw_ok, w.before X.1.2.2.2.2.2.1 X.1.2.2.2.1 = true := C.2.2.2.2.1
theorem VC.hK (C : VC Y X own cc nL ret fr lo) : va_K Y.2.1 vv_cl (vv_tys Y.2.2.1) X.1.2.2.2.1 := C.2.2.2.2.2.1
theorem VC.hA (C : VC Y X own cc nL ret fr lo) : ∀ q : Nat, X.1.2.2.2.1.heap.size ≤ q → X.2 q := C.2.2.2.2.2.2.1
theorem VC.hlk (C : VC Y X own cc nL ret fr lo) : X.1.2.2.2.2.2.2.2.1.locks = false := C.2.2.2.2.2.2.2.1
theorem VC.hD (C : VC Y X own cc nL ret fr lo) (σ : vv_S) : va_D X.2 (vv_w Y σ) := vv_W_D C.2.2.2.2.2.2.2.2.1
theorem VC.hr (C : VC Y X own cc nL ret fr lo) : X.1.2.2.2.2.2.2.2.1.sig.returnType = ret := C.2.2.2.2.2.2.2.2.2.1
theorem VC.hR (C : VC Y X own cc nL ret fr lo) : X.1.2.2.1 = { frames := fr, cells := 0, slots := 0, locals := lo } := C.2.2.2.2.2.2.2.2.2.2.1
theorem VC.hN (C : VC Y X own cc nL ret fr lo) : vv_Ne X.1.2.2.2.1 := C.2.2.2.2.2.2.2.2.2.2.2
theorem VC.fix (C : VC Y X own cc nL ret fr lo) : CallFix X.1.1 X.1.2.2.2.2.1 X.1.2.2.2.2.2.2.2.2 cc nL X.1.2.2.2.1 X.1.2.2.2.2.2.1 lw_ok own := ⟨C.hx, C.hb, C.hml, C.hown, C.hts⟩
/-- a class's facts -/
def vv_Kc (ci : Nat) (Cn : String) (T : u_T) (N : Nat) : Prop := vv_cl[ci]? = some (Cn, T, N) ∧ (∀ w ∈ u_ws Cn T N, w ∈ lw_ok) ∧ (∀ a, a < N → ∀ b, b < N → a ≠ b → (T a).2.1 ≠ (T b).2.1) ∧ ∃ ty0 : Nat → FieldType, ∀ k, k < N → parseFieldDescriptor (T k).2.2.1 = some (ty0 k)
theorem vv_nm {e : Int32} (k : ∀ x, x = e → VJ Y X K nL pc L (.int x :: st) σ) : VJ Y X K nL pc L (.int e :: st) σ := k e rfl
theorem vv_sub (ks : List Nat) (hl : lv_pick L ks = L') (k : VJ Y X K nL pc L' st σ) : VJ Y X K nL pc L st σ := fun H locs ls hP hS h => k H locs ls hP hS (lv_sub h ks hl)
theorem vv_iconst (C : VC Y X own cc nL ret fr lo) {n : Int} {v : Int32} (hd : decode cc pc = .ok (.iconst n, 1)) (hv : Int32.ofInt n = v) (k : VJ Y X K nL (pc + 1) L (.int v :: st) σ) : VJ Y X K nL pc L st σ := fun H locs ls hP hS h => lv_iconst C.hx C.hb hd hv (k H locs ls hP hS h)
theorem vv_bipush (C : VC Y X own cc nL ret fr lo) {n : Int} {v : Int32} (hd : decode cc pc = .ok (.bipush n, 2)) (hv : (Int8.ofInt n).toInt32 = v) (k : VJ Y X K nL (pc + 2) L (.int v :: st) σ) : VJ Y X K nL pc L st σ := fun H locs ls hP hS h => lv_bipush C.hx C.hb hd hv (k H locs ls hP hS h)
theorem vv_sipush (C : VC Y X own cc nL ret fr lo) {n : Int} {v : Int32} (hd : decode cc pc = .ok (.sipush n, 3)) (hv : (Int16.ofInt n).toInt32 = v) (k : VJ Y X K nL (pc + 3) L (.int v :: st) σ) : VJ Y X K nL pc L st σ := fun H locs ls hP hS h => lv_sipush C.hx C.hb hd hv (k H locs ls hP hS h)
theorem vv_lconst (C : VC Y X own cc nL ret fr lo) {n : Fin 2} {v : Int64} (hd : decode cc pc = .ok (.lconst n, 1)) (hv : Int64.ofNat (n : Nat) = v) (k : VJ Y X K nL (pc + 1) L (.long v :: st) σ) : VJ Y X K nL pc L st σ := fun H locs ls hP hS h => lv_lconst C.hx C.hb hd hv (k H locs ls hP hS h)
theorem vv_ldc2 (C : VC Y X own cc nL ret fr lo) {index : Nat} {v : Int64} (hc : Cond.constantLong own index v ∈ lw_ok) (hd : decode cc pc = .ok (.ldc2_w index, 3)) (k : VJ Y X K nL (pc + 3) L (.long v :: st) σ) : VJ Y X K nL pc L st σ := fun H locs ls hP hS h => lv_ldc2 C.hx C.hb C.hown (C.hts _ hc) hd (k H locs ls hP hS h)
theorem vv_ldcw (C : VC Y X own cc nL ret fr lo) {index : Nat} {v : Int32} (hc : Cond.constant own index v ∈ lw_ok) (hd : decode cc pc = .ok (.ldc_w index, 3)) (k : VJ Y X K nL (pc + 3) L (.int v :: st) σ) : VJ Y X K nL pc L st σ := fun H locs ls hP hS h => lv_ldcw C.hx C.hb C.hown (C.hts _ hc) hd (k H locs ls hP hS h)
theorem vv_iload_n (C : VC Y X own cc nL ret fr lo) {j : Fin 4} {i : Nat} {x : Int32} (t : Nat) (hd : decode cc pc = .ok (.iload_n j, 1)) (hi : (j : Nat) = i) (hL : L[t]? = some (i, .int x)) (k : VJ Y X K nL (pc + 1) L (.int x :: st) σ) : VJ Y X K nL pc L st σ := fun H locs ls hP hS h => lv_iload_n C.hx C.hb hd hi (lv_at h t hL) (k H locs ls hP hS h)
theorem vv_iload (C : VC Y X own cc nL ret fr lo) {i : Nat} {x : Int32} (t : Nat) (hd : decode cc pc = .ok (.iload i, 2)) (hL : L[t]? = some (i, .int x)) (k : VJ Y X K nL (pc + 2) L (.int x :: st) σ) : VJ Y X K nL pc L st σ := fun H locs ls hP hS h => lv_iload C.hx C.hb hd (lv_at h t hL) (k H locs ls hP hS h)
theorem vv_lload_n (C : VC Y X own cc nL ret fr lo) {j : Fin 4} {i : Nat} {x : Int64} (t : Nat) (hd : decode cc pc = .ok (.lload_n j, 1)) (hi : (j : Nat) = i) (hL : L[t]? = some (i, .long x)) (k : VJ Y X K nL (pc + 1) L (.long x :: st) σ) : VJ Y X K nL pc L st σ := fun H locs ls hP hS h => lv_lload_n C.hx C.hb hd hi (lv_at h t hL) (k H locs ls hP hS h)
theorem vv_lload (C : VC Y X own cc nL ret fr lo) {i : Nat} {x : Int64} (t : Nat) (hd : decode cc pc = .ok (.lload i, 2)) (hL : L[t]? = some (i, .long x)) (k : VJ Y X K nL (pc + 2) L (.long x :: st) σ) : VJ Y X K nL pc L st σ := fun H locs ls hP hS h => lv_lload C.hx C.hb hd (lv_at h t hL) (k H locs ls hP hS h)
theorem vv_aload_n (C : VC Y X own cc nL ret fr lo) {j : Fin 4} {i : Nat} {x : Nat} (t : Nat) (hd : decode cc pc = .ok (.aload_n j, 1)) (hi : (j : Nat) = i) (hL : L[t]? = some (i, .ref x)) (k : VJ Y X K nL (pc + 1) L (.ref x :: st) σ) : VJ Y X K nL pc L st σ := fun H locs ls hP hS h => lv_aload_n C.hx C.hb hd hi (lv_at h t hL) (k H locs ls hP hS h)
theorem vv_aload (C : VC Y X own cc nL ret fr lo) {i : Nat} {x : Nat} (t : Nat) (hd : decode cc pc = .ok (.aload i, 2)) (hL : L[t]? = some (i, .ref x)) (k : VJ Y X K nL (pc + 2) L (.ref x :: st) σ) : VJ Y X K nL pc L st σ := fun H locs ls hP hS h => lv_aload C.hx C.hb hd (lv_at h t hL) (k H locs ls hP hS h)
theorem vv_istore_n (C : VC Y X own cc nL ret fr lo) {j : Fin 4} {i : Nat} {x : Int32} (hd : decode cc pc = .ok (.istore_n j, 1)) (hi : (j : Nat) = i) (hn : i < nL) (hl : (i, Value.int x) :: L.filter (fun q => !(q.1 == i) && !(q.1 + 1 == i && q.2.category == 2)) = L') (k : VJ Y X K nL (pc + 1) L' st σ) : VJ Y X K nL pc L (.int x :: st) σ := fun H locs ls hP hS h => lv_istore_n C.hx C.hb hd hi h hn hl (fun ls' h' => k H locs ls' hP hS h')
theorem vv_istore (C : VC Y X own cc nL ret fr lo) {i : Nat} {x : Int32} (hd : decode cc pc = .ok (.istore i, 2)) (hn : i < nL) (hl : (i, Value.int x) :: L.filter (fun q => !(q.1 == i) && !(q.1 + 1 == i && q.2.category == 2)) = L') (k : VJ Y X K nL (pc + 2) L' st σ) : VJ Y X K nL pc L (.int x :: st) σ := fun H locs ls hP hS h => lv_istore C.hx C.hb hd h hn hl (fun ls' h' => k H locs ls' hP hS h')
theorem vv_lstore_n (C : VC Y X own cc nL ret fr lo) {j : Fin 4} {i : Nat} {x : Int64} (hd : decode cc pc = .ok (.lstore_n j, 1)) (hi : (j : Nat) = i) (hn : i + 1 < nL) (hl : (i, Value.long x) :: L.filter (fun q => !(q.1 == i) && (!(q.1 == i + 1) && !(q.1 + 1 == i && q.2.category == 2))) = L') (k : VJ Y X K nL (pc + 1) L' st σ) : VJ Y X K nL pc L (.long x :: st) σ := fun H locs ls hP hS h => lv_lstore_n C.hx C.hb hd hi h hn hl (fun ls' h' => k H locs ls' hP hS h')
theorem vv_lstore (C : VC Y X own cc nL ret fr lo) {i : Nat} {x : Int64} (hd : decode cc pc = .ok (.lstore i, 2)) (hn : i + 1 < nL) (hl : (i, Value.long x) :: L.filter (fun q => !(q.1 == i) && (!(q.1 == i + 1) && !(q.1 + 1 == i && q.2.category == 2))) = L') (k : VJ Y X K nL (pc + 2) L' st σ) : VJ Y X K nL pc L (.long x :: st) σ := fun H locs ls hP hS h => lv_lstore C.hx C.hb hd h hn hl (fun ls' h' => k H locs ls' hP hS h')
theorem vv_iinc (C : VC Y X own cc nL ret fr lo) {i : Nat} (t : Nat) {n : Int} {x v : Int32} (hd : decode cc pc = .ok (.iinc i n, 3)) (hL : L[t]? = some (i, .int x)) (hv : x + Int32.ofInt n = v) (hn : i < nL) (hl : (i, Value.int v) :: L.filter (fun q => !(q.1 == i) && !(q.1 + 1 == i && q.2.category == 2)) = L') (k : VJ Y X K nL (pc + 3) L' st σ) : VJ Y X K nL pc L st σ := fun H locs ls hP hS h => lv_iinc C.hx C.hb hd h hL hv hn hl (fun ls' h' => k H locs ls' hP hS h')
theorem vv_iadd (C : VC Y X own cc nL ret fr lo) {x y : Int32} (hd : decode cc pc = .ok (.iadd, 1)) (k : VJ Y X K nL (pc + 1) L (.int (x + y) :: st) σ) : VJ Y X K nL pc L (.int y :: .int x :: st) σ := fun H locs ls hP hS h => lv_iadd C.hx C.hb hd (k H locs ls hP hS h)
theorem vv_isub (C : VC Y X own cc nL ret fr lo) {x y : Int32} (hd : decode cc pc = .ok (.isub, 1)) (k : VJ Y X K nL (pc + 1) L (.int (x - y) :: st) σ) : VJ Y X K nL pc L (.int y :: .int x :: st) σ := fun H locs ls hP hS h => lv_isub C.hx C.hb hd (k H locs ls hP hS h)
theorem vv_imul (C : VC Y X own cc nL ret fr lo) {x y : Int32} (hd : decode cc pc = .ok (.imul, 1)) (k : VJ Y X K nL (pc + 1) L (.int (x * y) :: st) σ) : VJ Y X K nL pc L (.int y :: .int x :: st) σ := fun H locs ls hP hS h => lv_imul C.hx C.hb hd (k H locs ls hP hS h)
theorem vv_iand (C : VC Y X own cc nL ret fr lo) {x y : Int32} (hd : decode cc pc = .ok (.iand, 1)) (k : VJ Y X K nL (pc + 1) L (.int (x &&& y) :: st) σ) : VJ Y X K nL pc L (.int y :: .int x :: st) σ := fun H locs ls hP hS h => lv_iand C.hx C.hb hd (k H locs ls hP hS h)
theorem vv_ior (C : VC Y X own cc nL ret fr lo) {x y : Int32} (hd : decode cc pc = .ok (.ior, 1)) (k : VJ Y X K nL (pc + 1) L (.int (x ||| y) :: st) σ) : VJ Y X K nL pc L (.int y :: .int x :: st) σ := fun H locs ls hP hS h => lv_ior C.hx C.hb hd (k H locs ls hP hS h)
theorem vv_ishl (C : VC Y X own cc nL ret fr lo) {x y : Int32} (hd : decode cc pc = .ok (.ishl, 1)) (k : VJ Y X K nL (pc + 1) L (.int (x <<< (y &&& 31)) :: st) σ) : VJ Y X K nL pc L (.int y :: .int x :: st) σ := fun H locs ls hP hS h => lv_ishl C.hx C.hb hd (k H locs ls hP hS h)
theorem vv_ishr (C : VC Y X own cc nL ret fr lo) {x y : Int32} (hd : decode cc pc = .ok (.ishr, 1)) (k : VJ Y X K nL (pc + 1) L (.int (x >>> (y &&& 31)) :: st) σ) : VJ Y X K nL pc L (.int y :: .int x :: st) σ := fun H locs ls hP hS h => lv_ishr C.hx C.hb hd (k H locs ls hP hS h)
theorem vv_idiv (C : VC Y X own cc nL ret fr lo) {x y : Int32} (hd : decode cc pc = .ok (.idiv, 1)) (hne : ¬ y = 0) (k : VJ Y X K nL (pc + 1) L (.int (x / y) :: st) σ) : VJ Y X K nL pc L (.int y :: .int x :: st) σ := fun H locs ls hP hS h => lv_idiv C.hx C.hb hd hne (k H locs ls hP hS h)
theorem vv_irem (C : VC Y X own cc nL ret fr lo) {x y : Int32} (hd : decode cc pc = .ok (.irem, 1)) (hne : ¬ y = 0) (k : VJ Y X K nL (pc + 1) L (.int (x - x / y * y) :: st) σ) : VJ Y X K nL pc L (.int y :: .int x :: st) σ := fun H locs ls hP hS h => lv_irem C.hx C.hb hd hne (k H locs ls hP hS h)
theorem vv_ladd (C : VC Y X own cc nL ret fr lo) {x y : Int64} (hd : decode cc pc = .ok (.ladd, 1)) (k : VJ Y X K nL (pc + 1) L (.long (x + y) :: st) σ) : VJ Y X K nL pc L (.long y :: .long x :: st) σ := fun H locs ls hP hS h => lv_ladd C.hx C.hb hd (k H locs ls hP hS h)
theorem vv_lmul (C : VC Y X own cc nL ret fr lo) {x y : Int64} (hd : decode cc pc = .ok (.lmul, 1)) (k : VJ Y X K nL (pc + 1) L (.long (x * y) :: st) σ) : VJ Y X K nL pc L (.long y :: .long x :: st) σ := fun H locs ls hP hS h => lv_lmul C.hx C.hb hd (k H locs ls hP hS h)
theorem vv_lrem (C : VC Y X own cc nL ret fr lo) {x y : Int64} (hd : decode cc pc = .ok (.lrem, 1)) (hne : ¬ y = 0) (k : VJ Y X K nL (pc + 1) L (.long (x - x / y * y) :: st) σ) : VJ Y X K nL pc L (.long y :: .long x :: st) σ := fun H locs ls hP hS h => lv_lrem C.hx C.hb hd hne (k H locs ls hP hS h)
theorem vv_i2l (C : VC Y X own cc nL ret fr lo) {x : Int32} (hd : decode cc pc = .ok (.i2l, 1)) (k : VJ Y X K nL (pc + 1) L (.long x.toInt64 :: st) σ) : VJ Y X K nL pc L (.int x :: st) σ := fun H locs ls hP hS h => lv_i2l C.hx C.hb hd rfl (k H locs ls hP hS h)
theorem vv_l2i (C : VC Y X own cc nL ret fr lo) {x : Int64} (hd : decode cc pc = .ok (.l2i, 1)) (k : VJ Y X K nL (pc + 1) L (.int x.toInt32 :: st) σ) : VJ Y X K nL pc L (.long x :: st) σ := fun H locs ls hP hS h => lv_l2i C.hx C.hb hd rfl (k H locs ls hP hS h)
theorem vv_lcmp (C : VC Y X own cc nL ret fr lo) {x y : Int64} (hd : decode cc pc = .ok (.lcmp, 1)) (k : VJ Y X K nL (pc + 1) L (.int (lg_cmp x y) :: st) σ) : VJ Y X K nL pc L (.long y :: .long x :: st) σ := fun H locs ls hP hS h => W.lcmp C.hx C.hb hd (k H locs ls hP hS h)
theorem vv_dup (C : VC Y X own cc nL ret fr lo) {va : Value} (hd : decode cc pc = .ok (.dup, 1)) (hv : va.category = 1) (k : VJ Y X K nL (pc + 1) L (va :: va :: st) σ) : VJ Y X K nL pc L (va :: st) σ := fun H locs ls hP hS h => lv_dup C.hx C.hb hd hv (k H locs ls hP hS h)
theorem vv_pop (C : VC Y X own cc nL ret fr lo) {va : Value} (hd : decode cc pc = .ok (.pop, 1)) (hv : va.category = 1) (k : VJ Y X K nL (pc + 1) L st σ) : VJ Y X K nL pc L (va :: st) σ := fun H locs ls hP hS h => lv_pop C.hx C.hb hd hv (k H locs ls hP hS h)
theorem vv_dup2 (C : VC Y X own cc nL ret fr lo) {va vb : Value} (hd : decode cc pc = .ok (.dup2, 1)) (ha : va.category = 1) (hb : vb.category = 1) (k : VJ Y X K nL (pc + 1) L (va :: vb :: va :: vb :: st) σ) : VJ Y X K nL pc L (va :: vb :: st) σ := fun H locs ls hP hS h => lv_dup2_11 C.hx C.hb hd ha hb (k H locs ls hP hS h)
theorem vv_goto (C : VC Y X own cc nL ret fr lo) {off : Int} {tgt : Nat} (hd : decode cc pc = .ok (.goto off, 3)) (ht : (pc : Int) + off = (tgt : Int)) (k : VJ Y X K nL tgt L st σ) : VJ Y X K nL pc L st σ := fun H locs ls hP hS h => lv_goto C.hx C.hb hd ht (k H locs ls hP hS h)
theorem vv_if_eq (C : VC Y X own cc nL ret fr lo) {x : Int32} {off : Int} (tgt : Nat) (hd : decode cc pc = .ok (.ifCond .eq off, 3)) (ht : (pc : Int) + off = (tgt : Int)) (kt : x = 0 → VJ Y X K nL tgt L st σ) (kf : ¬ x = 0 → VJ Y X K nL (pc + 3) L st σ) : VJ Y X K nL pc L (.int x :: st) σ := fun H locs ls hP hS h => lv_if_eq C.hx C.hb hd ht (fun c => kt c H locs ls hP hS h) (fun c => kf c H locs ls hP hS h)
theorem vv_if_ne (C : VC Y X own cc nL ret fr lo) {x : Int32} {off : Int} (tgt : Nat) (hd : decode cc pc = .ok (.ifCond .ne off, 3)) (ht : (pc : Int) + off = (tgt : Int)) (kt : ¬ x = 0 → VJ Y X K nL tgt L st σ) (kf : x = 0 → VJ Y X K nL (pc + 3) L st σ) : VJ Y X K nL pc L (.int x :: st) σ := fun H locs ls hP hS h => lv_if_ne C.hx C.hb hd ht (fun c => kt c H locs ls hP hS h) (fun c => kf c H locs ls hP hS h)
theorem vv_if_lt (C : VC Y X own cc nL ret fr lo) {x : Int32} {off : Int} (tgt : Nat) (hd : decode cc pc = .ok (.ifCond .lt off, 3)) (ht : (pc : Int) + off = (tgt : Int)) (kt : x < 0 → VJ Y X K nL tgt L st σ) (kf : ¬ x < 0 → VJ Y X K nL (pc + 3) L st σ) : VJ Y X K nL pc L (.int x :: st) σ := fun H locs ls hP hS h => lv_if_lt C.hx C.hb hd ht (fun c => kt c H locs ls hP hS h) (fun c => kf c H locs ls hP hS h)
theorem vv_if_ge (C : VC Y X own cc nL ret fr lo) {x : Int32} {off : Int} (tgt : Nat) (hd : decode cc pc = .ok (.ifCond .ge off, 3)) (ht : (pc : Int) + off = (tgt : Int)) (kt : 0 ≤ x → VJ Y X K nL tgt L st σ) (kf : ¬ 0 ≤ x → VJ Y X K nL (pc + 3) L st σ) : VJ Y X K nL pc L (.int x :: st) σ := fun H locs ls hP hS h => lv_if_ge C.hx C.hb hd ht (fun c => kt c H locs ls hP hS h) (fun c => kf c H locs ls hP hS h)
theorem vv_if_gt (C : VC Y X own cc nL ret fr lo) {x : Int32} {off : Int} (tgt : Nat) (hd : decode cc pc = .ok (.ifCond .gt off, 3)) (ht : (pc : Int) + off = (tgt : Int)) (kt : 0 < x → VJ Y X K nL tgt L st σ) (kf : ¬ 0 < x → VJ Y X K nL (pc + 3) L st σ) : VJ Y X K nL pc L (.int x :: st) σ := fun H locs ls hP hS h => lv_if_gt C.hx C.hb hd ht (fun c => kt c H locs ls hP hS h) (fun c => kf c H locs ls hP hS h)
theorem vv_if_le (C : VC Y X own cc nL ret fr lo) {x : Int32} {off : Int} (tgt : Nat) (hd : decode cc pc = .ok (.ifCond .le off, 3)) (ht : (pc : Int) + off = (tgt : Int)) (kt : x ≤ 0 → VJ Y X K nL tgt L st σ) (kf : ¬ x ≤ 0 → VJ Y X K nL (pc + 3) L st σ) : VJ Y X K nL pc L (.int x :: st) σ := fun H locs ls hP hS h => lv_if_le C.hx C.hb hd ht (fun c => kt c H locs ls hP hS h) (fun c => kf c H locs ls hP hS h)
theorem vv_icmp_eq (C : VC Y X own cc nL ret fr lo) {x y : Int32} {off : Int} (tgt : Nat) (hd : decode cc pc = .ok (.if_icmp .eq off, 3)) (ht : (pc : Int) + off = (tgt : Int)) (kt : x = y → VJ Y X K nL tgt L st σ) (kf : ¬ x = y → VJ Y X K nL (pc + 3) L st σ) : VJ Y X K nL pc L (.int y :: .int x :: st) σ := fun H locs ls hP hS h => lv_icmp_eq C.hx C.hb hd ht (fun c => kt c H locs ls hP hS h) (fun c => kf c H locs ls hP hS h)
theorem vv_icmp_ne (C : VC Y X own cc nL ret fr lo) {x y : Int32} {off : Int} (tgt : Nat) (hd : decode cc pc = .ok (.if_icmp .ne off, 3)) (ht : (pc : Int) + off = (tgt : Int)) (kt : ¬ x = y → VJ Y X K nL tgt L st σ) (kf : x = y → VJ Y X K nL (pc + 3) L st σ) : VJ Y X K nL pc L (.int y :: .int x :: st) σ := fun H locs ls hP hS h => lv_icmp_ne C.hx C.hb hd ht (fun c => kt c H locs ls hP hS h) (fun c => kf c H locs ls hP hS h)
theorem vv_icmp_lt (C : VC Y X own cc nL ret fr lo) {x y : Int32} {off : Int} (tgt : Nat) (hd : decode cc pc = .ok (.if_icmp .lt off, 3)) (ht : (pc : Int) + off = (tgt : Int)) (kt : x < y → VJ Y X K nL tgt L st σ) (kf : ¬ x < y → VJ Y X K nL (pc + 3) L st σ) : VJ Y X K nL pc L (.int y :: .int x :: st) σ := fun H locs ls hP hS h => lv_icmp_lt C.hx C.hb hd ht (fun c => kt c H locs ls hP hS h) (fun c => kf c H locs ls hP hS h)
theorem vv_icmp_ge (C : VC Y X own cc nL ret fr lo) {x y : Int32} {off : Int} (tgt : Nat) (hd : decode cc pc = .ok (.if_icmp .ge off, 3)) (ht : (pc : Int) + off = (tgt : Int)) (kt : y ≤ x → VJ Y X K nL tgt L st σ) (kf : ¬ y ≤ x → VJ Y X K nL (pc + 3) L st σ) : VJ Y X K nL pc L (.int y :: .int x :: st) σ := fun H locs ls hP hS h => lv_icmp_ge C.hx C.hb hd ht (fun c => kt c H locs ls hP hS h) (fun c => kf c H locs ls hP hS h)
theorem vv_icmp_gt (C : VC Y X own cc nL ret fr lo) {x y : Int32} {off : Int} (tgt : Nat) (hd : decode cc pc = .ok (.if_icmp .gt off, 3)) (ht : (pc : Int) + off = (tgt : Int)) (kt : y < x → VJ Y X K nL tgt L st σ) (kf : ¬ y < x → VJ Y X K nL (pc + 3) L st σ) : VJ Y X K nL pc L (.int y :: .int x :: st) σ := fun H locs ls hP hS h => lv_icmp_gt C.hx C.hb hd ht (fun c => kt c H locs ls hP hS h) (fun c => kf c H locs ls hP hS h)
theorem vv_icmp_le (C : VC Y X own cc nL ret fr lo) {x y : Int32} {off : Int} (tgt : Nat) (hd : decode cc pc = .ok (.if_icmp .le off, 3)) (ht : (pc : Int) + off = (tgt : Int)) (kt : x ≤ y → VJ Y X K nL tgt L st σ) (kf : ¬ x ≤ y → VJ Y X K nL (pc + 3) L st σ) : VJ Y X K nL pc L (.int y :: .int x :: st) σ := fun H locs ls hP hS h => lv_icmp_le C.hx C.hb hd ht (fun c => kt c H locs ls hP hS h) (fun c => kf c H locs ls hP hS h)
theorem vv_tabOut (C : VC Y X own cc nL ret fr lo) {dflt a b : Int} {offs : Array Int} {len : Nat} {x : Int32} (tgt : Nat) (hd : decode cc pc = .ok (.tableswitch dflt a b offs, len)) (hh : x.toInt < a ∨ b < x.toInt) (ht : (pc : Int) + dflt = (tgt : Int)) (k : VJ Y X K nL tgt L st σ) : VJ Y X K nL pc L (.int x :: st) σ := fun H locs ls hP hS h => lv_tableOut C.hx C.hb hd hh ht (k H locs ls hP hS h)
theorem vv_tabIn (C : VC Y X own cc nL ret fr lo) {dflt a b : Int} {offs : Array Int} {len : Nat} {x : Int32} {off : Int} (tgt : Nat) (hd : decode cc pc = .ok (.tableswitch dflt a b offs, len)) (h1 : ¬ x.toInt < a) (h2 : ¬ b < x.toInt) (ho : offs[(x.toInt - a).toNat]? = some off) (ht : (pc : Int) + off = (tgt : Int)) (k : VJ Y X K nL tgt L st σ) : VJ Y X K nL pc L (.int x :: st) σ := fun H locs ls hP hS h => lv_tableIn C.hx C.hb hd h1 h2 ho ht (k H locs ls hP hS h)
theorem vv_lookup (C : VC Y X own cc nL ret fr lo) {dflt : Int} {ps : Array (Int × Int)} {len : Nat} {x : Int32} {off : Int} (tgt : Nat) (hd : decode cc pc = .ok (.lookupswitch dflt ps, len)) (hp : (ps.toList.zip (ps.toList.drop 1)).all (fun (a, next) => a.1 < next.1) = true) (ho : Op.lookupswitch.offset ps.toList dflt x.toInt = off) (ht : (pc : Int) + off = (tgt : Int)) (k : VJ Y X K nL tgt L st σ) : VJ Y X K nL pc L (.int x :: st) σ := fun H locs ls hP hS h => lv_lookup C.hx C.hb hd hp ho ht (k H locs ls hP hS h)
/-- an int field -/
theorem vv_geti (C : VC Y X own cc nL ret fr lo) {ci N d idx : Nat} {Cn : String} {T : u_T} {fl : List Nat} (hk : vv_Kc ci Cn T N) (hs : d < Y.2.2.2.2.2 ∧ vv_sh Y d = .inl (ci, fl)) (k : Nat) (hkN : k < N) (hf : fl[k]? = some 0) (hl : Cond.fieldLink own idx (T k).1 (T k).2.1 (T k).2.2.1 ∈ lw_ok) (hd : decode cc pc = .ok (.getfield idx, 3)) (kk : VJ Y X K nL (pc + 3) L (.int (σ d k) :: st) σ) : VJ Y X K nL pc L (.ref (vv_q Y d) :: st) σ := fun H locs ls hP hS h => by
  have he : (vv_w Y σ)[d]? = some (vv_q Y d, .inr (ci, vv_fs Y.2.2.2.1 (σ d) 0 fl)) := by rw [vv_W_get hs.1]; rw [show Y.2.2.2.2.1 d = .inl (ci, fl) from hs.2]; rfl
  have hv := vv_fs_int (q := Y.2.2.2.1) (row := σ d) fl 0 k hf
  rw [Nat.zero_add] at hv
  exact va_get C.hx C.hb C.hts hk.2.1 C.hown C.hK hP d he hk.1 k hkN (C.hts _ hl) (fun _ h9 => h9) hv hd (kk H locs ls hP hS h)
/-- a field that is a cell -/
theorem vv_getr (C : VC Y X own cc nL ret fr lo) {ci N d idx r : Nat} {Cn : String} {T : u_T} {fl : List Nat} (hk : vv_Kc ci Cn T N) (hs : d < Y.2.2.2.2.2 ∧ vv_sh Y d = .inl (ci, fl)) (k : Nat) (hkN : k < N) (hf : fl[k]? = some (r + 1)) (hl : Cond.fieldLink own idx (T k).1 (T k).2.1 (T k).2.2.1 ∈ lw_ok) (hd : decode cc pc = .ok (.getfield idx, 3)) (kk : VJ Y X K nL (pc + 3) L (.ref (vv_q Y r) :: st) σ) : VJ Y X K nL pc L (.ref (vv_q Y d) :: st) σ := fun H locs ls hP hS h => by
  have he : (vv_w Y σ)[d]? = some (vv_q Y d, .inr (ci, vv_fs Y.2.2.2.1 (σ d) 0 fl)) := by rw [vv_W_get hs.1]; rw [show Y.2.2.2.2.1 d = .inl (ci, fl) from hs.2]; rfl
  exact va_get C.hx C.hb C.hts hk.2.1 C.hown C.hK hP d he hk.1 k hkN (C.hts _ hl) (fun _ h9 => h9) (vv_fs_ref (q := Y.2.2.2.1) (row := σ d) fl 0 k hf) hd (kk H locs ls hP hS h)
theorem vv_puti (C : VC Y X own cc nL ret fr lo) {ci N d idx : Nat} {Cn : String} {T : u_T} {fl : List Nat} {v : Int32} (hk : vv_Kc ci Cn T N) (hs : d < Y.2.2.2.2.2 ∧ vv_sh Y d = .inl (ci, fl)) (k : Nat) (hkN : k < N) (hf : fl[k]? = some 0) (hp : parseFieldDescriptor (T k).2.2.1 = some .int ∧ (T k).2.2.2 = false) (hl : Cond.fieldLink own idx (T k).1 (T k).2.1 (T k).2.2.1 ∈ lw_ok) (hd : decode cc pc = .ok (.putfield idx, 3)) (kk : ∀ σ', σ' = vv_up σ d k v → VJ Y X K nL (pc + 3) L st σ') : VJ Y X K nL pc L (.int v :: .ref (vv_q Y d) :: st) σ := fun H locs ls hP hS h => by
  have he : (vv_w Y σ)[d]? = some (vv_q Y d, .inr (ci, vv_fs Y.2.2.2.1 (σ d) 0 fl)) := by rw [vv_W_get hs.1]; rw [show Y.2.2.2.2.1 d = .inl (ci, fl) from hs.2]; rfl
  obtain ⟨ty0, hty⟩ := hk.2.2.2
  have hlen : k < (vv_fs Y.2.2.2.1 (σ d) 0 fl).length := by rw [vv_fs_len]; exact (List.getElem?_eq_some_iff.mp hf).1
  refine va_put C.hx C.hb C.hts hk.2.1 ty0 hty hk.2.2.1 C.hown C.hK hP (C.hD σ) hS d he hk.1 k hkN (C.hts _ hl) (fun _ h9 => h9) hp.2 (ty := .int) (v := .int v) hp.1 rfl rfl hlen hd (fun H1 locs1 hP1 _ hS1 => kk _ rfl H1 locs1 ls ?_ hS1 h)
  have e1 := vv_fs_set (q := Y.2.2.2.1) (row := σ d) (v := v) fl 0 k hf
  rw [Nat.zero_add] at e1
  rw [e1] at hP1
  have e2 := vv_W_set (w := Y.2.2.2.2) (ty := Y.2.2.1) (q := Y.2.2.2.1) (σ := σ) (k := d) (j := k) (v := v) (e := .inr (ci, vv_fs Y.2.2.2.1 (upd (σ d) k v) 0 fl)) hs.1 (by rw [show Y.2.2.2.2.1 d = .inl (ci, fl) from hs.2]; rfl)
  show va_P Y.2.1 vv_cl (vv_W Y.2.2.2.2 Y.2.2.1 Y.2.2.2.1 (vv_up σ d k v)) H1
  rw [← e2]
  exact hP1
theorem vv_iald (C : VC Y X own cc nL ret fr lo) {a n j : Nat} {i : Int32} (hs : a < Y.2.2.2.2.2 ∧ vv_sh Y a = .inr (.inl n)) (hi : vp_in i n) (hj : i.toNatClampNeg = j) (hd : decode cc pc = .ok (.iaload, 1)) (kk : VJ Y X K nL (pc + 1) L (.int (σ a j) :: st) σ) : VJ Y X K nL pc L (.int i :: .ref (vv_q Y a) :: st) σ := fun H locs ls hP hS h => by
  have he : (vv_w Y σ)[a]? = some (vv_q Y a, .inl (Y.2.2.1 0, n, .inl (σ a))) := by rw [vv_W_get hs.1]; rw [show Y.2.2.2.2.1 a = .inr (.inl n) from hs.2]; rfl
  subst hj
  exact va_iald C.hx C.hb C.hK hP a 0 he rfl hi hd (kk H locs ls hP hS h)
theorem vv_iast (C : VC Y X own cc nL ret fr lo) {a n j : Nat} {i v : Int32} (hs : a < Y.2.2.2.2.2 ∧ vv_sh Y a = .inr (.inl n)) (hi : vp_in i n) (hj : i.toNatClampNeg = j) (hd : decode cc pc = .ok (.iastore, 1)) (kk : ∀ σ', σ' = vv_up σ a j v → VJ Y X K nL (pc + 1) L st σ') : VJ Y X K nL pc L (.int v :: .int i :: .ref (vv_q Y a) :: st) σ := fun H locs ls hP hS h => by
  have he : (vv_w Y σ)[a]? = some (vv_q Y a, .inl (Y.2.2.1 0, n, .inl (σ a))) := by rw [vv_W_get hs.1]; rw [show Y.2.2.2.2.1 a = .inr (.inl n) from hs.2]; rfl
  subst hj
  refine va_iast C.hx C.hb C.hK hP (C.hD σ) hS a 0 he rfl hi hd (fun H1 locs1 hP1 _ hS1 => kk _ rfl H1 locs1 ls ?_ hS1 h)
  have e2 := vv_W_set (w := Y.2.2.2.2) (ty := Y.2.2.1) (q := Y.2.2.2.1) (σ := σ) (k := a) (j := i.toNatClampNeg) (v := v) (e := .inl (Y.2.2.1 0, n, .inl (upd (σ a) i.toNatClampNeg v))) hs.1 (by rw [show Y.2.2.2.2.1 a = .inr (.inl n) from hs.2]; rfl)
  show va_P Y.2.1 vv_cl (vv_W Y.2.2.2.2 Y.2.2.1 Y.2.2.2.1 (vv_up σ a i.toNatClampNeg v)) H1
  rw [← e2]
  exact hP1
/-- a place of an array of objects -/
theorem vv_aaldO (C : VC Y X own cc nL ret fr lo) {a n b st' : Nat} {i : Int32} (hs : a < Y.2.2.2.2.2 ∧ vv_sh Y a = .inr (.inr (1, n, b, st'))) (hi : vp_in i n) (hd : decode cc pc = .ok (.aaload, 1)) (kk : VJ Y X K nL (pc + 1) L (.ref (vv_q Y (b + st' * i.toNatClampNeg)) :: st) σ) : VJ Y X K nL pc L (.int i :: .ref (vv_q Y a) :: st) σ := fun H locs ls hP hS h => by
  have he : (vv_w Y σ)[a]? = some (vv_q Y a, .inl (Y.2.2.1 1, n, .inr (.inr (.inr (.inr (fun j => some (vv_q Y (b + st' * j)))))))) := by rw [vv_W_get hs.1]; rw [show Y.2.2.2.2.1 a = .inr (.inr (1, n, b, st')) from hs.2]; rfl
  exact va_aldq C.hx C.hb C.hK hP a 1 he rfl hi hd (kk H locs ls hP hS h)
/-- a row of an array of arrays -/
theorem vv_aaldA (C : VC Y X own cc nL ret fr lo) {a n b st' : Nat} {i : Int32} (hs : a < Y.2.2.2.2.2 ∧ vv_sh Y a = .inr (.inr (2, n, b, st'))) (hi : vp_in i n) (hd : decode cc pc = .ok (.aaload, 1)) (kk : VJ Y X K nL (pc + 1) L (.ref (vv_q Y (b + st' * i.toNatClampNeg)) :: st) σ) : VJ Y X K nL pc L (.int i :: .ref (vv_q Y a) :: st) σ := fun H locs ls hP hS h => by
  have he : (vv_w Y σ)[a]? = some (vv_q Y a, .inl (Y.2.2.1 2, n, .inr (.inr (.inr (.inr (fun j => some (vv_q Y (b + st' * j)))))))) := by rw [vv_W_get hs.1]; rw [show Y.2.2.2.2.1 a = .inr (.inr (2, n, b, st')) from hs.2]; rfl
  have hlt : i.toNatClampNeg < n := Nat.not_le.mp fun q => hi (Or.inr q)
  exact W.aald (v := .ref (vv_q Y (b + st' * i.toNatClampNeg))) (ty := .array .int) C.hx C.hb (hP a _ he) ((C.hK.2 2 _ rfl).1 n (fun j => va_rf (some (vv_q Y (b + st' * j))))) rfl (fun q => by cases q) (by show ¬ (i < 0 ∨ (arrV _ _ _).slots.size ≤ _); rw [arrV_size]; exact hi) (by show (arrV _ _ _).slots[_]? = _; rw [arrV_read _ _ hlt]; rfl) rfl rfl hd (kk H locs ls hP hS h)
theorem vv_max (C : VC Y X own cc nL ret fr lo) {index : Nat} {x y : Int32} (hl : Cond.methodLink own index Lib.Math.max.name ∈ lw_ok) (hm : Cond.static Lib.Math.max.name ∈ lw_ok ∧ Cond.initialized "java/lang/Math" ∈ lw_ok ∧ Cond.code Lib.Math.max.name Lib.Math.max.code 2 (some .int) ∈ lw_ok) (hf : 1 ≤ fr) (hlo : (st.map fun v => v.category).sum + 13 ≤ lo) (hd : decode cc pc = .ok (.invokestatic index, 3)) (kk : VJ Y X K nL (pc + 3) L (.int (if x < y then y else x) :: st) σ) : VJ Y X K nL pc L (.int y :: .int x :: st) σ := fun H locs ls hP hS h =>
  va_mmax C.hx C.hb (C.hml.trans h.1.symm) C.hown (C.hts _ hl) (C.hts _ hm.1) (C.hts _ hm.2.1) (C.hts _ hm.2.2) (by rw [C.hR]; exact hf) (by rw [C.hR]; exact hlo) (Nat.zero_le _) (Nat.zero_le _) hd (kk H locs ls hP hS h)
theorem vv_min (C : VC Y X own cc nL ret fr lo) {index : Nat} {x y : Int32} (hl : Cond.methodLink own index Lib.Math.min.name ∈ lw_ok) (hm : Cond.static Lib.Math.min.name ∈ lw_ok ∧ Cond.initialized "java/lang/Math" ∈ lw_ok ∧ Cond.code Lib.Math.min.name Lib.Math.min.code 2 (some .int) ∈ lw_ok) (hf : 1 ≤ fr) (hlo : (st.map fun v => v.category).sum + 13 ≤ lo) (hd : decode cc pc = .ok (.invokestatic index, 3)) (kk : VJ Y X K nL (pc + 3) L (.int (if y < x then y else x) :: st) σ) : VJ Y X K nL pc L (.int y :: .int x :: st) σ := fun H locs ls hP hS h =>
  va_mmin C.hx C.hb (C.hml.trans h.1.symm) C.hown (C.hts _ hl) (C.hts _ hm.1) (C.hts _ hm.2.1) (C.hts _ hm.2.2) (by rw [C.hR]; exact hf) (by rw [C.hR]; exact hlo) (Nat.zero_le _) (Nat.zero_le _) hd (kk H locs ls hP hS h)
theorem vv_B_of (C : VC Y X own cc nL ret fr lo) {H : Heap} {t : State} (hP : va_P Y.2.1 vv_cl (vv_w Y σ) H) (ht : t.heap = H) (hW : X.1.2.2.2.1.WarmedH t.vm) : vv_B Y σ t := ⟨by rw [ht]; exact hP, va_K.moved hW.alike C.hK⟩
theorem vv_iret {post : Int32 → vv_S → Prop} {v : Int32} (C : VC Y X own cc nL (some .int) fr lo) (hd : decode cc pc = .ok (.ireturn, 1)) (h : post v σ) : VJ Y X (va_Qi post (vv_B Y) X.2) nL pc L [.int v] σ := fun H locs ls hP hS _ =>
  W.iret C.hx C.hb C.hr (fun t ht hW => ⟨⟨v, σ, rfl, h, vv_B_of C hP ht hW⟩, hS.F ht⟩) hS.2.2 hd C.hlk
theorem vv_zret {post : Int32 → vv_S → Prop} {v : Int32} (C : VC Y X own cc nL (some .boolean) fr lo) (hv : v = 0 ∨ v = 1) (hd : decode cc pc = .ok (.ireturn, 1)) (h : post v σ) : VJ Y X (va_Qi post (vv_B Y) X.2) nL pc L [.int v] σ := fun H locs ls hP hS _ =>
  W.zret C.hx C.hb C.hr (by rcases hv with rfl | rfl <;> rfl) (fun t ht hW => ⟨⟨v, σ, rfl, h, vv_B_of C hP ht hW⟩, hS.F ht⟩) hS.2.2 hd C.hlk
theorem vv_vret {post : vv_S → Prop} (C : VC Y X own cc nL none fr lo) (hd : decode cc pc = .ok (.return_, 1)) (h : post σ) : VJ Y X (va_Qv post (vv_B Y) X.2) nL pc L [] σ := fun H locs ls hP hS _ =>
  W.vret C.hx C.hb C.hr (fun t ht hW => ⟨⟨σ, rfl, h, vv_B_of C hP ht hW⟩, hS.F ht⟩) hS.2.2 hd C.hlk
theorem vv_aret {post : vv_S → Prop} {r : Nat} {n : String} (C : VC Y X own cc nL (some (.object n)) fr lo) (hd : decode cc pc = .ok (.areturn, 1)) (h : post σ) : VJ Y X (va_Qr post (fun u a t => a = vv_q Y r ∧ vv_B Y u t) X.2) nL pc L [.ref (vv_q Y r)] σ := fun H locs ls hP hS _ =>
  W.aret C.hx C.hb C.hr (Or.inl ⟨n, rfl⟩) (Or.inr ⟨_, rfl⟩) (fun t ht hW => ⟨⟨σ, vv_q Y r, rfl, h, rfl, vv_B_of C hP ht hW⟩, hS.F ht⟩) hS.2.2 hd C.hlk
end VR

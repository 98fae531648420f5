/-! THE CLAIM OUT OF ONE WALK OF THE LAW'S BODY. Your part is whole_start (and what it stands on); all else here is the same for every law, but numbers. -/
def R_law : String := "DamOfTurfLaw"
def lw_P (b : Addr) (xs : List Int32) (args : Array Value) (s : State) : Prop := args = #[.ref b] ∧ s.IntsAt b xs ∧ xs.length ≤ 320 ∧ (Jvm.Cond.and given_1 narrow_1).before args s = true
def lw_Q (_ : Array Value) (s : State) (o : Outcome) (t : State) : Prop := o = .returned (some (.int 1)) ∧ Framed s o t [] 600000 7302249
def lw_Z (below : List Frame) (a : Array Value) (s : State) : State → Prop := fun t => ∃ o, t.status = .running ∧ Ended t below o ∧ lw_Q a s o t
/-- the law's own end, with 1 on the stack, nothing written that was there before, its room as the claim has it -/
theorem lw_ret {p : Program} {l : Launch} {e : Env} {s : State} {m : MethodId} {below : List Frame} {meth : Method} {c : Code} {b : Nat} (hx : p.tables.exec = Jvm.exec) (hb : c.code = code) (hr : meth.sig.returnType = ret) (hlocks : meth.locks = false) {pc : Nat} {H : Heap} {ls : Array Slot} (hdg : decode code pc = .ok (.ireturn, 1)) : W p l e room_1 s m #[Value.ref b] below meth c H [] 600000 7302249 (lw_Z below #[Value.ref b] s) (F0 m pc ls [.int 1]) := by
  intro T hT X
  obtain ⟨fs, hret, hrun, hended, hW, hframe⟩ := X.leave (v := some (.int 1)) (hlocks := hlocks) (fun h => by rw [hr] at h; cases h)
  have hmeth' : T.vm.method? m = some meth := X.method'
  refine ⟨T.setFrames fs, ?_, .returned (some (.int 1)), hrun, hended, rfl, ⟨_, rfl⟩, hW, hframe⟩
  jvm_step X.here [X.here.top, hx, hb, hdg, hmeth', hr, ret, narrow_b1]
  (try refine ⟨rfl, ?_⟩); (try refine ⟨rfl, ?_⟩)
  first | (intro acts; rw [hret _ acts rfl rfl rfl]) | rw [hret _ _ rfl rfl rfl]
  exact Steps.refl _
/-- what holds at the law's entry: the machine, the code, the tables' words (any of lw_tbl by 'hts w (by decide +kernel)'), the script of L ints xs at the cell b, what the Statement gives of the start (any of its parts by flat_of_before) -/
def lw_At (p : Program) (s : State) (m : MethodId) (meth : Method) (c : Code) (b L : Nat) (xs : Nat → Int32) : Prop :=
  p.tables.exec = Jvm.exec ∧ c.code = code ∧ meth.sig.returnType = ret ∧ c.maxLocals = 4 ∧ s.vm.findClass R_law = some m.cls ∧ (∀ w ∈ lw_tbl, w.before #[Value.ref b] s = true) ∧ va_X b L xs s s.heap ∧ b < s.heap.size ∧ meth.locks = false ∧ (Jvm.Cond.and given_1 narrow_1).before #[Value.ref b] s = true
theorem mn_X8_9 : Cond.methodLinkNest RX8 9 yX7_init "DamOfTurf" ∈ lw_tbl := lw_g1 (List.mem_of_getElem? (i := 26) rfl)
theorem mn_X8_18 : Cond.methodLinkNest RX8 18 yX4_init "DamOfTurf" ∈ lw_tbl := lw_g1 (List.mem_of_getElem? (i := 46) rfl)
theorem mn_X4_20 : Cond.methodLinkNest RX4 20 yX1_init "DamOfTurf" ∈ lw_tbl := lw_g1 (List.mem_of_getElem? (i := 52) rfl)
theorem mn_X4_27 : Cond.methodLinkNest RX4 27 yX2_init "DamOfTurf" ∈ lw_tbl := lw_g1 (List.mem_of_getElem? (i := 83) rfl)
theorem mn_X8_40 : Cond.methodLinkNest RX8 40 yX0_init "DamOfTurf" ∈ lw_tbl := lw_g1 (List.mem_of_getElem? (i := 193) rfl)
theorem mn_X8_51 : Cond.methodLinkNest RX8 51 yX6_init "DamOfTurf" ∈ lw_tbl := lw_g1 (List.mem_of_getElem? (i := 216) rfl)
theorem mn_X8_58 : Cond.methodLinkNest RX8 58 yX5_init "DamOfTurf" ∈ lw_tbl := lw_g1 (List.mem_of_getElem? (i := 232) rfl)
theorem mn_X4_103 : Cond.methodLinkNest RX4 103 yX8_isStuff "DamOfTurf" ∈ lw_tbl := lw_g2 (List.mem_of_getElem? (i := 109) rfl)
theorem mn_X4_107 : Cond.methodLinkNest RX4 107 yX8_isWithin "DamOfTurf" ∈ lw_tbl := lw_g2 (List.mem_of_getElem? (i := 123) rfl)
theorem mn_X2_39 : Cond.methodLinkNest RX2 39 yX8_isStuff "DamOfTurf" ∈ lw_tbl := lw_g2 (List.mem_of_getElem? (i := 141) rfl)
theorem mn_X2_43 : Cond.methodLinkNest RX2 43 yX8_isWithin "DamOfTurf" ∈ lw_tbl := lw_g2 (List.mem_of_getElem? (i := 142) rfl)
theorem ao_Acts : Cond.arrayOver (.object "DamOfTurf$Acts") ∈ lw_tbl := lw_g1 (List.mem_of_getElem? (i := 213) rfl)
theorem ao_int : Cond.arrayOver (.array .int) ∈ lw_tbl := lw_g1 (List.mem_of_getElem? (i := 88) rfl)
theorem sr_66 : Cond.stringRef RX8 66 tx1 ∈ lw_tbl := lw_g2 (List.mem_of_getElem? (i := 3) rfl)
theorem ne_start {args : Array Value} {s : State} (hts : ∀ w ∈ lw_tbl, w.before args s = true) : vi_Ne s := by
  refine ⟨fun x hx => ?_, fun x hx => ?_, va_AO.of (hts _ ao_Acts), va_AOA.of (hts _ ao_int)⟩
  · simp only [vi_nest, List.mem_cons, List.not_mem_nil, or_false] at hx
    rcases hx with rfl | rfl | rfl | rfl | rfl | rfl | rfl
    · exact va_Nw.of rfl (hts _ mn_X4_20)
    · exact va_Nw.of rfl (hts _ mn_X4_27)
    · exact va_Nw.of rfl (hts _ mn_X8_9)
    · exact va_Nw.of rfl (hts _ mn_X8_18)
    · exact va_Nw.of rfl (hts _ mn_X8_40)
    · exact va_Nw.of rfl (hts _ mn_X8_51)
    · exact va_Nw.of rfl (hts _ mn_X8_58)
  · simp only [vv_nest, List.mem_cons, List.not_mem_nil, or_false] at hx
    rcases hx with rfl | rfl | rfl | rfl
    · exact va_Nw.of rfl (hts _ mn_X2_39)
    · exact va_Nw.of rfl (hts _ mn_X2_43)
    · exact va_Nw.of rfl (hts _ mn_X4_103)
    · exact va_Nw.of rfl (hts _ mn_X4_107)
theorem k_start {args : Array Value} {s : State} (hts : ∀ w ∈ lw_tbl, w.before args s = true) : ∃ (D : va_G) (ty : Nat → ClassId), va_K D vv_cl (vv_tys ty) s := by
  have hok : ∀ w ∈ lw_ok, w.before args s = true := fun w hw => hts w (lw_ok_tbl hw)
  obtain ⟨c0, i0, h0⟩ := u_known (C := RX0) (T := TX0) (N := 5) (n := 5) hok kc_X0.2.1 (hok _ iz_X0)
  obtain ⟨c1, i1, h1⟩ := u_known (C := RX1) (T := TX1) (N := 8) (n := 8) hok kc_X1.2.1 (hok _ iz_X1)
  obtain ⟨c2, i2, h2⟩ := u_known (C := RX2) (T := TX2) (N := 6) (n := 6) hok kc_X2.2.1 (hok _ iz_X2)
  obtain ⟨c3, i3, h3⟩ := u_known (C := RX3) (T := TX3) (N := 16) (n := 16) hok kc_X3.2.1 (hok _ iz_X3)
  obtain ⟨c4, i4, h4⟩ := u_known (C := RX4) (T := TX4) (N := 9) (n := 9) hok kc_X4.2.1 (hok _ iz_X4)
  obtain ⟨c5, i5, h5⟩ := u_known (C := RX5) (T := TX5) (N := 2) (n := 2) hok kc_X5.2.1 (hok _ iz_X5)
  obtain ⟨c6, i6, h6⟩ := u_known (C := RX6) (T := TX6) (N := 3) (n := 3) hok kc_X6.2.1 (hok _ iz_X6)
  obtain ⟨c7, i7, h7⟩ := u_known (C := RX7) (T := TX7) (N := 4) (n := 4) hok kc_X7.2.1 (hok _ iz_X7)
  obtain ⟨c8, i8, h8⟩ := u_known (C := RX8) (T := TX8) (N := 11) (n := 11) hok kc_X8.2.1 (hok _ iz_X8)
  obtain ⟨c9, i9, h9⟩ := u_known (C := RX9) (T := TX9) (N := 48) (n := 48) hok kc_X9.2.1 (hok _ iz_X9)
  have hall : ∀ k : Nat, ∃ x : ClassId × (Nat → Nat), ∀ q : vw_C, vv_cl[k]? = some q → u_Kn s q.1 q.2.1 q.2.2 x.1 x.2 := by
    intro k
    match k with
    | 0 => exact ⟨(c0, i0), fun q hq => by cases hq; exact h0⟩
    | 1 => exact ⟨(c1, i1), fun q hq => by cases hq; exact h1⟩
    | 2 => exact ⟨(c2, i2), fun q hq => by cases hq; exact h2⟩
    | 3 => exact ⟨(c3, i3), fun q hq => by cases hq; exact h3⟩
    | 4 => exact ⟨(c4, i4), fun q hq => by cases hq; exact h4⟩
    | 5 => exact ⟨(c5, i5), fun q hq => by cases hq; exact h5⟩
    | 6 => exact ⟨(c6, i6), fun q hq => by cases hq; exact h6⟩
    | 7 => exact ⟨(c7, i7), fun q hq => by cases hq; exact h7⟩
    | 8 => exact ⟨(c8, i8), fun q hq => by cases hq; exact h8⟩
    | 9 => exact ⟨(c9, i9), fun q hq => by cases hq; exact h9⟩
    | k + 10 => exact ⟨(c0, i0), fun q hq => by simp [vv_cl] at hq⟩
  obtain ⟨f, hf⟩ := Classical.axiomOfChoice hall
  obtain ⟨a0, k0, m0, a1, a2, a3⟩ := Cond.arrayClass_spec (hok _ ac_int)
  obtain ⟨p1, b0, l0, b1, -, b2, b3, b4⟩ := Cond.arrayOver_spec (hts _ ao_Acts)
  obtain ⟨p2, e0, l1, -, -, e2, e3, e4⟩ := arrayOverA_spec (hts _ ao_int)
  refine ⟨(fun k => (f k).1, fun k => (f k).2), fun k => if k = 0 then a0 else if k = 1 then b0 else e0, fun k q hq => hf k q hq, fun k q hq => ?_⟩
  match k, hq with
  | 0, hq => cases hq; exact ⟨fun n z => ⟨(fun k h => by cases h), k0, a2, m0, a3⟩, a1⟩
  | 1, hq => cases hq; exact ⟨fun n z => ⟨(fun k h => by cases h), l0, b2, p1, b3⟩, l0, p1, b2, b3, b1, b4⟩
  | 2, hq => cases hq; exact ⟨fun n z => ⟨(fun k h => by cases h), l1, e2, p2, e3⟩, e4⟩
  | k + 3, hq => simp [vv_tys] at hq
abbrev tmS : Term := .string "DamOfTurf" 66
abbrev tmV : Term := .field tmS "java/lang/String" "value" "[B"
set_option maxRecDepth 20000 in
theorem nw_el : ∀ j, j < 66 → Cond.eq (.elem tmV (.int (Int32.ofNat j))) (.int (tFT.getD j 0)) ∈ flatC (Jvm.Cond.and given_1 narrow_1) := by decide +kernel
set_option maxRecDepth 20000 in
theorem nw_co : Cond.eq (.field tmS "java/lang/String" "coder" "B") (.int 0) ∈ flatC (Jvm.Cond.and given_1 narrow_1) ∧ Cond.exactly tmS "java/lang/String" ∈ flatC (Jvm.Cond.and given_1 narrow_1) ∧ Cond.arrayOf tmV .byte ∈ flatC (Jvm.Cond.and given_1 narrow_1) ∧ Cond.eq (.length tmV) (.int (Int32.ofNat 66)) ∈ flatC (Jvm.Cond.and given_1 narrow_1) ∧ Cond.eq (.static "java/lang/String" "COMPACT_STRINGS" "Z") (.int 1) ∈ flatC (Jvm.Cond.and given_1 narrow_1) ∧ Cond.isRef (.static "jdk/internal/util/Preconditions" "SIOOBE_FORMATTER" "Ljava/util/function/BiFunction;") ∈ flatC (Jvm.Cond.and given_1 narrow_1) := by decide +kernel
theorem s_start0 {args : Array Value} {s : State} (hts : ∀ w ∈ lw_tbl, w.before args s = true) (hgv : (Jvm.Cond.and given_1 narrow_1).before args s = true) : ∃ (k0 v0 : Nat) (r0 : Option Nat), vz_S k0 v0 r0 (fun q => s.heap.size ≤ q) s s.heap ∧ vk_R RX8 66 tx1 k0 s := by
  have hok : ∀ w ∈ lw_ok, w.before args s = true := fun w hw => hts w (lw_ok_tbl hw)
  have hs := flat_of_before _ hgv
  have hA : ∀ a : Nat, a < s.heap.size → ¬ s.heap.size ≤ a := fun a h => Nat.not_le.mpr h
  obtain ⟨q1, q2, q3, q4, q5, q6⟩ := nw_co
  obtain ⟨adK, adV, hE, hT⟩ := vk_Sof (args := args) (s := s) (N := 1) (tm := fun _ => tmS) (len := [66]) (byt := [tFT]) (A := fun q => s.heap.size ≤ q)
    (fun i hi => by rw [show i = 0 by omega]; decide) (fun i hi => hs _ q2) (fun i hi => hs _ q1) (fun i hi => hs _ q3)
    (fun i hi => by rw [show i = 0 by omega]; exact hs _ q4) (fun i hi j hj => by
      have e : i = 0 := by omega
      subst e
      exact hs _ (nw_el j hj)) (fun i j hi hj hij => absurd (show i = j by omega) hij) hA
  obtain ⟨h1, h2, h3, h4⟩ := hE.1 0 (by decide)
  have z1 := va_Zof (hts _ ls_COMPACT_STRINGS) (hok _ in_J0) (va_eqi (hs _ q5)) hA
  have z2 := va_Zqof (hts _ ls_SIOOBE_FORMATTER) (hok _ in_J3) (hs _ q6) hA
  have h4 : va_T .byte (adV 0) 66 (fun j => .int (fTX j)) (fun q => s.heap.size ≤ q) s s.heap := h4
  have hk := vk_R.of (hts _ sr_66) (hT 0 (by decide))
  rcases z2 with z2 | ⟨t, z2⟩
  · exact ⟨adK 0, adV 0, none, ⟨h1, h2, h3, h4, z1, z2⟩, hk⟩
  · exact ⟨adK 0, adV 0, some t, ⟨h1, h2, h3, h4, z1, z2⟩, hk⟩

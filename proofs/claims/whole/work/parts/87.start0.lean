/-! ===== the start: what the first text tells, and the worlds that the constructors leave ===== -/
def tt1 : Nat → Int32 := ltt 66 fTX
abbrev Tz1 : vT := kCell T0 [10, 0]
theorem rz1 : rdN tt1 4 (0 + 1) = some ([10, 0], 6) := by decide +kernel
theorem xz1 : tt1 0 = 99 := by decide +kernel
theorem st1 : st tt1 T0 0 = some (Tz1, 6) := st_s rz1 (by rw [xz1, tk_99, if_pos (by decide)])
theorem ok1 : tOk Tz1 := (st_ok T0_ok st1).1
abbrev Tz2 : vT := kCell Tz1 [8, 1]
theorem rz2 : rdN tt1 4 (6 + 1) = some ([8, 1], 11) := by decide +kernel
theorem xz2 : tt1 6 = 99 := by decide +kernel
theorem st2 : st tt1 Tz1 6 = some (Tz2, 11) := st_s rz2 (by rw [xz2, tk_99, if_pos (by decide)])
theorem ok2 : tOk Tz2 := (st_ok ok1 st2).1
abbrev Tz3 : vT := kCell Tz2 [12, 3]
theorem rz3 : rdN tt1 4 (11 + 1) = some ([12, 3], 17) := by decide +kernel
theorem xz3 : tt1 11 = 99 := by decide +kernel
theorem st3 : st tt1 Tz2 11 = some (Tz3, 17) := st_s rz3 (by rw [xz3, tk_99, if_pos (by decide)])
theorem ok3 : tOk Tz3 := (st_ok ok2 st3).1
abbrev Tz4 : vT := kBank Tz3 [20, 20]
theorem rz4 : rdN tt1 4 (17 + 1) = some ([20, 20], 24) := by decide +kernel
theorem xz4 : tt1 17 = 98 := by decide +kernel
theorem st4 : st tt1 Tz3 17 = some (Tz4, 24) := st_s rz4 (by rw [xz4, tk_98, if_pos (by decide)])
theorem ok4 : tOk Tz4 := (st_ok ok3 st4).1
abbrev Tz5 : vT := kLake Tz4 [6, 1]
theorem rz5 : rdN tt1 4 (24 + 1) = some ([6, 1], 29) := by decide +kernel
theorem xz5 : tt1 24 = 97 := by decide +kernel
theorem st5 : st tt1 Tz4 24 = some (Tz5, 29) := st_s rz5 (by rw [xz5, tk_97, if_pos (by decide)])
theorem ok5 : tOk Tz5 := (st_ok ok4 st5).1
abbrev Tz6 : vT := kFlow Tz5 [0, 9]
theorem rz6 : rdN tt1 4 (29 + 1) = some ([0, 9], 34) := by decide +kernel
theorem xz6 : tt1 29 = 102 := by decide +kernel
theorem st6 : st tt1 Tz5 29 = some (Tz6, 34) := st_s rz6 (by rw [xz6, tk_102, if_pos (by decide)])
theorem ok6 : tOk Tz6 := (st_ok ok5 st6).1
abbrev Tz7 : vT := kKid Tz6 [3, 1, 0, 2]
theorem rz7 : rdN tt1 4 (34 + 1) = some ([3, 1, 0, 2], 43) := by decide +kernel
theorem xz7 : tt1 34 = 112 := by decide +kernel
theorem st7 : st tt1 Tz6 34 = some (Tz7, 43) := st_s rz7 (by rw [xz7, tk_112, if_pos (by decide)])
theorem ok7 : tOk Tz7 := (st_ok ok6 st7).1
abbrev Tz8 : vT := kKid Tz7 [1, 2, 1, 0]
theorem rz8 : rdN tt1 4 (43 + 1) = some ([1, 2, 1, 0], 52) := by decide +kernel
theorem xz8 : tt1 43 = 112 := by decide +kernel
theorem st8 : st tt1 Tz7 43 = some (Tz8, 52) := st_s rz8 (by rw [xz8, tk_112, if_pos (by decide)])
theorem ok8 : tOk Tz8 := (st_ok ok7 st8).1
abbrev Tz9 : vT := kJob Tz8 [0, 0, 6]
theorem rz9 : rdN tt1 4 (52 + 1) = some ([0, 0, 6], 59) := by decide +kernel
theorem xz9 : tt1 52 = 106 := by decide +kernel
theorem st9 : st tt1 Tz8 52 = some (Tz9, 59) := st_s rz9 (by rw [xz9, tk_106, if_pos (by decide)])
theorem ok9 : tOk Tz9 := (st_ok ok8 st9).1
abbrev Tz10 : vT := kJob Tz9 [1, 1, 4]
theorem rz10 : rdN tt1 4 (59 + 1) = some ([1, 1, 4], 66) := by decide +kernel
theorem xz10 : tt1 59 = 106 := by decide +kernel
theorem st10 : st tt1 Tz9 59 = some (Tz10, 66) := st_s rz10 (by rw [xz10, tk_106, if_pos (by decide)])
theorem ok10 : tOk Tz10 := (st_ok ok9 st10).1
abbrev T1 : vT := Tz10
theorem T1_ok : tOk T1 := ok10
theorem ra1 : ra tt1 66 201 0 T0 = .inr T1 := (ra_s (by decide) st1).trans ((ra_s (by decide) st2).trans ((ra_s (by decide) st3).trans ((ra_s (by decide) st4).trans ((ra_s (by decide) st5).trans ((ra_s (by decide) st6).trans ((ra_s (by decide) st7).trans ((ra_s (by decide) st8).trans ((ra_s (by decide) st9).trans ((ra_s (by decide) st10).trans (ra_end (by decide)))))))))))
abbrev P1 : vP := tP T1
abbrev Q1 : vQ := tQ T1
def B1 : vK := ((0, fun _ => A0), (0, fun _ => 0, fun _ => 0), 0, fTX)
theorem P1_ok : pOk P1 := tP_ok T1_ok (by decide)
theorem R1_ok : ROk P1 (D0 P1) A0 Q1 B1 := ⟨P1_ok, D0_ok P1_ok, A0_ok _, rfl, T1_ok.2.2.2.2, by show (0 : Nat) ≤ 2; decide, fun j hj => absurd hj (Nat.not_lt_zero _), by show (0 : Nat) ≤ 8; decide, fun k hk => absurd hk (Nat.not_lt_zero _), by show (0 : Nat) ≤ 200; decide⟩
def z0 : vv_S := fun _ _ => 0
/-- the class's world, k letters being written -/
def IT (k : Nat) (c : vv_S) : Prop := (∀ i, i ≠ 1 → i ≠ 2 → c i = fun _ => 0) ∧ c 1 1 = nI k ∧ ∀ j, j < k → c 2 j = fTX j
theorem IT_0 : IT 0 z0 := ⟨fun _ _ _ => rfl, rfl, fun j hj => absurd hj (Nat.not_lt_zero _)⟩
theorem IT_add {k : Nat} (hk : k < 66) {c : vv_S} (h : IT k c) : wX7_add (fTX k) c (fun _ s => IT (k + 1) s) := by
  obtain ⟨h1, h2, h3⟩ := h
  unfold wX7_add
  rw [h2, nI_clamp (by omega)]
  refine jn_of (fun _ => True) trivial (fun f _ => ⟨fun z => absurd z (nI_pos (by omega)), fun _ => ⟨fun _ => ⟨vp_in_nI (by omega) (by decide), ?_⟩, fun z => absurd (show nI k < nI 200 from nI_lt (by omega) (by decide)) z⟩⟩)
  rintro _ rfl _ rfl
  refine ⟨fun i a b => by rw [vv_up_r a, vv_up_r b]; exact h1 i a b, ?_, fun j hj => ?_⟩
  · rw [vv_up_s, vv_up_c (by decide), h2, nI_1]
  · rw [vv_up_c (by decide)]
    by_cases e : j = k
    · subst e; rw [vv_up_s]
    · rw [vv_up_i e]; exact h3 j (by omega)
def IR (c : vv_S) : Prop := PC P1 c ∧ QC Q1 c ∧ c 0 7 = 0 ∧ c 50 4 = 0 ∧ c 66 2 = 0
theorem IT_read {c : vv_S} (h : IT 66 c) : wX4_readFrom 4 c (fun _ s => IR s) := by
  obtain ⟨h1, h2, h3⟩ := h
  refine s_readFrom (p := 4) (by decide) (n := 66) (TX := fTX) ⟨by decide, h2, h3⟩ (fun a e => absurd (ra1.symm.trans e) (by simp)) (fun T e hT c' hf htc hb => ?_)
  have e2 := ra1.symm.trans e
  injection e2 with e2
  subst e2
  obtain ⟨pc, qc⟩ := htc.plan hb
  exact ⟨pc, qc, by rw [hf.1 0 (by decide) (by decide) (by omega), h1 0 (by decide) (by decide)], by rw [hf.1 50 (by decide) (by decide) (by omega), h1 50 (by decide) (by decide)], by rw [hf.1 66 (by decide) (by decide) (by omega), h1 66 (by decide) (by decide)]⟩
def IC (c : vv_S) : Prop := IR c ∧ c 1 1 = 0
theorem IR_clear {c : vv_S} (h : IR c) : wX7_clear c IC := by
  obtain ⟨pc, qc, h0, h50, h66⟩ := h
  unfold wX7_clear
  rintro _ rfl
  have e : ∀ i, i ≠ 1 → (vv_up c 1 1 0) i = c i := fun i a => vv_up_r a
  refine ⟨⟨?_, ?_, by rw [e 0 (by decide)]; exact h0, by rw [e 50 (by decide)]; exact h50, by rw [e 66 (by decide)]; exact h66⟩, vv_up_s⟩
  · unfold PC at *
    rw [e 4 (by decide), e 13 (by decide), e 5 (by decide), e 6 (by decide)]
    exact pc
  · obtain ⟨u1, u2, u3, u4⟩ := qc
    refine ⟨by rw [e 14 (by decide)]; exact u1, by rw [e 14 (by decide)]; exact u2, fun i s hi hs => ?_, ?_⟩
    · have hi2 : i < 2 := hi; rw [e (16 + i) (by omega)]; exact u3 i s hi hs
    · rw [e 20 (by decide), e 21 (by decide)]; exact u4
theorem IC_anew {c : vv_S} (h : IC c) : wX3_startAnew 42 c (fun s => RC P1 (D0 P1) A0 Q1 B1 s) := by
  obtain ⟨⟨pc, qc, h0, h50, h66⟩, h11⟩ := h
  refine s_startAnew P1_ok (d := 42) (by decide) pc ?_
  intro c4 hf4 hd4
  have pc4 := pc.fr (d := 42) (by decide) hf4
  obtain ⟨u1, u2, u3, u4⟩ := qc
  have q1 := T1_ok.2.2.2.2.1
  refine ⟨pc4, hd4, ⟨?_, fun k hk => absurd hk (Nat.not_lt_zero _)⟩, ⟨?_, ?_, fun i s hi hs => ?_, ?_⟩, ?_, fun j hj => absurd hj (Nat.not_lt_zero _), ?_, fun k hk => absurd hk (Nat.not_lt_zero _), ?_, fun k hk => absurd hk (Nat.not_lt_zero _)⟩
  · rw [hf4 50 (by omega)]; exact h50
  · rw [hf4 14 (by omega)]; exact u1
  · rw [hf4 14 (by omega)]; exact u2
  · have hi2 : i < 2 := hi; rw [hf4 (16 + i) (by omega)]; exact u3 i s hi hs
  · rw [hf4 20 (by omega), hf4 21 (by omega)]; exact u4
  · rw [hf4 0 (by omega)]; exact h0
  · rw [hf4 66 (by omega)]; exact h66
  · rw [hf4 1 (by omega)]; exact h11
def zM1 : vv_S := vv_up (vv_up (vv_up (vv_up (vv_up (vv_up (vv_up (vv_up (vv_up (z0) 2 ((0 : Int32).toNatClampNeg) 0) 5 (((2 : Int32) * 0).toNatClampNeg) 20) 5 (((2 : Int32) * 0 + 1).toNatClampNeg) 20) 6 (((2 : Int32) * 0).toNatClampNeg) 6) 6 (((2 : Int32) * 0 + 1).toNatClampNeg) 1) 7 ((0 : Int32).toNatClampNeg) 0) 10 ((0 : Int32).toNatClampNeg) 0) 14 ((0 : Int32).toNatClampNeg) 0) 16 ((0 : Int32).toNatClampNeg) 0
theorem nd1 : wX9_noDam 0 z0 (fun s => s = zM1) := by
  unfold wX9_noDam
  exact ⟨by unfold vp_in; decide, fun _ e0 => ⟨by unfold vp_in; decide, fun _ e1 => ⟨by unfold vp_in; decide, fun _ e2 => ⟨by unfold vp_in; decide, fun _ e3 => ⟨by unfold vp_in; decide, fun _ e4 => ⟨by unfold vp_in; decide, fun _ e5 => ⟨by unfold vp_in; decide, fun _ e6 => ⟨by unfold vp_in; decide, fun _ e7 => ⟨by unfold vp_in; decide, fun _ e8 => by subst e0 e1 e2 e3 e4 e5 e6 e7 e8; rfl⟩⟩⟩⟩⟩⟩⟩⟩⟩
def zM2 : vv_S := vv_up (vv_up (vv_up (vv_up (vv_up (vv_up (vv_up (vv_up (vv_up (vv_up (vv_up (vv_up (vv_up (vv_up (vv_up (vv_up (vv_up (vv_up (vv_up (vv_up (zM1) 2 0 3) 3 0 10) 3 1 8) 4 1 1) 3 2 12) 4 2 3) 7 0 1) 9 0 9) 14 0 2) 15 0 3) 15 1 1) 15 3 2) 15 4 1) 15 5 2) 15 6 1) 16 0 2) 19 0 6) 17 1 1) 18 1 1) 19 1 4
theorem pm1 : PM P1 zM2 := by
  refine ⟨by decide, by decide, by decide, by decide, by decide, ⟨tfc T1, trc T1, tF T1, tU T1, tRF T1, tRT T1, tRU T1, by decide, by decide, by decide, by decide, fun k hk => ?_, fun k hk => absurd hk (Nat.not_lt_zero _), fun t => rfl⟩, fun k hk => ?_⟩
  · have hk : k < 1 := hk
    rw [show k = 0 by omega]
    exact ⟨by decide, by decide, by decide, by decide⟩
  · have hk : k < 3 := hk
    rcases (show k = 0 ∨ k = 1 ∨ k = 2 by omega) with rfl | rfl | rfl <;> exact ⟨by decide, by decide⟩
theorem qm1 : QM Q1 zM2 := by
  refine ⟨by decide, by decide, fun i s hi hs => ?_, fun j hj => ?_⟩
  · have hi : i < 2 := hi
    rcases (show i = 0 ∨ i = 1 by omega) with rfl | rfl <;> rcases (show s = 0 ∨ s = 1 ∨ s = 2 ∨ s = 3 by omega) with rfl | rfl | rfl | rfl <;> decide
  · have hj : j < 2 := hj
    rcases (show j = 0 ∨ j = 1 by omega) with rfl | rfl <;> exact ⟨by decide, by decide⟩
theorem begin1 : wX9_begin zM2 (fun s => RM P1 (D0 P1) A0 Q1 B1 s) := by
  refine s_beginM P1_ok (A0_ok _) pm1 ⟨by decide, fun k hk => absurd hk (Nat.not_lt_zero _)⟩ ?_
  intro mh hfh hdh
  have g : ∀ i, 1 ≤ i → i ≤ 26 → mh i = zM2 i := fun i a b => hfh.1 i (by omega) (by omega) (by omega) (by omega) (by omega) (by omega) (by omega) (by omega)
  have am : AM A0 zM2 := ⟨by decide, fun k hk => absurd hk (Nat.not_lt_zero _)⟩
  refine ⟨pm1.fr hfh, hdh, am.fr hfh, ?_, ?_, fun j hj => absurd hj (Nat.not_lt_zero _), ?_, fun k hk => absurd hk (Nat.not_lt_zero _), ?_, fun k hk => absurd hk (Nat.not_lt_zero _)⟩
  · have q := qm1
    unfold QM at *
    rw [g 14 (by decide) (by decide), g 15 (by decide) (by decide), g 16 (by decide) (by decide), g 18 (by decide) (by decide), g 19 (by decide) (by decide)]
    exact q
  · rw [hfh.2.1 25 (by decide) (by decide) (by decide)]; decide
  · rw [hfh.2.1 26 (by decide) (by decide) (by decide)]; decide
  · rw [hfh.2.1 0 (by decide) (by decide) (by decide)]; decide
theorem rel1 {c m : vv_S} (hc : RC P1 (D0 P1) A0 Q1 B1 c) (hm : RM P1 (D0 P1) A0 Q1 B1 m) : Rel c m := ⟨P1, D0 P1, A0, Q1, B1, R1_ok, hc, hm⟩

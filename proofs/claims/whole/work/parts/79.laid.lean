def A0 : vA := (0, fun _ => 0, fun _ => 0, fun _ => 0, fun _ => 0)
theorem A0_ok (P : vP) : aOk P A0 := ⟨by decide, fun k hk => absurd hk (Nat.not_lt_zero _), by decide⟩
/-- what a text tells, told on both sides -/
theorem TC.plan {T : vT} {c : vv_S} (h : TC 4 T c) (hb : ∀ t, t ≤ 100 → c 13 t = nI (tC T t)) : PC (tP T) c ∧ QC (tQ T) c := by
  obtain ⟨⟨a1, a2, a3⟩, ⟨b1, b2, b3, b4⟩, tf, tr, ⟨k1, k2⟩, ⟨j1, j2, j3⟩⟩ := h
  exact ⟨⟨a1, b1, b2, b3, b4, hb, fun k hk => ⟨a2 k hk, a3 k hk⟩⟩, k1, j1, fun i s hi hs => k2 i s hi hs, fun j hj => ⟨j2 j hj, j3 j hj⟩⟩
theorem sim_laid {c m : vv_S} (h : Rel c m) : wX8_laid c (fun x s => wX9_laid m (fun y t => x = y ∧ Rel s t)) := by
  obtain ⟨P, D, A, Q, B, ho, hc, hm⟩ := h
  obtain ⟨hp, hd, hA, hMA, hq, hk⟩ := id ho
  have tc : TXT B.2.2.1 B.2.2.2 c := ⟨hk.2.2.2.2, hc.2.2.2.2.2.2.2.2.1, hc.2.2.2.2.2.2.2.2.2⟩
  have tm : TXM B.2.2.1 B.2.2.2 m := ⟨hk.2.2.2.2, hm.2.2.2.2.2.2.2.2.1, hm.2.2.2.2.2.2.2.2.2⟩
  unfold wX8_laid
  refine s_readFrom (p := 23) (by decide) tc (fun a e c' hf ha => ?_) (fun T e hT c' hf htc hb => ?_)
  · refine jn_of (fun f => f c') ?_ (fun f hf => ⟨fun _ => hf, fun y => absurd y (nI_nm4 (by omega))⟩)
    unfold wX9_laid
    refine s_readAll tm (fun a' e' m' hf' => ?_) (fun T' e' => absurd (e.symm.trans e') (by simp))
    have e2 := e.symm.trans e'
    injection e2 with e2
    subst e2
    exact jn_of (fun f => f) ⟨rfl, P, D, A, Q, B, ho, hc.frY hq hk hf, hm.frT hp hq hf'⟩ (fun f hf => ⟨fun _ => hf, fun y => absurd y (nI_nm4 (by omega))⟩)
  · have hn8 := hT.1.1
    have z0 : nI (tN T) = 0 ↔ tN T = 0 := by rw [vn0]; exact nI_eq (by omega) (by decide)
    by_cases hz : tN T = 0
    · refine jn_of (fun f => f c') ?_ (fun f hff => ⟨fun y => absurd rfl y, fun _ => ?_⟩)
      · unfold wX9_laid
        refine s_readAll tm (fun a' e' => absurd (e.symm.trans e') (by simp)) (fun T' e' m' hf' htm => ?_)
        have e2 := e.symm.trans e'
        injection e2 with e2
        subst e2
        refine jn_of (fun f => f) ⟨rfl, P, D, A, Q, B, ho, hc.frY hq hk hf, hm.frT hp hq hf'⟩ (fun f hf => ⟨fun y => absurd rfl y, fun _ => ⟨fun y => absurd ?_ y, fun _ => hf⟩⟩)
        rw [htm.1.1]
        exact z0.mpr hz
      · unfold wX4_cellCount
        rw [htc.1.1]
        exact ⟨fun y => absurd (z0.mpr hz) y, fun _ => hff⟩
    · refine jn_of (fun _ => True) trivial (fun f _ => ⟨fun y => absurd rfl y, fun _ => ?_⟩)
      unfold wX4_cellCount
      rw [htc.1.1]
      refine ⟨fun _ => ?_, fun y => absurd (z0.mp y) hz⟩
      refine s_readFrom (p := 4) (by decide) (tc.frY (by decide) hf) (fun a e' => absurd (e.symm.trans e') (by simp)) (fun T2 e2 hT2 c2 hf2 htc2 hb2 => ?_)
      have e3 := e.symm.trans e2
      injection e3 with e3
      subst e3
      obtain ⟨pc, qc⟩ := htc2.plan hb2
      have hP := tP_ok hT (by omega)
      unfold wX0_clear wX6_clear
      rintro _ rfl _ rfl _ rfl
      have ef : ∀ i, i ≠ 50 → i ≠ 0 → i ≠ 66 → (vv_up (vv_up (vv_up c2 50 4 0) 0 7 0) 66 2 0) i = c2 i := fun i a b d => by rw [vv_up_r d, vv_up_r b, vv_up_r a]
      have pc3 : PC (tP T) (vv_up (vv_up (vv_up c2 50 4 0) 0 7 0) 66 2 0) := by
        unfold PC at *
        rw [ef 4 (by decide) (by decide) (by decide), ef 13 (by decide) (by decide) (by decide), ef 5 (by decide) (by decide) (by decide), ef 6 (by decide) (by decide) (by decide)]
        exact pc
      refine s_startAnew hP (d := 42) (by decide) pc3 ?_
      intro c4 hf4 hd4
      have pc4 := pc3.fr (d := 42) (by decide) hf4
      rw [pc4.1]
      have ef4 : ∀ i, ¬ (42 ≤ i ∧ i ≤ 45) → i ≠ 50 → i ≠ 0 → i ≠ 66 → c4 i = c2 i := fun i z a b d => by rw [hf4 i z, ef i a b d]
      have rc : RC (tP T) (D0 (tP T)) A0 (tQ T) ((0, B.1.2), (0, B.2.1.2), B.2.2) c4 := by
        obtain ⟨u1, u2, u3, u4⟩ := qc
        have q1 := hT.2.2.2.2.1
        refine ⟨pc4, hd4, ⟨?_, fun k hk => absurd hk (Nat.not_lt_zero _)⟩, ⟨?_, ?_, fun i s hi hs => ?_, ?_⟩, ?_, fun j hj => absurd hj (Nat.not_lt_zero _), ?_, fun k hk => absurd hk (Nat.not_lt_zero _), ?_, ?_⟩
        · rw [hf4 50 (by omega), vv_up_c (by decide), vv_up_c (by decide), vv_up_s]; rfl
        · rw [ef4 14 (by omega) (by decide) (by decide) (by decide)]; exact u1
        · rw [ef4 14 (by omega) (by decide) (by decide) (by decide)]; exact u2
        · rw [ef4 (16 + i) (by omega) (by omega) (by omega) (by omega)]; exact u3 i s hi hs
        · rw [ef4 20 (by omega) (by decide) (by decide) (by decide), ef4 21 (by omega) (by decide) (by decide) (by decide)]; exact u4
        · rw [hf4 0 (by omega), vv_up_c (by decide), vv_up_s]; rfl
        · rw [hf4 66 (by omega), vv_up_s]; rfl
        · rw [ef4 1 (by omega) (by decide) (by decide) (by decide), hf2.2 1 (by decide), hf.2 1 (by decide)]; exact tc.2.1
        · rw [ef4 2 (by omega) (by decide) (by decide) (by decide), hf2.1 2 (by decide) (by decide) (by omega), hf.1 2 (by decide) (by decide) (by omega)]; exact tc.2.2
      unfold wX9_laid
      refine s_readAll tm (fun a' e' => absurd (e.symm.trans e') (by simp)) (fun T' e' m1 hf' htm => ?_)
      have e4 := e.symm.trans e'
      injection e4 with e4
      subst e4
      refine jn_of (fun _ => True) trivial (fun f _ => ⟨fun y => absurd rfl y, fun _ => ⟨fun _ => ?_, fun y => absurd (z0.mp (by rw [← htm.1.1]; exact y)) hz⟩⟩)
      rintro _ rfl _ rfl _ rfl _ rfl _ rfl
      obtain ⟨⟨a1, a2, a3⟩, ⟨b1, b2, b3, b4⟩, ⟨f1, f2, f3⟩, ⟨r1, r2, r3, r4⟩, ⟨w1, w2⟩, ⟨x1, x2, x3⟩⟩ := htm
      generalize hma : vv_up (vv_up (vv_up (vv_up (vv_up m1 2 0 (m1 2 1)) 7 0 ((vv_up m1 2 0 (m1 2 1)) 7 1)) 10 0 ((vv_up (vv_up m1 2 0 (m1 2 1)) 7 0 ((vv_up m1 2 0 (m1 2 1)) 7 1)) 10 1)) 14 0 ((vv_up (vv_up (vv_up m1 2 0 (m1 2 1)) 7 0 ((vv_up m1 2 0 (m1 2 1)) 7 1)) 10 0 ((vv_up (vv_up m1 2 0 (m1 2 1)) 7 0 ((vv_up m1 2 0 (m1 2 1)) 7 1)) 10 1)) 14 1)) 16 0 ((vv_up (vv_up (vv_up (vv_up m1 2 0 (m1 2 1)) 7 0 ((vv_up m1 2 0 (m1 2 1)) 7 1)) 10 0 ((vv_up (vv_up m1 2 0 (m1 2 1)) 7 0 ((vv_up m1 2 0 (m1 2 1)) 7 1)) 10 1)) 14 0 ((vv_up (vv_up (vv_up m1 2 0 (m1 2 1)) 7 0 ((vv_up m1 2 0 (m1 2 1)) 7 1)) 10 0 ((vv_up (vv_up m1 2 0 (m1 2 1)) 7 0 ((vv_up m1 2 0 (m1 2 1)) 7 1)) 10 1)) 14 1)) 16 1) = ma
      have ea : ∀ i, i ≠ 2 → i ≠ 7 → i ≠ 10 → i ≠ 14 → i ≠ 16 → ma i = m1 i := fun i a b d g l => by rw [← hma, vv_up_r l, vv_up_r g, vv_up_r d, vv_up_r b, vv_up_r a]
      have ma2 : ma 2 0 = nI (tN T) := by rw [← hma]; simp [vv_up_app]; exact a1
      have ma7 : ma 7 0 = nI (tfc T) := by rw [← hma]; simp [vv_up_app]; exact f1
      have ma10 : ma 10 0 = nI (trc T) := by rw [← hma]; simp [vv_up_app]; exact r1
      have ma14 : ma 14 0 = nI (tQ T).1 := by rw [← hma]; simp [vv_up_app]; exact w1
      have ma16 : ma 16 0 = nI (tQ T).2.2.1 := by rw [← hma]; simp [vv_up_app]; exact x1
      clear hma
      refine jn_of (fun k => ∀ m', (∀ i, i ≠ 5 → i ≠ 6 → m' i = ma i) → m' 5 = cpR 2 2 (ma 5) → m' 6 = cpR 2 2 (ma 6) → k m') ?_ (fun k hk => s_laid5 hk)
      intro mb eb eb5 eb6
      refine jn_of (fun k => ∀ m', (∀ i, i ≠ 3 → i ≠ 4 → m' i = mb i) → m' 3 = cpR 8 8 (mb 3) → m' 4 = cpR 8 8 (mb 4) → k m') ?_ (fun k hk => s_laid4 hk)
      intro mc ec ec3 ec4
      refine jn_of (fun k => ∀ m', (∀ i, i ≠ 8 → i ≠ 9 → i ≠ 11 → i ≠ 12 → i ≠ 13 → m' i = mc i) → m' 8 = cpR 4 4 (mc 8) → m' 9 = cpR 4 4 (mc 9) → m' 11 = cpR 4 4 (mc 11) → m' 12 = cpR 4 4 (mc 12) → m' 13 = cpR 4 4 (mc 13) → k m') ?_ (fun k hk => s_laid3 hk)
      intro md ed ed8 ed9 ed11 ed12 ed13
      refine jn_of (fun k => ∀ m', (∀ i, i ≠ 15 → m' i = md i) → m' 15 = cpR 16 16 (md 15) → k m') ?_ (fun k hk => s_laid2 hk)
      intro me ee ee15
      refine jn_of (fun k => ∀ m', (∀ i, i ≠ 17 → i ≠ 18 → i ≠ 19 → m' i = me i) → m' 18 = cpR 5 5 (me 18) → m' 19 = cpR 5 5 (me 19) → k m') ?_ (fun k hk => s_laid1 hk)
      intro mf ef' ef18 ef19
      rintro _ rfl _ rfl _ rfl
      generalize hmg : vv_up (vv_up (vv_up mf 20 0 0) 0 25 0) 0 26 0 = mg
      have eg : ∀ i, i ≠ 20 → i ≠ 0 → mg i = mf i := fun i a b => by rw [← hmg, vv_up_r b, vv_up_r b, vv_up_r a]
      have g20 : mg 20 0 = nI 0 := by rw [← hmg, vv_up_c (by decide), vv_up_c (by decide), vv_up_s]; rfl
      have g25 : mg 0 25 = nI 0 := by rw [← hmg, vv_up_i (by decide), vv_up_s]; rfl
      have g26 : mg 0 26 = nI 0 := by rw [← hmg, vv_up_s]; rfl
      have g0 : mg 0 0 = mf 0 0 := by rw [← hmg, vv_up_i (by decide), vv_up_i (by decide), vv_up_c (by decide)]
      clear hmg
      have k1 := hT.2.2.1.1
      have k2 := hT.2.2.2.1.1
      have k3 := hT.2.2.2.2.1
      have k4 := hT.2.2.2.2.2.1
      have pm : PM (tP T) mg := by
        refine ⟨?_, ?_, ?_, ?_, ?_, ⟨tfc T, trc T, tF T, tU T, tRF T, tRT T, tRU T, k1, k2, ?_, ?_, fun k hk => ?_, fun k hk => ?_, fun t => rfl⟩, fun k hk => ?_⟩
        · rw [eg 2 (by decide) (by decide), ef' 2 (by decide) (by decide) (by decide), ee 2 (by decide), ed 2 (by decide) (by decide) (by decide) (by decide) (by decide), ec 2 (by decide) (by decide), eb 2 (by decide) (by decide)]; exact ma2
        · rw [eg 5 (by decide) (by decide), ef' 5 (by decide) (by decide) (by decide), ee 5 (by decide), ed 5 (by decide) (by decide) (by decide) (by decide) (by decide), ec 5 (by decide) (by decide), eb5, cp_lo (by decide), ea 5 (by decide) (by decide) (by decide) (by decide) (by decide)]; exact b1
        · rw [eg 5 (by decide) (by decide), ef' 5 (by decide) (by decide) (by decide), ee 5 (by decide), ed 5 (by decide) (by decide) (by decide) (by decide) (by decide), ec 5 (by decide) (by decide), eb5, cp_lo (by decide), ea 5 (by decide) (by decide) (by decide) (by decide) (by decide)]; exact b2
        · rw [eg 6 (by decide) (by decide), ef' 6 (by decide) (by decide) (by decide), ee 6 (by decide), ed 6 (by decide) (by decide) (by decide) (by decide) (by decide), ec 6 (by decide) (by decide), eb6, cp_lo (by decide), ea 6 (by decide) (by decide) (by decide) (by decide) (by decide)]; exact b3
        · rw [eg 6 (by decide) (by decide), ef' 6 (by decide) (by decide) (by decide), ee 6 (by decide), ed 6 (by decide) (by decide) (by decide) (by decide) (by decide), ec 6 (by decide) (by decide), eb6, cp_lo (by decide), ea 6 (by decide) (by decide) (by decide) (by decide) (by decide)]; exact b4
        · rw [eg 7 (by decide) (by decide), ef' 7 (by decide) (by decide) (by decide), ee 7 (by decide), ed 7 (by decide) (by decide) (by decide) (by decide) (by decide), ec 7 (by decide) (by decide), eb 7 (by decide) (by decide)]; exact ma7
        · rw [eg 10 (by decide) (by decide), ef' 10 (by decide) (by decide) (by decide), ee 10 (by decide), ed 10 (by decide) (by decide) (by decide) (by decide) (by decide), ec 10 (by decide) (by decide), eb 10 (by decide) (by decide)]; exact ma10
        · have := hT.2.2.1.2 k hk
          rw [eg 8 (by decide) (by decide), ef' 8 (by decide) (by decide) (by decide), ee 8 (by decide), ed8, cp_lo (by omega), ec 8 (by decide) (by decide), eb 8 (by decide) (by decide), ea 8 (by decide) (by decide) (by decide) (by decide) (by decide), eg 9 (by decide) (by decide), ef' 9 (by decide) (by decide) (by decide), ee 9 (by decide), ed9, cp_lo (by omega), ec 9 (by decide) (by decide), eb 9 (by decide) (by decide), ea 9 (by decide) (by decide) (by decide) (by decide) (by decide)]
          exact ⟨f2 k hk, f3 k hk, this⟩
        · have := hT.2.2.2.1.2 k hk
          rw [eg 11 (by decide) (by decide), ef' 11 (by decide) (by decide) (by decide), ee 11 (by decide), ed11, cp_lo (by omega), ec 11 (by decide) (by decide), eb 11 (by decide) (by decide), ea 11 (by decide) (by decide) (by decide) (by decide) (by decide), eg 12 (by decide) (by decide), ef' 12 (by decide) (by decide) (by decide), ee 12 (by decide), ed12, cp_lo (by omega), ec 12 (by decide) (by decide), eb 12 (by decide) (by decide), ea 12 (by decide) (by decide) (by decide) (by decide) (by decide), eg 13 (by decide) (by decide), ef' 13 (by decide) (by decide) (by decide), ee 13 (by decide), ed13, cp_lo (by omega), ec 13 (by decide) (by decide), eb 13 (by decide) (by decide), ea 13 (by decide) (by decide) (by decide) (by decide) (by decide)]
          exact ⟨r2 k hk, r3 k hk, r4 k hk, this⟩
        · have hk8 : k < 8 := Nat.lt_of_lt_of_le hk hn8
          rw [eg 3 (by decide) (by decide), ef' 3 (by decide) (by decide) (by decide), ee 3 (by decide), ed 3 (by decide) (by decide) (by decide) (by decide) (by decide), ec3, cp_lo hk8, eb 3 (by decide) (by decide), ea 3 (by decide) (by decide) (by decide) (by decide) (by decide), eg 4 (by decide) (by decide), ef' 4 (by decide) (by decide) (by decide), ee 4 (by decide), ed 4 (by decide) (by decide) (by decide) (by decide) (by decide), ec4, cp_lo hk8, eb 4 (by decide) (by decide), ea 4 (by decide) (by decide) (by decide) (by decide) (by decide)]
          exact ⟨a2 k hk, a3 k hk⟩
      have qm : QM (tQ T) mg := by
        refine ⟨?_, ?_, fun i s hi hs => ?_, fun j hj => ?_⟩
        · rw [eg 14 (by decide) (by decide), ef' 14 (by decide) (by decide) (by decide), ee 14 (by decide), ed 14 (by decide) (by decide) (by decide) (by decide) (by decide), ec 14 (by decide) (by decide), eb 14 (by decide) (by decide)]; exact ma14
        · rw [eg 16 (by decide) (by decide), ef' 16 (by decide) (by decide) (by decide), ee 16 (by decide), ed 16 (by decide) (by decide) (by decide) (by decide) (by decide), ec 16 (by decide) (by decide), eb 16 (by decide) (by decide)]; exact ma16
        · rw [eg 15 (by decide) (by decide), ef' 15 (by decide) (by decide) (by decide), ee15, cp_lo (by omega), ed 15 (by decide) (by decide) (by decide) (by decide) (by decide), ec 15 (by decide) (by decide), eb 15 (by decide) (by decide), ea 15 (by decide) (by decide) (by decide) (by decide) (by decide)]
          exact w2 i s hi hs
        · rw [eg 18 (by decide) (by decide), ef18, cp_lo (by omega), ee 18 (by decide), ed 18 (by decide) (by decide) (by decide) (by decide) (by decide), ec 18 (by decide) (by decide), eb 18 (by decide) (by decide), ea 18 (by decide) (by decide) (by decide) (by decide) (by decide), eg 19 (by decide) (by decide), ef19, cp_lo (by omega), ee 19 (by decide), ed 19 (by decide) (by decide) (by decide) (by decide) (by decide), ec 19 (by decide) (by decide), eb 19 (by decide) (by decide), ea 19 (by decide) (by decide) (by decide) (by decide) (by decide)]
          exact ⟨x2 j hj, x3 j hj⟩
      have er : ∀ i, i = 1 ∨ (21 ≤ i ∧ i ≠ 27) → mg i = m i := fun i hi => by rw [eg i (by omega) (by omega), ef' i (by omega) (by omega) (by omega), ee i (by omega), ed i (by omega) (by omega) (by omega) (by omega) (by omega), ec i (by omega) (by omega), eb i (by omega) (by omega), ea i (by omega) (by omega) (by omega) (by omega) (by omega), hf'.1 i (by omega)]
      have e00 : mg 0 0 = m 0 0 := by rw [g0, ef' 0 (by omega) (by omega) (by omega), ee 0 (by omega), ed 0 (by omega) (by omega) (by omega) (by omega) (by omega), ec 0 (by omega) (by omega), eb 0 (by omega) (by omega), ea 0 (by omega) (by omega) (by omega) (by omega) (by omega), hf'.2.1 0 (by decide)]
      have am : AM A0 mg := ⟨g20, fun k hk => absurd hk (Nat.not_lt_zero _)⟩
      refine s_beginM hP (A0_ok _) pm am ?_
      intro mh hfh hdh
      have pmh := pm.fr hfh
      rw [pmh.1]
      refine ⟨rfl, tP T, D0 (tP T), A0, tQ T, ((0, B.1.2), (0, B.2.1.2), B.2.2), ⟨hP, D0_ok hP, A0_ok _, rfl, hT.2.2.2.2, by show (0 : Nat) ≤ 2; decide, fun j hj => absurd hj (Nat.not_lt_zero _), by show (0 : Nat) ≤ 8; decide, fun k hk => absurd hk (Nat.not_lt_zero _), hk.2.2.2.2⟩, rc, pmh, hdh, am.fr hfh, ?_, ?_, fun j hj => absurd hj (Nat.not_lt_zero _), ?_, fun k hk => absurd hk (Nat.not_lt_zero _), ?_, ?_⟩
      · have g : ∀ i, 1 ≤ i → i ≤ 26 → mh i = mg i := fun i a b => hfh.1 i (by omega) (by omega) (by omega) (by omega) (by omega) (by omega) (by omega) (by omega)
        unfold QM at *
        rw [g 14 (by decide) (by decide), g 15 (by decide) (by decide), g 16 (by decide) (by decide), g 18 (by decide) (by decide), g 19 (by decide) (by decide)]
        exact qm
      · rw [hfh.2.1 25 (by decide) (by decide) (by decide)]; exact g25
      · rw [hfh.2.1 26 (by decide) (by decide) (by decide)]; exact g26
      · rw [hfh.2.1 0 (by decide) (by decide) (by decide), e00]; exact tm.2.1
      · rw [hfh.1 1 (by decide) (by decide) (by decide) (by decide) (by decide) (by decide) (by decide) (by decide), er 1 (Or.inl rfl)]; exact tm.2.2

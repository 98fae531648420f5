def zW (D : vD) : vD := (dH D, dO D, dB D, 0, dM D, dV D, dS D)
theorem zW_ok {P : vP} {D : vD} (h : dOk P D) : dOk P (zW D) := ⟨h.1, Nat.zero_le _, h.2.2⟩
def pFill (P : vP) (D : vD) (h : Nat) (i : Nat) : Bool := decide (h ≤ lv (pA P) (pS P) (dW (m0 P D (i + 1))) 60)
theorem sim_fill {a : Int32} {c m : vv_S} (h : Rel c m) : wX8_fill a c (fun x s => wX9_fill a m (fun y t => x = y ∧ Rel s t)) := by
  have hR := h
  obtain ⟨P, D, A, Q, B, ho, hc, hm⟩ := h
  obtain ⟨hp, hd, -⟩ := id ho
  have hm9 := ho.m999
  obtain ⟨-, -, -, -, -, -, hA, hS, -⟩ := id hp
  unfold wX8_fill
  refine s_within (fun q => ⟨fun _ => ?_, fun z => absurd z (by decide)⟩) (fun q => ⟨fun z => absurd rfl z, fun _ => ?_⟩)
  · obtain ⟨l, l1, l40, rfl⟩ := rng1 (L := 1) (N := 40) (by decide) (by decide) q.1 q.2
    refine s_copyFrom hp hd hc.1 hc.2.1.1 ?_
    intro c1 hf1 hd1
    unfold wX3_empty
    rintro _ rfl
    have hf1' : Fr4 46 c (vv_up c1 46 4 0) := hf1.trans (fun i hi => vv_up_r (by omega))
    have hd1' : DP P 46 (zW D) (vv_up c1 46 4 0) := by
      obtain ⟨⟨r1, r2, r4, r5, r6, r7⟩, q8, q9, q10, q11, q12⟩ := hd1
      refine ⟨⟨fun k hk => ?_, fun k k1 k2 => ?_, vv_up_s, ?_, ?_, ?_⟩, ?_, ?_, ?_, ?_, ?_⟩
      · rw [vv_up_c (by decide), vv_up_c (by decide), vv_up_c (by decide)]; exact r1 k hk
      · rw [vv_up_c (by decide)]; exact r2 k k1 k2
      · rw [vv_up_i (by decide)]; exact r5
      · rw [vv_up_i (by decide)]; exact r6
      · rw [vv_up_i (by decide)]; exact r7
      · rw [vv_up_i (by decide)]; exact q8
      · rw [vv_up_i (by decide)]; exact q9
      · rw [vv_up_i (by decide)]; exact q10
      · rw [vv_up_i (by decide)]; exact q11
      · rw [vv_up_i (by decide)]; exact q12
    have hz := zW_ok hd
    have lvb : ∀ w, lv (pA P) (pS P) w 60 ≤ 60 := fun w => lv_le _ _ _ _
    have hmod : ∀ (c2 : vv_S), FQC c c2 → wX9_fill (nI l) m (fun y t => minuteOf (fs (pFill P (zW D) l) 200 0) = y ∧ Rel c2 t) := by
      intro c2 hfc
      unfold wX9_fill
      refine s_inM (lo := 1) (hi := 40) (by decide) (by decide) (fun _ => ⟨fun _ => ?_, fun z => absurd z (by decide)⟩) (fun z => absurd q z)
      refine s_tryIt hp hm.2.1 ?_
      intro m1 hg1 he1
      rintro _ rfl
      have hg1' : FrW 1 m (vv_up m1 31 1 0) := hg1.trans ⟨fun i h0 h1 h2 h3 h4 h5 h6 h7 => vv_up_r h4, fun i h1 h2 h3 => vv_up_c (by decide), fun k hk => by simp [vv_up_app], fun k hk => by simp [vv_up_app, hk]⟩
      have he1' : DM P 1 (zW D) (vv_up m1 31 1 0) := by
        obtain ⟨r1, r4, r5, r6, r7⟩ := he1
        refine ⟨fun k hk => ?_, vv_up_s, by rw [vv_up_c (by decide)]; exact r5, by rw [vv_up_c (by decide)]; exact r6, by rw [vv_up_c (by decide)]; exact r7⟩
        rw [vv_up_c (by decide), vv_up_c (by decide), vv_up_c (by decide)]
        exact r1 k hk
      have key : ∀ (j i : Nat) (m' : vv_S), i + j = 200 → fs (pFill P (zW D) l) j i = fs (pFill P (zW D) l) 200 0 → FrW 1 m m' → DM P 1 (m0 P (zW D) i) m' → lX9_fill_1 (fun y t => minuteOf (fs (pFill P (zW D) l) 200 0) = y ∧ Rel c2 t) (nI l) (j + 1) (nI (i + 1)) m' := by
        intro j
        induction j with
        | zero =>
          intro i m' hi hfs hf' hd'
          unfold lX9_fill_1
          refine ⟨fun _ => ⟨?_, rel_q ho hc hm hfc hf'.toQ⟩, fun z => absurd ?_ z⟩
          · have e : fs (pFill P (zW D) l) 200 0 = 200 := by rw [← hfs]; show i = 200; omega
            rw [e]; rfl
          · rw [show (200 : Int32) = nI 200 by decide]; exact nI_lt (by omega) (by omega)
        | succ j ih =>
          intro i m' hi hfs hf' hd'
          unfold lX9_fill_1
          refine ⟨fun z => absurd z ?_, fun _ => ?_⟩
          · rw [show (200 : Int32) = nI 200 by decide]; exact nI_nlt (by omega) (by omega)
          refine s_go hp (b := 1) (by decide) (mns_ok hp hz i) (x := 0) (by omega) (by rw [mns_M]; show dM D + i ≤ 2000; omega) (hm.1.fr hf') hd' ?_
          intro m2 hf2' hd2 w1 w2 w3
          have hok : dOk P (m0 P (zW D) (i + 1)) := mns_ok (x := fun _ => 0) hp hz (i + 1)
          have pm2 := hm.1.fr (hf'.trans hf2'.toW)
          have e : fs (pFill P (zW D) l) (j + 1) i = if pFill P (zW D) l i then i else fs (pFill P (zW D) l) j (i + 1) := rfl
          have e31 : m2 31 1 = nI (dW (m0 P (zW D) (i + 1))) := hd2.2.1
          rw [e31]
          refine s_levelOfM hA hS pm2.2.2.2.1 pm2.2.2.2.2.1 (by have : dW (m0 P (zW D) (i + 1)) ≤ 7375 := hok.2.1; omega) ?_
          have hlb := lvb (dW (m0 P (zW D) (i + 1)))
          have hzz : nI (lv (pA P) (pS P) (dW (m0 P (zW D) (i + 1))) 60) < nI l ↔ pFill P (zW D) l i = false := by
            rw [nI_ltI (by omega) (by omega)]
            simp [pFill]
          refine ⟨fun z => ?_, fun z => ?_⟩
          · rintro _ rfl
            rw [nI_1]
            rw [hzz] at z
            rw [if_neg (by simp [z])] at e
            exact ih (i + 1) m2 (by omega) (e.symm.trans hfs) (hf'.trans hf2'.toW) hd2
          · have q2 : pFill P (zW D) l i = true := by
              cases h : pFill P (zW D) l i with
              | true => rfl
              | false => exact absurd (hzz.mpr h) z
            rw [if_pos q2] at e
            have e2 := e.symm.trans hfs
            refine ⟨?_, rel_q ho hc hm hfc (hf'.trans hf2'.toW).toQ⟩
            rw [← e2]
            unfold minuteOf
            rw [if_pos (by omega)]
      exact ⟨201, key 200 0 _ (by omega) rfl hg1' he1'⟩
    have key : ∀ (j i : Nat) (c2 : vv_S), i + j = 200 → fs (pFill P (zW D) l) j i = fs (pFill P (zW D) l) 200 0 → Fr4 46 c c2 → DP P 46 (m0 P (zW D) i) c2 → lX8_fill_1 (fun x s => wX9_fill (nI l) m (fun y t => x = y ∧ Rel s t)) (nI l) (j + 1) (nI (i + 1)) c2 := by
      intro j
      induction j with
      | zero =>
        intro i c2 hi hfs hf' hd'
        unfold lX8_fill_1
        refine ⟨fun _ => ?_, fun z => absurd ?_ z⟩
        · have e : fs (pFill P (zW D) l) 200 0 = 200 := by rw [← hfs]; show i = 200; omega
          have := hmod c2 hf'.toQ
          rw [e] at this
          exact this
        · rw [show (200 : Int32) = nI 200 by decide]; exact nI_lt (by omega) (by omega)
      | succ j ih =>
        intro i c2 hi hfs hf' hd'
        unfold lX8_fill_1
        refine ⟨fun z => absurd z ?_, fun _ => ?_⟩
        · rw [show (200 : Int32) = nI 200 by decide]; exact nI_nlt (by omega) (by omega)
        refine s_oneMinute hp (by decide) (mns_ok hp hz i) (x := 0) (by omega) (by rw [mns_M]; show dM D + i ≤ 2000; omega) (hc.1.fr (by decide) hf') hd' ?_
        intro c3 hf3 hd3 w1 w2 w3
        have hok : dOk P (m0 P (zW D) (i + 1)) := mns_ok (x := fun _ => 0) hp hz (i + 1)
        have e : fs (pFill P (zW D) l) (j + 1) i = if pFill P (zW D) l i then i else fs (pFill P (zW D) l) j (i + 1) := rfl
        refine s_level hp hok (hc.1.fr (by decide) (hf'.trans hf3.to4)) hd3.1.2.2.1 ?_
        have hlb := lvb (dW (m0 P (zW D) (i + 1)))
        have hzz : nI (lv (pA P) (pS P) (dW (m0 P (zW D) (i + 1))) 60) < nI l ↔ pFill P (zW D) l i = false := by
          rw [nI_ltI (by omega) (by omega)]
          simp [pFill]
        refine ⟨fun z => ?_, fun z => ?_⟩
        · rintro _ rfl
          rw [nI_1]
          rw [hzz] at z
          rw [if_neg (by simp [z])] at e
          exact ih (i + 1) c3 (by omega) (e.symm.trans hfs) (hf'.trans hf3.to4) hd3
        · have q2 : pFill P (zW D) l i = true := by
            cases h : pFill P (zW D) l i with
            | true => rfl
            | false => exact absurd (hzz.mpr h) z
          rw [if_pos q2] at e
          have e2 := e.symm.trans hfs
          have := hmod c3 (hf'.trans hf3.to4).toQ
          rw [← e2] at this
          unfold minuteOf at this
          rw [if_pos (by omega)] at this
          exact this
    exact ⟨201, key 200 0 _ (by omega) rfl hf1' hd1'⟩
  · unfold wX9_fill
    exact s_inM (lo := 1) (hi := 40) (by decide) (by decide) (fun z => absurd z q) (fun _ => ⟨fun z => absurd rfl z, fun _ => ⟨rfl, hR⟩⟩)
theorem DM.q {P : vP} {D : vD} (hp : pOk P) {m m' : vv_S} (h : DM P 0 D m) (hf : FQM m m') : DM P 0 D m' := by
  have hn8 := hp.2.1
  obtain ⟨r1, r4, r5, r6, r7⟩ := h
  obtain ⟨f1, f2, f3, f4, f5, f6, f7⟩ := hf
  refine ⟨fun k hk => ?_, by rw [f4]; exact r4, by rw [f5]; exact r5, by rw [f6]; exact r6, by rw [f7]; exact r7⟩
  obtain ⟨g1, g2, g3⟩ := f3 (8 * 0 + k) (by omega)
  rw [g1, g2, g3]
  exact r1 k hk
theorem PM.q {P : vP} {m m' : vv_S} (h : PM P m) (hf : FQM m m') : PM P m' := h.moved (fun i a b => hf.1 i (by omega) (by omega))
theorem minuteOf_ge {i : Nat} : 0 ≤ minuteOf i ↔ i < 200 := by
  rw [← Int32.not_lt, minuteOf_neg, Decidable.not_not]
def ansTr (i j : Nat) : Int32 := (if j < 200 then nI (j + 1) else 200) - nI (i + 1) + 200
theorem sim_trodden {a b : Int32} {c m : vv_S} (h : Rel c m) : wX8_trodden a b c (fun x s => wX9_trodden a b m (fun y t => x = y ∧ Rel s t)) := by
  have hR := h
  obtain ⟨P, D, A, Q, B, ho, hc, hm⟩ := h
  obtain ⟨hp, hd, -⟩ := id ho
  have hm9 := ho.m999
  have hn8 := ho.1.2.1
  have bad : (¬ ∃ k, k < pN P ∧ a = nI k) ∨ ¬ ((1 : Int32) ≤ b ∧ b ≤ 9) → wX9_trodden a b m (fun y t => -1 = y ∧ Rel c t) := by
    intro hz
    unfold wX9_trodden
    refine s_isCellM hn8 hm.1.1 (fun k hk hak => jn_of (fun f => f m) ⟨rfl, hR⟩ (fun f hf => ⟨fun z => absurd z (by decide), fun _ => s_inM (lo := 1) (hi := 9) (by decide) (by decide) (fun z => ?_) (fun _ => ⟨fun z => absurd rfl z, fun _ => hf⟩)⟩)) (fun _ => jn_of (fun f => f m) ⟨rfl, hR⟩ (fun f hf => ⟨fun _ => hf, fun z => absurd rfl z⟩))
    rcases hz with w | w
    · exact absurd ⟨k, hk, hak⟩ w
    · exact absurd z w
  unfold wX8_trodden
  refine s_isCellC hn8 hc.1.1 (fun k hk hak => ?_) (fun hno => jn_of (fun f => f c) (bad (Or.inl hno)) (fun f hf => ⟨fun _ => hf, fun z => absurd rfl z⟩))
  refine jn_of (fun f => ¬ ((1 : Int32) ≤ b ∧ b ≤ 9) → f c) (fun z => bad (Or.inr z)) (fun f hf => ⟨fun z => absurd z (by decide), fun _ => s_within (fun q => ⟨fun _ => ?_, fun z => absurd z (by decide)⟩) (fun q => ⟨fun z => absurd rfl z, fun _ => hf q⟩)⟩)
  clear hf
  obtain ⟨n, n1, n9, rfl⟩ := rng1 (L := 1) (N := 9) (by decide) (by decide) q.1 q.2
  subst hak
  obtain ⟨b1, b2⟩ := hd.1 k hk
  have hcl : (nI k).toNatClampNeg = k := nI_clamp (by omega)
  have hcl2 : (nI (8 + k)).toNatClampNeg = 8 + k := nI_clamp (by omega)
  have w1 : m 28 k = nI (dH D k) := by have := (hm.2.1.1 k hk).1; rw [show 8 * 0 + k = k by omega] at this; exact this
  have c40 : (nI (dH D k) + nI n ≤ (40 : Int32)) ↔ dH D k + n ≤ 40 := by rw [nI_add, show (40 : Int32) = nI 40 by decide]; exact nI_leI (by omega) (by decide)
  -- the model up to the question whether it can be raised
  have start : ∀ (p : Int32 → vv_S → Prop), (dH D k + n ≤ 40 → wX9_tryIt m (fun σ11 => wX9_goneFrom σ11 (fun r13 σ12 => ((0 ≤ r13 → wX9_tryIt σ12 (fun σ15 => vp_in ((8 : Int32) + nI k) 16 ∧ (vp_in ((8 : Int32) + nI k) 16 ∧ (∀ σ18 : vv_S, σ18 = vv_up σ15 28 (((8 : Int32) + nI k)).toNatClampNeg ((σ15 28 (((8 : Int32) + nI k)).toNatClampNeg) + nI n) → wX9_goneFrom σ18 (fun r20 σ19 => vv_jn (fun (v21 : Int32) => p ((v21 - r13) + (200 : Int32)) σ19) (fun k90_21 => ((0 ≤ r20 → k90_21 r20) ∧ (¬ 0 ≤ r20 → k90_21 (200 : Int32))))))))) ∧ (¬ 0 ≤ r13 → p (-4 : Int32) σ12))))) → (¬ dH D k + n ≤ 40 → p (-2) m) → wX9_trodden (nI k) (nI n) m p := by
    intro p h1 h2
    unfold wX9_trodden
    refine s_isCellM hn8 hm.1.1 (fun _ _ _ => jn_of (fun _ => True) trivial (fun f _ => ⟨fun z => absurd z (by decide), fun _ => s_inM (lo := 1) (hi := 9) (by decide) (by decide) (fun _ => ⟨fun _ => ⟨vp_in_nI (by omega) (by decide), ?_⟩, fun z => absurd z (by decide)⟩) (fun z => absurd q z)⟩)) (fun z => absurd ⟨k, hk, rfl⟩ z)
    rw [hcl, w1, c40]
    exact ⟨h1, h2⟩
  refine s_canRaise hp hd hk (by omega) hc.2.1.1 ⟨fun z => ?_, fun z => ?_⟩
  · have h40 : dH D k + n ≤ 40 := by
      by_cases y : dH D k + n ≤ 40
      · exact y
      · rw [if_neg y] at z; exact absurd rfl z
    clear z
    have hD2 : dOk P (reD D k (dH D k + n) (dO D k)) := reD_ok hd h40 b2
    -- the model's answers
    have mod1 : ¬ fs (pGone P D) 200 0 < 200 → ∀ c2, FQC c c2 → wX9_trodden (nI k) (nI n) m (fun y t => -4 = y ∧ Rel c2 t) := by
      intro hlt c2 hfc
      refine start _ (fun _ => ?_) (fun z => absurd h40 z)
      refine s_tryIt hp hm.2.1 ?_
      intro m1 hg1 he1
      refine s_goneFrom hp hd hm9 (hm.1.fr hg1) he1 ?_
      intro m2 hq2 _
      exact ⟨fun z => absurd (minuteOf_ge.mp z) hlt, fun _ => ⟨rfl, rel_q ho hc hm hfc (hg1.toQ.trans hq2)⟩⟩
    have mod2 : fs (pGone P D) 200 0 < 200 → ∀ c2, FQC c c2 → wX9_trodden (nI k) (nI n) m (fun y t => ansTr (fs (pGone P D) 200 0) (fs (pGone P (reD D k (dH D k + n) (dO D k))) 200 0) = y ∧ Rel c2 t) := by
      intro hlt c2 hfc
      have hmi : minuteOf (fs (pGone P D) 200 0) = nI (fs (pGone P D) 200 0 + 1) := by unfold minuteOf; rw [if_pos hlt]
      refine start _ (fun _ => ?_) (fun z => absurd h40 z)
      refine s_tryIt hp hm.2.1 ?_
      intro m1 hg1 he1
      refine s_goneFrom hp hd hm9 (hm.1.fr hg1) he1 ?_
      intro m2 hq2 _
      have hq12 := hg1.toQ.trans hq2
      refine ⟨fun _ => s_tryIt hp (hm.2.1.q hp hq12) ?_, fun z => absurd (minuteOf_ge.mpr hlt) z⟩
      intro m3 hg3 he3
      rw [ix8', hcl2]
      refine ⟨vp_in_nI (by omega) (by decide), vp_in_nI (by omega) (by decide), ?_⟩
      rintro _ rfl
      rw [show m3 28 (8 + k) = nI (dH D k) from (he3.1 k hk).1, nI_add]
      have g1 : ∀ j, vv_up m3 28 (8 + k) (nI (dH D k + n)) 28 j = if j = 8 * 1 + k then nI (dH D k + n) else m3 28 j := fun j => by simp [vv_up_app]
      have g2 : ∀ j, vv_up m3 28 (8 + k) (nI (dH D k + n)) 29 j = if j = 8 * 1 + k then nI (dO D k) else m3 29 j := fun j => by
        rw [vv_up_c (by decide)]
        split
        · next z => rw [z, (he3.1 k hk).2.1]
        · rfl
      have g3 : ∀ i, i ≠ 28 → i ≠ 29 → vv_up m3 28 (8 + k) (nI (dH D k + n)) i = m3 i := fun i i1 i2 => vv_up_r i1
      have hg4 := hg3.trans (FrW.re (b := 1) (k := k) (by omega) g1 g2 g3)
      refine s_goneFrom hp hD2 hm9 ((hm.1.q hq12).fr hg4) (DM.re hp hk he3 g1 g2 g3) ?_
      intro m5 hq5 _
      have hall := (hq12.trans hg4.toQ).trans hq5
      refine jn_of (fun f => f (if fs (pGone P (reD D k (dH D k + n) (dO D k))) 200 0 < 200 then nI (fs (pGone P (reD D k (dH D k + n) (dO D k))) 200 0 + 1) else 200)) ?_ (fun f hf => ⟨fun z => ?_, fun z => ?_⟩)
      · refine ⟨?_, rel_q ho hc hm hfc hall⟩
        rw [hmi]
        rfl
      · have y := minuteOf_ge.mp z
        unfold minuteOf
        rw [if_pos y]
        rw [if_pos y] at hf
        exact hf
      · rw [minuteOf_ge] at z
        rw [if_neg z] at hf
        exact hf
    refine s_copyFrom hp hd hc.1 hc.2.1.1 ?_
    intro c1 hf1 hd1
    refine s_passTillBreach hp (by decide) hd (by omega) (hc.1.fr (by decide) hf1) hd1 ?_
    intro c2 hf2 h15
    have hf12 := hf1.trans hf2
    refine ⟨fun z => ?_, fun z => mod1 (minuteOf_none.mp z) c2 hf12.toQ⟩
    have hlt : fs (pGone P D) 200 0 < 200 := by
      by_cases y : fs (pGone P D) 200 0 < 200
      · exact y
      · exact absurd (minuteOf_none.mpr y) z
    have hmi : minuteOf (fs (pGone P D) 200 0) = nI (fs (pGone P D) 200 0 + 1) := by unfold minuteOf; rw [if_pos hlt]
    have hdr2 : DR P 42 D c2 := by
      have := hc.2.1.1
      unfold DR at *
      rw [hf12 42 (by omega), hf12 (42 + 1) (by omega), hf12 (42 + 2) (by omega), hf12 (42 + 3) (by omega)]
      exact this
    refine s_copyFrom hp hd (hc.1.fr (by decide) hf12) hdr2 ?_
    intro c3 hf3 hd3
    have hf13 := hf12.trans hf3
    refine s_stuffAt (by omega) ?_
    rw [show c3 (42 + 2) k = nI (dO D k) by rw [hf13 (42 + 2) (by omega), (hc.2.1.1.1 k hk).2.1]]
    refine s_layAt hp (by decide) hd hk h40 b2 (hc.1.fr (by decide) hf13) hd3.1 ?_
    intro c4 hf4 hd4
    have hf14 := hf13.trans hf4
    refine s_passTillBreach hp (by decide) hD2 (show dM D ≤ 1500 by omega) (hc.1.fr (by decide) hf14) hd4 ?_
    intro c5 hf5 _
    refine jn_of (fun f => f (if fs (pGone P (reD D k (dH D k + n) (dO D k))) 200 0 < 200 then nI (fs (pGone P (reD D k (dH D k + n) (dO D k))) 200 0 + 1) else 200)) ?_ (fun f hf => ⟨fun z => ?_, fun z => ?_⟩)
    · rw [hmi]
      exact mod2 hlt c5 (hf14.trans hf5).toQ
    · have y : fs (pGone P (reD D k (dH D k + n) (dO D k))) 200 0 < 200 := by
        by_cases y : fs (pGone P (reD D k (dH D k + n) (dO D k))) 200 0 < 200
        · exact y
        · exact absurd (minuteOf_none.mpr y) z
      unfold minuteOf
      rw [if_pos y]
      rw [if_pos y] at hf
      exact hf
    · have y := minuteOf_none.mp z
      rw [if_neg y] at hf
      exact hf
  · have h40 : ¬ dH D k + n ≤ 40 := fun y => by rw [if_pos y] at z; exact absurd z (by decide)
    exact start _ (fun y => absurd y h40) (fun _ => ⟨rfl, hR⟩)

theorem minuteOf_none {i : Nat} : minuteOf i = -4 ↔ ¬ i < 200 := by
  unfold minuteOf
  split
  · next q =>
    refine ⟨fun z => ?_, fun z => absurd q z⟩
    have e : (nI (i + 1)).toInt = (-4 : Int32).toInt := by rw [z]
    rw [nI_toInt (by omega)] at e
    have : (-4 : Int32).toInt = -4 := by decide
    omega
  · next q => exact ⟨fun _ => q, fun _ => rfl⟩
theorem minuteOf_neg {i : Nat} : minuteOf i < 0 ↔ ¬ i < 200 := by
  unfold minuteOf
  split
  · next q => exact ⟨fun z => absurd z (nI_pos (by omega)), fun z => absurd q z⟩
  · next q => exact ⟨fun _ => q, fun _ => by decide⟩
theorem sim_over {a : Int32} {c m : vv_S} (h : Rel c m) : wX8_over a c (fun x s => wX9_over a m (fun y t => x = y ∧ Rel s t)) := by
  have hR := h
  obtain ⟨P, D, A, Q, B, ho, hc, hm⟩ := h
  obtain ⟨hp, hd, -⟩ := id ho
  have hm9 := ho.m999
  unfold wX8_over
  refine s_within (fun q => ⟨fun _ => ?_, fun z => absurd z (by decide)⟩) (fun q => ⟨fun z => absurd rfl z, fun _ => ?_⟩)
  · refine s_copyFrom hp hd hc.1 hc.2.1.1 ?_
    intro c1 hf1 hd1
    refine s_passTillOver hp (by decide) hd (by omega) (hc.1.fr (by decide) hf1) hd1 ?_
    intro c2 hf2 h14
    have hfc := (hf1.trans hf2).toQ
    -- the model's answer
    have hmod : ∀ (x : Int32), x = (if fs (pOver P D) 200 0 < 200 then (if a = 0 then nI (fs (pOver P D) 200 0 + 1) else nI (mnP P (m0 P D (fs (pOver P D) 200 0)))) else -4) → wX9_over a m (fun y t => x = y ∧ Rel c2 t) := by
      intro x hx
      unfold wX9_over
      refine s_inM (lo := 0) (hi := 1) (by decide) (by decide) (fun _ => ⟨fun _ => ?_, fun z => absurd z (by decide)⟩) (fun z => absurd q z)
      refine s_tryIt hp hm.2.1 ?_
      intro m1 hg1 he1
      refine jn_of (fun f => ∀ m', FQM m m' → fs (pOver P D) 200 0 < 200 → m' 0 39 = nI (mnP P (m0 P D (fs (pOver P D) 200 0))) → f (nI (fs (pOver P D) 200 0 + 1)) m') ?_ ?_
      · intro m' hq' hlt h39
        rw [if_pos hlt] at hx
        refine jn_of (fun f => f x) ⟨rfl, rel_q ho hc hm hfc hq'⟩ (fun f hf => ⟨fun z => ?_, fun z => ?_⟩)
        · rw [h39]
          rw [hx, if_neg z] at hf
          exact hf
        · rw [hx, if_pos z] at hf
          exact hf
      · intro f hf
        have key : ∀ (j i : Nat) (m' : vv_S), i + j = 200 → fs (pOver P D) j i = fs (pOver P D) 200 0 → FrW 1 m m' → DM P 1 (m0 P D i) m' → lX9_over_1 (fun y t => x = y ∧ Rel c2 t) f (j + 1) (nI (i + 1)) m' := by
          intro j
          induction j with
          | zero =>
            intro i m' hi hfs hf' hd'
            unfold lX9_over_1
            refine ⟨fun _ => ⟨?_, rel_q ho hc hm hfc hf'.toQ⟩, fun z => absurd ?_ z⟩
            · have e : fs (pOver P D) 200 0 = 200 := by rw [← hfs]; show i = 200; omega
              rw [hx, e, if_neg (by decide)]
            · rw [show (200 : Int32) = nI 200 by decide]; exact nI_lt (by omega) (by omega)
          | succ j ih =>
            intro i m' hi hfs hf' hd'
            unfold lX9_over_1
            refine ⟨fun z => absurd z ?_, fun _ => ?_⟩
            · rw [show (200 : Int32) = nI 200 by decide]; exact nI_nlt (by omega) (by omega)
            refine s_go hp (b := 1) (by decide) (mns_ok hp hd i) (x := 0) (by omega) (by rw [mns_M]; omega) (hm.1.fr hf') hd' ?_
            intro m2 hf2' hd2 w1 w2 w3
            have hV2 : mnV P (mns P (fun _ => 0) D i) 0 ≤ 7615 := by
              have hV := mn1_bd hp (mns_ok (x := fun _ => 0) hp hd i) (x := 0) (by omega)
              unfold mnV
              omega
            have e : fs (pOver P D) (j + 1) i = if pOver P D i then i else fs (pOver P D) j (i + 1) := rfl
            have hz : m2 0 38 ≤ 0 ↔ pOver P D i = false := by
              rw [w1, vn0, nI_leI (by omega) (by decide)]
              simp [pOver]
            refine ⟨fun z => ?_, fun z => ?_⟩
            · rintro _ rfl
              rw [nI_1]
              rw [hz] at z
              rw [if_neg (by simp [z])] at e
              exact ih (i + 1) m2 (by omega) (e.symm.trans hfs) (hf'.trans hf2'.toW) hd2
            · have q2 : pOver P D i = true := by
                cases h : pOver P D i with
                | true => rfl
                | false => exact absurd (hz.mpr h) z
              rw [if_pos q2] at e
              have e2 := e.symm.trans hfs
              have := hf m2 ((hf'.trans hf2'.toW).toQ) (by omega) (by rw [← e2]; exact w2)
              rw [← e2] at this
              exact this
        exact ⟨201, key 200 0 m1 (by omega) rfl hg1 he1⟩
    by_cases hlt : fs (pOver P D) 200 0 < 200
    · rw [if_pos hlt] at hmod
      have hne : ¬ minuteOf (fs (pOver P D) 200 0) = -4 := fun z => minuteOf_none.mp z hlt
      have hmi : minuteOf (fs (pOver P D) 200 0) = nI (fs (pOver P D) 200 0 + 1) := by unfold minuteOf; rw [if_pos hlt]
      refine jn_of (fun f => f (if a = 0 then nI (fs (pOver P D) 200 0 + 1) else nI (mnP P (m0 P D (fs (pOver P D) 200 0)))) c2) (hmod _ rfl) (fun f hf => jn_of (fun f2 => a = 0 → f2) (fun z => ?_) (fun f2 hf2 => ⟨fun z => absurd z hne, fun _ => ⟨fun z => ?_, fun z => hf2 z⟩⟩))
      · rw [if_pos z, ← hmi] at hf; exact hf
      · unfold wX3_placeOver
        rw [h14 hlt]
        rw [if_neg z] at hf
        exact hf
    · rw [if_neg hlt] at hmod
      refine jn_of (fun f => f (-4) c2) (hmod _ rfl) (fun f hf => jn_of (fun f2 => f2) ?_ (fun f2 hf2 => ⟨fun _ => hf2, fun z => absurd (minuteOf_none.mpr hlt) z⟩))
      rw [minuteOf_none.mpr hlt]
      exact hf
  · unfold wX9_over
    exact s_inM (lo := 0) (hi := 1) (by decide) (by decide) (fun z => absurd z q) (fun _ => ⟨fun z => absurd rfl z, fun _ => ⟨rfl, hR⟩⟩)
theorem s_goneFrom {P : vP} (hP : pOk P) {D : vD} (hD : dOk P D) (hm9 : dM D ≤ 999) {m : vv_S} {post : Int32 → vv_S → Prop} (hpm : PM P m) (h0 : DM P 1 D m)
    (k : ∀ m', FQM m m' → (fs (pGone P D) 200 0 < 200 → m' 0 41 = brk (mnB P (m0 P D (fs (pGone P D) 200 0)) 0)) → post (minuteOf (fs (pGone P D) 200 0)) m') : wX9_goneFrom m post := by
  unfold wX9_goneFrom
  refine jn_of (fun f => ∀ m', FQM m m' → fs (pGone P D) 200 0 < 200 → m' 0 40 = brk (mnB P (m0 P D (fs (pGone P D) 200 0)) 0) → f (nI (fs (pGone P D) 200 0 + 1)) m') ?_ ?_
  · intro m' hq hlt h40
    rintro _ rfl
    have := k (vv_up m' 0 41 (m' 0 40)) (hq.trans ⟨fun i a b => vv_up_r (by omega), fun i a => vv_up_i (by omega), fun k hk => by simp [vv_up_app], by simp [vv_up_app], by simp [vv_up_app], by simp [vv_up_app], by simp [vv_up_app]⟩) (fun _ => by rw [vv_up_s, h40])
    unfold minuteOf at this
    rw [if_pos hlt] at this
    exact this
  · intro f hf
    have key : ∀ (j i : Nat) (m' : vv_S), i + j = 200 → fs (pGone P D) j i = fs (pGone P D) 200 0 → FrW 1 m m' → DM P 1 (m0 P D i) m' → lX9_goneFrom_1 post f (j + 1) (nI (i + 1)) m' := by
      intro j
      induction j with
      | zero =>
        intro i m' hi hfs hf' hd'
        unfold lX9_goneFrom_1
        refine ⟨fun _ => ?_, fun z => absurd ?_ z⟩
        · have e : fs (pGone P D) 200 0 = 200 := by rw [← hfs]; show i = 200; omega
          have := k m' hf'.toQ (fun z => by omega)
          rw [e] at this
          exact this
        · rw [show (200 : Int32) = nI 200 by decide]; exact nI_lt (by omega) (by omega)
      | succ j ih =>
        intro i m' hi hfs hf' hd'
        unfold lX9_goneFrom_1
        refine ⟨fun z => absurd z ?_, fun _ => ?_⟩
        · rw [show (200 : Int32) = nI 200 by decide]; exact nI_nlt (by omega) (by omega)
        refine s_go hP (b := 1) (by decide) (mns_ok hP hD i) (x := 0) (by omega) (by rw [mns_M]; omega) (hpm.fr hf') hd' ?_
        intro m2 hf2' hd2 w1 w2 w3
        have e : fs (pGone P D) (j + 1) i = if pGone P D i then i else fs (pGone P D) j (i + 1) := rfl
        have hz : m2 0 40 < 0 ↔ pGone P D i = false := by
          rw [w3]
          have hb := mnB_le (P := P) (mns P (fun _ => 0) D i) 0
          simp only [pGone, decide_eq_false_iff_not]
          unfold brk
          split
          · next y => exact ⟨fun z => absurd z (nI_pos (by omega)), fun z => absurd y z⟩
          · next y => exact ⟨fun _ => y, fun _ => by decide⟩
        refine ⟨fun z => ?_, fun z => ?_⟩
        · rintro _ rfl
          rw [nI_1]
          rw [hz] at z
          rw [if_neg (by simp [z])] at e
          exact ih (i + 1) m2 (by omega) (e.symm.trans hfs) (hf'.trans hf2'.toW) hd2
        · have q2 : pGone P D i = true := by
            cases h : pGone P D i with
            | true => rfl
            | false => exact absurd (hz.mpr h) z
          rw [if_pos q2] at e
          have e2 := e.symm.trans hfs
          have := hf m2 ((hf'.trans hf2'.toW).toQ) (by omega) (by rw [← e2]; exact w3)
          rw [← e2] at this
          exact this
    exact ⟨201, key 200 0 m (by omega) rfl FrW.rf h0⟩
theorem sim_gone {a : Int32} {c m : vv_S} (h : Rel c m) : wX8_gone a c (fun x s => wX9_gone a m (fun y t => x = y ∧ Rel s t)) := by
  have hR := h
  obtain ⟨P, D, A, Q, B, ho, hc, hm⟩ := h
  obtain ⟨hp, hd, -⟩ := id ho
  have hm9 := ho.m999
  unfold wX8_gone
  refine s_within (fun q => ⟨fun _ => ?_, fun z => absurd z (by decide)⟩) (fun q => ⟨fun z => absurd rfl z, fun _ => ?_⟩)
  · refine s_copyFrom hp hd hc.1 hc.2.1.1 ?_
    intro c1 hf1 hd1
    refine s_passTillBreach hp (by decide) hd (by omega) (hc.1.fr (by decide) hf1) hd1 ?_
    intro c2 hf2 h15
    have hfc := (hf1.trans hf2).toQ
    have hmod : ∀ (x : Int32), x = (if fs (pGone P D) 200 0 < 200 then (if a = 0 then nI (fs (pGone P D) 200 0 + 1) else brk (mnB P (m0 P D (fs (pGone P D) 200 0)) 0)) else -4) → wX9_gone a m (fun y t => x = y ∧ Rel c2 t) := by
      intro x hx
      unfold wX9_gone
      refine s_inM (lo := 0) (hi := 1) (by decide) (by decide) (fun _ => ⟨fun _ => ?_, fun z => absurd z (by decide)⟩) (fun z => absurd q z)
      refine s_tryIt hp hm.2.1 ?_
      intro m1 hg1 he1
      refine s_goneFrom hp hd hm9 (hm.1.fr hg1) he1 ?_
      intro m2 hq2 h41
      refine jn_of (fun f => f x) ⟨rfl, rel_q ho hc hm hfc (hg1.toQ.trans hq2)⟩ (fun f hf => jn_of (fun f2 => (¬ fs (pGone P D) 200 0 < 200 ∨ a = 0) → f2) (fun z => ?_) (fun f2 hf2 => ⟨fun z => hf2 (Or.inl (minuteOf_neg.mp z)), fun z => ?_⟩))
      · by_cases y : fs (pGone P D) 200 0 < 200
        · have hmi : minuteOf (fs (pGone P D) 200 0) = nI (fs (pGone P D) 200 0 + 1) := by unfold minuteOf; rw [if_pos y]
          rw [hx, if_pos y, if_pos (z.resolve_left (fun w => w y)), ← hmi] at hf
          exact hf
        · rw [hx, if_neg y, ← minuteOf_none.mpr y] at hf
          exact hf
      · rw [minuteOf_neg, Decidable.not_not] at z
        refine ⟨fun y => ?_, fun y => hf2 (Or.inr y)⟩
        rw [h41 z]
        rw [hx, if_pos z, if_neg y] at hf
        exact hf
    by_cases hlt : fs (pGone P D) 200 0 < 200
    · rw [if_pos hlt] at hmod
      have hne : ¬ minuteOf (fs (pGone P D) 200 0) = -4 := fun z => minuteOf_none.mp z hlt
      have hmi : minuteOf (fs (pGone P D) 200 0) = nI (fs (pGone P D) 200 0 + 1) := by unfold minuteOf; rw [if_pos hlt]
      refine jn_of (fun f => f (if a = 0 then nI (fs (pGone P D) 200 0 + 1) else brk (mnB P (m0 P D (fs (pGone P D) 200 0)) 0)) c2) (hmod _ rfl) (fun f hf => jn_of (fun f2 => a = 0 → f2) (fun z => ?_) (fun f2 hf2 => ⟨fun z => absurd z hne, fun _ => ⟨fun z => ?_, fun z => hf2 z⟩⟩))
      · rw [if_pos z, ← hmi] at hf; exact hf
      · unfold wX3_breachedCell
        rw [h15 hlt]
        rw [if_neg z] at hf
        exact hf
    · rw [if_neg hlt] at hmod
      refine jn_of (fun f => f (-4) c2) (hmod _ rfl) (fun f hf => jn_of (fun f2 => f2) ?_ (fun f2 hf2 => ⟨fun _ => hf2, fun z => absurd (minuteOf_none.mpr hlt) z⟩))
      rw [minuteOf_none.mpr hlt]
      exact hf
  · unfold wX9_gone
    exact s_inM (lo := 0) (hi := 1) (by decide) (by decide) (fun z => absurd z q) (fun _ => ⟨fun z => absurd rfl z, fun _ => ⟨rfl, hR⟩⟩)

def drw (z k : Nat) : Nat := (7919 * z + 6151 * k + 1) * (7919 * z + 6151 * k + 1) % 65521 % 16
theorem drw_le (z k : Nat) : drw z k ≤ 15 := by unfold drw; omega
theorem drw_X {z k : Nat} (hz : z ≤ 9999) (hk : k ≤ 60) : (7919 : Int64) * (nI z).toInt64 + (6151 : Int64) * (nI k).toInt64 + 1 = lN (7919 * z + 6151 * k + 1) := by
  rw [nI_l (by omega), nI_l (by omega), show (7919 : Int64) = lN 7919 by decide, show (6151 : Int64) = lN 6151 by decide, lN_mul, lN_mul, lN_add, lN_1]
theorem drw_val {X : Int64} {x : Nat} (hX : X = lN x) (hx : x < 2 ^ 30) : (X * X - X * X / 65521 * 65521 - (X * X - X * X / 65521 * 65521) / 16 * 16).toInt32 = nI (x * x % 65521 % 16) := by
  have h2 : x * x < 2 ^ 63 := Nat.lt_of_lt_of_le (Nat.mul_lt_mul'' hx hx) (by decide)
  rw [hX, lN_mul, show (65521 : Int64) = lN 65521 by decide, show (16 : Int64) = lN 16 by decide, pk_lRem h2 (by decide) (by decide), pk_lRem (by omega) (by decide) (by decide), lN_i]
theorem s_draw {z k : Nat} (hz : z ≤ 9999) (hk : k ≤ 60) {σ : vv_S} {post : Int32 → vv_S → Prop} (h : post (nI (drw z k)) σ) : wX8_drawOf (nI z) (nI k) σ post := by
  unfold wX8_drawOf
  rw [drw_val (drw_X hz hk) (by omega)]
  exact h
theorem sim_night {a b : Int32} {c m : vv_S} (h : Rel c m) : wX8_night a b c (fun x s => wX9_night a b m (fun y t => x = y ∧ Rel s t)) := by
  have hR := h
  obtain ⟨P, D, A, Q, B, ho, hc, hm⟩ := h
  obtain ⟨hp, hd, -⟩ := id ho
  have hm9 := ho.m999
  have bad : ¬ (((0 : Int32) ≤ a ∧ a ≤ 9999) ∧ ((0 : Int32) ≤ b ∧ b ≤ 1)) → wX9_night a b m (fun y t => -1 = y ∧ Rel c t) := by
    intro hz
    unfold wX9_night
    refine s_inM (lo := 0) (hi := 9999) (by decide) (by decide) (fun q1 => jn_of (fun f => f m) ⟨rfl, hR⟩ (fun f hf => ⟨fun z => absurd z (by decide), fun _ => s_inM (lo := 0) (hi := 1) (by decide) (by decide) (fun q2 => absurd ⟨q1, q2⟩ hz) (fun _ => ⟨fun z => absurd rfl z, fun _ => hf⟩)⟩)) (fun _ => jn_of (fun f => f m) ⟨rfl, hR⟩ (fun f hf => ⟨fun _ => hf, fun z => absurd rfl z⟩))
  unfold wX8_night
  refine s_within (fun q1 => ?_) (fun q1 => jn_of (fun f => f c) (bad (fun y => q1 y.1)) (fun f hf => ⟨fun _ => hf, fun z => absurd rfl z⟩))
  refine jn_of (fun f => ¬ ((0 : Int32) ≤ b ∧ b ≤ 1) → f c) (fun z => bad (fun y => z y.2)) (fun f hf => ⟨fun z => absurd z (by decide), fun _ => s_within (fun q2 => ⟨fun _ => ?_, fun z => absurd z (by decide)⟩) (fun q2 => ⟨fun z => absurd rfl z, fun _ => hf q2⟩)⟩)
  obtain ⟨z, hz, rfl⟩ := rng (N := 9999) (by decide) q1.1 q1.2
  let x : Nat → Nat := fun i => drw z (i + 1)
  have hx : ∀ i, x i ≤ 60 := fun i => by have := drw_le z (i + 1); show drw z (i + 1) ≤ 60; omega
  have e60 : (60 : Int32) = nI 60 := by decide
  have hmod : ∀ (c2 : vv_S), FQC c c2 → wX9_night (nI z) b m (fun y t => (if b = 0 then nI (dW (mns P x D 60)) else nI (sU (dB (mns P x D 60)) (pN P)) - nI (sU (dB D) (pN P))) = y ∧ Rel c2 t) := by
    intro c2 hfc
    unfold wX9_night
    refine s_inM (lo := 0) (hi := 9999) (by decide) (by decide) (fun _ => jn_of (fun _ => True) trivial (fun f _ => ⟨fun z => absurd z (by decide), fun _ => s_inM (lo := 0) (hi := 1) (by decide) (by decide) (fun _ => ⟨fun _ => ?_, fun z => absurd z (by decide)⟩) (fun z => absurd q2 z)⟩)) (fun z => absurd q1 z)
    refine s_tryIt hp hm.2.1 ?_
    intro m1 hg1 he1
    refine jn_of (fun k => ∀ m', FrW 1 m m' → DM P 1 (mns P x D 60) m' → k m') ?_ ?_
    · intro m' hf' hd'
      have d0 : DM P 0 D m' := (hm.fr hp hf'.toQ).2.1
      refine jn_of (fun k => k (if b = 0 then nI (dW (mns P x D 60)) else nI (sU (dB (mns P x D 60)) (pN P)) - nI (sU (dB D) (pN P))) m') ⟨rfl, rel_q ho hc hm hfc hf'.toQ⟩ (fun k hk => ⟨fun y => ?_, fun y => ?_⟩)
      · rw [if_neg y] at hk
        exact s_breachesM hp (b := 1) (by decide) (hm.1.fr hf').1 hd' (s_breachesM hp (b := 0) (by decide) (hm.1.fr hf').1 d0 hk)
      · rw [if_pos y] at hk
        rw [hd'.2.1]
        exact hk
    · intro k hk
      have key : ∀ (j i : Nat) (m' : vv_S), i + j = 60 → FrW 1 m m' → DM P 1 (mns P x D i) m' → lX9_night_1 k (nI z) (j + 1) (nI (i + 1)) m' := by
        intro j
        induction j with
        | zero =>
          intro i m' hi hf' hd'
          unfold lX9_night_1
          refine ⟨fun _ => hk m' hf' (by rw [show 60 = i by omega]; exact hd'), fun y => absurd ?_ y⟩
          rw [e60]; exact nI_lt (by omega) (by omega)
        | succ j ih =>
          intro i m' hi hf' hd'
          unfold lX9_night_1
          refine ⟨fun y => absurd y ?_, fun _ => ?_⟩
          · rw [e60]; exact nI_nlt (by omega) (by omega)
          rw [drw_val (drw_X hz (show i + 1 ≤ 60 by omega)) (by omega)]
          refine s_go hp (b := 1) (by decide) (mns_ok hp hd i) (x := x i) (hx i) (by rw [mns_M]; omega) (hm.1.fr hf') hd' ?_
          intro m2 hf2 hd2 _ _ _
          rintro _ rfl
          rw [nI_1]
          exact ih (i + 1) m2 (by omega) (hf'.trans hf2.toW) hd2
      exact ⟨61, key 60 0 m1 (by omega) hg1 he1⟩
  refine s_copyFrom hp hd hc.1 hc.2.1.1 ?_
  intro c1 hf1 hd1
  refine jn_of (fun k => ∀ c', Fr4 46 c c' → DP P 46 (mns P x D 60) c' → k c') ?_ ?_
  · intro c' hf' hd'
    have d42 : DR P 42 D c' := (hc.fr ho.2.2.2.2.1 ho.2.2.2.2.2 hf'.toQ).2.1.1
    refine jn_of (fun k => k (if b = 0 then nI (dW (mns P x D 60)) else nI (sU (dB (mns P x D 60)) (pN P)) - nI (sU (dB D) (pN P))) c') (hmod c' hf'.toQ) (fun k hk => ⟨fun y => ?_, fun y => ?_⟩)
    · rw [if_neg y] at hk
      exact s_allBreaches hp hd'.1 (s_allBreaches hp d42 hk)
    · rw [if_pos y] at hk
      unfold wX3_units
      rw [hd'.1.2.2.1]
      exact hk
  · intro k hk
    have key : ∀ (j i : Nat) (c' : vv_S), i + j = 60 → Fr4 46 c c' → DP P 46 (mns P x D i) c' → lX8_night_1 k (nI z) (j + 1) (nI (i + 1)) c' := by
      intro j
      induction j with
      | zero =>
        intro i c' hi hf' hd'
        unfold lX8_night_1
        refine ⟨fun _ => hk c' hf' (by rw [show 60 = i by omega]; exact hd'), fun y => absurd ?_ y⟩
        rw [e60]; exact nI_lt (by omega) (by omega)
      | succ j ih =>
        intro i c' hi hf' hd'
        unfold lX8_night_1
        refine ⟨fun y => absurd y ?_, fun _ => ?_⟩
        · rw [e60]; exact nI_nlt (by omega) (by omega)
        refine s_draw hz (by omega) ?_
        refine s_oneMinute hp (by decide) (mns_ok hp hd i) (x := x i) (hx i) (by rw [mns_M]; omega) (hc.1.fr (by decide) hf') hd' ?_
        intro c2 hf2 hd2 _ _ _
        rintro _ rfl
        rw [nI_1]
        exact ih (i + 1) c2 (by omega) (hf'.trans hf2.to4) hd2
    exact ⟨61, key 60 0 c1 (by omega) hf1 hd1⟩
/-- a gap: does all that goes over in n minutes go over at k -/
def gp (P : vP) (D : vD) (k : Nat) : Nat → Bool
  | 0 => true
  | i + 1 => gp P D k i && decide (mnV P (m0 P D i) 0 = 0 ∨ mnP P (m0 P D i) = k)
theorem gp_mono (P : vP) (D : vD) (k : Nat) {i n : Nat} (hn : i ≤ n) (h : gp P D k i = false) : gp P D k n = false := by
  induction hn with
  | refl => exact h
  | step _ ih => simp [gp, ih]
theorem mnV_bd {P : vP} (hp : pOk P) {D : vD} (hd : dOk P D) {x : Nat} (hx : x ≤ 60) : mnV P D x ≤ 7615 := by
  have hV := mn1_bd hp hd hx
  unfold mnV
  omega
theorem mnP_bd {P : vP} (hp : pOk P) (D : vD) : mnP P D ≤ 9 := by
  have := hp.2.1
  rcases mnP_le hp D with z | z | z <;> omega
theorem s_isGap {P : vP} (hp : pOk P) {D : vD} (hd : dOk P D) (hm9 : dM D ≤ 999) {k h n : Nat} (hk : k < pN P) (hh : h ≤ 40) (hn : n ≤ 60) {c : vv_S} {post : Int32 → vv_S → Prop} (hc : PC P c) (h0 : DR P 42 D c)
    (kk : ∀ c', Fr4 46 c c' → post (if gp P (reD D k h 2) k n then 1 else 0) c') : wX8_isGap (nI k) (nI h) (nI n) c post := by
  have hn8 := hp.2.1
  unfold wX8_isGap
  refine s_copyFrom hp hd hc h0 ?_
  intro c1 hf1 hd1
  refine s_remake hp (by decide) hd (k := k) (h := h) (s := 2) hk hh (by decide) (hc.fr (by decide) hf1) hd1.1 ?_
  intro c2 hf2 hd2
  have hE := reD_ok hd (k := k) hh (show 2 ≤ 3 by decide)
  have key : ∀ (j i : Nat) (c' : vv_S), i + j = n → gp P (reD D k h 2) k i = true → Fr4 46 c c' → DP P 46 (m0 P (reD D k h 2) i) c' → lX8_isGap_1 (nI n) post (nI k) (j + 1) (nI i) c' := by
    intro j
    induction j with
    | zero =>
      intro i c' hi hg hf' hd'
      unfold lX8_isGap_1
      refine ⟨fun _ => ?_, fun y => absurd (nI_le (by omega) (by omega)) y⟩
      have := kk c' hf'
      rw [if_pos (by rw [show n = i by omega]; exact hg)] at this
      exact this
    | succ j ih =>
      intro i c' hi hg hf' hd'
      have ei := mns_ok (x := fun _ => 0) hp hE i
      unfold lX8_isGap_1
      refine ⟨fun y => absurd y (nI_ge (by omega) (by omega)), fun _ => ?_⟩
      refine s_oneMinute hp (by decide) ei (x := 0) (by omega) (by rw [mns_M]; show dM D + i ≤ 2000; omega) (hc.fr (by decide) hf') hd' ?_
      intro c3 hf3 hd3 w1 w2 _
      unfold wX3_overInMinute wX3_placeOver
      rw [w1]
      have hV : mnV P (m0 P (reD D k h 2) i) 0 ≤ 7615 := mnV_bd hp ei (x := 0) (by omega)
      have hP9 := mnP_bd hp (m0 P (reD D k h 2) i)
      have hV0 : nI (mnV P (m0 P (reD D k h 2) i) 0) ≤ 0 ↔ mnV P (m0 P (reD D k h 2) i) 0 = 0 := by
        rw [vn0, nI_leI (by omega) (by decide)]; omega
      have hPk : nI (mnP P (m0 P (reD D k h 2) i)) = nI k ↔ mnP P (m0 P (reD D k h 2) i) = k := nI_eq (by omega) (by omega)
      have eg : gp P (reD D k h 2) k (i + 1) = decide (mnV P (m0 P (reD D k h 2) i) 0 = 0 ∨ mnP P (m0 P (reD D k h 2) i) = k) := by
        show (gp P (reD D k h 2) k i && _) = _
        rw [hg, Bool.true_and]
      refine jn_of (fun f => gp P (reD D k h 2) k (i + 1) = true → f c3) ?_ (fun f hf => ⟨fun y => hf (by rw [eg]; exact decide_eq_true (Or.inl (hV0.mp y))), fun y => ⟨fun y2 => hf (by rw [eg]; exact decide_eq_true (Or.inr (hPk.mp (w2.symm.trans y2)))), fun y2 => ?_⟩⟩)
      · intro hg2
        rintro _ rfl
        rw [nI_1]
        exact ih (i + 1) c3 (by omega) hg2 (hf'.trans hf3.to4) hd3
      · have hf2 : gp P (reD D k h 2) k n = false := gp_mono P _ k (show i + 1 ≤ n by omega) (by rw [eg]; exact decide_eq_false (fun w => w.elim (fun w => y (hV0.mpr w)) (fun w => y2 (w2.trans (hPk.mpr w)))))
        have := kk c3 (hf'.trans hf3.to4)
        rw [hf2] at this
        exact this
  exact ⟨n + 1, key n 0 c2 (by omega) rfl (hf1.trans hf2) hd2⟩
theorem s_isGapM {P : vP} (hp : pOk P) {D : vD} (hd : dOk P D) (hm9 : dM D ≤ 999) {k h n : Nat} (hk : k < pN P) (hh : h ≤ 40) (hn : n ≤ 60) {m : vv_S} {post : Int32 → vv_S → Prop} (hm : PM P m) (h0 : DM P 0 D m)
    (kk : ∀ m', FrW 1 m m' → post (if gp P (reD D k h 2) k n then 1 else 0) m') : wX9_isGap (nI k) (nI h) (nI n) m post := by
  have hn8 := hp.2.1
  unfold wX9_isGap
  refine s_tryIt hp h0 ?_
  intro m1 hg1 he1
  have hcl : (nI (8 + k)).toNatClampNeg = 8 + k := nI_clamp (by omega)
  have hin : vp_in (nI (8 + k)) 16 := vp_in_nI (by omega) (by decide)
  rw [ix8', hcl]
  refine ⟨hin, ?_⟩
  rintro _ rfl
  refine ⟨hin, ?_⟩
  rintro _ rfl
  have e28 : ∀ j, (vv_up (vv_up m1 28 (8 + k) (nI h)) 29 (8 + k) 2) 28 j = if j = 8 * 1 + k then nI h else m1 28 j := fun j => by
    rw [vv_up_c (by decide), vv_up_app]
    by_cases y : j = 8 + k
    · rw [if_pos ⟨rfl, y⟩, if_pos (by omega)]
    · rw [if_neg (fun w => y w.2), if_neg (by omega)]
  have e29 : ∀ j, (vv_up (vv_up m1 28 (8 + k) (nI h)) 29 (8 + k) 2) 29 j = if j = 8 * 1 + k then nI 2 else m1 29 j := fun j => by
    rw [vv_up_app]
    by_cases y : j = 8 + k
    · rw [if_pos ⟨rfl, y⟩, if_pos (by omega)]; rfl
    · rw [if_neg (fun w => y w.2), if_neg (by omega), vv_up_c (by decide)]
  have eo : ∀ i, i ≠ 28 → i ≠ 29 → (vv_up (vv_up m1 28 (8 + k) (nI h)) 29 (8 + k) 2) i = m1 i := fun i a b => by rw [vv_up_r b, vv_up_r a]
  have hg2 := hg1.trans (FrW.re (b := 1) (show k < 8 by omega) e28 e29 eo)
  have he2 := DM.re hp hk he1 e28 e29 eo
  revert hg2 he2
  generalize vv_up (vv_up m1 28 (8 + k) (nI h)) 29 (8 + k) 2 = m2
  intro hg2 he2
  have hE := reD_ok hd (k := k) hh (show 2 ≤ 3 by decide)
  refine jn_of (fun f => ∀ m', FrW 1 m m' → f (if gp P (reD D k h 2) k n then 1 else 0) m') (fun m' hf' => ⟨by split <;> simp, kk m' hf'⟩) ?_
  intro f hf
  have key : ∀ (j i : Nat) (m' : vv_S), i + j = n → FrW 1 m m' → DM P 1 (m0 P (reD D k h 2) i) m' → lX9_isGap_1 (nI n) f (nI k) (j + 1) (if gp P (reD D k h 2) k i then 1 else 0) (nI i) m' := by
    intro j
    induction j with
    | zero =>
      intro i m' hi hf' hd'
      unfold lX9_isGap_1
      refine ⟨fun _ => ?_, fun y => absurd (nI_le (by omega) (by omega)) y⟩
      have := hf m' hf'
      rw [show n = i by omega] at this
      exact this
    | succ j ih =>
      intro i m' hi hf' hd'
      have ei := mns_ok (x := fun _ => 0) hp hE i
      unfold lX9_isGap_1
      refine ⟨fun y => absurd y (nI_ge (by omega) (by omega)), fun _ => ⟨fun y => ?_, fun y => ?_⟩⟩
      · have hz : gp P (reD D k h 2) k i = false := by
          cases hh : gp P (reD D k h 2) k i with
          | false => rfl
          | true => rw [hh] at y; exact absurd y (by decide)
        have := hf m' hf'
        rw [gp_mono P _ k (show i ≤ n by omega) hz] at this
        rw [hz]
        exact this
      · have hg : gp P (reD D k h 2) k i = true := by
          cases hh : gp P (reD D k h 2) k i with
          | true => rfl
          | false => rw [hh] at y; exact absurd rfl y
        refine s_go hp (b := 1) (by decide) ei (x := 0) (by omega) (by rw [mns_M]; show dM D + i ≤ 2000; omega) (hm.fr hf') hd' ?_
        intro m3 hf3 hd3 w1 w2 _
        rw [w1, w2]
        have hV : mnV P (m0 P (reD D k h 2) i) 0 ≤ 7615 := mnV_bd hp ei (x := 0) (by omega)
        have hP9 := mnP_bd hp (m0 P (reD D k h 2) i)
        have hV0 : nI (mnV P (m0 P (reD D k h 2) i) 0) = 0 ↔ mnV P (m0 P (reD D k h 2) i) 0 = 0 := by
          rw [vn0]; exact nI_eq (by omega) (by decide)
        have hPk : nI (mnP P (m0 P (reD D k h 2) i)) = nI k ↔ mnP P (m0 P (reD D k h 2) i) = k := nI_eq (by omega) (by omega)
        have eg : gp P (reD D k h 2) k (i + 1) = decide (mnV P (m0 P (reD D k h 2) i) 0 = 0 ∨ mnP P (m0 P (reD D k h 2) i) = k) := by
          show (gp P (reD D k h 2) k i && _) = _
          rw [hg, Bool.true_and]
        refine jn_of (fun g => g (if gp P (reD D k h 2) k (i + 1) then 1 else 0)) ?_ ?_
        · rintro _ rfl
          rw [nI_1]
          exact ih (i + 1) m3 (by omega) (hf'.trans hf3.toW) hd3
        · intro g hg2
          refine jn_of (fun g2 => gp P (reD D k h 2) k (i + 1) = true → g2) (fun y => by rw [y] at hg2; exact hg2) ?_
          intro g2 hg3
          refine ⟨fun y => hg3 (by rw [eg]; exact decide_eq_true (Or.inl (hV0.mp y))), fun y => ⟨fun y2 => ?_, fun y2 => hg3 (by rw [eg]; exact decide_eq_true (Or.inr (hPk.mp y2)))⟩⟩
          rw [eg, decide_eq_false (fun w => w.elim (fun w => y (hV0.mpr w)) (fun w => y2 (hPk.mpr w)))] at hg2
          exact hg2
  exact ⟨n + 1, key n 0 m2 (by omega) hg2 he2⟩

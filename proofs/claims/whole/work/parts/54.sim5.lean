def push (A : vA) (kd ce st ma : Nat) : vA := (aN A + 1, uN (aK A) (aN A) kd, uN (aC A) (aN A) ce, uN (aT A) (aN A) st, uN (aA A) (aN A) ma)
theorem push_M {A : vA} {kd ce st ma : Nat} : sU (aM (push A kd ce st ma)) (aN A + 1) = sU (aM A) (aN A) + (if kd = 2 then ma else 0) := by
  simp only [sU]
  congr 1
  · refine sU_congr _ (fun k hk => ?_)
    show (if uN _ _ _ k = 2 then uN _ _ _ k else 0) = _
    rw [uN_n (by omega), uN_n (by omega)]
    rfl
  · show (if uN _ _ _ _ = 2 then uN _ _ _ _ else 0) = _
    rw [uN_s, uN_s]
theorem push_ok {P : vP} {A : vA} (hA : aOk P A) {kd ce st ma : Nat} (hn : aN A < 30) (h1 : kd ≤ 2) (h2 : ce < pN P) (h3 : st ≤ 3) (h4 : ma ≤ 60) (h5 : sU (aM A) (aN A) + (if kd = 2 then ma else 0) ≤ 999) : aOk P (push A kd ce st ma) := by
  refine ⟨hn, fun k hk => ?_, ?_⟩
  · have hk' : k < aN A + 1 := hk
    show uN _ _ _ k ≤ 2 ∧ uN _ _ _ k < pN P ∧ uN _ _ _ k ≤ 3 ∧ uN _ _ _ k ≤ 60
    by_cases e : k = aN A
    · rw [e, uN_s, uN_s, uN_s, uN_s]
      exact ⟨h1, h2, h3, h4⟩
    · rw [uN_n e, uN_n e, uN_n e, uN_n e]
      exact hA.2.1 k (by omega)
  · show sU (aM (push A kd ce st ma)) (aN A + 1) ≤ 999
    rw [push_M]
    exact h5
theorem s_add {A : vA} (hn30 : aN A ≤ 30) {kd ce st ma : Nat} {c : vv_S} {post : Int32 → vv_S → Prop} (hac : AC 50 A c) (h0 : ¬ aN A < 30 → post 0 c)
    (h1 : aN A < 30 → ∀ c', (∀ i, ¬ (50 ≤ i ∧ i ≤ 54) → c' i = c i) → AC 50 (push A kd ce st ma) c' → post 1 c') : wX0_add 50 (nI kd) (nI ce) (nI st) (nI ma) c post := by
  have hcl : (nI (aN A)).toNatClampNeg = aN A := nI_clamp (by omega)
  have e30 : (30 : Int32) = nI 30 := by decide
  unfold wX0_add
  rw [hac.1, hcl]
  refine jn_of (fun f => ¬ aN A < 30 → f) h0 (fun f hf => ⟨fun z => absurd z (nI_pos (by omega)), fun _ => ⟨fun z => ?_, fun z => hf (fun y => z (by rw [e30]; exact nI_lt y (by decide)))⟩⟩)
  rw [e30, nI_ltI (by omega) (by decide)] at z
  have hin : vp_in (nI (aN A)) 30 := vp_in_nI z (by decide)
  refine ⟨hin, ?_⟩
  rintro _ rfl
  rw [vv_up_c (show (50 : Nat) ≠ 50 + 1 by decide), hac.1, hcl]
  refine ⟨hin, ?_⟩
  rintro _ rfl
  rw [vv_up_c (show (50 : Nat) ≠ 50 + 2 by decide), vv_up_c (show (50 : Nat) ≠ 50 + 1 by decide), hac.1, hcl]
  refine ⟨hin, ?_⟩
  rintro _ rfl
  rw [vv_up_c (show (50 : Nat) ≠ 50 + 3 by decide), vv_up_c (show (50 : Nat) ≠ 50 + 2 by decide), vv_up_c (show (50 : Nat) ≠ 50 + 1 by decide), hac.1, hcl]
  refine ⟨hin, ?_⟩
  rintro _ rfl _ rfl
  rw [vv_up_c (show (50 : Nat) ≠ 50 + 4 by decide), vv_up_c (show (50 : Nat) ≠ 50 + 3 by decide), vv_up_c (show (50 : Nat) ≠ 50 + 2 by decide), vv_up_c (show (50 : Nat) ≠ 50 + 1 by decide), hac.1, nI_1]
  refine h1 z _ (fun i hi => ?_) ⟨vv_up_s, fun k hk => ?_⟩
  · rw [vv_up_r (by omega), vv_up_r (by omega), vv_up_r (by omega), vv_up_r (by omega), vv_up_r (by omega)]
  · have hk' : k < aN A + 1 := hk
    show _ = nI (uN _ _ _ k) ∧ _ = nI (uN _ _ _ k) ∧ _ = nI (uN _ _ _ k) ∧ _ = nI (uN _ _ _ k)
    by_cases e : k = aN A
    · subst e
      rw [uN_s, uN_s, uN_s, uN_s]
      simp [vv_up_app]
    · rw [uN_n e, uN_n e, uN_n e, uN_n e]
      have := hac.2 k (by omega)
      simp [vv_up_app, e]
      exact this
/-- where acts and the dam have changed -/
theorem RC.acts {P : vP} {D D' : vD} {A A' : vA} {Q : vQ} {B : vK} {c c' : vv_S} (hq : qOk Q) (hk : kOk P B) (h : RC P D A Q B c) (e : ∀ i, ¬ (42 ≤ i ∧ i ≤ 45) → ¬ (46 ≤ i ∧ i ≤ 54) → c' i = c i) (hd : DP P 42 D' c') (ha : AC 50 A' c') : RC P D' A' Q B c' := by
  obtain ⟨g1, -, -, ⟨u1, u2, u3, u4⟩, k1, k2, k3, k4, k5, k6⟩ := h
  have q1 := hq.1
  have q2 := hk.1
  refine ⟨?_, hd, ha, ⟨?_, ?_, ?_, ?_⟩, ?_, ?_, ?_, ?_, ?_, ?_⟩
  · unfold PC at *
    rw [e 4 (by omega) (by omega), e 13 (by omega) (by omega), e 5 (by omega) (by omega), e 6 (by omega) (by omega)]
    exact g1
  · rw [e 14 (by omega) (by omega)]; exact u1
  · rw [e 14 (by omega) (by omega)]; exact u2
  · intro i s hi hs
    rw [e (16 + i) (by omega) (by omega)]
    exact u3 i s hi hs
  · rw [e 20 (by omega) (by omega), e 21 (by omega) (by omega)]; exact u4
  · rw [e 0 (by omega) (by omega)]; exact k1
  · intro j hj
    have := k2 j hj
    unfold AC at *
    rw [e (55 + 5 * j) (by omega) (by omega), e (55 + 5 * j + 1) (by omega) (by omega), e (55 + 5 * j + 2) (by omega) (by omega), e (55 + 5 * j + 3) (by omega) (by omega), e (55 + 5 * j + 4) (by omega) (by omega)]
    exact this
  · rw [e 66 (by omega) (by omega)]; exact k3
  · rw [e 67 (by omega) (by omega), e 68 (by omega) (by omega)]; exact k4
  · rw [e 1 (by omega) (by omega)]; exact k5
  · rw [e 2 (by omega) (by omega)]; exact k6
theorem AMo.mv2 {o j : Nat} {A : vA} {m m' : vv_S} (h : AMo o j A m) (e20 : m' 20 j = m 20 j) (e : ∀ k, o ≤ k → k < o + aN A → m' 21 k = m 21 k ∧ m' 22 k = m 22 k ∧ m' 23 k = m 23 k ∧ m' 24 k = m 24 k) : AMo o j A m' := by
  refine ⟨by rw [e20]; exact h.1, fun k hk => ?_⟩
  obtain ⟨e1, e2, e3, e4⟩ := e (o + k) (by omega) (by omega)
  rw [e1, e2, e3, e4]
  exact h.2 k hk
theorem RM.acts {P : vP} {D D' : vD} {A A' : vA} {Q : vQ} {B : vK} {m m' : vv_S} (hk : kOk P B) (h : RM P D A Q B m) (e : ∀ i, 1 ≤ i → i ≤ 19 → m' i = m i) (e2 : m' 25 = m 25 ∧ m' 26 = m 26) (e0 : m' 0 0 = m 0 0 ∧ m' 0 25 = m 0 25 ∧ m' 0 26 = m 0 26) (e20 : ∀ j, 1 ≤ j → m' 20 j = m 20 j) (e3 : ∀ k, 30 ≤ k → m' 21 k = m 21 k ∧ m' 22 k = m 22 k ∧ m' 23 k = m 23 k ∧ m' 24 k = m 24 k) (hd : DM P 0 D' m') (ha : AM A' m') : RM P D' A' Q B m' := by
  obtain ⟨g1, -, -, g4, k1, k2, k3, k4, k5, k6⟩ := h
  refine ⟨g1.moved (fun i a b => e i (by omega) (by omega)), hd, ha, ?_, by rw [e0.2.1]; exact k1, fun j hj => ?_, by rw [e0.2.2]; exact k3, by rw [e2.1, e2.2]; exact k4, by rw [e0.1]; exact k5, by rw [e 1 (by omega) (by omega)]; exact k6⟩
  · unfold QM at *
    rw [e 14 (by omega) (by omega), e 15 (by omega) (by omega), e 16 (by omega) (by omega), e 18 (by omega) (by omega), e 19 (by omega) (by omega)]
    exact g4
  · exact (k2 j hj).mv2 (e20 (j + 1) (by omega)) (fun k a b => e3 k (by omega))
theorem s_note {P : vP} (hP : pOk P) {D : vD} (hD : dOk P D) {A : vA} (hn : aN A < 30) {kd ce st ma : Nat} (hkd : kd ≤ 2) (hce : ce < pN P) (hma : ma ≤ 60) (hm : dM D ≤ 999) {m : vv_S} {post : vv_S → Prop} (hpm : PM P m) (h0 : DM P 0 D m) (ham : AM A m) (hcan : can D kd ce ma)
    (kk : ∀ m', (∀ i, 1 ≤ i → i ≤ 19 → m' i = m i) → (m' 25 = m 25 ∧ m' 26 = m 26) → (m' 0 0 = m 0 0 ∧ m' 0 25 = m 0 25 ∧ m' 0 26 = m 0 26) → (∀ j, 1 ≤ j → m' 20 j = m 20 j) → (∀ k, 30 ≤ k → m' 21 k = m 21 k ∧ m' 22 k = m 22 k ∧ m' 23 k = m 23 k ∧ m' 24 k = m 24 k) → DM P 0 (do1 P kd ce st ma D) m' → AM (push A kd ce st ma) m' → post m') : wX9_note (nI kd) (nI ce) (nI st) (nI ma) m post := by
  have hcl : (nI (aN A)).toNatClampNeg = aN A := nI_clamp (by omega)
  have hin : vp_in (nI (aN A)) 90 := vp_in_nI (by omega) (by decide)
  unfold wX9_note
  rintro _ rfl
  rw [ham.1, hcl]
  refine ⟨hin, ?_⟩
  rintro _ rfl
  refine ⟨hin, ?_⟩
  rintro _ rfl
  refine ⟨hin, ?_⟩
  rintro _ rfl
  refine ⟨hin, ?_⟩
  rintro _ rfl _ rfl
  rw [vv_up_c (show (20 : Nat) ≠ 24 by decide), vv_up_c (show (20 : Nat) ≠ 23 by decide), vv_up_c (show (20 : Nat) ≠ 22 by decide), vv_up_c (show (20 : Nat) ≠ 21 by decide), ham.1, nI_1]
  generalize hc : vv_up (vv_up (vv_up (vv_up (vv_up m 21 (aN A) (nI kd)) 22 (aN A) (nI ce)) 23 (aN A) (nI st)) 24 (aN A) (nI ma)) 20 0 (nI (aN A + 1)) = m1
  have f1 : ∀ i, ¬ (20 ≤ i ∧ i ≤ 24) → m1 i = m i := fun i hi => by rw [← hc, vv_up_r (by omega), vv_up_r (by omega), vv_up_r (by omega), vv_up_r (by omega), vv_up_r (by omega)]
  have a1 : m1 21 (aN A) = nI kd := by rw [← hc]; simp [vv_up_app]
  have a2 : m1 22 (aN A) = nI ce := by rw [← hc]; simp [vv_up_app]
  have a3 : m1 23 (aN A) = nI st := by rw [← hc]; simp [vv_up_app]
  have a4 : m1 24 (aN A) = nI ma := by rw [← hc]; simp [vv_up_app]
  have ho : ∀ k, k ≠ aN A → m1 21 k = m 21 k ∧ m1 22 k = m 22 k ∧ m1 23 k = m 23 k ∧ m1 24 k = m 24 k := fun k hk => by rw [← hc]; simp [vv_up_app, hk]
  have h20 : m1 20 0 = nI (aN A + 1) := by rw [← hc, vv_up_s]
  have h20j : ∀ j, 1 ≤ j → m1 20 j = m 20 j := fun j hj => by
    rw [← hc, vv_up_i (by omega), vv_up_c (by decide), vv_up_c (by decide), vv_up_c (by decide), vv_up_c (by decide)]
  have am1 : AM (push A kd ce st ma) m1 := by
    refine ⟨h20, fun k hk => ?_⟩
    have hk' : k < aN A + 1 := hk
    show _ = nI (uN _ _ _ k) ∧ _ = nI (uN _ _ _ k) ∧ _ = nI (uN _ _ _ k) ∧ _ = nI (uN _ _ _ k)
    by_cases e : k = aN A
    · subst e
      rw [uN_s, uN_s, uN_s, uN_s]
      exact ⟨a1, a2, a3, a4⟩
    · rw [uN_n e, uN_n e, uN_n e, uN_n e]
      obtain ⟨o1, o2, o3, o4⟩ := ho k e
      rw [o1, o2, o3, o4]
      exact ham.2 k (by omega)
  have dm1 : DM P 0 D m1 := by
    unfold DM at *
    rw [f1 28 (by omega), f1 29 (by omega), f1 30 (by omega), f1 31 (by omega), f1 32 (by omega), f1 33 (by omega), f1 34 (by omega)]
    exact h0
  refine s_doAct hP (b := 0) (by decide) hD (k := aN A) (st := st) (by omega) hkd hce hma (by omega) (hpm.moved (fun i a b => f1 i (by omega))) dm1 a1 a2 a3 a4 hcan ?_
  intro m2 hf2 hd2
  have g : ∀ i, 1 ≤ i → i ≤ 26 → m2 i = m1 i := fun i a b => hf2.1 i (by omega) (by omega) (by omega) (by omega) (by omega) (by omega) (by omega) (by omega)
  refine kk m2 (fun i a b => by rw [g i (by omega) (by omega), f1 i (by omega)]) ⟨by rw [g 25 (by omega) (by omega), f1 25 (by omega)], by rw [g 26 (by omega) (by omega), f1 26 (by omega)]⟩ ⟨by rw [hf2.2.1 0 (by decide) (by decide) (by decide), f1 0 (by omega)], by rw [hf2.2.1 25 (by decide) (by decide) (by decide), f1 0 (by omega)], by rw [hf2.2.1 26 (by decide) (by decide) (by decide), f1 0 (by omega)]⟩ (fun j hj => by rw [g 20 (by omega) (by omega), h20j j hj]) (fun k hk => by rw [g 21 (by omega) (by omega), g 22 (by omega) (by omega), g 23 (by omega) (by omega), g 24 (by omega) (by omega)]; exact ho k (by omega)) hd2 (am1.fr hf2)
theorem sim_put {a b n : Int32} {c m : vv_S} (h : Rel c m) : wX8_put a b n c (fun x s => wX9_put a b n m (fun y t => x = y ∧ Rel s t)) := by
  have hR := h
  obtain ⟨P, D, A, Q, B, ho, hc, hm⟩ := h
  obtain ⟨hp, hd, hA, hMA, hq, hk⟩ := id ho
  have hm9 := ho.m999
  have hn8 := ho.1.2.1
  have bad : (¬ ∃ k, k < pN P ∧ a = nI k) ∨ ¬ ((0 : Int32) ≤ b ∧ b ≤ 3) ∨ ¬ ((1 : Int32) ≤ n ∧ n ≤ 9) → wX9_put a b n m (fun y t => -1 = y ∧ Rel c t) := by
    intro hz
    unfold wX9_put
    refine s_isCellM hn8 hm.1.1 (fun k hk hak => jn_of (fun f => f m) ⟨rfl, hR⟩ (fun f hf => ⟨fun z => absurd z (by decide), fun _ => s_inM (lo := 0) (hi := 3) (by decide) (by decide) (fun z1 => ⟨fun z => absurd z (by decide), fun _ => s_inM (lo := 1) (hi := 9) (by decide) (by decide) (fun z2 => ?_) (fun _ => ⟨fun z => absurd rfl z, fun _ => hf⟩)⟩) (fun _ => ⟨fun _ => hf, fun z => absurd rfl z⟩)⟩)) (fun _ => jn_of (fun f => f m) ⟨rfl, hR⟩ (fun f hf => ⟨fun _ => hf, fun z => absurd rfl z⟩))
    rcases hz with w | w | w
    · exact absurd ⟨k, hk, hak⟩ w
    · exact absurd z1 w
    · exact absurd z2 w
  unfold wX8_put
  refine s_isCellC hn8 hc.1.1 (fun k hk1 hak => ?_) (fun hno => jn_of (fun f => f c) (bad (Or.inl hno)) (fun f hf => ⟨fun _ => hf, fun z => absurd rfl z⟩))
  refine jn_of (fun f => (¬ ((0 : Int32) ≤ b ∧ b ≤ 3) ∨ ¬ ((1 : Int32) ≤ n ∧ n ≤ 9)) → f c) (fun z => bad (Or.inr z)) (fun f hf => ⟨fun z => absurd z (by decide), fun _ => ?_⟩)
  unfold wX8_isStuff
  refine s_within (fun q1 => ⟨Or.inr rfl, fun z => absurd z (by decide), fun _ => s_within (fun q2 => ⟨fun _ => ?_, fun z => absurd z (by decide)⟩) (fun q2 => ⟨fun z => absurd rfl z, fun _ => hf (Or.inr q2)⟩)⟩) (fun q1 => ⟨Or.inl rfl, fun _ => hf (Or.inl q1), fun z => absurd rfl z⟩)
  clear hf
  obtain ⟨s, hs, rfl⟩ := rng (N := 3) (by decide) q1.1 q1.2
  obtain ⟨w, w1, w9, rfl⟩ := rng1 (L := 1) (N := 9) (by decide) (by decide) q2.1 q2.2
  subst hak
  obtain ⟨b1, b2⟩ := hd.1 k hk1
  have hcl : (nI k).toNatClampNeg = k := nI_clamp (by omega)
  have hin : vp_in (nI k) 16 := vp_in_nI (by omega) (by decide)
  have e28 : m 28 k = nI (dH D k) := by have := (hm.2.1.1 k hk1).1; rw [show 8 * 0 + k = k by omega] at this; exact this
  have c40 : (nI (dH D k) + nI w ≤ (40 : Int32)) ↔ dH D k + w ≤ 40 := by rw [nI_add, show (40 : Int32) = nI 40 by decide]; exact nI_leI (by omega) (by decide)
  have hn30 := hA.1
  have e30 : nI (aN A) = (30 : Int32) ↔ aN A = 30 := by rw [show (30 : Int32) = nI 30 by decide]; exact nI_eq (by omega) (by decide)
  have start : ∀ (p : Int32 → vv_S → Prop), (dH D k + w ≤ 40 → aN A < 30 → wX9_note 0 (nI k) (nI s) (nI w) m (fun σ15 => vp_in (nI k) 16 ∧ p (σ15 28 k) σ15)) → (dH D k + w ≤ 40 → ¬ aN A < 30 → p (-3) m) → (¬ dH D k + w ≤ 40 → p (-2) m) → wX9_put (nI k) (nI s) (nI w) m p := by
    intro p h1 h2 h3
    unfold wX9_put
    refine s_isCellM hn8 hm.1.1 (fun _ _ _ => jn_of (fun _ => True) trivial (fun f _ => ⟨fun z => absurd z (by decide), fun _ => s_inM (lo := 0) (hi := 3) (by decide) (by decide) (fun _ => ⟨fun z => absurd z (by decide), fun _ => s_inM (lo := 1) (hi := 9) (by decide) (by decide) (fun _ => ⟨fun _ => ⟨hin, ?_⟩, fun z => absurd z (by decide)⟩) (fun z => absurd q2 z)⟩) (fun z => absurd q1 z)⟩)) (fun z => absurd ⟨k, hk1, rfl⟩ z)
    rw [hcl, e28, c40, hm.2.2.1.1, e30]
    exact ⟨fun y => ⟨fun z => h1 y (by omega), fun z => h2 y (by omega)⟩, h3⟩
  refine s_canRaise hp hd hk1 (by omega) hc.2.1.1 ⟨fun z => ?_, fun z => ?_⟩
  · have h40 : dH D k + w ≤ 40 := by
      by_cases y : dH D k + w ≤ 40
      · exact y
      · rw [if_neg y] at z; exact absurd rfl z
    refine s_add (kd := 0) hn30 hc.2.2.1 (fun hfull => ⟨fun z => absurd rfl z, fun _ => start _ (fun _ y => absurd y hfull) (fun _ _ => ⟨rfl, hR⟩) (fun y => absurd h40 y)⟩) (fun hlt c1 hf1 hac1 => ⟨fun _ => ?_, fun z => absurd z (by decide)⟩)
    have pc1 : PC P c1 := by
      have := hc.1
      unfold PC at *
      rw [hf1 4 (by omega), hf1 13 (by omega), hf1 5 (by omega), hf1 6 (by omega)]
      exact this
    have dr1 : DR P 42 D c1 := by
      have := hc.2.1.1
      unfold DR at *
      rw [hf1 42 (by omega), hf1 (42 + 1) (by omega), hf1 (42 + 2) (by omega), hf1 (42 + 3) (by omega)]
      exact this
    refine s_layAt hp (by decide) hd hk1 h40 hs pc1 dr1 ?_
    intro c2 hf2 hd2
    refine s_heightAt (by omega) ?_
    have eD : do1 P 0 k s w D = reD D k (dH D k + w) s := by unfold do1; rw [if_pos rfl, if_pos h40]
    refine start _ (fun _ _ => ?_) (fun _ y => absurd hlt y) (fun y => absurd h40 y)
    refine s_note (kd := 0) hp hd hlt (by decide) hk1 (by omega) hm9 hm.1 hm.2.1 hm.2.2.1 ⟨fun _ => h40, fun y => absurd y (by decide)⟩ ?_
    intro m' x1 x2 x3 x4 x5 x6 x7
    rw [eD] at x6
    refine ⟨hin, ?_, P, reD D k (dH D k + w) s, push A 0 k s w, Q, B, ⟨hp, reD_ok hd h40 hs, push_ok hA hlt (by decide) hk1 hs (by omega) (by rw [if_neg (by decide)]; exact hA.2.2), ?_, hq, hk⟩, ?_, hm.acts hk x1 x2 x3 x4 x5 x6 x7⟩
    · rw [(hd2.1.1 k hk1).1]
      have := (x6.1 k hk1).1
      rw [show 8 * 0 + k = k by omega] at this
      exact this.symm
    · show dM D = sU (aM (push A 0 k s w)) (aN A + 1)
      rw [push_M, if_neg (by decide), hMA]
      rfl
    · refine hc.acts hq hk (fun i i1 i2 => by rw [hf2 i (by omega), hf1 i (by omega)]) hd2 ?_
      unfold AC at *
      rw [hf2 50 (by omega), hf2 (50 + 1) (by omega), hf2 (50 + 2) (by omega), hf2 (50 + 3) (by omega), hf2 (50 + 4) (by omega)]
      exact hac1
  · have h40 : ¬ dH D k + w ≤ 40 := fun y => by rw [if_pos y] at z; exact absurd z (by decide)
    exact start _ (fun y => absurd y h40) (fun y => absurd y h40) (fun _ => ⟨rfl, hR⟩)

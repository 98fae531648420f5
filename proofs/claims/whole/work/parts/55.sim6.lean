theorem sim_dig {a n : Int32} {c m : vv_S} (h : Rel c m) : wX8_dig a n c (fun x s => wX9_dig a n m (fun y t => x = y ∧ Rel s t)) := by
  have hR := h
  obtain ⟨P, D, A, Q, B, ho, hc, hm⟩ := h
  obtain ⟨hp, hd, hA, hMA, hq, hk⟩ := id ho
  have hm9 := ho.m999
  have hn8 := ho.1.2.1
  have bad : (¬ ∃ k, k < pN P ∧ a = nI k) ∨ ¬ ((1 : Int32) ≤ n ∧ n ≤ 9) → wX9_dig a n m (fun y t => -1 = y ∧ Rel c t) := by
    intro hz
    unfold wX9_dig
    refine s_isCellM hn8 hm.1.1 (fun k hk hak => jn_of (fun f => f m) ⟨rfl, hR⟩ (fun f hf => ⟨fun z => absurd z (by decide), fun _ => s_inM (lo := 1) (hi := 9) (by decide) (by decide) (fun z2 => ?_) (fun _ => ⟨fun z => absurd rfl z, fun _ => hf⟩)⟩)) (fun _ => jn_of (fun f => f m) ⟨rfl, hR⟩ (fun f hf => ⟨fun _ => hf, fun z => absurd rfl z⟩))
    rcases hz with w | w
    · exact absurd ⟨k, hk, hak⟩ w
    · exact absurd z2 w
  unfold wX8_dig
  refine s_isCellC hn8 hc.1.1 (fun k hk1 hak => ?_) (fun hno => jn_of (fun f => f c) (bad (Or.inl hno)) (fun f hf => ⟨fun _ => hf, fun z => absurd rfl z⟩))
  refine jn_of (fun f => ¬ ((1 : Int32) ≤ n ∧ n ≤ 9) → f c) (fun z => bad (Or.inr z)) (fun f hf => ⟨fun z => absurd z (by decide), fun _ => s_within (fun q2 => ⟨fun _ => ?_, fun z => absurd z (by decide)⟩) (fun q2 => ⟨fun z => absurd rfl z, fun _ => hf q2⟩)⟩)
  clear hf
  obtain ⟨w, w1, w9, rfl⟩ := rng1 (L := 1) (N := 9) (by decide) (by decide) q2.1 q2.2
  subst hak
  obtain ⟨b1, b2⟩ := hd.1 k hk1
  have hcl : (nI k).toNatClampNeg = k := nI_clamp (by omega)
  have hin : vp_in (nI k) 16 := vp_in_nI (by omega) (by decide)
  have e28 : m 28 k = nI (dH D k) := by have := (hm.2.1.1 k hk1).1; rw [show 8 * 0 + k = k by omega] at this; exact this
  have c40 : (nI w ≤ nI (dH D k)) ↔ w ≤ dH D k := nI_leI (by omega) (by omega)
  have hn30 := hA.1
  have e30 : nI (aN A) = (30 : Int32) ↔ aN A = 30 := by rw [show (30 : Int32) = nI 30 by decide]; exact nI_eq (by omega) (by decide)
  have start : ∀ (p : Int32 → vv_S → Prop), (w ≤ dH D k → aN A < 30 → wX9_note 1 (nI k) 0 (nI w) m (fun σ15 => vp_in (nI k) 16 ∧ p (σ15 28 k) σ15)) → (w ≤ dH D k → ¬ aN A < 30 → p (-3) m) → (¬ w ≤ dH D k → p (-2) m) → wX9_dig (nI k) (nI w) m p := by
    intro p h1 h2 h3
    unfold wX9_dig
    refine s_isCellM hn8 hm.1.1 (fun _ _ _ => jn_of (fun _ => True) trivial (fun f _ => ⟨fun z => absurd z (by decide), fun _ => s_inM (lo := 1) (hi := 9) (by decide) (by decide) (fun _ => ⟨fun _ => ⟨hin, ?_⟩, fun z => absurd z (by decide)⟩) (fun z => absurd q2 z)⟩)) (fun z => absurd ⟨k, hk1, rfl⟩ z)
    rw [hcl, e28, c40, hm.2.2.1.1, e30]
    exact ⟨fun y => ⟨fun z => h1 y (by omega), fun z => h2 y (by omega)⟩, h3⟩
  refine s_canDig hp hd hk1 (by omega) hc.2.1.1 ⟨fun z => ?_, fun z => ?_⟩
  · have h40 : w ≤ dH D k := by
      by_cases y : w ≤ dH D k
      · exact y
      · rw [if_neg y] at z; exact absurd rfl z
    refine s_add (kd := 1) (st := 0) hn30 hc.2.2.1 (fun hfull => ⟨fun z => absurd rfl z, fun _ => start _ (fun _ y => absurd y hfull) (fun _ _ => ⟨rfl, hR⟩) (fun y => absurd h40 y)⟩) (fun hlt c1 hf1 hac1 => ⟨fun _ => ?_, fun z => absurd z (by decide)⟩)
    have pc1 : PC P c1 := by
      have := hc.1
      unfold PC at *
      rw [hf1 4 (by omega), hf1 13 (by omega), hf1 5 (by omega), hf1 6 (by omega)]
      exact this
    have dr1 : DR P 42 D c1 := by
      have := hc.2.1.1
      unfold DR at *
      rw [hf1 42 (by omega), hf1 (42 + 1) (by omega), hf1 (42 + 2) (by omega), hf1 (42 + 3) (by omega)]
      exact this
    refine s_digAt hp (by decide) hd hk1 h40 pc1 dr1 ?_
    intro c2 hf2 hd2
    refine s_heightAt (by omega) ?_
    have eD : do1 P 1 k 0 w D = reD D k (dH D k - w) (dO D k) := by unfold do1; rw [if_neg (by decide), if_pos rfl, if_pos h40]
    refine start _ (fun _ _ => ?_) (fun _ y => absurd hlt y) (fun y => absurd h40 y)
    refine s_note (kd := 1) (st := 0) hp hd hlt (by decide) hk1 (by omega) hm9 hm.1 hm.2.1 hm.2.2.1 ⟨fun y => absurd y (by decide), fun _ => h40⟩ ?_
    intro m' x1 x2 x3 x4 x5 x6 x7
    rw [eD] at x6
    refine ⟨hin, ?_, P, reD D k (dH D k - w) (dO D k), push A 1 k 0 w, Q, B, ⟨hp, reD_ok hd (by omega) b2, push_ok hA hlt (by decide) hk1 (by decide) (by omega) (by rw [if_neg (by decide)]; exact hA.2.2), ?_, hq, hk⟩, ?_, hm.acts hk x1 x2 x3 x4 x5 x6 x7⟩
    · rw [(hd2.1.1 k hk1).1]
      have := (x6.1 k hk1).1
      rw [show 8 * 0 + k = k by omega] at this
      exact this.symm
    · show dM D = sU (aM (push A 1 k 0 w)) (aN A + 1)
      rw [push_M, if_neg (by decide), hMA]
      rfl
    · refine hc.acts hq hk (fun i i1 i2 => by rw [hf2 i (by omega), hf1 i (by omega)]) hd2 ?_
      unfold AC at *
      rw [hf2 50 (by omega), hf2 (50 + 1) (by omega), hf2 (50 + 2) (by omega), hf2 (50 + 3) (by omega), hf2 (50 + 4) (by omega)]
      exact hac1
  · have h40 : ¬ w ≤ dH D k := fun y => by rw [if_pos y] at z; exact absurd z (by decide)
    exact start _ (fun y => absurd y h40) (fun y => absurd y h40) (fun _ => ⟨rfl, hR⟩)
theorem sim_pass {a : Int32} {c m : vv_S} (h : Rel c m) : wX8_pass a c (fun x s => wX9_pass a m (fun y t => x = y ∧ Rel s t)) := by
  have hR := h
  obtain ⟨P, D, A, Q, B, ho, hc, hm⟩ := h
  obtain ⟨hp, hd, hA, hMA, hq, hk⟩ := id ho
  have hm9 := ho.m999
  have hn8 := ho.1.2.1
  have hn1 := ho.1.1
  obtain ⟨-, -, -, -, -, -, hA20, hS5, -⟩ := id hp
  unfold wX8_pass
  refine s_within (fun q => ⟨fun _ => ?_, fun z => absurd z (by decide)⟩) (fun q => ⟨fun z => absurd rfl z, fun _ => ?_⟩)
  · obtain ⟨w, w1, w9, rfl⟩ := rng1 (L := 1) (N := 60) (by decide) (by decide) q.1 q.2
    have c999 : (nI (dM D) + nI w ≤ (999 : Int32)) ↔ dM D + w ≤ 999 := by rw [nI_add, show (999 : Int32) = nI 999 by decide]; exact nI_leI (by omega) (by decide)
    have hn30 := hA.1
    have e30 : nI (aN A) = (30 : Int32) ↔ aN A = 30 := by rw [show (30 : Int32) = nI 30 by decide]; exact nI_eq (by omega) (by decide)
    have start : ∀ (p : Int32 → vv_S → Prop), (dM D + w ≤ 999 → aN A < 30 → wX9_note 2 0 0 (nI w) m (fun σ6 => wX9_levelOf (σ6 31 0) σ6 (fun r8 σ7 => p r8 σ7))) → (dM D + w ≤ 999 → ¬ aN A < 30 → p (-3) m) → (¬ dM D + w ≤ 999 → p (-2) m) → wX9_pass (nI w) m p := by
      intro p h1 h2 h3
      unfold wX9_pass
      refine s_inM (lo := 1) (hi := 60) (by decide) (by decide) (fun _ => ⟨fun _ => ?_, fun z => absurd z (by decide)⟩) (fun z => absurd q z)
      rw [hm.2.1.2.2.1, c999, hm.2.2.1.1, e30]
      exact ⟨fun y => ⟨fun z => h1 y (by omega), fun z => h2 y (by omega)⟩, h3⟩
    refine s_canPass (P := P) (by omega) (by omega) hc.2.1.1 ⟨fun z => ?_, fun z => ?_⟩
    · have h9 : dM D + w ≤ 999 := by
        by_cases y : dM D + w ≤ 999
        · exact y
        · rw [if_neg y] at z; exact absurd rfl z
      refine s_add (kd := 2) (ce := 0) (st := 0) hn30 hc.2.2.1 (fun hfull => ⟨fun z => absurd rfl z, fun _ => start _ (fun _ y => absurd y hfull) (fun _ _ => ⟨rfl, hR⟩) (fun y => absurd h9 y)⟩) (fun hlt c1 hf1 hac1 => ⟨fun _ => ?_, fun z => absurd z (by decide)⟩)
      have pc1 : PC P c1 := by
        have := hc.1
        unfold PC at *
        rw [hf1 4 (by omega), hf1 13 (by omega), hf1 5 (by omega), hf1 6 (by omega)]
        exact this
      have dp1 : DP P 42 D c1 := by
        have := hc.2.1
        unfold DP DR DE at *
        rw [hf1 42 (by omega), hf1 (42 + 1) (by omega), hf1 (42 + 2) (by omega), hf1 (42 + 3) (by omega)]
        exact this
      refine s_letPass hp (by decide) hd (x := 0) (by omega) (by omega) pc1 dp1 ?_
      intro c2 hf2 hd2
      have hok : dOk P (m0 P D w) := mns_ok (x := fun _ => 0) hp hd w
      refine s_level hp hok (pc1.fr (by decide) hf2) hd2.1.2.2.1 ?_
      have eD : do1 P 2 0 0 w D = m0 P D w := by unfold do1; rw [if_neg (by decide), if_neg (by decide)]
      refine start _ (fun _ _ => ?_) (fun _ y => absurd hlt y) (fun y => absurd h9 y)
      refine s_note (kd := 2) (ce := 0) (st := 0) hp hd hlt (by decide) (by omega) (by omega) hm9 hm.1 hm.2.1 hm.2.2.1 ⟨fun y => absurd y (by decide), fun y => absurd y (by decide)⟩ ?_
      intro m' x1 x2 x3 x4 x5 x6 x7
      rw [eD] at x6
      have pm' := hm.1.moved (m' := m') (fun i a b => x1 i (by omega) (by omega))
      rw [show m' 31 0 = nI (dW (m0 P D w)) from x6.2.1]
      refine s_levelOfM hA20 hS5 pm'.2.2.2.1 pm'.2.2.2.2.1 (by have : dW (m0 P D w) ≤ 7375 := hok.2.1; omega) ?_
      refine ⟨rfl, P, m0 P D w, push A 2 0 0 w, Q, B, ⟨hp, hok, push_ok hA hlt (by decide) (by omega) (by decide) (by omega) ?_, ?_, hq, hk⟩, ?_, hm.acts hk x1 x2 x3 x4 x5 x6 x7⟩
      · rw [if_pos rfl, ← hMA]; exact h9
      · show dM (m0 P D w) = sU (aM (push A 2 0 0 w)) (aN A + 1)
        rw [push_M, if_pos rfl, mns_M, hMA]
      · refine hc.acts hq hk (fun i i1 i2 => by rw [hf2 i (by omega), hf1 i (by omega)]) hd2 ?_
        unfold AC at *
        rw [hf2 50 (by omega), hf2 (50 + 1) (by omega), hf2 (50 + 2) (by omega), hf2 (50 + 3) (by omega), hf2 (50 + 4) (by omega)]
        exact hac1
    · have h9 : ¬ dM D + w ≤ 999 := fun y => by rw [if_pos y] at z; exact absurd z (by decide)
      exact start _ (fun y => absurd y h9) (fun y => absurd y h9) (fun _ => ⟨rfl, hR⟩)
  · unfold wX9_pass
    exact s_inM (lo := 1) (hi := 60) (by decide) (by decide) (fun z => absurd z q) (fun _ => ⟨fun z => absurd rfl z, fun _ => ⟨rfl, hR⟩⟩)
theorem run_M {P : vP} {A : vA} (hA : aOk P A) {but : Nat} : ∀ k, k ≤ aN A → k ≤ but → dM (run P A but k) = sU (aM A) k
  | 0, _, _ => rfl
  | k + 1, h1, h2 => by
    have ih := run_M hA (but := but) k (by omega) (by omega)
    have g := hA.2.1 k (by omega)
    simp only [run, sU]
    rw [if_neg (by omega), do1_M g.1, ih]
    rfl
theorem none_but : ∀ k, k < 30 → (nI k = (-4 : Int32) ↔ k = 100) := by
  intro k hk
  refine ⟨fun z => ?_, fun z => by omega⟩
  have e : (nI k).toInt = (-4 : Int32).toInt := by rw [z]
  rw [nI_toInt (by omega)] at e
  have : (-4 : Int32).toInt = -4 := by decide
  omega
/-- done anew from the text: the class's side behind a change of the acts -/
theorem s_again {P : vP} (hp : pOk P) {A : vA} (hA : aOk P A) {c : vv_S} {post : vv_S → Prop} (pc : PC P c) (ha : AC 50 A c) (kk : ∀ c', Fr4 42 c c' → DP P 42 (run P A 100 (aN A)) c' → post c') : wX0_doAllBut 50 (-4) 42 c post :=
  s_doAllBut hp (by decide) hA none_but pc ha kk
theorem s_beginM {P : vP} (hp : pOk P) {A : vA} (hA : aOk P A) {m : vv_S} {post : vv_S → Prop} (pm : PM P m) (ha : AM A m) (kk : ∀ m', FrW 0 m m' → DM P 0 (run P A 100 (aN A)) m' → post m') : wX9_begin m post := by
  unfold wX9_begin
  exact s_beginBut hp (b := 0) (by decide) hA none_but pm ha kk
theorem sim_undo {c m : vv_S} (h : Rel c m) : wX8_undo c (fun x s => wX9_undo m (fun y t => x = y ∧ Rel s t)) := by
  have hR := h
  obtain ⟨P, D, A, Q, B, ho, hc, hm⟩ := h
  obtain ⟨hp, hd, hA, hMA, hq, hk⟩ := id ho
  have hn30 := hA.1
  have z0 : nI (aN A) = 0 ↔ aN A = 0 := by rw [vn0]; exact nI_eq (by omega) (by decide)
  unfold wX8_undo wX0_size wX0_dropLast
  refine ⟨fun q => ?_, fun q => ?_⟩
  · have q : ¬ aN A = 0 := fun z => q (by show c 50 4 = 0; rw [hc.2.2.1.1, z0]; exact z)
    rintro _ rfl
    show wX0_doAllBut 50 (-4) 42 (vv_up c 50 4 (if (0 : Int32) < c 50 4 - 1 then c 50 4 - 1 else 0)) _
    rw [hc.2.2.1.1]
    have hA' : aOk P (aN A - 1, A.2) := ⟨by show aN A - 1 ≤ 30; omega, fun k hk => hA.2.1 k (by have : k < aN A - 1 := hk; omega), Nat.le_trans (sU_mono (f := aM A) (by show aN A - 1 ≤ aN A; omega)) hA.2.2⟩
    rw [show (1 : Int32) = nI 1 from rfl, mx_val (by omega) (by decide)]
    have ac1 : AC 50 (aN A - 1, A.2) (vv_up c 50 4 (nI (aN A - 1))) := by
      refine ⟨vv_up_s, fun k hk => ?_⟩
      rw [vv_up_c (by decide), vv_up_c (by decide), vv_up_c (by decide), vv_up_c (by decide)]
      exact hc.2.2.1.2 k (by have : k < aN A - 1 := hk; omega)
    have pc1 : PC P (vv_up c 50 4 (nI (aN A - 1))) := by
      have := hc.1
      unfold PC at *
      rw [vv_up_r (by decide), vv_up_r (by decide), vv_up_r (by decide), vv_up_r (by decide)]
      exact this
    refine s_again hp hA' pc1 ac1 ?_
    intro c2 hf2 hd2
    have hac2 := ac1.fr (d := 42) (by decide) (by decide) hf2
    unfold wX9_undo
    rw [hm.2.2.1.1, z0]
    refine ⟨fun _ => ?_, fun z => absurd z q⟩
    rintro _ rfl
    have e1 : nI (aN A) - 1 = nI (aN A - 1) := by rw [show (1 : Int32) = nI 1 from rfl, pk_sub (by omega)]
    rw [e1]
    have am1 : AM (aN A - 1, A.2) (vv_up m 20 0 (nI (aN A - 1))) := by
      refine ⟨vv_up_s, fun k hk => ?_⟩
      rw [vv_up_c (by decide), vv_up_c (by decide), vv_up_c (by decide), vv_up_c (by decide)]
      exact hm.2.2.1.2 k (by have : k < aN A - 1 := hk; omega)
    refine s_beginM hp hA' (hm.1.moved (fun i a b => vv_up_r (by omega))) am1 ?_
    intro m2 hf2' hd2'
    have g : ∀ i, 1 ≤ i → i ≤ 26 → m2 i = vv_up m 20 0 (nI (aN A - 1)) i := fun i a b => hf2'.1 i (by omega) (by omega) (by omega) (by omega) (by omega) (by omega) (by omega) (by omega)
    have am2 := am1.fr hf2'
    have hro := run_ok hp hA' 100 (aN A - 1) (Nat.le_refl _)
    refine ⟨?_, P, run P (aN A - 1, A.2) 100 (aN A - 1), (aN A - 1, A.2), Q, B, ⟨hp, hro.1, hA', run_M hA' _ (Nat.le_refl _) (by show aN A - 1 ≤ 100; omega), hq, hk⟩, ?_, ?_⟩
    · rw [hac2.1, am2.1]
    · exact hc.acts hq hk (fun i i1 i2 => by rw [hf2 i (by omega), vv_up_r (by omega)]) hd2 hac2
    · refine hm.acts hk (fun i a b => by rw [g i (by omega) (by omega), vv_up_r (by omega)]) ⟨by rw [g 25 (by omega) (by omega), vv_up_r (by omega)], by rw [g 26 (by omega) (by omega), vv_up_r (by omega)]⟩ ⟨by rw [hf2'.2.1 0 (by decide) (by decide) (by decide), vv_up_c (by decide)], by rw [hf2'.2.1 25 (by decide) (by decide) (by decide), vv_up_c (by decide)], by rw [hf2'.2.1 26 (by decide) (by decide) (by decide), vv_up_c (by decide)]⟩ (fun j hj => by rw [g 20 (by omega) (by omega), vv_up_i (by omega)]) (fun k hk => by rw [g 21 (by omega) (by omega), g 22 (by omega) (by omega), g 23 (by omega) (by omega), g 24 (by omega) (by omega), vv_up_c (by decide), vv_up_c (by decide), vv_up_c (by decide), vv_up_c (by decide)]; exact ⟨rfl, rfl, rfl, rfl⟩) hd2' am2
  · have q : aN A = 0 := z0.mp (by have z : c 50 4 = 0 := q; rw [hc.2.2.1.1] at z; exact z)
    unfold wX9_undo
    rw [hm.2.2.1.1, z0]
    exact ⟨fun z => absurd q z, fun _ => ⟨rfl, hR⟩⟩
theorem s_breachesM {P : vP} (hP : pOk P) {b : Nat} (hb : b < 2) {D : vD} {m : vv_S} {post : Int32 → vv_S → Prop} (h2 : m 2 0 = nI (pN P)) (h0 : DM P b D m) (k : post (nI (sU (dB D) (pN P))) m) : wX9_breaches (nI b) m post := by
  obtain ⟨hn1, hn8, -⟩ := hP
  have key : ∀ (j i : Nat), i + j = pN P → lX9_breaches_1 m post (nI b) (j + 1) (nI (sU (dB D) i)) (nI i) := by
    intro j
    induction j with
    | zero =>
      intro i hi
      unfold lX9_breaches_1
      rw [h2]
      refine ⟨fun _ => ?_, fun q => absurd (nI_le (by omega) (by omega)) q⟩
      rw [show i = pN P by omega]
      exact k
    | succ j ih =>
      intro i hi
      have hcl2 : (nI (8 * b + i)).toNatClampNeg = 8 * b + i := nI_clamp (by omega)
      unfold lX9_breaches_1
      rw [h2, ix8, hcl2]
      refine ⟨fun q => absurd q (nI_ge (by omega) (by omega)), fun _ => ⟨vp_in_nI (by omega) (by decide), ?_⟩⟩
      rintro _ rfl _ rfl
      rw [(h0.1 i (by omega)).2.2, nI_add, nI_1]
      exact ih (i + 1) (by omega)
  exact ⟨pN P + 1, key (pN P) 0 (by omega)⟩
theorem eq_but {i : Nat} (hi : i < 100) : ∀ k, k < 30 → (nI k = nI i ↔ k = i) := fun k hk => nI_eq (by omega) (by omega)
theorem sim_blame {c m : vv_S} (h : Rel c m) : wX8_blame c (fun x s => wX9_blame m (fun y t => x = y ∧ Rel s t)) := by
  have hR := h
  obtain ⟨P, D, A, Q, B, ho, hc, hm⟩ := h
  obtain ⟨hp, hd, hA, hMA, hq, hk⟩ := id ho
  have hm9 := ho.m999
  have hn30 := hA.1
  have hb9 := hd.2.2
  have zb : nI (sU (dB D) (pN P)) = 0 ↔ sU (dB D) (pN P) = 0 := by rw [vn0]; exact nI_eq (by omega) (by decide)
  unfold wX8_blame
  refine s_wasBreached hp hd (by omega) hc.2.1.1 ⟨fun q => ?_, fun q => ?_⟩
  · have hpos : 0 < sU (dB D) (pN P) := by
      by_cases y : 0 < sU (dB D) (pN P)
      · exact y
      · rw [if_neg y] at q; exact absurd rfl q
    let pB : Nat → Bool := fun i => decide (sU (dB (run P A i (aN A))) (pN P) = 0)
    have hmod : ∀ (c2 : vv_S), FQC c c2 → wX9_blame m (fun y t => (if fs pB (aN A) 0 < aN A then nI (fs pB (aN A) 0) else -4) = y ∧ Rel c2 t) := by
      intro c2 hfc
      unfold wX9_blame
      refine s_breachesM hp (b := 0) (by decide) hm.1.1 hm.2.1 ?_
      rw [zb]
      refine ⟨fun _ => ?_, fun z => absurd z (by omega)⟩
      have key : ∀ (j i : Nat) (m' : vv_S), i + j = aN A → fs pB j i = fs pB (aN A) 0 → FrW 1 m m' → lX9_blame_1 (fun y t => (if fs pB (aN A) 0 < aN A then nI (fs pB (aN A) 0) else -4) = y ∧ Rel c2 t) (j + 1) (nI i) m' := by
        intro j
        induction j with
        | zero =>
          intro i m' hi hfs hf'
          have am' := hm.2.2.1.fr hf'
          unfold lX9_blame_1
          rw [am'.1]
          refine ⟨fun _ => ⟨?_, rel_q ho hc hm hfc hf'.toQ⟩, fun z => absurd (nI_le (by omega) (by omega)) z⟩
          rw [if_neg (by rw [← hfs]; show ¬ i < aN A; omega)]
        | succ j ih =>
          intro i m' hi hfs hf'
          have am' := hm.2.2.1.fr hf'
          unfold lX9_blame_1
          rw [am'.1]
          refine ⟨fun z => absurd z (nI_ge (by omega) (by omega)), fun _ => ?_⟩
          refine s_beginBut hp (b := 1) (by decide) hA (eq_but (by omega)) (hm.1.fr hf') am' ?_
          intro m2 hf2 hd2
          have hro := run_ok hp hA i (aN A) (Nat.le_refl _)
          have hrb := run_bd hp hA i (Nat.le_refl (aN A))
          have hsb := hro.1.2.2
          refine s_breachesM hp (b := 1) (by decide) (hm.1.fr (hf'.trans hf2)).1 hd2 ?_
          have zz : nI (sU (dB (run P A i (aN A))) (pN P)) = 0 ↔ sU (dB (run P A i (aN A))) (pN P) = 0 := by rw [vn0]; exact nI_eq (by omega) (by decide)
          rw [zz]
          have e : fs pB (j + 1) i = if pB i then i else fs pB j (i + 1) := rfl
          refine ⟨fun z => ?_, fun z => ?_⟩
          · rintro _ rfl
            rw [nI_1]
            rw [if_neg (by simp [pB, z])] at e
            exact ih (i + 1) m2 (by omega) (e.symm.trans hfs) (hf'.trans hf2)
          · rw [if_pos (by simp [pB, z])] at e
            have e2 := e.symm.trans hfs
            refine ⟨?_, rel_q ho hc hm hfc (hf'.trans hf2).toQ⟩
            rw [← e2, if_pos (by omega)]
      exact ⟨aN A + 1, key (aN A) 0 m (by omega) rfl FrW.rf⟩
    have key : ∀ (j i : Nat) (c2 : vv_S), i + j = aN A → fs pB j i = fs pB (aN A) 0 → Fr4 46 c c2 → lX8_blame_1 (fun x s => wX9_blame m (fun y t => x = y ∧ Rel s t)) (j + 1) (nI i) c2 := by
      intro j
      induction j with
      | zero =>
        intro i c2 hi hfs hf'
        have ac' := hc.2.2.1.fr (d := 46) (by decide) (by decide) hf'
        unfold lX8_blame_1 wX0_size
        rw [ac'.1]
        refine ⟨fun _ => ?_, fun z => absurd (nI_le (by omega) (by omega)) z⟩
        have := hmod c2 hf'.toQ
        rw [if_neg (by rw [← hfs]; show ¬ i < aN A; omega)] at this
        exact this
      | succ j ih =>
        intro i c2 hi hfs hf'
        have ac' := hc.2.2.1.fr (d := 46) (by decide) (by decide) hf'
        unfold lX8_blame_1 wX0_size
        rw [ac'.1]
        refine ⟨fun z => absurd z (nI_ge (by omega) (by omega)), fun _ => ?_⟩
        refine s_doAllBut hp (d := 46) (by decide) hA (eq_but (by omega)) (hc.1.fr (by decide) hf') ac' ?_
        intro c3 hf3 hd3
        have hro := run_ok hp hA i (aN A) (Nat.le_refl _)
        have hrb := run_bd hp hA i (Nat.le_refl (aN A))
        refine s_wasBreached hp hro.1 (by omega) hd3.1 ?_
        have e : fs pB (j + 1) i = if pB i then i else fs pB j (i + 1) := rfl
        refine ⟨fun z => ?_, fun z => ?_⟩
        · rintro _ rfl
          rw [nI_1]
          have y : 0 < sU (dB (run P A i (aN A))) (pN P) := by
            by_cases y : 0 < sU (dB (run P A i (aN A))) (pN P)
            · exact y
            · rw [if_neg y] at z; exact absurd rfl z
          rw [if_neg (by simp [pB]; omega)] at e
          exact ih (i + 1) c3 (by omega) (e.symm.trans hfs) (hf'.trans hf3)
        · have y : sU (dB (run P A i (aN A))) (pN P) = 0 := by
            by_cases y : 0 < sU (dB (run P A i (aN A))) (pN P)
            · rw [if_pos y] at z; exact absurd z (by decide)
            · omega
          rw [if_pos (by simp [pB, y])] at e
          have e2 := e.symm.trans hfs
          have := hmod c3 (hf'.trans hf3).toQ
          rw [← e2, if_pos (by omega)] at this
          exact this
    exact ⟨aN A + 1, key (aN A) 0 c (by omega) rfl Fr4.rfl'⟩
  · have hz : sU (dB D) (pN P) = 0 := by
      by_cases y : 0 < sU (dB D) (pN P)
      · rw [if_pos y] at q; exact absurd q (by decide)
      · omega
    unfold wX9_blame
    refine s_breachesM hp (b := 0) (by decide) hm.1.1 hm.2.1 ?_
    rw [zb]
    exact ⟨fun z => absurd hz z, fun _ => ⟨rfl, hR⟩⟩

theorem sim_back {c m : vv_S} (h : Rel c m) : wX8_back c (fun x s => wX9_back m (fun y t => x = y ∧ Rel s t)) := by
  have hR := h
  obtain ⟨P, D, A, Q, B, ho, hc, hm⟩ := h
  obtain ⟨hp, hd, hA, hMA, hq, hk⟩ := id ho
  obtain ⟨g1, g2, g3, g4, k1, k2, k3, k4, k5, k6⟩ := id hc
  obtain ⟨j1, j2, j3, j4, l1, l2, l3, l4, l5, l6⟩ := id hm
  have hk2 : B.1.1 ≤ 2 := hk.1
  have z0 : nI B.1.1 = 0 ↔ B.1.1 = 0 := by rw [vn0]; exact nI_eq (by omega) (by decide)
  unfold wX8_back
  rw [k1]
  refine jn_of (fun f => B.1.1 = 0 → f) (fun z => ?_) (fun f hf => ⟨fun z => hf ?_, fun z => ⟨fun _ => ?_, fun y => absurd ?_ y⟩⟩)
  · unfold wX9_back
    rw [l1, z0]
    exact ⟨fun y => absurd z y, fun _ => ⟨rfl, hR⟩⟩
  · rw [vn1, nI_ltI (by omega) (by decide)] at z
    omega
  · rw [vn1, nI_ltI (by omega) (by decide)] at z
    rintro _ rfl
    have e1 : nI B.1.1 - 1 = nI (B.1.1 - 1) := by rw [show (1 : Int32) = nI 1 from rfl, pk_sub (by omega)]
    have hcl : (nI (B.1.1 - 1)).toNatClampNeg = B.1.1 - 1 := nI_clamp (by omega)
    rw [e1, vv_up_s, hcl]
    refine ⟨vp_in_nI (by omega) (by decide), ?_⟩
    have hAk := hk.2.1 (B.1.1 - 1) (by omega)
    have hack : AC (55 + 5 * (B.1.1 - 1)) (B.1.2 (B.1.1 - 1)) (vv_up c 0 7 (nI (B.1.1 - 1))) := by
      have := k2 (B.1.1 - 1) (by omega)
      unfold AC at *
      rw [vv_up_r (by omega), vv_up_r (by omega), vv_up_r (by omega), vv_up_r (by omega), vv_up_r (by omega)]
      exact this
    refine s_acopy (by omega) hAk.1 hack ?_
    intro c1 hf1 hac1
    have pc1 : PC P c1 := by
      unfold PC at *
      rw [hf1 4 (by omega), hf1 13 (by omega), hf1 5 (by omega), hf1 6 (by omega), vv_up_r (by decide), vv_up_r (by decide), vv_up_r (by decide), vv_up_r (by decide)]
      exact g1
    refine s_again hp hAk pc1 hac1 ?_
    intro c2 hf2 hd2
    have hac2 := hac1.fr (d := 42) (by decide) (by decide) hf2
    have e07 : c2 0 7 = nI (B.1.1 - 1) := by rw [hf2 0 (by omega), hf1 0 (by omega), vv_up_s]
    rw [e07]
    unfold wX9_back
    rw [l1, z0]
    refine ⟨fun _ => ?_, fun y => by omega⟩
    have hak2 := l2 (B.1.1 - 1) (by omega)
    rw [show B.1.1 - 1 + 1 = B.1.1 by omega] at hak2
    refine s_copyM (a := B.1.1) (b := 0) (by omega) (by decide) (by omega) hAk.1 hak2 ?_
    intro m1 x1 x2 x3 x4
    rintro _ rfl
    have e25 : m1 0 25 - 1 = nI (B.1.1 - 1) := by rw [x1 0 (by omega), l1, e1]
    rw [e25]
    have am1 : AM (B.1.2 (B.1.1 - 1)) (vv_up m1 0 25 (nI (B.1.1 - 1))) := by
      have := AM.of0 x4
      unfold AM at *
      rw [vv_up_r (by decide), vv_up_r (by decide), vv_up_r (by decide), vv_up_r (by decide), vv_up_r (by decide)]
      exact this
    refine s_beginM hp hAk (j1.moved (fun i a b => by rw [vv_up_r (by omega), x1 i (by omega)])) am1 ?_
    intro m2 hf2' hd2'
    have am2 := am1.fr hf2'
    have g : ∀ i, 1 ≤ i → i ≤ 26 → m2 i = m1 i := fun i a b => by rw [hf2'.1 i (by omega) (by omega) (by omega) (by omega) (by omega) (by omega) (by omega) (by omega), vv_up_r (by omega)]
    have g0 : ∀ i, i ≤ 28 → m2 0 i = vv_up m1 0 25 (nI (B.1.1 - 1)) 0 i := fun i a => hf2'.2.1 i (by omega) (by omega) (by omega)
    have hro := run_ok hp hAk 100 (aN (B.1.2 (B.1.1 - 1))) (Nat.le_refl _)
    have h30 := hAk.1
    refine ⟨by rw [g0 25 (by omega), vv_up_s], P, run P (B.1.2 (B.1.1 - 1)) 100 (aN (B.1.2 (B.1.1 - 1))), B.1.2 (B.1.1 - 1), Q, ((B.1.1 - 1, B.1.2), B.2), ⟨hp, hro.1, hAk, run_M hAk _ (Nat.le_refl _) (by omega), hq, by show B.1.1 - 1 ≤ 2; omega, fun j hj => hk.2.1 j (by have : j < B.1.1 - 1 := hj; omega), hk.2.2⟩, ?_, ?_⟩
    · have e : ∀ i, i ≠ 0 → ¬ (42 ≤ i ∧ i ≤ 45) → ¬ (50 ≤ i ∧ i ≤ 54) → c2 i = c i := fun i a b d => by rw [hf2 i (by omega), hf1 i (by omega), vv_up_r a]
      obtain ⟨u1, u2, u3, u4⟩ := g4
      have q1 := hq.1
      refine ⟨?_, hd2, hac2, ⟨?_, ?_, ?_, ?_⟩, e07, ?_, ?_, ?_, ?_, ?_⟩
      · unfold PC at *
        rw [e 4 (by omega) (by omega) (by omega), e 13 (by omega) (by omega) (by omega), e 5 (by omega) (by omega) (by omega), e 6 (by omega) (by omega) (by omega)]
        exact g1
      · rw [e 14 (by omega) (by omega) (by omega)]; exact u1
      · rw [e 14 (by omega) (by omega) (by omega)]; exact u2
      · intro i s hi hs
        rw [e (16 + i) (by omega) (by omega) (by omega)]
        exact u3 i s hi hs
      · rw [e 20 (by omega) (by omega) (by omega), e 21 (by omega) (by omega) (by omega)]; exact u4
      · intro j hj
        have hj : j < B.1.1 - 1 := hj
        have := k2 j (by omega)
        unfold AC at *
        rw [e (55 + 5 * j) (by omega) (by omega) (by omega), e (55 + 5 * j + 1) (by omega) (by omega) (by omega), e (55 + 5 * j + 2) (by omega) (by omega) (by omega), e (55 + 5 * j + 3) (by omega) (by omega) (by omega), e (55 + 5 * j + 4) (by omega) (by omega) (by omega)]
        exact this
      · rw [e 66 (by omega) (by omega) (by omega)]; exact k3
      · rw [e 67 (by omega) (by omega) (by omega), e 68 (by omega) (by omega) (by omega)]; exact k4
      · rw [e 1 (by omega) (by omega) (by omega)]; exact k5
      · rw [e 2 (by omega) (by omega) (by omega)]; exact k6
    · have y1 : ∀ i, 1 ≤ i → i ≤ 26 → ¬ (20 ≤ i ∧ i ≤ 24) → m2 i = m i := fun i a b d => by rw [g i a b, x1 i d]
      refine ⟨j1.moved (fun i a b => y1 i (by omega) (by omega) (by omega)), hd2', am2, ?_, by rw [g0 25 (by omega), vv_up_s], ?_, ?_, ?_, ?_, ?_⟩
      · unfold QM at *
        rw [y1 14 (by omega) (by omega) (by omega), y1 15 (by omega) (by omega) (by omega), y1 16 (by omega) (by omega) (by omega), y1 18 (by omega) (by omega) (by omega), y1 19 (by omega) (by omega) (by omega)]
        exact j4
      · intro j hj
        have hj : j < B.1.1 - 1 := hj
        refine (l2 j (by omega)).mv2 (by rw [g 20 (by omega) (by omega), x2 (j + 1) (by omega)]) (fun k a b => ?_)
        rw [g 21 (by omega) (by omega), g 22 (by omega) (by omega), g 23 (by omega) (by omega), g 24 (by omega) (by omega)]
        exact x3 k (by omega)
      · rw [g0 26 (by omega), vv_up_i (by decide), x1 0 (by omega)]; exact l3
      · rw [y1 25 (by omega) (by omega) (by omega), y1 26 (by omega) (by omega) (by omega)]; exact l4
      · rw [g0 0 (by omega), vv_up_i (by decide), x1 0 (by omega)]; exact l5
      · rw [y1 1 (by omega) (by omega) (by omega)]; exact l6
  · rw [vn2]; exact nI_le hk2 (by decide)
/-- does a flow agree with the first n that were seen -/
def agr (P : vP) (B : vK) (f : Nat) : Nat → Bool
  | 0 => true
  | k + 1 => agr P B f k && decide (lv (pA P) (pS P) (f * B.2.1.2.2 k) 60 = B.2.1.2.1 k)
def bitsOf (P : vP) (B : vK) : Nat → Int32
  | 0 => 0
  | f + 1 => bitsOf P B f ||| (if agr P B f B.2.1.1 then (1 : Int32) <<< (nI f &&& 31) else 0)
theorem agr_mono (P : vP) (B : vK) (f : Nat) {i : Nat} : ∀ n, i ≤ n → agr P B f i = false → agr P B f n = false := by
  intro n hn h
  induction hn with
  | refl => exact h
  | step _ ih => simp [agr, ih]
theorem sim_flows {c m : vv_S} (h : Rel c m) : wX8_flows c (fun x s => wX9_flows m (fun y t => x = y ∧ Rel s t)) := by
  have hR := h
  obtain ⟨P, D, A, Q, B, ho, hc, hm⟩ := h
  obtain ⟨hp, hd, hA, hMA, hq, hk⟩ := id ho
  obtain ⟨g1, g2, g3, g4, k1, k2, k3, k4, k5, k6⟩ := id hc
  obtain ⟨j1, j2, j3, j4, l1, l2, l3, l4, l5, l6⟩ := id hm
  obtain ⟨-, -, -, -, -, -, hA20, hS5, -⟩ := id hp
  have hs8 : B.2.1.1 ≤ 8 := hk.2.2.1
  have hsv := hk.2.2.2.1
  have e30 : (30 : Int32) = nI 30 := by decide
  have hmod : wX9_flows m (fun y t => bitsOf P B 31 = y ∧ Rel c t) := by
    have inner : ∀ (f : Nat) (K : Int32 → vv_S → Prop), f ≤ 30 → K (if agr P B f B.2.1.1 then 1 else 0) m → ∃ n, lX9_flows_2 K (nI f) n 1 0 m := by
      intro f K hf hK
      have key : ∀ (j i : Nat), i + j = B.2.1.1 → lX9_flows_2 K (nI f) (j + 1) (if agr P B f i then 1 else 0) (nI i) m := by
        intro j
        induction j with
        | zero =>
          intro i hi
          unfold lX9_flows_2
          rw [l3]
          refine ⟨fun _ => ?_, fun q => absurd (nI_le (by omega) (by omega)) q⟩
          rw [show i = B.2.1.1 by omega]
          exact hK
        | succ j ih =>
          intro i hi
          have hcl : (nI i).toNatClampNeg = i := nI_clamp (by omega)
          have hin : vp_in (nI i) 8 := vp_in_nI (by omega) (by decide)
          obtain ⟨v1, v2⟩ := l4 i (by omega)
          obtain ⟨w1, w2, w3⟩ := hsv i (by omega)
          have hb := Nat.mul_le_mul hf w3
          have hlb := lv_le (pA P) (pS P) (f * B.2.1.2.2 i) 60
          unfold lX9_flows_2
          rw [l3, hcl, v2, pk_mul]
          refine ⟨fun q => absurd q (nI_ge (by omega) (by omega)), fun _ => ?_⟩
          have ea : agr P B f (i + 1) = (agr P B f i && decide (lv (pA P) (pS P) (f * B.2.1.2.2 i) 60 = B.2.1.2.1 i)) := rfl
          refine jn_of (fun g => g (if agr P B f (i + 1) then 1 else 0) m) ?_ ?_
          · rintro _ rfl
            rw [nI_1]
            exact ih (i + 1) (by omega)
          · intro g hg
            refine jn_of (fun g2 => agr P B f (i + 1) = false → g2 m) (fun z => by rw [z] at hg; exact hg) ?_
            intro g2 hg2
            refine ⟨fun z => hg2 ?_, fun z => ⟨hin, s_levelOfM hA20 hS5 j1.2.2.2.1 j1.2.2.2.2.1 (by omega) ⟨hin, ?_⟩⟩⟩
            · have : agr P B f i = false := by
                cases hh : agr P B f i with
                | false => rfl
                | true => rw [hh] at z; exact absurd z (by decide)
              rw [ea, this]
              rfl
            · have ht : agr P B f i = true := by
                cases hh : agr P B f i with
                | true => rfl
                | false => rw [hh] at z; exact absurd rfl z
              rw [ht, Bool.true_and] at ea
              rw [v1]
              have zz : nI (lv (pA P) (pS P) (f * B.2.1.2.2 i) 60) = nI (B.2.1.2.1 i) ↔ lv (pA P) (pS P) (f * B.2.1.2.2 i) 60 = B.2.1.2.1 i := nI_eq (by omega) (by omega)
              refine ⟨fun y => hg2 (by rw [ea]; exact decide_eq_false (fun w => y (zz.mpr w))), fun y => ?_⟩
              rw [ea, decide_eq_true (zz.mp y)] at hg
              exact hg
      refine ⟨B.2.1.1 + 1, ?_⟩
      have := key B.2.1.1 0 (by omega)
      exact this
    have key : ∀ (j f : Nat), f + j = 31 → lX9_flows_1 (fun y t => bitsOf P B 31 = y ∧ Rel c t) (j + 1) (bitsOf P B f) (nI f) m := by
      intro j
      induction j with
      | zero =>
        intro f hf
        unfold lX9_flows_1
        rw [e30]
        refine ⟨fun _ => ⟨by rw [show f = 31 by omega], hR⟩, fun q => absurd (nI_lt (by omega) (by omega)) q⟩
      | succ j ih =>
        intro f hf
        unfold lX9_flows_1
        rw [e30]
        refine ⟨fun q => absurd q (nI_nlt (by omega) (by omega)), fun _ => ?_⟩
        refine jn_of (fun g => g (if agr P B f B.2.1.1 then 1 else 0) m) ?_ (fun g hg => inner f g (by omega) hg)
        refine jn_of (fun g => g (if agr P B f B.2.1.1 then (1 : Int32) <<< (nI f &&& 31) else 0)) ?_ (fun g hg => ?_)
        · rintro _ rfl _ rfl
          rw [nI_1]
          exact ih (f + 1) (by omega)
        · cases hh : agr P B f B.2.1.1 with
          | true => rw [hh] at hg; exact ⟨fun z => absurd z (by decide), fun _ => hg⟩
          | false => rw [hh] at hg; exact ⟨fun _ => hg, fun z => absurd rfl z⟩
    exact ⟨32, key 31 0 (by omega)⟩
  have inner : ∀ (f : Nat) (K : Int32 → vv_S → Prop), f ≤ 30 → K (if agr P B f B.2.1.1 then 1 else 0) c → wX6_agreeWith (nI f) 4 c K := by
    intro f K hf hK
    unfold wX6_agreeWith
    refine jn_of (fun g => agr P B f B.2.1.1 = true → g c) (fun z => by rw [z] at hK; exact hK) ?_
    intro g hg
    have key : ∀ (j i : Nat), i + j = B.2.1.1 → agr P B f i = true → lX6_agreeWith_1 g 4 (nI f) K (j + 1) (nI i) c := by
      intro j
      induction j with
      | zero =>
        intro i hi ha
        unfold lX6_agreeWith_1
        rw [k3]
        refine ⟨fun _ => hg ?_, fun q => absurd (nI_le (by omega) (by omega)) q⟩
        rw [← show i = B.2.1.1 by omega]
        exact ha
      | succ j ih =>
        intro i hi ha
        have hcl : (nI i).toNatClampNeg = i := nI_clamp (by omega)
        have hin : vp_in (nI i) 8 := vp_in_nI (by omega) (by decide)
        obtain ⟨v1, v2⟩ := k4 i (by omega)
        obtain ⟨w1, w2, w3⟩ := hsv i (by omega)
        have hb := Nat.mul_le_mul hf w3
        have hlb := lv_le (pA P) (pS P) (f * B.2.1.2.2 i) 60
        have ea : agr P B f (i + 1) = (agr P B f i && decide (lv (pA P) (pS P) (f * B.2.1.2.2 i) 60 = B.2.1.2.1 i)) := rfl
        rw [ha, Bool.true_and] at ea
        unfold lX6_agreeWith_1
        rw [k3, hcl, v2, pk_mul]
        refine ⟨fun q => absurd q (nI_ge (by omega) (by omega)), fun _ => ⟨fun q => absurd q ?_, fun _ => ⟨hin, s_levelOf hp (by omega) g1.2.2.2.1 g1.2.2.2.2.1 ⟨hin, ?_⟩⟩⟩⟩
        · rw [vn8]; exact nI_ge (by omega) (by decide)
        · rw [v1]
          have zz : nI (lv (pA P) (pS P) (f * B.2.1.2.2 i) 60) = nI (B.2.1.2.1 i) ↔ lv (pA P) (pS P) (f * B.2.1.2.2 i) 60 = B.2.1.2.1 i := nI_eq (by omega) (by omega)
          refine ⟨fun y => ?_, fun y => ?_⟩
          · rintro _ rfl
            rw [nI_1]
            exact ih (i + 1) (by omega) (by rw [ea]; exact decide_eq_true (zz.mp y))
          · have : agr P B f B.2.1.1 = false := agr_mono P B f B.2.1.1 (show i + 1 ≤ B.2.1.1 by omega) (by rw [ea]; exact decide_eq_false (fun w => y (zz.mpr w)))
            rw [this] at hK
            exact hK
    exact ⟨B.2.1.1 + 1, key B.2.1.1 0 (by omega) rfl⟩
  have key : ∀ (j f : Nat), f + j = 31 → lX8_flows_1 (fun x s => wX9_flows m (fun y t => x = y ∧ Rel s t)) (j + 1) (bitsOf P B f) (nI f) c := by
    intro j
    induction j with
    | zero =>
      intro f hf
      unfold lX8_flows_1
      rw [e30]
      refine ⟨fun _ => ?_, fun q => absurd (nI_lt (by omega) (by omega)) q⟩
      rw [show f = 31 by omega]
      exact hmod
    | succ j ih =>
      intro f hf
      unfold lX8_flows_1
      rw [e30]
      refine ⟨fun q => absurd q (nI_nlt (by omega) (by omega)), fun _ => inner f _ (by omega) ?_⟩
      refine jn_of (fun g => g (bitsOf P B (f + 1))) ?_ (fun g hg => ?_)
      · rintro _ rfl
        rw [nI_1]
        exact ih (f + 1) (by omega)
      · have eb : bitsOf P B (f + 1) = bitsOf P B f ||| (if agr P B f B.2.1.1 then (1 : Int32) <<< (nI f &&& 31) else 0) := rfl
        cases hh : agr P B f B.2.1.1 with
        | true =>
          rw [hh] at eb
          refine ⟨fun z => absurd z (by decide), fun _ => ?_⟩
          rintro _ rfl
          rw [eb] at hg
          exact hg
        | false =>
          rw [hh] at eb
          refine ⟨fun _ => ?_, fun z => absurd rfl z⟩
          rw [eb] at hg
          have : bitsOf P B f ||| (if false = true then (1 : Int32) <<< (nI f &&& 31) else 0) = bitsOf P B f := by simp
          rw [this] at hg
          exact hg
  exact ⟨32, key 31 0 (by omega)⟩

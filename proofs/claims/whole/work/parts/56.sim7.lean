theorem s_acopy {d o : Nat} (hdo : d + 5 ≤ o ∨ o + 5 ≤ d) {A : vA} (hn : aN A ≤ 30) {c : vv_S} {post : vv_S → Prop} (hac : AC o A c)
    (kk : ∀ c', (∀ i, ¬ (d ≤ i ∧ i ≤ d + 4) → c' i = c i) → AC d A c' → post c') : wX0_copyFrom d o c post := by
  unfold wX0_copyFrom
  refine jn_of (fun f => ∀ c', (∀ i, ¬ (d + 1 ≤ i ∧ i ≤ d + 4) → c' i = c i) → (∀ k, k < 30 → c' (d + 1) k = c (o + 1) k ∧ c' (d + 2) k = c (o + 2) k ∧ c' (d + 3) k = c (o + 3) k ∧ c' (d + 4) k = c (o + 4) k) → f c') ?_ ?_
  · intro c1 hf hh
    rintro _ rfl
    refine kk _ (fun i hi => by rw [vv_up_r (by omega), hf i (by omega)]) ⟨by rw [vv_up_s, hf o (by omega), hac.1], fun k hk => ?_⟩
    obtain ⟨e1, e2, e3, e4⟩ := hh k (by omega)
    rw [vv_up_c (by omega), vv_up_c (by omega), vv_up_c (by omega), vv_up_c (by omega), e1, e2, e3, e4]
    exact hac.2 k hk
  · intro f hf
    have key : ∀ (j i : Nat) (c1 : vv_S), i + j = 30 → (∀ i, ¬ (d + 1 ≤ i ∧ i ≤ d + 4) → c1 i = c i) → (∀ k, k < i → c1 (d + 1) k = c (o + 1) k ∧ c1 (d + 2) k = c (o + 2) k ∧ c1 (d + 3) k = c (o + 3) k ∧ c1 (d + 4) k = c (o + 4) k) → lX0_copyFrom_1 f d o (j + 1) (nI i) c1 := by
      intro j
      induction j with
      | zero =>
        intro i c1 hi hf1 hh
        unfold lX0_copyFrom_1
        refine ⟨fun _ => hf c1 hf1 (fun k hk => hh k (by omega)), fun q => absurd ?_ q⟩
        rw [show (30 : Int32) = nI 30 by decide]; exact nI_le (by omega) (by omega)
      | succ j ih =>
        intro i c1 hi hf1 hh
        have hcl : (nI i).toNatClampNeg = i := nI_clamp (by omega)
        have hin : vp_in (nI i) 30 := vp_in_nI (by omega) (by decide)
        unfold lX0_copyFrom_1
        rw [hcl]
        refine ⟨fun q => absurd q ?_, fun _ => ⟨hin, hin, ?_⟩⟩
        · rw [show (30 : Int32) = nI 30 by decide]; exact nI_ge (by omega) (by decide)
        rintro _ rfl
        refine ⟨hin, hin, ?_⟩
        rintro _ rfl
        refine ⟨hin, hin, ?_⟩
        rintro _ rfl
        refine ⟨hin, hin, ?_⟩
        rintro _ rfl _ rfl
        rw [nI_1]
        have e1 : c1 (o + 1) = c (o + 1) := hf1 _ (by omega)
        have e2 : c1 (o + 2) = c (o + 2) := hf1 _ (by omega)
        have e3 : c1 (o + 3) = c (o + 3) := hf1 _ (by omega)
        have e4 : c1 (o + 4) = c (o + 4) := hf1 _ (by omega)
        refine ih (i + 1) _ (by omega) (fun i hi => by rw [vv_up_r (by omega), vv_up_r (by omega), vv_up_r (by omega), vv_up_r (by omega), hf1 i hi]) ?_
        intro k hk
        rw [vv_up_c (show o + 2 ≠ d + 1 by omega), vv_up_c (show o + 3 ≠ d + 2 by omega), vv_up_c (show o + 3 ≠ d + 1 by omega), vv_up_c (show o + 4 ≠ d + 3 by omega), vv_up_c (show o + 4 ≠ d + 2 by omega), vv_up_c (show o + 4 ≠ d + 1 by omega), e1, e2, e3, e4]
        by_cases e : k = i
        · subst e
          simp [vv_up_app]
        · have := hh k (by omega)
          simp [vv_up_app, e]
          exact this
    exact ⟨31, key 30 0 c (by omega) (fun _ _ => rfl) (fun k hk => by omega)⟩
theorem ix30 (b k : Nat) : (30 : Int32) * nI b + nI k = nI (30 * b + k) := by rw [show (30 : Int32) = nI 30 by decide, pk_mul, nI_add]
theorem s_copyM {a b : Nat} (ha : a < 3) (hb : b < 3) (hab : a ≠ b) {A : vA} (hn : aN A ≤ 30) {m : vv_S} {post : vv_S → Prop} (hac : AMo (30 * a) a A m)
    (kk : ∀ m', (∀ i, ¬ (20 ≤ i ∧ i ≤ 24) → m' i = m i) → (∀ j, j ≠ b → m' 20 j = m 20 j) → (∀ k, ¬ (30 * b ≤ k ∧ k < 30 * b + 30) → m' 21 k = m 21 k ∧ m' 22 k = m 22 k ∧ m' 23 k = m 23 k ∧ m' 24 k = m 24 k) → AMo (30 * b) b A m' → post m') : wX9_copy (nI a) (nI b) m post := by
  have hca : (nI a).toNatClampNeg = a := nI_clamp (by omega)
  have hcb : (nI b).toNatClampNeg = b := nI_clamp (by omega)
  unfold wX9_copy
  rw [hca, hcb]
  refine ⟨vp_in_nI ha (by decide), vp_in_nI hb (by decide), ?_⟩
  rintro _ rfl
  have key : ∀ (j i : Nat) (m1 : vv_S), i + j = 30 → (∀ i, ¬ (20 ≤ i ∧ i ≤ 24) → m1 i = m i) → (∀ x, m1 20 x = if x = b then m 20 a else m 20 x) → (∀ k, ¬ (30 * b ≤ k ∧ k < 30 * b + 30) → m1 21 k = m 21 k ∧ m1 22 k = m 22 k ∧ m1 23 k = m 23 k ∧ m1 24 k = m 24 k) → (∀ k, k < i → m1 21 (30 * b + k) = m 21 (30 * a + k) ∧ m1 22 (30 * b + k) = m 22 (30 * a + k) ∧ m1 23 (30 * b + k) = m 23 (30 * a + k) ∧ m1 24 (30 * b + k) = m 24 (30 * a + k)) → lX9_copy_1 post (nI a) (nI b) (j + 1) (nI i) m1 := by
    intro j
    induction j with
    | zero =>
      intro i m1 hi f1 f2 f3 hh
      unfold lX9_copy_1
      refine ⟨fun _ => kk m1 f1 (fun x hx => by rw [f2, if_neg hx]) f3 ⟨by rw [f2, if_pos rfl, hac.1], fun k hk => ?_⟩, fun q => absurd ?_ q⟩
      · obtain ⟨e1, e2, e3, e4⟩ := hh k (by omega)
        rw [e1, e2, e3, e4]
        exact hac.2 k hk
      · rw [show (30 : Int32) = nI 30 by decide]; exact nI_le (by omega) (by omega)
    | succ j ih =>
      intro i m1 hi f1 f2 f3 hh
      have hcl : (nI (30 * a + i)).toNatClampNeg = 30 * a + i := nI_clamp (by omega)
      have hcl2 : (nI (30 * b + i)).toNatClampNeg = 30 * b + i := nI_clamp (by omega)
      have hin : vp_in (nI (30 * a + i)) 90 := vp_in_nI (by omega) (by decide)
      have hin2 : vp_in (nI (30 * b + i)) 90 := vp_in_nI (by omega) (by decide)
      unfold lX9_copy_1
      rw [ix30, ix30, hcl, hcl2]
      refine ⟨fun q => absurd q ?_, fun _ => ⟨hin, hin2, ?_⟩⟩
      · rw [show (30 : Int32) = nI 30 by decide]; exact nI_ge (by omega) (by decide)
      rintro _ rfl
      refine ⟨hin, hin2, ?_⟩
      rintro _ rfl
      refine ⟨hin, hin2, ?_⟩
      rintro _ rfl
      refine ⟨hin, hin2, ?_⟩
      rintro _ rfl _ rfl
      rw [nI_1]
      obtain ⟨e1, e2, e3, e4⟩ := f3 (30 * a + i) (by omega)
      refine ih (i + 1) _ (by omega) (fun i hi => by rw [vv_up_r (by omega), vv_up_r (by omega), vv_up_r (by omega), vv_up_r (by omega), f1 i hi]) (fun x => by rw [vv_up_c (by decide), vv_up_c (by decide), vv_up_c (by decide), vv_up_c (by decide), f2]) (fun k hk => ?_) ?_
      · have : k ≠ 30 * b + i := by omega
        simp [vv_up_app, this]
        exact f3 k hk
      · intro k hk
        by_cases e : k = i
        · subst e
          simp [vv_up_app, e1, e2, e3, e4]
        · have := hh k (by omega)
          simp [vv_up_app, e]
          exact this
  refine ⟨31, key 30 0 _ (by omega) (fun i hi => vv_up_r (by omega)) (fun x => ?_) (fun k hk => by simp [vv_up_app]) (fun k hk => by omega)⟩
  rw [vv_up_app]
  by_cases e : x = b
  · rw [if_pos ⟨rfl, e⟩, if_pos e]
  · rw [if_neg (fun z => e z.2), if_neg e]
theorem AM.to0 {A : vA} {m : vv_S} (h : AM A m) : AMo (30 * 0) 0 A m := ⟨h.1, fun k hk => by rw [show 30 * 0 + k = k by omega]; exact h.2 k hk⟩
theorem AM.of0 {A : vA} {m : vv_S} (h : AMo (30 * 0) 0 A m) : AM A m := ⟨h.1, fun k hk => by have := h.2 k hk; rw [show 30 * 0 + k = k by omega] at this; exact this⟩
theorem sim_keep {c m : vv_S} (h : Rel c m) : wX8_keep c (fun x s => wX9_keep m (fun y t => x = y ∧ Rel s t)) := by
  have hR := h
  obtain ⟨P, D, A, Q, B, ho, hc, hm⟩ := h
  obtain ⟨hp, hd, hA, hMA, hq, hk⟩ := id ho
  obtain ⟨g1, g2, g3, g4, k1, k2, k3, k4, k5, k6⟩ := id hc
  obtain ⟨j1, j2, j3, j4, l1, l2, l3, l4, l5, l6⟩ := id hm
  have hk2 : B.1.1 ≤ 2 := hk.1
  have e2 : nI B.1.1 = (2 : Int32) ↔ B.1.1 = 2 := by rw [vn2]; exact nI_eq (by omega) (by decide)
  have hcl : (nI B.1.1).toNatClampNeg = B.1.1 := nI_clamp (by omega)
  unfold wX8_keep
  rw [k1, hcl]
  refine jn_of (fun f => ¬ B.1.1 < 2 → f) (fun z => ?_) (fun f hf => ⟨fun z => absurd z (nI_pos (by omega)), fun _ => ⟨fun z => ?_, fun z => hf (fun y => z (by rw [vn2]; exact nI_lt y (by decide)))⟩⟩)
  · unfold wX9_keep
    rw [l1, e2]
    exact ⟨fun y => by omega, fun _ => ⟨rfl, hR⟩⟩
  · rw [vn2, nI_ltI (by omega) (by decide)] at z
    refine ⟨vp_in_nI z (by decide), s_acopy (by omega) hA.1 g3 ?_⟩
    intro c1 hf1 hac1
    rintro _ rfl
    have e07 : c1 0 7 = nI B.1.1 := by rw [hf1 0 (by omega), k1]
    rw [vv_up_s, e07, nI_1]
    unfold wX9_keep
    rw [l1, e2]
    refine ⟨fun _ => ?_, fun y => by omega⟩
    rintro _ rfl
    rw [vv_up_s, nI_1]
    refine s_copyM (a := 0) (b := B.1.1 + 1) (by decide) (by omega) (by omega) hA.1 (m := vv_up m 0 25 (nI (B.1.1 + 1))) ?_ ?_
    · exact (j3.to0).mv (fun i a b => vv_up_r (by omega))
    intro m1 x1 x2 x3 x4
    have y1 : ∀ i, ¬ (20 ≤ i ∧ i ≤ 24) → i ≠ 0 → m1 i = m i := fun i a b => by rw [x1 i a, vv_up_r b]
    have y0 : ∀ i, i ≠ 25 → m1 0 i = m 0 i := fun i hi => by rw [x1 0 (by omega), vv_up_i hi]
    refine ⟨by rw [x1 0 (by omega), vv_up_s], P, D, A, Q, ((B.1.1 + 1, fun j => if j = B.1.1 then A else B.1.2 j), B.2), ⟨hp, hd, hA, hMA, hq, z, fun j hj => ?_, hk.2.2⟩, ?_, ?_⟩
    · show aOk P (if j = B.1.1 then A else B.1.2 j)
      split
      · exact hA
      · exact hk.2.1 j (by have : j < B.1.1 + 1 := hj; omega)
    · have hrest := hc.fr hq hk (c' := fun i => if 55 ≤ i ∧ i ≤ 64 then c i else if i = 0 then c 0 else vv_up c1 0 7 (nI (B.1.1 + 1)) i) (fun i hi => by
        show (if 55 ≤ i ∧ i ≤ 64 then c i else if i = 0 then c 0 else vv_up c1 0 7 (nI (B.1.1 + 1)) i) = c i
        split
        · rfl
        · split
          · next w => rw [w]
          · rw [vv_up_r (by omega), hf1 i (by omega)])
      obtain ⟨u1, u2, u3, u4⟩ := g4
      have q1 := hq.1
      have e : ∀ i, i ≠ 0 → ¬ (55 + 5 * B.1.1 ≤ i ∧ i ≤ 55 + 5 * B.1.1 + 4) → vv_up c1 0 7 (nI (B.1.1 + 1)) i = c i := fun i a b => by rw [vv_up_r a, hf1 i b]
      refine ⟨?_, ⟨?_, ?_⟩, ?_, ⟨?_, ?_, ?_, ?_⟩, vv_up_s, ?_, ?_, ?_, ?_, ?_⟩
      · unfold PC at *
        rw [e 4 (by omega) (by omega), e 13 (by omega) (by omega), e 5 (by omega) (by omega), e 6 (by omega) (by omega)]
        exact g1
      · have := g2.1
        unfold DR at *
        rw [e 42 (by omega) (by omega), e (42 + 1) (by omega) (by omega), e (42 + 2) (by omega) (by omega), e (42 + 3) (by omega) (by omega)]
        exact this
      · have := g2.2
        unfold DE at *
        rw [e 42 (by omega) (by omega)]
        exact this
      · unfold AC at *
        rw [e 50 (by omega) (by omega), e (50 + 1) (by omega) (by omega), e (50 + 2) (by omega) (by omega), e (50 + 3) (by omega) (by omega), e (50 + 4) (by omega) (by omega)]
        exact g3
      · rw [e 14 (by omega) (by omega)]; exact u1
      · rw [e 14 (by omega) (by omega)]; exact u2
      · intro i s hi hs
        rw [e (16 + i) (by omega) (by omega)]
        exact u3 i s hi hs
      · rw [e 20 (by omega) (by omega), e 21 (by omega) (by omega)]; exact u4
      · intro j hj
        have hj : j < B.1.1 + 1 := hj
        show AC (55 + 5 * j) (if j = B.1.1 then A else B.1.2 j) _
        by_cases w : j = B.1.1
        · rw [if_pos w, w]
          unfold AC at *
          rw [vv_up_r (by omega), vv_up_r (by omega), vv_up_r (by omega), vv_up_r (by omega), vv_up_r (by omega)]
          exact hac1
        · rw [if_neg w]
          have := k2 j (by omega)
          unfold AC at *
          rw [e (55 + 5 * j) (by omega) (by omega), e (55 + 5 * j + 1) (by omega) (by omega), e (55 + 5 * j + 2) (by omega) (by omega), e (55 + 5 * j + 3) (by omega) (by omega), e (55 + 5 * j + 4) (by omega) (by omega)]
          exact this
      · rw [e 66 (by omega) (by omega)]; exact k3
      · rw [e 67 (by omega) (by omega), e 68 (by omega) (by omega)]; exact k4
      · rw [e 1 (by omega) (by omega)]; exact k5
      · rw [e 2 (by omega) (by omega)]; exact k6
    · refine ⟨j1.moved (fun i a b => y1 i (by omega) (by omega)), ?_, ?_, ?_, by rw [x1 0 (by omega), vv_up_s], ?_, ?_, ?_, ?_, ?_⟩
      · unfold DM at *
        rw [y1 28 (by omega) (by omega), y1 29 (by omega) (by omega), y1 30 (by omega) (by omega), y1 31 (by omega) (by omega), y1 32 (by omega) (by omega), y1 33 (by omega) (by omega), y1 34 (by omega) (by omega)]
        exact j2
      · refine ⟨by rw [x2 0 (by omega), vv_up_c (by decide)]; exact j3.1, fun k hk => ?_⟩
        have hk30 := hA.1
        obtain ⟨e1, e2, e3, e4⟩ := x3 k (by omega)
        rw [e1, e2, e3, e4, vv_up_c (by decide), vv_up_c (by decide), vv_up_c (by decide), vv_up_c (by decide)]
        exact j3.2 k hk
      · unfold QM at *
        rw [y1 14 (by omega) (by omega), y1 15 (by omega) (by omega), y1 16 (by omega) (by omega), y1 18 (by omega) (by omega), y1 19 (by omega) (by omega)]
        exact j4
      · intro j hj
        have hj : j < B.1.1 + 1 := hj
        show AMo (30 * (j + 1)) (j + 1) (if j = B.1.1 then A else B.1.2 j) m1
        by_cases w : j = B.1.1
        · rw [if_pos w, w]
          exact x4
        · rw [if_neg w]
          have hj30 : aN (B.1.2 j) ≤ 30 := (hk.2.1 j (by omega)).1
          refine (l2 j (by omega)).mv2 (by rw [x2 (j + 1) (by omega), vv_up_c (by decide)]) (fun k a b => ?_)
          obtain ⟨e1, e2, e3, e4⟩ := x3 k (by omega)
          rw [e1, e2, e3, e4, vv_up_c (by decide), vv_up_c (by decide), vv_up_c (by decide), vv_up_c (by decide)]
          exact ⟨rfl, rfl, rfl, rfl⟩
      · rw [y0 26 (by decide)]; exact l3
      · rw [y1 25 (by omega) (by omega), y1 26 (by omega) (by omega)]; exact l4
      · rw [y0 0 (by decide)]; exact l5
      · rw [y1 1 (by omega) (by omega)]; exact l6

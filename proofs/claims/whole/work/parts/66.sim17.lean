theorem rngJ {n : Nat} (hn : n ≤ 8) {a : Int32} (h0 : (-1 : Int32) ≤ a) (h1 : a ≤ nI n - 1) : a = -1 ∨ ∃ k, k < n ∧ a = nI k := by
  by_cases h : (0 : Int32) ≤ a
  · exact Or.inr ((cellQ hn a).mp ⟨h, h1⟩)
  · left
    apply Int32.toInt_inj.mp
    rw [Int32.le_iff_toInt_le] at h h0
    have e1 : (-1 : Int32).toInt = -1 := by decide
    have e2 : (0 : Int32).toInt = 0 := by decide
    rw [e1] at h0 ⊢
    rw [e2] at h
    omega
theorem nJ_le {n : Nat} (hn : n ≤ 8) : (-1 : Int32) ≤ nI n - 1 := by
  rcases (by omega : n = 0 ∨ n = 1 ∨ n = 2 ∨ n = 3 ∨ n = 4 ∨ n = 5 ∨ n = 6 ∨ n = 7 ∨ n = 8) with rfl | rfl | rfl | rfl | rfl | rfl | rfl | rfl | rfl <;> decide
def tgA (Q : vQ) (a : Int32) : Option (Nat × Nat) → Int32
  | none => -4
  | some p => if a = -1 then nI p.2 else nI (dg Q p.1 a.toNatClampNeg)
theorem sim_together {a : Int32} {c m : vv_S} (h : Rel c m) : wX8_together a c (fun x s => wX9_together a m (fun y t => x = y ∧ Rel s t)) := by
  have hR := h
  obtain ⟨P, D, A, Q, B, ho, hc, hm⟩ := h
  obtain ⟨hp, hd, hA, hMA, hq, hk⟩ := id ho
  obtain ⟨g1, g2, g3, g4, -⟩ := id hc
  obtain ⟨j1, j2, j3, j4, -⟩ := id hm
  have hn := hq.1
  have hnj := hq.2.1
  have hwb := wc_bd hn hnj
  have n1 : (-1 : Int32) ≤ nI Q.2.2.1 - 1 := nJ_le (by omega)
  unfold wX8_together wX4_crew wX2_jobCount
  dsimp only
  rw [g4.2.1]
  refine s_within (fun q => ⟨fun _ => ?_, fun z => absurd z (by decide)⟩) (fun q => ⟨fun z => absurd rfl z, fun _ => ?_⟩)
  · have hmod : ∀ (c2 : vv_S), FQC c c2 → wX9_together a m (fun y t => tgA Q a (qs Q (wc Q.1 Q.2.2.1)) = y ∧ Rel c2 t) := by
      intro c2 hfc
      unfold wX9_together
      rw [j4.2.1]
      refine s_inM (lo := -1) (hi := nI Q.2.2.1 - 1) (by decide) rfl (fun _ => ⟨fun _ => ?_, fun z => absurd z (by decide)⟩) (fun z => absurd q z)
      have z0 : nI Q.2.2.1 = 0 ↔ Q.2.2.1 = 0 := by rw [vn0]; exact nI_eq (by omega) (by decide)
      rw [j4.2.1, z0]
      refine ⟨fun hne => ?_, fun y => ⟨?_, rel_q ho hc hm hfc FQM.rf⟩⟩
      · have hpos : 0 < Q.2.2.1 := by omega
        refine jn_of (fun k => k (nI (wc Q.1 Q.2.2.1))) ?_ ?_
        · refine jn_of (fun k => ∀ m', (∀ i, i ≠ 37 → i ≠ 38 → i ≠ 39 → m' i = m i) → (∀ p, qs Q (wc Q.1 Q.2.2.1) = some p → ∀ j, j < Q.2.2.1 → m' 39 j = nI (dg Q p.1 j)) → k (qL (-4) (qs Q (wc Q.1 Q.2.2.1))) m') ?_ ?_
          · intro m' hf' hbd
            have hfm : FQM m m' := ⟨fun i a b => hf' i (by omega) (by omega) (by omega), fun i a => by rw [hf' 0 (by decide) (by decide) (by decide)], fun k hk => by rw [hf' 28 (by decide) (by decide) (by decide), hf' 29 (by decide) (by decide) (by decide), hf' 30 (by decide) (by decide) (by decide)]; exact ⟨rfl, rfl, rfl⟩, by rw [hf' 31 (by decide) (by decide) (by decide)], by rw [hf' 32 (by decide) (by decide) (by decide)], by rw [hf' 33 (by decide) (by decide) (by decide)], by rw [hf' 34 (by decide) (by decide) (by decide)]⟩
            refine jn_of (fun k => k (tgA Q a (qs Q (wc Q.1 Q.2.2.1)))) ⟨rfl, rel_q ho hc hm hfc hfm⟩ ?_
            intro k hk
            cases e : qs Q (wc Q.1 Q.2.2.1) with
            | none =>
              rw [e] at hk
              refine jn_of (fun f => f) hk (fun f hf => ⟨fun _ => hf, fun y => absurd (by decide) y⟩)
            | some p =>
              rw [e] at hk
              have hpp := qs_some e
              have hn1 : 1 ≤ Q.1 := wc_pos (k := Q.2.2.1) (by omega) hpos
              have hpl := (cn_M hq hn1 p.1).2
              rw [← hpp.2.2] at hpl
              rcases rngJ (by omega) q.1 q.2 with rfl | ⟨j, hj, rfl⟩
              · refine jn_of (fun f => f) ?_ (fun f hf => ⟨fun y => hf, fun _ => ⟨fun y => absurd y (by decide), fun _ => hf⟩⟩)
                exact hk
              · refine jn_of (fun _ => True) trivial (fun f _ => ⟨fun y => absurd y (nI_pos (by omega)), fun _ => ⟨fun _ => ⟨vp_in_nI (by omega) (by decide), ?_⟩, fun y => absurd (nI_pos' (by omega)) y⟩⟩)
                have hcj : (nI j).toNatClampNeg = j := nI_clamp (by omega)
                have hnm : ¬ nI j = -1 := fun y => absurd (y ▸ nI_pos' (n := j) (by omega) : (0 : Int32) ≤ -1) (by decide)
                rw [hcj, hbd p e j hj]
                have : tgA Q (nI j) (some p) = nI (dg Q p.1 j) := by
                  show (if _ then _ else _) = _
                  rw [if_neg hnm, hcj]
                rw [this] at hk
                exact hk
          · intro k hk
            have key : ∀ (j i : Nat) (m' : vv_S), i + j = wc Q.1 Q.2.2.1 → (∀ i, i ≠ 37 → i ≠ 38 → i ≠ 39 → m' i = m i) → (∀ p, qs Q i = some p → ∀ j, j < Q.2.2.1 → m' 39 j = nI (dg Q p.1 j)) → lX9_together_1 (nI (wc Q.1 Q.2.2.1)) k (j + 1) (qL (-4) (qs Q i)) (nI i) m' := by
              intro j
              induction j with
              | zero =>
                intro i m' hi hf' hb'
                unfold lX9_together_1
                refine ⟨fun _ => ?_, fun y => absurd (nI_le (by omega) (by omega)) y⟩
                have e : i = wc Q.1 Q.2.2.1 := by omega
                subst e
                exact hk m' hf' hb'
              | succ j ih =>
                intro i m' hi hf' hb'
                have hn1 : 1 ≤ Q.1 := wc_pos (k := Q.2.2.1) (by omega) hpos
                unfold lX9_together_1
                refine ⟨fun y => absurd y (nI_ge (by omega) (by omega)), fun _ => s_timeOf hq hn1 (by omega) (j4.mv hf') ?_⟩
                intro m2 hf2 hd2
                have hf3 : ∀ i, i ≠ 37 → i ≠ 38 → i ≠ 39 → m2 i = m i := fun i a b c => by rw [hf2 i a b, hf' i a b c]
                have hb2 : ∀ p, qs Q i = some p → ∀ j, j < Q.2.2.1 → m2 39 j = nI (dg Q p.1 j) := fun p e j hj => by rw [hf2 39 (by decide) (by decide)]; exact hb' p e j hj
                have hM := (cn_M hq hn1 i).2
                refine jn_of (fun g => ∀ m3, (∀ i, i ≠ 37 → i ≠ 38 → i ≠ 39 → m3 i = m i) → (∀ p, qs Q (i + 1) = some p → ∀ j, j < Q.2.2.1 → m3 39 j = nI (dg Q p.1 j)) → g (qL (-4) (qs Q (i + 1))) m3) ?_ ?_
                · intro m3 hf3 hb3
                  rintro _ rfl
                  rw [nI_1]
                  exact ih (i + 1) m3 (by omega) hf3 hb3
                · intro g hg
                  by_cases hcn : cn Q i Q.2.2.1 = true
                  · rw [if_pos hcn]
                    have eq : qs Q (i + 1) = (match qs Q i with
                      | none => some (i, M4 (bC Q i Q.2.2.1))
                      | some p => if M4 (bC Q i Q.2.2.1) < p.2 then some (i, M4 (bC Q i Q.2.2.1)) else some p) := by
                      rw [qs, if_pos hcn]
                      cases qs Q i <;> rfl
                    refine ⟨fun y => absurd y (nI_pos (by omega)), fun _ => ?_⟩
                    refine jn_of (fun f => qs Q (i + 1) = some (i, M4 (bC Q i Q.2.2.1)) → f) ?_ ?_
                    · intro eN
                      have key2 : ∀ (j2 i2 : Nat) (m3 : vv_S), i2 + j2 = 5 → (∀ i, i ≠ 39 → m3 i = m2 i) → (∀ e, e < i2 → m3 39 e = m2 38 e) → lX9_together_2 g (nI (M4 (bC Q i Q.2.2.1))) (j2 + 1) (nI i2) m3 := by
                        intro j2
                        induction j2 with
                        | zero =>
                          intro i2 m3 hi2 hf4 hb4
                          unfold lX9_together_2
                          refine ⟨fun _ => ?_, fun y => absurd (by rw [show (5 : Int32) = nI 5 by decide]; exact nI_le (by omega) (by omega)) y⟩
                          have := hg m3 (fun i a b c => by rw [hf4 i c, hf3 i a b c]) (fun p e j hj => by
                            rw [eN] at e
                            injection e with e
                            subst e
                            rw [hb4 j (by omega), hd2 j hj])
                          rw [eN] at this
                          exact this
                        | succ j2 ih2 =>
                          intro i2 m3 hi2 hf4 hb4
                          have hci : (nI i2).toNatClampNeg = i2 := nI_clamp (by omega)
                          unfold lX9_together_2
                          rw [hci]
                          refine ⟨fun y => absurd y (by rw [show (5 : Int32) = nI 5 by decide]; exact nI_ge (by omega) (by omega)), fun _ => ⟨vp_in_nI (by omega) (by decide), vp_in_nI (by omega) (by decide), ?_⟩⟩
                          rintro _ rfl _ rfl
                          rw [nI_1]
                          refine ih2 (i2 + 1) _ (by omega) (fun i' a => by rw [vv_up_r a]; exact hf4 i' a) (fun e he => ?_)
                          by_cases y : e = i2
                          · rw [y, vv_up_s, hf4 38 (by decide)]
                          · rw [vv_up_i y]; exact hb4 e (by omega)
                      exact ⟨6, key2 5 0 m2 (by omega) (fun _ _ => rfl) (fun e he => absurd he (Nat.not_lt_zero _))⟩
                    · intro f hf
                      cases e : qs Q i with
                      | none =>
                        rw [e] at eq
                        exact ⟨fun _ => hf eq, fun y => absurd (by decide) y⟩
                      | some p =>
                        rw [e] at eq
                        dsimp only at eq
                        have hp2 := qs_some e
                        have hpl := (cn_M hq hn1 p.1).2
                        rw [← hp2.2.2] at hpl
                        refine ⟨fun y => absurd y (nI_pos (n := p.2) (by omega)), fun _ => ?_⟩
                        show (nI p.2 ≤ nI _ → _) ∧ (¬ nI p.2 ≤ nI _ → _)
                        rw [nI_leI (by omega) (by omega)]
                        refine ⟨fun y => ?_, fun y => hf (by rw [eq, if_pos (by omega)])⟩
                        rw [if_neg (by omega)] at eq
                        have := hg m2 hf3 (fun p' e' => hb2 p' (by rw [e, ← eq]; exact e'))
                        rw [eq] at this
                        exact this
                  · have eq : qs Q (i + 1) = qs Q i := by rw [qs, if_neg hcn]
                    rw [if_neg hcn]
                    refine ⟨fun _ => ?_, fun y => absurd (by decide) y⟩
                    have := hg m2 hf3 (fun p' e' => hb2 p' (eq.symm.trans e'))
                    rw [eq] at this
                    exact this
            exact ⟨wc Q.1 Q.2.2.1 + 1, key (wc Q.1 Q.2.2.1) 0 m (by omega) (fun _ _ _ _ => rfl) (fun p e => absurd e (by simp [qs]))⟩
        · intro k hk
          have key : ∀ (j i : Nat), i + j = Q.2.2.1 → lX9_together_3 m k (j + 1) (nI (wc Q.1 i)) (nI i) := by
            intro j
            induction j with
            | zero =>
              intro i hi
              unfold lX9_together_3
              rw [j4.2.1]
              exact ⟨fun _ => by rw [show i = Q.2.2.1 by omega]; exact hk, fun y => absurd (nI_le (by omega) (by omega)) y⟩
            | succ j ih =>
              intro i hi
              unfold lX9_together_3
              rw [j4.2.1, j4.1]
              refine ⟨fun y => absurd y (nI_ge (by omega) (by omega)), fun _ => ?_⟩
              rintro _ rfl _ rfl
              rw [pk_mul, nI_1]
              exact ih (i + 1) (by omega)
          exact ⟨Q.2.2.1 + 1, key Q.2.2.1 0 (by omega)⟩
      · have e1 : a = -1 := by
          rcases rngJ (by omega) q.1 q.2 with e | ⟨j, hj, e⟩
          · exact e
          · omega
        rw [y, e1]
        have : wc Q.1 0 = 0 + 1 := rfl
        rw [this, qs, y, if_pos (by rfl)]
        rfl
    refine s_quickest hq g4 ?_
    intro c1 hf1
    have hq1 := g4.mv hq hf1
    have hfq : FQC c c1 := fun i hi => hf1 i (by omega)
    have := hmod c1 hfq
    cases e : qs Q (wc Q.1 Q.2.2.1) with
    | none =>
      rw [e] at this
      exact ⟨fun y => absurd rfl y, fun _ => this⟩
    | some p =>
      have hpp := qs_some e
      have hn1 : 0 < Q.2.2.1 → 1 ≤ Q.1 := wc_pos (by omega)
      refine ⟨fun _ => ?_, fun y => absurd y (nI_nm4 (n := p.1) (by omega))⟩
      refine jn_of (fun k => ∀ c', FQC c c' → k (tgA Q a (some p)) c') (fun c' hf' => by have := hmod c' hf'; rw [e] at this; exact this) ?_
      intro k hk
      refine ⟨fun y => ?_, fun y => s_minutesBy hq hn1 (w := p.1) (by omega) hq1 ?_⟩
      · rcases rngJ (by omega) q.1 q.2 with e1 | ⟨j, hj, rfl⟩
        · exact absurd e1 y
        · have hcj : (nI j).toNatClampNeg = j := nI_clamp (by omega)
          refine s_whoDoes hq (hn1 (by omega)) hj (w := p.1) (by omega) hq1 ?_
          have := hk c1 hfq
          have e9 : tgA Q (nI j) (some p) = nI (dg Q p.1 j) := by
            show (if _ then _ else _) = _
            rw [if_neg y, hcj]
          rw [e9] at this
          exact this
      · intro c2 hf2
        rw [if_pos hpp.2.1, ← hpp.2.2]
        have := hk c2 (hfq.trans (fun i hi => hf2 i (by omega)))
        have e9 : tgA Q a (some p) = nI p.2 := by
          show (if _ then _ else _) = _
          rw [if_pos y]
        rw [e9] at this
        exact this
  · unfold wX9_together
    rw [j4.2.1]
    exact s_inM (lo := -1) (hi := nI Q.2.2.1 - 1) (by decide) rfl (fun z => absurd z q) (fun _ => ⟨fun z => absurd rfl z, fun _ => ⟨rfl, hR⟩⟩)

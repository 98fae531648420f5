def pSlow (P : vP) (D : vD) (k u : Nat) (i : Nat) : Bool := decide (sMx P D k (i + 1) 60 ≤ u)
theorem sim_slow {a b e : Int32} {c m : vv_S} (h : Rel c m) : wX8_slow a b e c (fun x s => wX9_slow a b e m (fun y t => x = y ∧ Rel s t)) := by
  have hR := h
  obtain ⟨P, D, A, Q, B, ho, hc, hm⟩ := h
  obtain ⟨hp, hd, -⟩ := id ho
  have hm9 := ho.m999
  have hn8 := ho.1.2.1
  have e9 : (9 : Int32) = nI 9 := by decide
  have bad : ¬ ((∃ k, k < pN P ∧ a = nI k) ∧ ((0 : Int32) ≤ b ∧ b ≤ 999) ∧ ((0 : Int32) ≤ e ∧ e ≤ 1)) → wX9_slow a b e m (fun y t => -1 = y ∧ Rel c t) := by
    intro hz
    unfold wX9_slow
    refine s_isCellM hn8 hm.1.1 (fun k k1 k2 => ?_) (fun z => jn_of (fun f => f m) ⟨rfl, hR⟩ (fun f hf => ⟨fun _ => hf, fun z => absurd rfl z⟩))
    refine jn_of (fun f => f m) ⟨rfl, hR⟩ (fun f hf => ⟨fun z => absurd z (by decide), fun _ => s_inM (lo := 0) (hi := 999) (by decide) (by decide) (fun q2 => ⟨fun z => absurd z (by decide), fun _ => s_inM (lo := 0) (hi := 1) (by decide) (by decide) (fun q3 => absurd ⟨⟨k, k1, k2⟩, q2, q3⟩ hz) (fun _ => ⟨fun z => absurd rfl z, fun _ => hf⟩)⟩) (fun _ => ⟨fun _ => hf, fun z => absurd rfl z⟩)⟩)
  unfold wX8_slow
  refine s_isCellC hn8 hc.1.1 (fun k k1 k2 => ?_) (fun z => jn_of (fun f => f c) (bad (fun y => z y.1)) (fun f hf => ⟨fun _ => hf, fun z => absurd rfl z⟩))
  refine jn_of (fun f => ¬ (((0 : Int32) ≤ b ∧ b ≤ 999) ∧ ((0 : Int32) ≤ e ∧ e ≤ 1)) → f c) (fun z => bad (fun y => z y.2)) (fun f hf => ⟨fun z => absurd z (by decide), fun _ => s_within (fun q2 => ⟨fun z => absurd z (by decide), fun _ => s_within (fun q3 => ⟨fun _ => ?_, fun z => absurd z (by decide)⟩) (fun q3 => ⟨fun z => absurd rfl z, fun _ => hf (fun y => q3 y.2)⟩)⟩) (fun q2 => ⟨fun _ => hf (fun y => q2 y.1), fun z => absurd rfl z⟩)⟩)
  subst k2
  obtain ⟨u, hu, rfl⟩ := rng (N := 999) (by decide) q2.1 q2.2
  have hmod : ∀ (c2 : vv_S), FQC c c2 → wX9_slow (nI k) (nI u) e m (fun y t => (if fs (pSlow P D k u) 9 0 < 9 then (if e = 0 then nI (fs (pSlow P D k u) 9 0 + 1) else eI P D k (fs (pSlow P D k u) 9 0 + 1) 60) else -4) = y ∧ Rel c2 t) := by
    intro c2 hfc
    unfold wX9_slow
    refine s_isCellM hn8 hm.1.1 (fun _ _ _ => ?_) (fun z => absurd ⟨k, k1, rfl⟩ z)
    refine jn_of (fun _ => True) trivial (fun f hf => ⟨fun z => absurd z (by decide), fun _ => s_inM (lo := 0) (hi := 999) (by decide) (by decide) (fun _ => ⟨fun z => absurd z (by decide), fun _ => s_inM (lo := 0) (hi := 1) (by decide) (by decide) (fun _ => ⟨fun _ => ?_, fun z => absurd z (by decide)⟩) (fun z => absurd q3 z)⟩) (fun z => absurd q2 z)⟩)
    refine jn_of (fun g => ∀ σ, FQM m σ → fs (pSlow P D k u) 9 0 < 9 → σ 0 47 = eI P D k (fs (pSlow P D k u) 9 0 + 1) 60 → g (nI (fs (pSlow P D k u) 9 0 + 1)) σ) ?_ ?_
    · intro σ hq hlt h47
      refine jn_of (fun g => g (if e = 0 then nI (fs (pSlow P D k u) 9 0 + 1) else eI P D k (fs (pSlow P D k u) 9 0 + 1) 60)) ⟨by rw [if_pos hlt], rel_q ho hc hm hfc hq⟩ (fun g hg => ⟨fun y => by rw [if_neg y] at hg; rw [h47]; exact hg, fun y => by rw [if_pos y] at hg; exact hg⟩)
    · intro g hg
      have key : ∀ (j i : Nat) (m' : vv_S), i + j = 9 → fs (pSlow P D k u) j i = fs (pSlow P D k u) 9 0 → FQM m m' → lX9_slow_1 (fun y t => (if fs (pSlow P D k u) 9 0 < 9 then (if e = 0 then nI (fs (pSlow P D k u) 9 0 + 1) else eI P D k (fs (pSlow P D k u) 9 0 + 1) 60) else -4) = y ∧ Rel c2 t) (nI k) (nI u) g (j + 1) (nI (i + 1)) m' := by
        intro j
        induction j with
        | zero =>
          intro i m' hi hfs hf'
          unfold lX9_slow_1
          refine ⟨fun _ => ⟨?_, rel_q ho hc hm hfc hf'⟩, fun y => absurd ?_ y⟩
          · rw [if_neg (by rw [← hfs]; show ¬ i < 9; omega)]
          · rw [e9]; exact nI_lt (by omega) (by omega)
        | succ j ih =>
          intro i m' hi hfs hf'
          have pm' : PM P m' := hm.1.moved (fun i a b => hf'.1 i (by omega) (by omega))
          unfold lX9_slow_1
          refine ⟨fun y => absurd y ?_, fun _ => ?_⟩
          · rw [e9]; exact nI_nlt (by omega) (by omega)
          have e1 : fs (pSlow P D k u) (j + 1) i = if pSlow P D k u i then i else fs (pSlow P D k u) j (i + 1) := rfl
          refine s_isSlow hp hd hm9 k1 hu (mm := i + 1) (by omega) (by omega) pm' (hm.fr hp hf').2.1 ?_
          intro m2 hf2 h47
          by_cases y : sMx P D k (i + 1) 60 ≤ u
          · rw [if_pos y]
            rw [if_pos (by simp [pSlow, y])] at e1
            have e2 := e1.symm.trans hfs
            refine ⟨fun z => absurd z (by decide), fun _ => ?_⟩
            rw [e2] at h47
            rw [e2]
            exact hg m2 (hf'.trans hf2) (by omega) h47
          · rw [if_neg y]
            rw [if_neg (by simp [pSlow, y])] at e1
            refine ⟨fun _ => ?_, fun z => absurd rfl z⟩
            rintro _ rfl
            rw [nI_1]
            exact ih (i + 1) m2 (by omega) (e1.symm.trans hfs) (hf'.trans hf2)
      exact ⟨10, key 9 0 m (by omega) rfl FQM.rf⟩
  refine jn_of (fun g => ∀ σ, Fr4 46 c σ → fs (pSlow P D k u) 9 0 < 9 → g (nI (fs (pSlow P D k u) 9 0 + 1)) σ) ?_ ?_
  · intro σ hq hlt
    have rc := hc.fr ho.2.2.2.2.1 ho.2.2.2.2.2 hq.toQ
    refine jn_of (fun g => ∀ σ', Fr4 46 c σ' → g (if e = 0 then nI (fs (pSlow P D k u) 9 0 + 1) else eI P D k (fs (pSlow P D k u) 9 0 + 1) 60) σ') ?_ ?_
    · intro σ' hq'
      have := hmod σ' hq'.toQ
      rw [if_pos hlt] at this
      exact this
    · intro g hg
      refine ⟨fun y => ?_, fun y => by have := hg σ hq; rw [if_pos y] at this; exact this⟩
      refine s_letOut hp hd hm9 k1 (by omega) (by omega) rc.1 rc.2.1.1 ?_
      intro c' hf'
      have := hg c' (hq.trans hf')
      rw [if_neg y] at this
      rw [if_neg (by decide)]
      exact this
  · intro g hg
    have key : ∀ (j i : Nat) (c' : vv_S), i + j = 9 → fs (pSlow P D k u) j i = fs (pSlow P D k u) 9 0 → Fr4 46 c c' → lX8_slow_1 (fun x s => wX9_slow (nI k) (nI u) e m (fun y t => x = y ∧ Rel s t)) (nI k) (nI u) g (j + 1) (nI (i + 1)) c' := by
      intro j
      induction j with
      | zero =>
        intro i c' hi hfs hf'
        unfold lX8_slow_1
        refine ⟨fun _ => ?_, fun y => absurd ?_ y⟩
        · have := hmod c' hf'.toQ
          rw [if_neg (by rw [← hfs]; show ¬ i < 9; omega)] at this
          exact this
        · rw [e9]; exact nI_lt (by omega) (by omega)
      | succ j ih =>
        intro i c' hi hfs hf'
        have rc := hc.fr ho.2.2.2.2.1 ho.2.2.2.2.2 hf'.toQ
        unfold lX8_slow_1
        refine ⟨fun y => absurd y ?_, fun _ => ?_⟩
        · rw [e9]; exact nI_nlt (by omega) (by omega)
        have e1 : fs (pSlow P D k u) (j + 1) i = if pSlow P D k u i then i else fs (pSlow P D k u) j (i + 1) := rfl
        refine s_letOut hp hd hm9 k1 (mm := i + 1) (by omega) (by omega) rc.1 rc.2.1.1 ?_
        intro c2 hf2
        rw [if_pos rfl]
        have hX := sMx_bd hp hd (mm := i + 1) k1 60
        rw [nI_ltI (by omega) (by omega)]
        refine ⟨fun y => ?_, fun y => ?_⟩
        · rw [if_neg (by simp [pSlow]; omega)] at e1
          rintro _ rfl
          rw [nI_1]
          exact ih (i + 1) c2 (by omega) (e1.symm.trans hfs) (hf'.trans hf2)
        · rw [if_pos (by simp [pSlow]; omega)] at e1
          have e2 := e1.symm.trans hfs
          rw [e2]
          exact hg c2 (hf'.trans hf2) (by omega)
    exact ⟨10, key 9 0 c (by omega) rfl Fr4.rfl'⟩

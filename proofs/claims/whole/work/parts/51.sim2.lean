theorem sim_lake {a : Int32} {c m : vv_S} (h : Rel c m) : wX8_lake a c (fun x s => wX9_lake a m (fun y t => x = y ∧ Rel s t)) := by
  have hR := h
  obtain ⟨P, D, A, Q, B, ho, hc, hm⟩ := h
  obtain ⟨hp, hd, -⟩ := id ho
  obtain ⟨pc, ⟨⟨-, -, r4, r5, r6, r7⟩, -⟩, -⟩ := id hc
  obtain ⟨pm, ⟨-, s4, s5, s6, s7⟩, -⟩ := id hm
  obtain ⟨-, -, -, -, -, -, hA, hS, -⟩ := id hp
  unfold wX8_lake wX3_units wX3_minutesGone wX3_allOver wX3_allSeeped
  refine ⟨fun q => s_level hp hd pc r4 ?_, fun q => ?_, fun q => ?_, fun q => ?_, fun q => ?_, fun q => ?_⟩ <;> unfold wX9_lake
  · subst q
    refine ⟨fun _ => ?_, fun z => absurd z (by decide), fun z => absurd z (by decide), fun z => absurd z (by decide), fun z => absurd z (by decide), fun z => absurd rfl z.1⟩
    rw [s4]
    exact s_levelOfM hA hS pm.2.2.2.1 pm.2.2.2.2.1 (by have := hd.2.1; omega) ⟨rfl, hR⟩
  · subst q
    exact ⟨fun z => absurd z (by decide), fun _ => ⟨by rw [r4, s4], hR⟩, fun z => absurd z (by decide), fun z => absurd z (by decide), fun z => absurd z (by decide), fun z => absurd rfl z.2.1⟩
  · subst q
    exact ⟨fun z => absurd z (by decide), fun z => absurd z (by decide), fun _ => ⟨by rw [r5, s5], hR⟩, fun z => absurd z (by decide), fun z => absurd z (by decide), fun z => absurd rfl z.2.2.1⟩
  · subst q
    exact ⟨fun z => absurd z (by decide), fun z => absurd z (by decide), fun z => absurd z (by decide), fun _ => ⟨by rw [r6, s6], hR⟩, fun z => absurd z (by decide), fun z => absurd rfl z.2.2.2.1⟩
  · subst q
    exact ⟨fun z => absurd z (by decide), fun z => absurd z (by decide), fun z => absurd z (by decide), fun z => absurd z (by decide), fun _ => ⟨by rw [r7, s7], hR⟩, fun z => absurd rfl z.2.2.2.2⟩
  · exact ⟨fun z => absurd z q.1, fun z => absurd z q.2.1, fun z => absurd z q.2.2.1, fun z => absurd z q.2.2.2.1, fun z => absurd z q.2.2.2.2, fun _ => ⟨rfl, hR⟩⟩
theorem sim_count {a : Int32} {c m : vv_S} (h : Rel c m) : wX8_count a c (fun x s => wX9_count a m (fun y t => x = y ∧ Rel s t)) := by
  have hR := h
  obtain ⟨P, D, A, Q, B, ho, hc, hm⟩ := h
  obtain ⟨pc, -, ac, ⟨q1, q2, -⟩, k1, k2, k3, k4, k5, k6⟩ := id hc
  obtain ⟨pm, -, am, ⟨u1, u2, -⟩, l1, l2, l3, l4, l5, l6⟩ := id hm
  unfold wX8_count wX4_cellCount wX4_crew wX2_childCount wX2_jobCount wX0_size wX6_size wX7_size
  refine ⟨fun q => ?_, fun q => ?_, fun q => ?_, fun q => ?_, fun q => ?_, fun q => ?_, fun q => ?_, fun q => ?_⟩ <;> unfold wX9_count
  · subst q
    exact ⟨fun _ => ⟨by rw [pc.1, pm.1], hR⟩, fun z => absurd z (by decide), fun z => absurd z (by decide), fun z => absurd z (by decide), fun z => absurd z (by decide), fun z => absurd z (by decide), fun z => absurd z (by decide), fun z => absurd rfl z.1⟩
  · subst q
    exact ⟨fun z => absurd z (by decide), fun _ => ⟨by rw [q1, u1], hR⟩, fun z => absurd z (by decide), fun z => absurd z (by decide), fun z => absurd z (by decide), fun z => absurd z (by decide), fun z => absurd z (by decide), fun z => absurd rfl z.2.1⟩
  · subst q
    exact ⟨fun z => absurd z (by decide), fun z => absurd z (by decide), fun _ => ⟨by rw [q2, u2], hR⟩, fun z => absurd z (by decide), fun z => absurd z (by decide), fun z => absurd z (by decide), fun z => absurd z (by decide), fun z => absurd rfl z.2.2.1⟩
  · subst q
    exact ⟨fun z => absurd z (by decide), fun z => absurd z (by decide), fun z => absurd z (by decide), fun _ => ⟨by rw [ac.1, am.1], hR⟩, fun z => absurd z (by decide), fun z => absurd z (by decide), fun z => absurd z (by decide), fun z => absurd rfl z.2.2.2.1⟩
  · subst q
    exact ⟨fun z => absurd z (by decide), fun z => absurd z (by decide), fun z => absurd z (by decide), fun z => absurd z (by decide), fun _ => ⟨by rw [k3, l3], hR⟩, fun z => absurd z (by decide), fun z => absurd z (by decide), fun z => absurd rfl z.2.2.2.2.1⟩
  · subst q
    exact ⟨fun z => absurd z (by decide), fun z => absurd z (by decide), fun z => absurd z (by decide), fun z => absurd z (by decide), fun z => absurd z (by decide), fun _ => ⟨by rw [k1, l1], hR⟩, fun z => absurd z (by decide), fun z => absurd rfl z.2.2.2.2.2.1⟩
  · subst q
    exact ⟨fun z => absurd z (by decide), fun z => absurd z (by decide), fun z => absurd z (by decide), fun z => absurd z (by decide), fun z => absurd z (by decide), fun z => absurd z (by decide), fun _ => ⟨by rw [k5, l5], hR⟩, fun z => absurd rfl z.2.2.2.2.2.2⟩
  · exact ⟨fun z => absurd z q.1, fun z => absurd z q.2.1, fun z => absurd z q.2.2.1, fun z => absurd z q.2.2.2.1, fun z => absurd z q.2.2.2.2.1, fun z => absurd z q.2.2.2.2.2.1, fun z => absurd z q.2.2.2.2.2.2, fun _ => ⟨rfl, hR⟩⟩
theorem in01 {a : Int32} (h : (0 : Int32) ≤ a ∧ a ≤ 1) : a = 0 ∨ a = 1 := by
  obtain ⟨n, hn, rfl⟩ := rng (N := 1) (by decide) h.1 h.2
  rcases (show n = 0 ∨ n = 1 by omega) with rfl | rfl
  · exact Or.inl rfl
  · exact Or.inr rfl
theorem in02 {a : Int32} (h : (0 : Int32) ≤ a ∧ a ≤ 2) : a = 0 ∨ a = 1 ∨ a = 2 := by
  obtain ⟨n, hn, rfl⟩ := rng (N := 2) (by decide) h.1 h.2
  rcases (show n = 0 ∨ n = 1 ∨ n = 2 by omega) with rfl | rfl | rfl
  · exact Or.inl rfl
  · exact Or.inr (Or.inl rfl)
  · exact Or.inr (Or.inr rfl)
theorem sim_edge {a : Int32} {c m : vv_S} (h : Rel c m) : wX8_edge a c (fun x s => wX9_edge a m (fun y t => x = y ∧ Rel s t)) := by
  have hR := h
  obtain ⟨P, D, A, Q, B, ho, hc, hm⟩ := h
  obtain ⟨hp, hd, -⟩ := id ho
  obtain ⟨pc, ⟨-, q8, q9, -⟩, -⟩ := id hc
  obtain ⟨pm, ⟨s1, -⟩, -⟩ := id hm
  have hH : HM P 0 (dH D) m := fun k hk => ⟨(s1 k hk).1, (hd.1 k hk).1⟩
  unfold wX8_edge wX3_edgeHeight wX3_lowestPlace
  refine ⟨fun q => ?_, fun q => ?_, fun q => ?_⟩ <;> unfold wX9_edge
  · subst q
    refine s_inM (lo := 0) (hi := 1) (by decide) (by decide) (fun _ => jn_of (fun f => f (nI (edP P (dH D)).1) m) ⟨q8, hR⟩ (fun f hf => ⟨fun _ => ⟨fun z => absurd rfl z, fun _ => s_edgeOf hp (b := 0) (by decide) pm.1 pm.2.1 pm.2.2.1 hH hf⟩, fun z => absurd z (by decide)⟩)) (fun z => absurd (by decide) z)
  · subst q
    refine s_inM (lo := 0) (hi := 1) (by decide) (by decide) (fun _ => jn_of (fun f => f (nI (edP P (dH D)).2) m) ⟨q9, hR⟩ (fun f hf => ⟨fun _ => ⟨fun _ => s_placeOf hp (b := 0) (by decide) pm.1 pm.2.1 pm.2.2.1 hH hf, fun z => absurd z (by decide)⟩, fun z => absurd z (by decide)⟩)) (fun z => absurd (by decide) z)
  · refine s_inM (lo := 0) (hi := 1) (by decide) (by decide) (fun z => ?_) (fun _ => jn_of (fun f => f (-1) m) ⟨rfl, hR⟩ (fun f hf => ⟨fun z => absurd rfl z, fun _ => hf⟩))
    rcases in01 z with w | w
    · exact absurd w q.1
    · exact absurd w q.2
theorem sim_comes {a : Int32} {c m : vv_S} (h : Rel c m) : wX8_comes a c (fun x s => wX9_comes a m (fun y t => x = y ∧ Rel s t)) := by
  have hR := h
  obtain ⟨P, D, A, Q, B, ho, hc, hm⟩ := h
  unfold wX8_comes wX4_brook
  refine s_within (fun q => ?_) (fun q => ?_)
  · obtain ⟨n, n1, n2, rfl⟩ := rng1 (L := 1) (N := 999) (by decide) (by decide) q.1 q.2
    refine jn_of (fun f => f (nI (pC P n)) c) ?_ (fun f hf => ⟨fun z => absurd z (by decide), fun _ => s_comesIn ho.1 (by omega) hc.1 hf⟩)
    unfold wX9_comes
    exact s_inM (lo := 1) (hi := 999) (by decide) (by decide) (fun _ => jn_of (fun f => f (nI (pC P n)) m) ⟨rfl, hR⟩ (fun f hf => ⟨fun z => absurd z (by decide), fun _ => s_comesInM hm.1.2.2.2.2.2.1 (by omega) hf⟩)) (fun z => absurd q z)
  · refine jn_of (fun f => f (-1) c) ?_ (fun f hf => ⟨fun _ => hf, fun z => absurd rfl z⟩)
    unfold wX9_comes
    exact s_inM (lo := 1) (hi := 999) (by decide) (by decide) (fun z => absurd z q) (fun _ => jn_of (fun f => f (-1) m) ⟨rfl, hR⟩ (fun f hf => ⟨fun _ => hf, fun z => absurd rfl z⟩))
theorem sim_cell {a b : Int32} {c m : vv_S} (h : Rel c m) : wX8_cell a b c (fun x s => wX9_cell a b m (fun y t => x = y ∧ Rel s t)) := by
  have hR := h
  obtain ⟨P, D, A, Q, B, ho, hc, hm⟩ := h
  have hn8 := ho.1.2.1
  unfold wX8_cell
  refine s_isCellC hn8 hc.1.1 (fun k hk hak => ⟨fun _ => ?_, fun z => absurd z (by decide)⟩) (fun hno => ⟨fun z => absurd rfl z, fun _ => ?_⟩)
  · subst hak
    obtain ⟨u1, u2, u3⟩ := hc.2.1.1.1 k hk
    obtain ⟨w1, w2, w3⟩ := hm.2.1.1 k hk
    rw [show 8 * 0 + k = k by omega] at w1 w2 w3
    have hcl : (nI k).toNatClampNeg = k := nI_clamp (by omega)
    have hin : vp_in (nI k) 16 := vp_in_nI (by omega) (by decide)
    refine ⟨fun q => ?_, fun q => ?_, fun q => ?_, fun q => ?_⟩
    · subst q
      refine s_heightAt (by omega) ?_
      unfold wX9_cell
      refine s_isCellM hn8 hm.1.1 (fun _ _ _ => jn_of (fun _ => True) trivial (fun f _ => ⟨fun z => absurd z (by decide), fun _ => s_inM (lo := 0) (hi := 2) (by decide) (by decide) (fun _ => ⟨fun _ => jn_of (fun f => f (nI (dH D k))) ⟨u1, hR⟩ (fun f hf => ⟨fun z => absurd rfl z, fun _ => ⟨hin, by rw [hcl, w1]; exact hf⟩⟩), fun z => absurd z (by decide)⟩) (fun z => absurd (by decide) z)⟩)) (fun z => absurd ⟨k, hk, rfl⟩ z)
    · subst q
      refine s_stuffAt (by omega) ?_
      unfold wX9_cell
      refine s_isCellM hn8 hm.1.1 (fun _ _ _ => jn_of (fun _ => True) trivial (fun f _ => ⟨fun z => absurd z (by decide), fun _ => s_inM (lo := 0) (hi := 2) (by decide) (by decide) (fun _ => ⟨fun _ => jn_of (fun f => f (nI (dO D k))) ⟨u2, hR⟩ (fun f hf => ⟨fun _ => ⟨fun z => absurd rfl z, fun _ => ⟨hin, by rw [hcl, w2]; exact hf⟩⟩, fun z => absurd z (by decide)⟩), fun z => absurd z (by decide)⟩) (fun z => absurd (by decide) z)⟩)) (fun z => absurd ⟨k, hk, rfl⟩ z)
    · subst q
      refine s_breachesAt (by omega) ?_
      unfold wX9_cell
      refine s_isCellM hn8 hm.1.1 (fun _ _ _ => jn_of (fun _ => True) trivial (fun f _ => ⟨fun z => absurd z (by decide), fun _ => s_inM (lo := 0) (hi := 2) (by decide) (by decide) (fun _ => ⟨fun _ => jn_of (fun f => f (nI (dB D k))) ⟨u3, hR⟩ (fun f hf => ⟨fun _ => ⟨fun _ => ⟨hin, by rw [hcl, w3]; exact hf⟩, fun z => absurd z (by decide)⟩, fun z => absurd z (by decide)⟩), fun z => absurd z (by decide)⟩) (fun z => absurd (by decide) z)⟩)) (fun z => absurd ⟨k, hk, rfl⟩ z)
    · unfold wX9_cell
      refine s_isCellM hn8 hm.1.1 (fun _ _ _ => jn_of (fun f => f m) ⟨rfl, hR⟩ (fun f hf => ⟨fun z => absurd z (by decide), fun _ => s_inM (lo := 0) (hi := 2) (by decide) (by decide) (fun z => ?_) (fun _ => ⟨fun z => absurd rfl z, fun _ => hf⟩)⟩)) (fun z => absurd ⟨k, hk, rfl⟩ z)
      rcases in02 z with w | w | w
      · exact absurd w q.1
      · exact absurd w q.2.1
      · exact absurd w q.2.2
  · unfold wX9_cell
    exact s_isCellM hn8 hm.1.1 (fun k hk hak => absurd ⟨k, hk, hak⟩ hno) (fun _ => jn_of (fun f => f m) ⟨rfl, hR⟩ (fun f hf => ⟨fun _ => hf, fun z => absurd rfl z⟩))
/-- the trial, some minutes on: both sides -/
theorem s_goOn {P : vP} (hP : pOk P) {D : vD} (hD : dOk P D) (hm9 : dM D ≤ 999) {n : Nat} (hn : n ≤ 200) {m : vv_S} {post : vv_S → Prop} (hpm : PM P m) (h0 : DM P 0 D m) (kk : ∀ m', FrW 1 m m' → DM P 1 (m0 P D n) m' → post m') : wX9_goOn (nI n) m post := by
  unfold wX9_goOn
  refine s_tryIt hP h0 ?_
  intro m1 hf1 hd1
  refine s_goes hP (b := 1) (by decide) hD hn (by omega) (hpm.fr hf1) hd1 (W := fun f v m' => lX9_goOn_1 (nI n) post f v m') ?_ ?_
  · intro m' hf' hd' f
    unfold lX9_goOn_1
    exact ⟨fun _ => kk m' (hf1.trans hf') hd', fun q => absurd (nI_le (Nat.le_refl _) (by omega)) q⟩
  · intro f i m' hi hf' hd' hgo
    unfold lX9_goOn_1
    refine ⟨fun q => absurd q (nI_ge (by omega) (by omega)), fun _ => ?_⟩
    simp only [forall_eq]
    exact hgo
theorem sim_worn {a b : Int32} {c m : vv_S} (h : Rel c m) : wX8_worn a b c (fun x s => wX9_worn a b m (fun y t => x = y ∧ Rel s t)) := by
  have hR := h
  obtain ⟨P, D, A, Q, B, ho, hc, hm⟩ := h
  obtain ⟨hp, hd, -⟩ := id ho
  have hm9 := ho.m999
  have hn8 := ho.1.2.1
  have bad : (¬ ∃ k, k < pN P ∧ a = nI k) ∨ ¬ ((0 : Int32) ≤ b ∧ b ≤ 200) → wX9_worn a b m (fun y t => -1 = y ∧ Rel c t) := by
    intro hz
    unfold wX9_worn wX9_areMinutes
    refine s_isCellM hn8 hm.1.1 (fun k hk hak => jn_of (fun f => f m) ⟨rfl, hR⟩ (fun f hf => ⟨fun z => absurd z (by decide), fun _ => s_inM (lo := 0) (hi := 200) (by decide) (by decide) (fun z => ?_) (fun _ => ⟨Or.inl rfl, fun z => absurd rfl z, fun _ => hf⟩)⟩)) (fun _ => jn_of (fun f => f m) ⟨rfl, hR⟩ (fun f hf => ⟨fun _ => hf, fun z => absurd rfl z⟩))
    rcases hz with w | w
    · exact absurd ⟨k, hk, hak⟩ w
    · exact absurd z w
  unfold wX8_worn
  refine s_isCellC hn8 hc.1.1 (fun k hk hak => ?_) (fun hno => jn_of (fun f => f c) (bad (Or.inl hno)) (fun f hf => ⟨fun _ => hf, fun z => absurd rfl z⟩))
  refine jn_of (fun f => ¬ ((0 : Int32) ≤ b ∧ b ≤ 200) → f c) (fun z => bad (Or.inr z)) (fun f hf => ⟨fun z => absurd z (by decide), fun _ => s_within (fun q => ⟨fun _ => ?_, fun z => absurd z (by decide)⟩) (fun q => ⟨fun z => absurd rfl z, fun _ => hf q⟩)⟩)
  obtain ⟨n, hn, rfl⟩ := rng (N := 200) (by decide) q.1 q.2
  subst hak
  refine s_copyFrom hp hd hc.1 hc.2.1.1 ?_
  intro c1 hf1 hd1
  refine s_letPass hp (by decide) hd (x := 0) (by omega) (by omega) (hc.1.fr (by decide) hf1) hd1 ?_
  intro c2 hf2 hd2
  refine s_heightAt (by omega) ?_
  unfold wX9_worn wX9_areMinutes
  refine s_isCellM hn8 hm.1.1 (fun _ _ _ => jn_of (fun _ => True) trivial (fun f _ => ⟨fun z => absurd z (by decide), fun _ => s_inM (lo := 0) (hi := 200) (by decide) (by decide) (fun _ => ⟨Or.inr rfl, fun _ => ?_, fun z => absurd z (by decide)⟩) (fun z => absurd q z)⟩)) (fun z => absurd ⟨k, hk, rfl⟩ z)
  refine s_goOn hp hd hm9 hn hm.1 hm.2.1 ?_
  intro m' hf' hd'
  have hcl : (nI (8 + k)).toNatClampNeg = 8 + k := nI_clamp (by omega)
  rw [ix8', hcl]
  refine ⟨vp_in_nI (by omega) (by decide), ?_, rel_q ho hc hm (hf1.trans hf2).toQ hf'.toQ⟩
  rw [(hd2.1.1 k hk).1]
  exact (hd'.1 k hk).1.symm
theorem sim_behind {a b : Int32} {c m : vv_S} (h : Rel c m) : wX8_behind a b c (fun x s => wX9_behind a b m (fun y t => x = y ∧ Rel s t)) := by
  have hR := h
  obtain ⟨P, D, A, Q, B, ho, hc, hm⟩ := h
  obtain ⟨hp, hd, -⟩ := id ho
  have hm9 := ho.m999
  have hn8 := ho.1.2.1
  obtain ⟨-, -, -, -, -, -, hA, hS, -⟩ := id hp
  have bad : ¬ (((0 : Int32) ≤ a ∧ a ≤ 200) ∧ ((0 : Int32) ≤ b ∧ b ≤ 2)) → wX9_behind a b m (fun y t => -1 = y ∧ Rel c t) := by
    intro hz
    unfold wX9_behind wX9_areMinutes
    refine s_inM (lo := 0) (hi := 200) (by decide) (by decide) (fun q1 => ⟨Or.inr rfl, jn_of (fun f => f m) ⟨rfl, hR⟩ (fun f hf => ⟨fun z => absurd z (by decide), fun _ => s_inM (lo := 0) (hi := 2) (by decide) (by decide) (fun q2 => absurd ⟨q1, q2⟩ hz) (fun _ => ⟨fun z => absurd rfl z, fun _ => hf⟩)⟩)⟩) (fun _ => ⟨Or.inl rfl, jn_of (fun f => f m) ⟨rfl, hR⟩ (fun f hf => ⟨fun _ => hf, fun z => absurd rfl z⟩)⟩)
  unfold wX8_behind
  refine s_within (fun q1 => ?_) (fun q1 => jn_of (fun f => f c) (bad (fun y => q1 y.1)) (fun f hf => ⟨fun _ => hf, fun z => absurd rfl z⟩))
  refine jn_of (fun f => ¬ ((0 : Int32) ≤ b ∧ b ≤ 2) → f c) (fun z => bad (fun y => z y.2)) (fun f hf => ⟨fun z => absurd z (by decide), fun _ => s_within (fun q2 => ⟨fun _ => ?_, fun z => absurd z (by decide)⟩) (fun q2 => ⟨fun z => absurd rfl z, fun _ => hf q2⟩)⟩)
  obtain ⟨n, hn, rfl⟩ := rng (N := 200) (by decide) q1.1 q1.2
  refine s_copyFrom hp hd hc.1 hc.2.1.1 ?_
  intro c1 hf1 hd1
  refine s_letPass hp (by decide) hd (x := 0) (by omega) (by omega) (hc.1.fr (by decide) hf1) hd1 ?_
  intro c2 hf2 hd2
  have hc2 := hc.1.fr (d := 46) (by decide) (hf1.trans hf2)
  have hdn : dOk P (m0 P D n) := mns_ok (x := fun _ => 0) hp hd n
  have hw : dW (m0 P D n) ≤ 7375 := hdn.2.1
  have start : ∀ (p : Int32 → vv_S → Prop), (∀ m', FrW 1 m m' → DM P 1 (m0 P D n) m' → vv_jn (fun (v10 : Int32) (σ11 : vv_S) => p v10 σ11) (fun k70_11 => ((¬ b = 0 → ((¬ b = (1 : Int32) → k70_11 ((m' 33 1) - (m' 33 0)) m') ∧ (b = (1 : Int32) → k70_11 (m' 31 1) m'))) ∧ (b = 0 → wX9_levelOf (m' 31 1) m' (fun (r16 : Int32) (σ15 : vv_S) => k70_11 r16 σ15))))) → wX9_behind (nI n) b m p := by
    intro p hpp
    unfold wX9_behind wX9_areMinutes
    refine s_inM (lo := 0) (hi := 200) (by decide) (by decide) (fun _ => ⟨Or.inr rfl, jn_of (fun _ => True) trivial (fun f _ => ⟨fun z => absurd z (by decide), fun _ => s_inM (lo := 0) (hi := 2) (by decide) (by decide) (fun _ => ⟨fun _ => s_goOn hp hd hm9 hn hm.1 hm.2.1 hpp, fun z => absurd z (by decide)⟩) (fun z => absurd q2 z)⟩)⟩) (fun z => absurd q1 z)
  unfold wX3_units wX3_allOver
  refine ⟨fun q => s_level hp hdn hc2 hd2.1.2.2.1 ?_, fun q => ?_, fun q => ?_⟩
  · refine start _ (fun m' hf' hd' => ?_)
    refine jn_of (fun f => f (nI (lv (pA P) (pS P) (dW (m0 P D n)) 60)) m') ⟨rfl, rel_q ho hc hm (hf1.trans hf2).toQ hf'.toQ⟩ (fun f hf => ⟨fun z => absurd q z, fun _ => ?_⟩)
    have pm' := hm.1.fr hf'
    rw [hd'.2.1]
    exact s_levelOfM hA hS pm'.2.2.2.1 pm'.2.2.2.2.1 (by omega) hf
  · refine start _ (fun m' hf' hd' => ?_)
    refine jn_of (fun f => f (nI (dW (m0 P D n))) m') ⟨hd2.1.2.2.1, rel_q ho hc hm (hf1.trans hf2).toQ hf'.toQ⟩ (fun f hf => ⟨fun _ => ⟨fun z => absurd q z, fun _ => by rw [hd'.2.1]; exact hf⟩, fun z => absurd (z.symm.trans q) (by decide)⟩)
  · refine start _ (fun m' hf' hd' => ?_)
    have e42 : c2 42 6 = nI (dV D) := by rw [(hf1.trans hf2) 42 (by omega), hc.2.1.1.2.2.2.2.1]
    have e33 : m' 33 0 = nI (dV D) := by rw [(hf'.2.2.2 0 (by decide)).2.2.1, hm.2.1.2.2.2.1]
    refine jn_of (fun f => f (nI (dV (m0 P D n)) - nI (dV D)) m') ⟨by rw [hd2.1.2.2.2.2.1, e42], rel_q ho hc hm (hf1.trans hf2).toQ hf'.toQ⟩ (fun f hf => ⟨fun _ => ⟨fun _ => by rw [hd'.2.2.2.1, e33]; exact hf, fun z => absurd z q.2⟩, fun z => absurd z q.1⟩)

theorem TA.fr {p : Nat} {T T' : vT} {c c' : vv_S} (h : TA p T c) (hT : T'.1 = T.1) (e1 : c' p 2 = c p 2) (e2 : c' (p + 1) = c (p + 1)) (e3 : c' (p + 2) = c (p + 2)) : TA p T' c' := by
  unfold TA at *
  rw [e1, e2, e3, show tN T' = tN T by unfold tN; rw [hT], show tH T' = tH T by unfold tH; rw [hT], show tO T' = tO T by unfold tO; rw [hT]]
  exact h
theorem TB.fr {p : Nat} {T T' : vT} {c c' : vv_S} (h : TB p T c) (hL : tL T' = tL T ∧ tR T' = tR T ∧ tA T' = tA T ∧ tS T' = tS T) (e : ∀ j, 3 ≤ j → j ≤ 6 → c' p j = c p j) : TB p T' c' := by
  unfold TB at *
  rw [e 3 (by omega) (by omega), e 4 (by omega) (by omega), e 5 (by omega) (by omega), e 6 (by omega) (by omega), hL.1, hL.2.1, hL.2.2.1, hL.2.2.2]
  exact h
theorem TF.fr {p : Nat} {T T' : vT} {c c' : vv_S} (h : TF p T c) (hT : T'.2.1 = T.2.1) (e1 : c' (p + 3) 2 = c (p + 3) 2) (e2 : c' (p + 4) = c (p + 4)) (e3 : c' (p + 5) = c (p + 5)) : TF p T' c' := by
  unfold TF at *
  rw [e1, e2, e3, show tfc T' = tfc T by unfold tfc; rw [hT], show tF T' = tF T by unfold tF; rw [hT], show tU T' = tU T by unfold tU; rw [hT]]
  exact h
theorem TR.fr {p : Nat} {T T' : vT} {c c' : vv_S} (h : TR p T c) (hT : T'.2.2.1 = T.2.2.1) (e1 : c' (p + 3) 6 = c (p + 3) 6) (e2 : c' (p + 6) = c (p + 6)) (e3 : c' (p + 7) = c (p + 7)) (e4 : c' (p + 8) = c (p + 8)) : TR p T' c' := by
  unfold TR at *
  rw [e1, e2, e3, e4, show trc T' = trc T by unfold trc; rw [hT], show tRF T' = tRF T by unfold tRF; rw [hT], show tRT T' = tRT T by unfold tRT; rw [hT], show tRU T' = tRU T by unfold tRU; rw [hT]]
  exact h
theorem TK.fr {p : Nat} {T T' : vT} {c c' : vv_S} (hq : (tQ T).1 ≤ 4) (h : TK p T c) (hT : (tQ T').1 = (tQ T).1 ∧ (tQ T').2.1 = (tQ T).2.1) (e1 : c' (p + 10) 1 = c (p + 10) 1) (e2 : ∀ i, i < 4 → c' (p + 12 + i) = c (p + 12 + i)) : TK p T' c' := by
  unfold TK at *
  rw [e1, hT.1, hT.2]
  exact ⟨h.1, fun i s hi hs => by rw [e2 i (by omega)]; exact h.2 i s hi hs⟩
theorem TJ.fr {p : Nat} {T T' : vT} {c c' : vv_S} (h : TJ p T c) (hT : (tQ T').2.2 = (tQ T).2.2) (e1 : c' (p + 10) 4 = c (p + 10) 4) (e2 : c' (p + 16) = c (p + 16)) (e3 : c' (p + 17) = c (p + 17)) : TJ p T' c' := by
  unfold TJ at *
  rw [e1, e2, e3, hT]
  exact h
theorem s_addCell {p : Nat} {T : vT} (hT : tOk T) {L : List Nat} (hL : ∀ k, L.getD k 0 ≤ 99) {c : vv_S} (hc : TC p T c) {K : Int32 → vv_S → Prop}
    (h0 : ¬ (tN T ≠ 8 ∧ L.getD 0 0 ≤ 40 ∧ L.getD 1 0 ≤ 3) → K 0 c) (h1 : (tN T ≠ 8 ∧ L.getD 0 0 ≤ 40 ∧ L.getD 1 0 ≤ 3) → ∀ c', FrP p c c' → TC p (kCell T L) c' → K 1 c') : wX4_addCell p (nI (L.getD 0 0)) (nI (L.getD 1 0)) c K := by
  obtain ⟨⟨u1, u2, u3⟩, tb, tf, tr, tk, tj⟩ := hc
  have hn := hT.1.1
  have a0 := hL 0
  have a1 := hL 1
  have e40 : (40 : Int32) = nI 40 := by decide
  have hcn : (nI (tN T)).toNatClampNeg = tN T := nI_clamp (by omega)
  unfold wX4_addCell wX8_isStuff
  rw [u1, vn8, e40, nI_leI (by decide) (by omega), nI_ltI (by decide) (by omega)]
  refine jn_of (fun k => ¬ (tN T ≠ 8 ∧ L.getD 0 0 ≤ 40 ∧ L.getD 1 0 ≤ 3) → k c) h0 ?_
  intro k hk
  refine ⟨fun y => absurd y (nI_pos (by omega)), fun _ => ⟨fun y => hk (by omega), fun y => ⟨fun y2 => hk (by omega), fun y2 => s_within (fun q => ?_) (fun q => ?_)⟩⟩⟩
  · rw [show (3 : Int32) = nI 3 by decide, nI_leI (by omega) (by decide)] at q
    refine ⟨Or.inr rfl, ⟨fun _ => ⟨by rw [u1]; exact vp_in_nI (by omega) (by decide), ?_⟩, fun z => absurd z (by decide)⟩⟩
    rw [u1, hcn]
    rintro _ rfl
    rw [vv_up_r (show p ≠ p + 1 by omega), u1, hcn]
    refine ⟨vp_in_nI (by omega) (by decide), ?_⟩
    rintro _ rfl _ rfl
    rw [vv_up_r (show p ≠ p + 2 by omega), vv_up_r (show p ≠ p + 1 by omega), u1, nI_1]
    generalize hc' : vv_up (vv_up (vv_up c (p + 1) (tN T) (nI (L.getD 0 0))) (p + 2) (tN T) (nI (L.getD 1 0))) p 2 (nI (tN T + 1)) = c'
    have e : ∀ i, i ≠ p → i ≠ p + 1 → i ≠ p + 2 → c' i = c i := fun i a b d => by rw [← hc', vv_up_r a, vv_up_r d, vv_up_r b]
    refine h1 (by omega) c' (fun i a => e i (by omega) (by omega) (by omega)) ⟨⟨?_, row_up u2 ?_ (fun k hk => ?_), row_up u3 ?_ (fun k hk => ?_)⟩, tb.fr ⟨rfl, rfl, rfl, rfl⟩ (fun j a b => ?_), tf.fr rfl (by rw [e _ (by omega) (by omega) (by omega)]) (e _ (by omega) (by omega) (by omega)) (e _ (by omega) (by omega) (by omega)), tr.fr rfl (by rw [e _ (by omega) (by omega) (by omega)]) (e _ (by omega) (by omega) (by omega)) (e _ (by omega) (by omega) (by omega)) (e _ (by omega) (by omega) (by omega)), tk.fr hT.2.2.2.2.1 ⟨rfl, rfl⟩ (by rw [e _ (by omega) (by omega) (by omega)]) (fun i hi => e _ (by omega) (by omega) (by omega)), tj.fr rfl (by rw [e _ (by omega) (by omega) (by omega)]) (e _ (by omega) (by omega) (by omega)) (e _ (by omega) (by omega) (by omega))⟩
    · rw [← hc', vv_up_s]; rfl
    · rw [← hc', vv_up_r (by omega), vv_up_r (by omega), vv_up_s]
    · rw [← hc', vv_up_r (by omega), vv_up_r (by omega), vv_up_i (by omega)]
    · rw [← hc', vv_up_r (by omega), vv_up_s]
    · rw [← hc', vv_up_r (by omega), vv_up_i (by omega), vv_up_r (by omega)]
    · rw [← hc', vv_up_i (by omega), vv_up_r (by omega), vv_up_r (by omega)]
  · refine ⟨Or.inl rfl, ⟨fun z => absurd rfl z, fun _ => hk (fun z => q ⟨nI_pos' (by omega), by rw [show (3 : Int32) = nI 3 by decide]; exact nI_le z.2.2 (by decide)⟩)⟩⟩
theorem s_setBanks {p : Nat} {T : vT} (hT : tOk T) {L : List Nat} (hL : ∀ k, L.getD k 0 ≤ 99) {c : vv_S} (hc : TC p T c) {K : Int32 → vv_S → Prop}
    (h0 : ¬ (L.getD 0 0 ≤ 50 ∧ L.getD 1 0 ≤ 50) → ∀ c', FrP p c c' → K 0 c') (h1 : (L.getD 0 0 ≤ 50 ∧ L.getD 1 0 ≤ 50) → ∀ c', FrP p c c' → TC p (kBank T L) c' → K 1 c') : wX4_setBanks p (nI (L.getD 0 0)) (nI (L.getD 1 0)) c K := by
  obtain ⟨⟨u1, u2, u3⟩, tb, tf, tr, tk, tj⟩ := hc
  have a0 := hL 0
  have a1 := hL 1
  have e50 : (50 : Int32) = nI 50 := by decide
  unfold wX4_setBanks
  rintro _ rfl _ rfl
  rw [e50, nI_ltI (by decide) (by omega), nI_ltI (by decide) (by omega)]
  generalize hc' : vv_up (vv_up c p 3 (nI (L.getD 0 0))) p 4 (nI (L.getD 1 0)) = c'
  have e : ∀ i, i ≠ p → c' i = c i := fun i a => by rw [← hc', vv_up_r a, vv_up_r a]
  have hfp : FrP p c c' := fun i a => e i (by omega)
  refine jn_of (fun k => k (if L.getD 0 0 ≤ 50 ∧ L.getD 1 0 ≤ 50 then 1 else 0)) ⟨by split <;> simp, ?_⟩ ?_
  · by_cases y : L.getD 0 0 ≤ 50 ∧ L.getD 1 0 ≤ 50
    · rw [if_pos y]
      refine h1 y c' hfp ⟨⟨?_, by rw [e _ (by omega)]; exact u2, by rw [e _ (by omega)]; exact u3⟩, ⟨?_, ?_, ?_, ?_⟩, tf.fr rfl (by rw [e _ (by omega)]) (e _ (by omega)) (e _ (by omega)), tr.fr rfl (by rw [e _ (by omega)]) (e _ (by omega)) (e _ (by omega)) (e _ (by omega)), tk.fr hT.2.2.2.2.1 ⟨rfl, rfl⟩ (by rw [e _ (by omega)]) (fun i hi => e _ (by omega)), tj.fr rfl (by rw [e _ (by omega)]) (e _ (by omega)) (e _ (by omega))⟩
      · rw [← hc', vv_up_i (by decide), vv_up_i (by decide)]; exact u1
      · rw [← hc', vv_up_i (by decide), vv_up_s]; rfl
      · rw [← hc', vv_up_s]; rfl
      · rw [← hc', vv_up_i (by decide), vv_up_i (by decide)]; exact tb.2.2.1
      · rw [← hc', vv_up_i (by decide), vv_up_i (by decide)]; exact tb.2.2.2
    · rw [if_neg y]
      exact h0 y c' hfp
  · intro k hk
    refine jn_of (fun g => ¬ (L.getD 0 0 ≤ 50 ∧ L.getD 1 0 ≤ 50) → g) (fun y => by rw [if_neg y] at hk; exact hk) (fun g hg => ⟨fun y => hg (by omega), fun y => ⟨fun y2 => hg (by omega), fun y2 => ?_⟩⟩)
    rw [if_pos (by omega)] at hk
    exact hk
theorem s_setLake {p : Nat} {T : vT} (hT : tOk T) {L : List Nat} (hL : ∀ k, L.getD k 0 ≤ 99) {c : vv_S} (hc : TC p T c) {K : Int32 → vv_S → Prop}
    (h0 : ¬ ((1 ≤ L.getD 0 0 ∧ L.getD 0 0 ≤ 20) ∧ L.getD 1 0 ≤ 5) → ∀ c', FrP p c c' → K 0 c') (h1 : ((1 ≤ L.getD 0 0 ∧ L.getD 0 0 ≤ 20) ∧ L.getD 1 0 ≤ 5) → ∀ c', FrP p c c' → TC p (kLake T L) c' → K 1 c') : wX4_setLake p (nI (L.getD 0 0)) (nI (L.getD 1 0)) c K := by
  obtain ⟨⟨u1, u2, u3⟩, tb, tf, tr, tk, tj⟩ := hc
  have a0 := hL 0
  have a1 := hL 1
  have e5 : (5 : Int32) = nI 5 := by decide
  have e20 : (20 : Int32) = nI 20 := by decide
  unfold wX4_setLake
  rintro _ rfl _ rfl
  rw [e5, nI_ltI (by decide) (by omega)]
  generalize hc' : vv_up (vv_up c p 5 (nI (L.getD 0 0))) p 6 (nI (L.getD 1 0)) = c'
  have e : ∀ i, i ≠ p → c' i = c i := fun i a => by rw [← hc', vv_up_r a, vv_up_r a]
  have hfp : FrP p c c' := fun i a => e i (by omega)
  have hw : ((1 : Int32) ≤ nI (L.getD 0 0) ∧ nI (L.getD 0 0) ≤ 20) ↔ (1 ≤ L.getD 0 0 ∧ L.getD 0 0 ≤ 20) := by rw [vn1, e20, nI_leI (by decide) (by omega), nI_leI (by omega) (by decide)]
  have fin : ∀ r4 : Int32, (r4 = 0 ↔ ¬ (1 ≤ L.getD 0 0 ∧ L.getD 0 0 ≤ 20)) → vv_jn (fun (v5 : Int32) => (v5 = 0 ∨ v5 = 1) ∧ K v5 c') (fun k30_5 : Int32 → Prop => vv_jn (k30_5 (0 : Int32)) (fun k29_6 : Prop => (r4 = 0 → k29_6) ∧ (¬ r4 = 0 → (5 < L.getD 1 0 → k29_6) ∧ (¬ 5 < L.getD 1 0 → k30_5 (1 : Int32))))) := by
    intro r4 hr4
    refine jn_of (fun k => k (if (1 ≤ L.getD 0 0 ∧ L.getD 0 0 ≤ 20) ∧ L.getD 1 0 ≤ 5 then 1 else 0)) ⟨by split <;> simp, ?_⟩ ?_
    · by_cases y : (1 ≤ L.getD 0 0 ∧ L.getD 0 0 ≤ 20) ∧ L.getD 1 0 ≤ 5
      · rw [if_pos y]
        refine h1 y c' hfp ⟨⟨?_, by rw [e _ (by omega)]; exact u2, by rw [e _ (by omega)]; exact u3⟩, ⟨?_, ?_, ?_, ?_⟩, tf.fr rfl (by rw [e _ (by omega)]) (e _ (by omega)) (e _ (by omega)), tr.fr rfl (by rw [e _ (by omega)]) (e _ (by omega)) (e _ (by omega)) (e _ (by omega)), tk.fr hT.2.2.2.2.1 ⟨rfl, rfl⟩ (by rw [e _ (by omega)]) (fun i hi => e _ (by omega)), tj.fr rfl (by rw [e _ (by omega)]) (e _ (by omega)) (e _ (by omega))⟩
        · rw [← hc', vv_up_i (by decide), vv_up_i (by decide)]; exact u1
        · rw [← hc', vv_up_i (by decide), vv_up_i (by decide)]; exact tb.1
        · rw [← hc', vv_up_i (by decide), vv_up_i (by decide)]; exact tb.2.1
        · rw [← hc', vv_up_i (by decide), vv_up_s]; rfl
        · rw [← hc', vv_up_s]; rfl
      · rw [if_neg y]
        exact h0 y c' hfp
    · intro k hk
      refine jn_of (fun g => ¬ ((1 ≤ L.getD 0 0 ∧ L.getD 0 0 ≤ 20) ∧ L.getD 1 0 ≤ 5) → g) (fun y => by rw [if_neg y] at hk; exact hk) (fun g hg => ⟨fun y => hg (fun z => hr4.mp y z.1), fun y => ⟨fun y2 => hg (by omega), fun y2 => ?_⟩⟩)
      have z : 1 ≤ L.getD 0 0 ∧ L.getD 0 0 ≤ 20 := Classical.byContradiction (fun z => y (hr4.mpr z))
      rw [if_pos ⟨z, by omega⟩] at hk
      exact hk
  exact s_within (fun q => fin 1 ⟨fun y => absurd y (by decide), fun y => absurd (hw.mp q) y⟩) (fun q => fin 0 ⟨fun _ y => q (hw.mpr y), fun _ => rfl⟩)
theorem s_addFlow {p : Nat} {T : vT} (hT : tOk T) {L : List Nat} (hL : ∀ k, L.getD k 0 ≤ 99) {c : vv_S} (hc : TC p T c) {K : Int32 → vv_S → Prop}
    (h0 : ¬ (tfc T ≠ 4 ∧ L.getD 1 0 ≤ 60) → K 0 c) (h1 : (tfc T ≠ 4 ∧ L.getD 1 0 ≤ 60) → ∀ c', FrP p c c' → TC p (kFlow T L) c' → K 1 c') : wX1_addFlow (p + 3) (nI (L.getD 0 0)) (nI (L.getD 1 0)) c K := by
  obtain ⟨ta, tb, ⟨u1, u2, u3⟩, tr, tk, tj⟩ := hc
  have hn := hT.2.2.1.1
  have a0 := hL 0
  have a1 := hL 1
  have e60 : (60 : Int32) = nI 60 := by decide
  have e4 : (4 : Int32) = nI 4 := by decide
  have hcn : (nI (tfc T)).toNatClampNeg = tfc T := nI_clamp (by omega)
  unfold wX1_addFlow
  rw [u1, hcn, e60, e4, nI_leI (by decide) (by omega), nI_leI (by omega) (by decide)]
  refine jn_of (fun k => ¬ (tfc T ≠ 4 ∧ L.getD 1 0 ≤ 60) → k) h0 ?_
  intro k hk
  refine ⟨fun y => absurd y (nI_pos (by omega)), fun _ => ⟨fun y => hk (by omega), fun y => ⟨fun y2 => ⟨vp_in_nI (by omega) (by decide), ?_⟩, fun y2 => hk (by omega)⟩⟩⟩
  rintro _ rfl
  rw [vv_up_r (show p + 3 ≠ p + 3 + 1 by omega), u1, hcn]
  refine ⟨vp_in_nI (by omega) (by decide), ?_⟩
  rintro _ rfl _ rfl
  rw [vv_up_r (show p + 3 ≠ p + 3 + 2 by omega), vv_up_r (show p + 3 ≠ p + 3 + 1 by omega), u1, nI_1]
  generalize hc' : vv_up (vv_up (vv_up c (p + 3 + 1) (tfc T) (nI (L.getD 0 0))) (p + 3 + 2) (tfc T) (nI (L.getD 1 0))) (p + 3) 2 (nI (tfc T + 1)) = c'
  have e : ∀ i, i ≠ p + 3 → i ≠ p + 4 → i ≠ p + 5 → c' i = c i := fun i a b d => by rw [← hc', vv_up_r a, vv_up_r d, vv_up_r b]
  refine h1 (by omega) c' (fun i a => e i (by omega) (by omega) (by omega)) ⟨ta.fr rfl (by rw [e _ (by omega) (by omega) (by omega)]) (e _ (by omega) (by omega) (by omega)) (e _ (by omega) (by omega) (by omega)), tb.fr ⟨rfl, rfl, rfl, rfl⟩ (fun j a b => by rw [e _ (by omega) (by omega) (by omega)]), ⟨?_, row_up u2 ?_ (fun k hk => ?_), row_up u3 ?_ (fun k hk => ?_)⟩, tr.fr rfl ?_ (e _ (by omega) (by omega) (by omega)) (e _ (by omega) (by omega) (by omega)) (e _ (by omega) (by omega) (by omega)), tk.fr hT.2.2.2.2.1 ⟨rfl, rfl⟩ (by rw [e _ (by omega) (by omega) (by omega)]) (fun i hi => e _ (by omega) (by omega) (by omega)), tj.fr rfl (by rw [e _ (by omega) (by omega) (by omega)]) (e _ (by omega) (by omega) (by omega)) (e _ (by omega) (by omega) (by omega))⟩
  · rw [← hc', vv_up_s]; rfl
  · rw [← hc', vv_up_r (by omega), vv_up_r (by omega), vv_up_s]
  · rw [← hc', vv_up_r (by omega), vv_up_r (by omega), vv_up_i (by omega)]
  · rw [← hc', vv_up_r (by omega), vv_up_s]
  · rw [← hc', vv_up_r (by omega), vv_up_i (by omega), vv_up_r (by omega)]
  · rw [← hc', vv_up_i (by omega), vv_up_r (by omega), vv_up_r (by omega)]
theorem s_addRain {p : Nat} {T : vT} (hT : tOk T) {L : List Nat} (hL : ∀ k, L.getD k 0 ≤ 99) {c : vv_S} (hc : TC p T c) {K : Int32 → vv_S → Prop}
    (h0 : ¬ (trc T ≠ 4 ∧ L.getD 0 0 ≤ L.getD 1 0 ∧ L.getD 2 0 ≤ 30) → K 0 c) (h1 : (trc T ≠ 4 ∧ L.getD 0 0 ≤ L.getD 1 0 ∧ L.getD 2 0 ≤ 30) → ∀ c', FrP p c c' → TC p (kRain T L) c' → K 1 c') : wX1_addRain (p + 3) (nI (L.getD 0 0)) (nI (L.getD 1 0)) (nI (L.getD 2 0)) c K := by
  obtain ⟨ta, tb, tf, ⟨u1, u2, u3, u4⟩, tk, tj⟩ := hc
  have hn := hT.2.2.2.1.1
  have a0 := hL 0
  have a1 := hL 1
  have a2 := hL 2
  have e30 : (30 : Int32) = nI 30 := by decide
  have e4 : (4 : Int32) = nI 4 := by decide
  have hcn : (nI (trc T)).toNatClampNeg = trc T := nI_clamp (by omega)
  unfold wX1_addRain
  rw [u1, hcn, e30, e4, nI_leI (by decide) (by omega), nI_leI (by omega) (by decide), nI_ltI (by omega) (by omega)]
  refine jn_of (fun k => ¬ (trc T ≠ 4 ∧ L.getD 0 0 ≤ L.getD 1 0 ∧ L.getD 2 0 ≤ 30) → k) h0 ?_
  intro k hk
  refine ⟨fun y => absurd y (nI_pos (by omega)), fun _ => ⟨fun y => hk (by omega), fun y => ⟨fun y2 => hk (by omega), fun y2 => ⟨fun y3 => ⟨vp_in_nI (by omega) (by decide), ?_⟩, fun y3 => hk (by omega)⟩⟩⟩⟩
  rintro _ rfl
  rw [vv_up_r (show p + 3 ≠ p + 3 + 3 by omega), u1, hcn]
  refine ⟨vp_in_nI (by omega) (by decide), ?_⟩
  rintro _ rfl
  rw [vv_up_r (show p + 3 ≠ p + 3 + 4 by omega), vv_up_r (show p + 3 ≠ p + 3 + 3 by omega), u1, hcn]
  refine ⟨vp_in_nI (by omega) (by decide), ?_⟩
  rintro _ rfl _ rfl
  rw [vv_up_r (show p + 3 ≠ p + 3 + 5 by omega), vv_up_r (show p + 3 ≠ p + 3 + 4 by omega), vv_up_r (show p + 3 ≠ p + 3 + 3 by omega), u1, nI_1]
  generalize hc' : vv_up (vv_up (vv_up (vv_up c (p + 3 + 3) (trc T) (nI (L.getD 0 0))) (p + 3 + 4) (trc T) (nI (L.getD 1 0))) (p + 3 + 5) (trc T) (nI (L.getD 2 0))) (p + 3) 6 (nI (trc T + 1)) = c'
  have e : ∀ i, i ≠ p + 3 → i ≠ p + 6 → i ≠ p + 7 → i ≠ p + 8 → c' i = c i := fun i a b d f => by rw [← hc', vv_up_r a, vv_up_r f, vv_up_r d, vv_up_r b]
  refine h1 (by omega) c' (fun i a => e i (by omega) (by omega) (by omega) (by omega)) ⟨ta.fr rfl (by rw [e _ (by omega) (by omega) (by omega) (by omega)]) (e _ (by omega) (by omega) (by omega) (by omega)) (e _ (by omega) (by omega) (by omega) (by omega)), tb.fr ⟨rfl, rfl, rfl, rfl⟩ (fun j a b => by rw [e _ (by omega) (by omega) (by omega) (by omega)]), tf.fr rfl ?_ (e _ (by omega) (by omega) (by omega) (by omega)) (e _ (by omega) (by omega) (by omega) (by omega)), ⟨?_, row_up u2 ?_ (fun k hk => ?_), row_up u3 ?_ (fun k hk => ?_), row_up u4 ?_ (fun k hk => ?_)⟩, tk.fr hT.2.2.2.2.1 ⟨rfl, rfl⟩ (by rw [e _ (by omega) (by omega) (by omega) (by omega)]) (fun i hi => e _ (by omega) (by omega) (by omega) (by omega)), tj.fr rfl (by rw [e _ (by omega) (by omega) (by omega) (by omega)]) (e _ (by omega) (by omega) (by omega) (by omega)) (e _ (by omega) (by omega) (by omega) (by omega))⟩
  · rw [← hc', vv_up_i (by omega), vv_up_r (by omega), vv_up_r (by omega), vv_up_r (by omega)]
  · rw [← hc', vv_up_s]; rfl
  · rw [← hc', vv_up_r (by omega), vv_up_r (by omega), vv_up_r (by omega), vv_up_s]
  · rw [← hc', vv_up_r (by omega), vv_up_r (by omega), vv_up_r (by omega), vv_up_i (by omega)]
  · rw [← hc', vv_up_r (by omega), vv_up_r (by omega), vv_up_s]
  · rw [← hc', vv_up_r (by omega), vv_up_r (by omega), vv_up_i (by omega), vv_up_r (by omega)]
  · rw [← hc', vv_up_r (by omega), vv_up_s]
  · rw [← hc', vv_up_r (by omega), vv_up_i (by omega), vv_up_r (by omega), vv_up_r (by omega)]
theorem s_addJob {p : Nat} {T : vT} (hT : tOk T) {L : List Nat} (hL : ∀ k, L.getD k 0 ≤ 99) {c : vv_S} (hc : TC p T c) {K : Int32 → vv_S → Prop}
    (h0 : ¬ ((tQ T).2.2.1 ≠ 5 ∧ L.getD 1 0 ≤ 3 ∧ 1 ≤ L.getD 2 0 ∧ L.getD 2 0 ≤ 30) → K 0 c) (h1 : ((tQ T).2.2.1 ≠ 5 ∧ L.getD 1 0 ≤ 3 ∧ 1 ≤ L.getD 2 0 ∧ L.getD 2 0 ≤ 30) → ∀ c', FrP p c c' → TC p (kJob T L) c' → K 1 c') : wX2_addJob (p + 10) (nI (L.getD 1 0)) (nI (L.getD 2 0)) c K := by
  obtain ⟨ta, tb, tf, tr, tk, ⟨u1, u2, u3⟩⟩ := hc
  have hn := hT.2.2.2.2.2.1
  have a1 := hL 1
  have a2 := hL 2
  have e30 : (30 : Int32) = nI 30 := by decide
  have e5 : (5 : Int32) = nI 5 := by decide
  have e3 : (3 : Int32) = nI 3 := by decide
  have hcn : (nI (tQ T).2.2.1).toNatClampNeg = (tQ T).2.2.1 := nI_clamp (by omega)
  unfold wX2_addJob wX8_isStuff
  rw [u1, e5, nI_leI (by decide) (by omega)]
  refine jn_of (fun k => ¬ ((tQ T).2.2.1 ≠ 5 ∧ L.getD 1 0 ≤ 3 ∧ 1 ≤ L.getD 2 0 ∧ L.getD 2 0 ≤ 30) → k c) h0 ?_
  intro k hk
  refine ⟨fun y => absurd y (nI_pos (by omega)), fun _ => ⟨fun y => hk (by omega), fun y => s_within (fun q => ⟨Or.inr rfl, ⟨fun z => absurd z (by decide), fun _ => s_within (fun q2 => ⟨fun _ => ?_, fun z => absurd z (by decide)⟩) (fun q2 => ⟨fun z => absurd rfl z, fun _ => hk (fun z => q2 ⟨by rw [vn1]; exact nI_le z.2.2.1 (by omega), by rw [e30]; exact nI_le z.2.2.2 (by decide)⟩)⟩)⟩⟩) (fun q => ⟨Or.inl rfl, ⟨fun _ => hk (fun z => q ⟨nI_pos' (by omega), by rw [e3]; exact nI_le z.2.1 (by decide)⟩), fun z => absurd rfl z⟩⟩)⟩⟩
  rw [e3, nI_leI (by omega) (by decide)] at q
  rw [vn1, e30, nI_leI (by decide) (by omega), nI_leI (by omega) (by decide)] at q2
  rw [u1, hcn]
  refine ⟨vp_in_nI (by omega) (by decide), ?_⟩
  rintro _ rfl
  rw [vv_up_r (show p + 10 ≠ p + 10 + 6 by omega), u1, hcn]
  refine ⟨vp_in_nI (by omega) (by decide), ?_⟩
  rintro _ rfl _ rfl
  rw [vv_up_r (show p + 10 ≠ p + 10 + 7 by omega), vv_up_r (show p + 10 ≠ p + 10 + 6 by omega), u1, nI_1]
  generalize hc' : vv_up (vv_up (vv_up c (p + 10 + 6) (tQ T).2.2.1 (nI (L.getD 1 0))) (p + 10 + 7) (tQ T).2.2.1 (nI (L.getD 2 0))) (p + 10) 4 (nI ((tQ T).2.2.1 + 1)) = c'
  have e : ∀ i, i ≠ p + 10 → i ≠ p + 16 → i ≠ p + 17 → c' i = c i := fun i a b d => by rw [← hc', vv_up_r a, vv_up_r d, vv_up_r b]
  refine h1 (by omega) c' (fun i a => e i (by omega) (by omega) (by omega)) ⟨ta.fr rfl (by rw [e _ (by omega) (by omega) (by omega)]) (e _ (by omega) (by omega) (by omega)) (e _ (by omega) (by omega) (by omega)), tb.fr ⟨rfl, rfl, rfl, rfl⟩ (fun j a b => by rw [e _ (by omega) (by omega) (by omega)]), tf.fr rfl (by rw [e _ (by omega) (by omega) (by omega)]) (e _ (by omega) (by omega) (by omega)) (e _ (by omega) (by omega) (by omega)), tr.fr rfl (by rw [e _ (by omega) (by omega) (by omega)]) (e _ (by omega) (by omega) (by omega)) (e _ (by omega) (by omega) (by omega)) (e _ (by omega) (by omega) (by omega)), tk.fr hT.2.2.2.2.1 ⟨rfl, rfl⟩ ?_ (fun i hi => e _ (by omega) (by omega) (by omega)), ⟨?_, row_up u2 ?_ (fun k hk => ?_), row_up u3 ?_ (fun k hk => ?_)⟩⟩
  · rw [← hc', vv_up_i (by omega), vv_up_r (by omega), vv_up_r (by omega)]
  · rw [← hc', vv_up_s]; rfl
  · rw [← hc', vv_up_r (by omega), vv_up_r (by omega), vv_up_s]
  · rw [← hc', vv_up_r (by omega), vv_up_r (by omega), vv_up_i (by omega)]
  · rw [← hc', vv_up_r (by omega), vv_up_s]
  · rw [← hc', vv_up_r (by omega), vv_up_i (by omega), vv_up_r (by omega)]
theorem s_addChild {p : Nat} (hp1 : 4 ≤ p) {T : vT} (hT : tOk T) {L : List Nat} (hlen : L.length ≤ 4) (hL : ∀ k, L.getD k 0 ≤ 99) {c : vv_S} (hc : TC p T c) (h3 : c 1 3 = nI L.length) (hn3 : ∀ i, i < L.length → c 3 i = nI (L.getD i 0)) {K : Int32 → vv_S → Prop}
    (h0 : ¬ ((tQ T).1 ≠ 4 ∧ L.getD 0 0 ≤ 9 ∧ L.getD 1 0 ≤ 9 ∧ L.getD 2 0 ≤ 9 ∧ L.getD 3 0 ≤ 9) → ∀ c', FrP p c c' → K 0 c') (h1 : ((tQ T).1 ≠ 4 ∧ L.getD 0 0 ≤ 9 ∧ L.getD 1 0 ≤ 9 ∧ L.getD 2 0 ≤ 9 ∧ L.getD 3 0 ≤ 9) → ∀ c', FrP p c c' → TC p (kKid T L) c' → K 1 c') : wX2_addChild (p + 10) c K := by
  obtain ⟨ta, tb, tf, tr, ⟨u1, u2⟩, tj⟩ := hc
  have hn := hT.2.2.2.2.1
  have e4 : (4 : Int32) = nI 4 := by decide
  have e9 : (9 : Int32) = nI 9 := by decide
  have hcn : (nI (tQ T).1).toNatClampNeg = (tQ T).1 := nI_clamp (by omega)
  unfold wX2_addChild
  rw [u1, e4, nI_ltI (by omega) (by decide)]
  refine jn_of (fun k => ¬ (tQ T).1 ≠ 4 → k) (fun y => h0 (fun z => y z.1) c FrP.rf) ?_
  intro k hk
  refine ⟨fun y => absurd y (nI_pos (by omega)), fun _ => ⟨fun y => ?_, fun y => hk (by omega)⟩⟩
  refine jn_of (fun f => ∀ c', (∀ i, i ≠ p + 12 + (tQ T).1 → c' i = c i) → (∀ s, s < 4 → c' (p + 12 + (tQ T).1) s = nI (L.getD s 0)) → (L.getD 0 0 ≤ 9 ∧ L.getD 1 0 ≤ 9 ∧ L.getD 2 0 ≤ 9 ∧ L.getD 3 0 ≤ 9) → f c') ?_ ?_
  · intro c' e hr h9
    rintro _ rfl
    rw [e (p + 10) (by omega), u1, nI_1]
    have e' : ∀ i, i ≠ p + 10 → i ≠ p + 12 + (tQ T).1 → (vv_up c' (p + 10) 1 (nI ((tQ T).1 + 1))) i = c i := fun i a b => by rw [vv_up_r a, e i b]
    refine h1 ⟨by omega, h9⟩ _ (fun i a => e' i (by omega) (by omega)) ⟨ta.fr rfl (by rw [e' _ (by omega) (by omega)]) (e' _ (by omega) (by omega)) (e' _ (by omega) (by omega)), tb.fr ⟨rfl, rfl, rfl, rfl⟩ (fun j a b => by rw [e' _ (by omega) (by omega)]), tf.fr rfl (by rw [e' _ (by omega) (by omega)]) (e' _ (by omega) (by omega)) (e' _ (by omega) (by omega)), tr.fr rfl (by rw [e' _ (by omega) (by omega)]) (e' _ (by omega) (by omega)) (e' _ (by omega) (by omega)) (e' _ (by omega) (by omega)), ⟨vv_up_s, fun i s hi hs => ?_⟩, tj.fr rfl (by rw [vv_up_i (by decide), e (p + 10) (by omega)]) (e' _ (by omega) (by omega)) (e' _ (by omega) (by omega))⟩
    show _ = nI ((if i = (tQ T).1 then fun s => L.getD s 0 else (tQ T).2.1 i) s)
    have hi : i < (tQ T).1 + 1 := hi
    by_cases z : i = (tQ T).1
    · rw [if_pos z, z, vv_up_r (by omega)]
      exact hr s hs
    · rw [if_neg z, e' _ (by omega) (by omega)]
      exact u2 i s (by omega) hs
  · intro f hf
    have key : ∀ (j i : Nat) (c' : vv_S), i + j = 4 → (∀ i, i ≠ p + 12 + (tQ T).1 → c' i = c i) → (∀ s, s < i → c' (p + 12 + (tQ T).1) s = nI (L.getD s 0) ∧ L.getD s 0 ≤ 9) → lX2_addChild_1 f (p + 10) K (j + 1) (nI i) c' := by
      intro j
      induction j with
      | zero =>
        intro i c' hi e hr
        unfold lX2_addChild_1
        refine ⟨fun _ => hf c' e (fun s hs => (hr s (by omega)).1) ⟨(hr 0 (by omega)).2, (hr 1 (by omega)).2, (hr 2 (by omega)).2, (hr 3 (by omega)).2⟩, fun y => absurd (by rw [e4]; exact nI_le (by omega) (by omega)) y⟩
      | succ j ih =>
        intro i c' hi e hr
        have hci : (nI i).toNatClampNeg = i := nI_clamp (by omega)
        have hli := hL i
        have g3 : c' 1 3 = nI L.length := by rw [e 1 (by omega)]; exact h3
        have gn : ∀ i, i < L.length → c' 3 i = nI (L.getD i 0) := by rw [e 3 (by omega)]; exact hn3
        unfold lX2_addChild_1
        refine ⟨fun y => absurd y (by rw [e4]; exact nI_ge (by omega) (by omega)), fun _ => s_numberAt hlen (show i < 4 by omega) g3 gn ?_⟩
        rw [e9, nI_leI (by omega) (by decide)]
        refine ⟨fun y2 => ⟨?_, s_numberAt hlen (show i < 4 by omega) g3 gn ⟨vp_in_nI (by omega) (by decide), ?_⟩⟩, fun y2 => h0 (fun z => y2 (le9 z.2 i (by omega))) c' (fun i a => e i (by omega))⟩
        · rw [e (p + 10) (by omega), u1]
          exact vp_in_nI (by omega) (by decide)
        · rw [e (p + 10) (by omega), u1, hcn, hci, show p + 10 + 2 + 1 * (tQ T).1 = p + 12 + (tQ T).1 by omega]
          rintro _ rfl _ rfl
          rw [nI_1]
          refine ih (i + 1) _ (by omega) (fun i' a => by rw [vv_up_r a]; exact e i' a) (fun s hs => ?_)
          by_cases z : s = i
          · rw [z]; exact ⟨vv_up_s, y2⟩
          · rw [vv_up_i z]; exact hr s (by omega)
    exact ⟨5, key 4 0 c (by omega) (fun _ _ => rfl) (fun s hs => absurd hs (Nat.not_lt_zero _))⟩

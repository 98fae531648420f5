theorem RC.text {P : vP} {D : vD} {A : vA} {Q : vQ} {B : vK} {c c' : vv_S} (hq : qOk Q) (hk : kOk P B) (h : RC P D A Q B c) {tn : Nat} {TX : Nat → Int32} (hf : ∀ i, i ≠ 1 → i ≠ 2 → c' i = c i) (h1 : c' 1 1 = nI tn) (h2 : ∀ k, k < tn → c' 2 k = TX k) : RC P D A Q (B.1, B.2.1, tn, TX) c' := by
  have hc2 : ∀ c2 : vv_S, c2 = (fun i => if i = 1 then c 1 else if i = 2 then c 2 else c' i) → RC P D A Q B c2 := by
    intro c2 e
    refine h.fr hq hk (fun i hi => ?_)
    rw [e]
    show (if i = 1 then c 1 else if i = 2 then c 2 else c' i) = c i
    split
    · next z => rw [z]
    · split
      · next z => rw [z]
      · next z1 z2 => exact hf i z1 z2
  obtain ⟨g1, g2, g3, g4, k1, k2, k3, k4, -, -⟩ := h
  have e : ∀ i, i ≠ 1 → i ≠ 2 → c' i = c i := hf
  have q1 := hq.1
  have q2 := hk.1
  refine ⟨?_, ⟨?_, ?_⟩, ?_, ?_, ?_, ?_, ?_, ?_, h1, h2⟩
  · unfold PC at *
    rw [e 4 (by decide) (by decide), e 13 (by decide) (by decide), e 5 (by decide) (by decide), e 6 (by decide) (by decide)]
    exact g1
  · have := g2.1
    unfold DR at *
    rw [e 42 (by decide) (by decide), e (42 + 1) (by decide) (by decide), e (42 + 2) (by decide) (by decide), e (42 + 3) (by decide) (by decide)]
    exact this
  · have := g2.2
    unfold DE at *
    rw [e 42 (by decide) (by decide)]
    exact this
  · unfold AC at *
    rw [e 50 (by decide) (by decide), e (50 + 1) (by decide) (by decide), e (50 + 2) (by decide) (by decide), e (50 + 3) (by decide) (by decide), e (50 + 4) (by decide) (by decide)]
    exact g3
  · obtain ⟨u1, u2, u3, u4⟩ := g4
    refine ⟨by rw [e 14 (by decide) (by decide)]; exact u1, by rw [e 14 (by decide) (by decide)]; exact u2, fun i s hi hs => by rw [e (16 + i) (by omega) (by omega)]; exact u3 i s hi hs, by rw [e 20 (by decide) (by decide), e 21 (by decide) (by decide)]; exact u4⟩
  · rw [e 0 (by decide) (by decide)]; exact k1
  · intro j hj
    have := k2 j hj
    unfold AC at *
    rw [e (55 + 5 * j) (by omega) (by omega), e (55 + 5 * j + 1) (by omega) (by omega), e (55 + 5 * j + 2) (by omega) (by omega), e (55 + 5 * j + 3) (by omega) (by omega), e (55 + 5 * j + 4) (by omega) (by omega)]
    exact this
  · rw [e 66 (by decide) (by decide)]; exact k3
  · rw [e 67 (by decide) (by decide), e 68 (by decide) (by decide)]; exact k4
theorem RC.seen {P : vP} {D : vD} {A : vA} {Q : vQ} {B : vK} {c c' : vv_S} (hq : qOk Q) (hk : kOk P B) (h : RC P D A Q B c) {sn : Nat} {SL ST : Nat → Nat} (e : ∀ i, i ≠ 66 → i ≠ 67 → i ≠ 68 → c' i = c i) (h1 : c' 66 2 = nI sn) (h2 : ∀ k, k < sn → c' 67 k = nI (SL k) ∧ c' 68 k = nI (ST k)) : RC P D A Q (B.1, (sn, SL, ST), B.2.2) c' := by
  obtain ⟨g1, g2, g3, g4, k1, k2, -, -, k5, k6⟩ := h
  have q1 := hq.1
  have q2 := hk.1
  refine ⟨?_, ⟨?_, ?_⟩, ?_, ?_, ?_, ?_, h1, h2, ?_, ?_⟩
  · unfold PC at *
    rw [e 4 (by decide) (by decide) (by decide), e 13 (by decide) (by decide) (by decide), e 5 (by decide) (by decide) (by decide), e 6 (by decide) (by decide) (by decide)]
    exact g1
  · have := g2.1
    unfold DR at *
    rw [e 42 (by decide) (by decide) (by decide), e (42 + 1) (by decide) (by decide) (by decide), e (42 + 2) (by decide) (by decide) (by decide), e (42 + 3) (by decide) (by decide) (by decide)]
    exact this
  · have := g2.2
    unfold DE at *
    rw [e 42 (by decide) (by decide) (by decide)]
    exact this
  · unfold AC at *
    rw [e 50 (by decide) (by decide) (by decide), e (50 + 1) (by decide) (by decide) (by decide), e (50 + 2) (by decide) (by decide) (by decide), e (50 + 3) (by decide) (by decide) (by decide), e (50 + 4) (by decide) (by decide) (by decide)]
    exact g3
  · obtain ⟨u1, u2, u3, u4⟩ := g4
    refine ⟨by rw [e 14 (by decide) (by decide) (by decide)]; exact u1, by rw [e 14 (by decide) (by decide) (by decide)]; exact u2, fun i s hi hs => by rw [e (16 + i) (by omega) (by omega) (by omega)]; exact u3 i s hi hs, by rw [e 20 (by decide) (by decide) (by decide), e 21 (by decide) (by decide) (by decide)]; exact u4⟩
  · rw [e 0 (by decide) (by decide) (by decide)]; exact k1
  · intro j hj
    have hj : j < B.1.1 := hj
    have := k2 j hj
    unfold AC at *
    rw [e (55 + 5 * j) (by omega) (by omega) (by omega), e (55 + 5 * j + 1) (by omega) (by omega) (by omega), e (55 + 5 * j + 2) (by omega) (by omega) (by omega), e (55 + 5 * j + 3) (by omega) (by omega) (by omega), e (55 + 5 * j + 4) (by omega) (by omega) (by omega)]
    exact this
  · rw [e 1 (by decide) (by decide) (by decide)]; exact k5
  · rw [e 2 (by decide) (by decide) (by decide)]; exact k6
theorem RM.misc {P : vP} {D : vD} {A : vA} {Q : vQ} {B B' : vK} {m m' : vv_S} (h : RM P D A Q B m) (e : ∀ i, i ≠ 0 → i ≠ 1 → i ≠ 25 → i ≠ 26 → m' i = m i) (hk : KM B' m') : RM P D A Q B' m' := by
  obtain ⟨g1, g2, g3, g4, -⟩ := h
  refine ⟨g1.moved (fun i a b => e i (by omega) (by omega) (by omega) (by omega)), ?_, ?_, ?_, hk⟩
  · unfold DM at *
    rw [e 28 (by decide) (by decide) (by decide) (by decide), e 29 (by decide) (by decide) (by decide) (by decide), e 30 (by decide) (by decide) (by decide) (by decide), e 31 (by decide) (by decide) (by decide) (by decide), e 32 (by decide) (by decide) (by decide) (by decide), e 33 (by decide) (by decide) (by decide) (by decide), e 34 (by decide) (by decide) (by decide) (by decide)]
    exact g2
  · unfold AM at *
    rw [e 20 (by decide) (by decide) (by decide) (by decide), e 21 (by decide) (by decide) (by decide) (by decide), e 22 (by decide) (by decide) (by decide) (by decide), e 23 (by decide) (by decide) (by decide) (by decide), e 24 (by decide) (by decide) (by decide) (by decide)]
    exact g3
  · unfold QM at *
    rw [e 14 (by decide) (by decide) (by decide) (by decide), e 15 (by decide) (by decide) (by decide) (by decide), e 16 (by decide) (by decide) (by decide) (by decide), e 18 (by decide) (by decide) (by decide) (by decide), e 19 (by decide) (by decide) (by decide) (by decide)]
    exact g4
theorem AMo.mv {o j : Nat} {A : vA} {m m' : vv_S} (h : AMo o j A m) (e : ∀ i, 20 ≤ i → i ≤ 24 → m' i = m i) : AMo o j A m' := by
  unfold AMo at *
  rw [e 20 (by omega) (by omega), e 21 (by omega) (by omega), e 22 (by omega) (by omega), e 23 (by omega) (by omega), e 24 (by omega) (by omega)]
  exact h
theorem sim_wipe {c m : vv_S} (h : Rel c m) : wX8_wipe c (fun x s => wX9_wipe m (fun y t => x = y ∧ Rel s t)) := by
  obtain ⟨P, D, A, Q, B, ho, hc, hm⟩ := h
  unfold wX8_wipe wX7_size wX7_clear wX9_wipe
  rintro _ rfl _ rfl _ rfl
  obtain ⟨-, -, -, -, k1, k2, k3, k4, k5, k6⟩ := id hm
  refine ⟨by rw [hc.2.2.2.2.2.2.2.2.1, k5], P, D, A, Q, (B.1, B.2.1, 0, B.2.2.2), ⟨ho.1, ho.2.1, ho.2.2.1, ho.2.2.2.1, ho.2.2.2.2.1, ho.2.2.2.2.2.1, ho.2.2.2.2.2.2.1, ho.2.2.2.2.2.2.2.1, ho.2.2.2.2.2.2.2.2.1, Nat.zero_le _⟩, hc.text ho.2.2.2.2.1 ho.2.2.2.2.2 (tn := 0) (fun i i1 _ => vv_up_r i1) vv_up_s (fun k hk => by omega), hm.misc (fun i i0 i1 i2 i3 => vv_up_r i0) ⟨by rw [vv_up_i (by decide)]; exact k1, fun j hj => (k2 j hj).mv (fun i a b => vv_up_r (by omega)), by rw [vv_up_i (by decide)]; exact k3, by rw [vv_up_r (show (25 : Nat) ≠ 0 by decide), vv_up_r (show (26 : Nat) ≠ 0 by decide)]; exact k4, vv_up_s, fun k hk => absurd hk (Nat.not_lt_zero _)⟩⟩
theorem sim_forget {c m : vv_S} (h : Rel c m) : wX8_forget c (fun x s => wX9_forget m (fun y t => x = y ∧ Rel s t)) := by
  obtain ⟨P, D, A, Q, B, ho, hc, hm⟩ := h
  unfold wX8_forget wX6_size wX6_clear wX9_forget
  rintro _ rfl _ rfl _ rfl
  obtain ⟨-, -, -, -, k1, k2, k3, k4, k5, k6⟩ := id hm
  refine ⟨by rw [hc.2.2.2.2.2.2.1, k3], P, D, A, Q, (B.1, (0, B.2.1.2), B.2.2), ⟨ho.1, ho.2.1, ho.2.2.1, ho.2.2.2.1, ho.2.2.2.2.1, ho.2.2.2.2.2.1, ho.2.2.2.2.2.2.1, Nat.zero_le _, fun k hk => absurd hk (Nat.not_lt_zero _), ho.2.2.2.2.2.2.2.2.2⟩, hc.seen ho.2.2.2.2.1 ho.2.2.2.2.2 (sn := 0) (fun i i1 _ _ => vv_up_r i1) vv_up_s (fun k hk => by omega), hm.misc (fun i i0 i1 i2 i3 => vv_up_r i0) ⟨by rw [vv_up_i (by decide)]; exact k1, fun j hj => (k2 j hj).mv (fun i a b => vv_up_r (by omega)), vv_up_s, fun k hk => absurd hk (Nat.not_lt_zero _), by rw [vv_up_i (by decide)]; exact k5, by rw [vv_up_r (show (1 : Nat) ≠ 0 by decide)]; exact k6⟩⟩
theorem sim_write {a : Int32} {c m : vv_S} (h : Rel c m) : wX8_write a c (fun x s => wX9_write a m (fun y t => x = y ∧ Rel s t)) := by
  have hR := h
  obtain ⟨P, D, A, Q, B, ho, hc, hm⟩ := h
  obtain ⟨-, -, -, -, k1, k2, k3, k4, k5, k6⟩ := id hm
  have ht : B.2.2.1 ≤ 200 := ho.2.2.2.2.2.2.2.2.2
  have c5 : c 1 1 = nI B.2.2.1 := hc.2.2.2.2.2.2.2.2.1
  have c6 := hc.2.2.2.2.2.2.2.2.2
  unfold wX8_write
  refine s_within (fun q => ⟨fun _ => ?_, fun z => absurd z (by decide)⟩) (fun q => ⟨fun z => absurd rfl z, fun _ => ?_⟩)
  · have hcl : (nI B.2.2.1).toNatClampNeg = B.2.2.1 := nI_clamp (by omega)
    have e200 : (200 : Int32) = nI 200 := by decide
    unfold wX7_add wX7_size wX9_write
    rw [c5, hcl]
    refine jn_of (fun f => ¬ B.2.2.1 < 200 → f) ?_ ?_
    · intro hz
      refine ⟨fun _ => ?_, fun z => absurd rfl z⟩
      refine s_inM (by decide) (by decide) (fun _ => ⟨fun _ => ⟨fun z => absurd ?_ z, fun _ => ⟨rfl, hR⟩⟩, fun z => absurd z (by decide)⟩) (fun z => absurd q z)
      rw [k5, e200, show B.2.2.1 = 200 by omega]
    · intro f hf
      refine ⟨fun z => absurd z (nI_pos (by omega)), fun _ => ⟨fun z => ?_, fun z => hf (fun y => z ?_)⟩⟩
      · rw [e200, nI_ltI (by omega) (by decide)] at z
        refine ⟨vp_in_nI z (by decide), ?_⟩
        rintro _ rfl _ rfl
        refine ⟨fun y => absurd y (by decide), fun _ => ?_⟩
        rw [vv_up_s, vv_up_c (show (1 : Nat) ≠ 2 by decide), c5, nI_1]
        refine s_inM (by decide) (by decide) (fun _ => ⟨fun _ => ⟨fun _ => ?_, fun y => absurd y ?_⟩, fun y => absurd y (by decide)⟩) (fun z => absurd q z)
        · rw [k5, hcl]
          refine ⟨vp_in_nI z (by decide), ?_⟩
          rintro _ rfl _ rfl
          rw [vv_up_s, vv_up_c (show (0 : Nat) ≠ 1 by decide), k5, nI_1]
          refine ⟨rfl, P, D, A, Q, (B.1, B.2.1, B.2.2.1 + 1, fun k => if k = B.2.2.1 then a else B.2.2.2 k), ⟨ho.1, ho.2.1, ho.2.2.1, ho.2.2.2.1, ho.2.2.2.2.1, ho.2.2.2.2.2.1, ho.2.2.2.2.2.2.1, ho.2.2.2.2.2.2.2.1, ho.2.2.2.2.2.2.2.2.1, z⟩, ?_, ?_⟩
          · refine hc.text ho.2.2.2.2.1 ho.2.2.2.2.2 (fun i i1 i2 => by rw [vv_up_r i1, vv_up_r i2]) vv_up_s (fun k hk => ?_)
            rw [vv_up_c (by decide)]
            by_cases e : k = B.2.2.1
            · rw [e, vv_up_s, if_pos rfl]
            · rw [vv_up_i e, if_neg e]
              exact c6 k (by omega)
          · refine hm.misc (fun i i0 i1 i2 i3 => by rw [vv_up_r i0, vv_up_r i1]) ⟨by rw [vv_up_i (by decide), vv_up_c (by decide)]; exact k1, fun j hj => (k2 j hj).mv (fun i a b => by rw [vv_up_r (by omega), vv_up_r (by omega)]), by rw [vv_up_i (by decide), vv_up_c (by decide)]; exact k3, fun k hk => by rw [vv_up_c (by decide), vv_up_c (by decide), vv_up_c (by decide), vv_up_c (by decide)]; exact k4 k hk, vv_up_s, fun k hk => ?_⟩
            rw [vv_up_c (by decide)]
            show _ = (if k = B.2.2.1 then a else B.2.2.2 k)
            by_cases e : k = B.2.2.1
            · rw [e, vv_up_s, if_pos rfl]
            · rw [vv_up_i e, if_neg e]
              refine k6 k ?_
              have : k < B.2.2.1 + 1 := hk
              omega
        · rw [k5, e200, nI_eq (by omega) (by decide)]
          omega
      · rw [e200]; exact nI_lt y (by decide)
  · unfold wX9_write
    exact s_inM (by decide) (by decide) (fun z => absurd z q) (fun _ => ⟨fun y => absurd rfl y, fun _ => ⟨rfl, hR⟩⟩)
theorem sim_seen {a b : Int32} {c m : vv_S} (h : Rel c m) : wX8_seen a b c (fun x s => wX9_seen a b m (fun y t => x = y ∧ Rel s t)) := by
  have hR := h
  obtain ⟨P, D, A, Q, B, ho, hc, hm⟩ := h
  obtain ⟨-, -, -, -, k1, k2, k3, k4, k5, k6⟩ := id hm
  have ht : B.2.1.1 ≤ 8 := ho.2.2.2.2.2.2.2.1
  have hv := ho.2.2.2.2.2.2.2.2.1
  have c5 : c 66 2 = nI B.2.1.1 := hc.2.2.2.2.2.2.1
  have c6 := hc.2.2.2.2.2.2.2.1
  have bad : ¬ (((0 : Int32) ≤ a ∧ a ≤ 60) ∧ ((1 : Int32) ≤ b ∧ b ≤ 99)) → wX9_seen a b m (fun y t => -1 = y ∧ Rel c t) := by
    intro hz
    unfold wX9_seen
    refine s_inM (lo := 0) (hi := 60) (by decide) (by decide) (fun q1 => ?_) (fun q1 => ?_)
    · refine jn_of (fun f => f m) ⟨rfl, hR⟩ (fun f hf => ⟨fun _ => hf, fun _ => s_inM (lo := 1) (hi := 99) (by decide) (by decide) (fun q2 => absurd ⟨q1, q2⟩ hz) (fun _ => ⟨fun y => absurd rfl y, fun _ => hf⟩)⟩)
    · exact jn_of (fun f => f m) ⟨rfl, hR⟩ (fun f hf => ⟨fun _ => hf, fun y => absurd rfl y⟩)
  unfold wX8_seen
  refine s_within (fun q1 => ?_) (fun q1 => ?_)
  · refine jn_of (fun f => ¬ ((1 : Int32) ≤ b ∧ b ≤ 99) → f c) (fun z => bad (fun y => z y.2)) (fun f hf => ⟨fun z => absurd z (by decide), fun _ => s_within (fun q2 => ⟨fun _ => ?_, fun z => absurd z (by decide)⟩) (fun q2 => ⟨fun y => absurd rfl y, fun _ => hf q2⟩)⟩)
    clear hf
    obtain ⟨ha, ha60, rfl⟩ := rng (N := 60) (by decide) q1.1 q1.2
    obtain ⟨hb, hb1, hb99, rfl⟩ := rng1 (L := 1) (N := 99) (by decide) (by decide) q2.1 q2.2
    have hcl : (nI B.2.1.1).toNatClampNeg = B.2.1.1 := nI_clamp (by omega)
    unfold wX6_add wX6_size wX9_seen
    rw [c5, hcl, vn8]
    refine jn_of (fun f => ¬ B.2.1.1 < 8 → f) ?_ ?_
    · intro hz
      refine ⟨fun _ => ?_, fun z => absurd rfl z⟩
      refine s_inM (by decide) (by decide) (fun _ => jn_of (fun _ => True) trivial (fun f _ => ⟨fun z => absurd z (by decide), fun _ => s_inM (by decide) (by decide) (fun _ => ⟨fun _ => ⟨fun z => absurd ?_ z, fun _ => ⟨rfl, hR⟩⟩, fun z => absurd z (by decide)⟩) (fun z => absurd q2 z)⟩)) (fun z => absurd q1 z)
      rw [k3, show B.2.1.1 = 8 by omega]
    · intro f hf
      refine ⟨fun z => absurd z (nI_pos (by omega)), fun _ => ⟨fun z => ?_, fun z => hf (fun y => z (nI_lt y (by decide)))⟩⟩
      rw [nI_ltI (by omega) (by decide)] at z
      refine ⟨vp_in_nI z (by decide), ?_⟩
      rintro _ rfl
      rw [vv_up_c (show (66 : Nat) ≠ 67 by decide), c5, hcl]
      refine ⟨vp_in_nI z (by decide), ?_⟩
      rintro _ rfl _ rfl
      refine ⟨fun y => absurd y (by decide), fun _ => ?_⟩
      rw [vv_up_s, vv_up_c (show (66 : Nat) ≠ 68 by decide), vv_up_c (show (66 : Nat) ≠ 67 by decide), c5, nI_1]
      refine s_inM (by decide) (by decide) (fun _ => jn_of (fun _ => True) trivial (fun f _ => ⟨fun z => absurd z (by decide), fun _ => s_inM (by decide) (by decide) (fun _ => ⟨fun _ => ⟨fun _ => ?_, fun y => absurd y ?_⟩, fun z => absurd z (by decide)⟩) (fun z => absurd q2 z)⟩)) (fun z => absurd q1 z)
      · rw [k3, hcl]
        refine ⟨vp_in_nI z (by decide), ?_⟩
        rintro _ rfl
        rw [vv_up_c (show (0 : Nat) ≠ 25 by decide), k3, hcl]
        refine ⟨vp_in_nI z (by decide), ?_⟩
        rintro _ rfl _ rfl
        rw [vv_up_s, vv_up_c (show (0 : Nat) ≠ 26 by decide), vv_up_c (show (0 : Nat) ≠ 25 by decide), k3, nI_1]
        refine ⟨rfl, P, D, A, Q, (B.1, (B.2.1.1 + 1, uN B.2.1.2.1 B.2.1.1 ha, uN B.2.1.2.2 B.2.1.1 hb), B.2.2), ⟨ho.1, ho.2.1, ho.2.2.1, ho.2.2.2.1, ho.2.2.2.2.1, ho.2.2.2.2.2.1, ho.2.2.2.2.2.2.1, z, fun k hk => ?_, ho.2.2.2.2.2.2.2.2.2⟩, ?_, ?_⟩
        · show uN _ _ _ k ≤ 60 ∧ 1 ≤ uN _ _ _ k ∧ uN _ _ _ k ≤ 99
          have hk' : k < B.2.1.1 + 1 := hk
          by_cases e : k = B.2.1.1
          · rw [e, uN_s, uN_s]; exact ⟨ha60, hb1, hb99⟩
          · rw [uN_n e, uN_n e]; exact hv k (by omega)
        · refine hc.seen ho.2.2.2.2.1 ho.2.2.2.2.2 (fun i i1 i2 i3 => by rw [vv_up_r i1, vv_up_r i3, vv_up_r i2]) vv_up_s (fun k hk => ?_)
          rw [vv_up_c (by decide), vv_up_c (by decide), vv_up_c (show (68 : Nat) ≠ 66 by decide)]
          by_cases e : k = B.2.1.1
          · rw [e, uN_s, uN_s, vv_up_s, vv_up_s]; exact ⟨rfl, rfl⟩
          · rw [uN_n e, uN_n e, vv_up_i e, vv_up_i e, vv_up_c (by decide)]; exact c6 k (by omega)
        · refine hm.misc (fun i i0 i1 i2 i3 => by rw [vv_up_r i0, vv_up_r i3, vv_up_r i2]) ⟨by rw [vv_up_i (by decide), vv_up_c (by decide), vv_up_c (by decide)]; exact k1, fun j hj => (k2 j hj).mv (fun i a b => by rw [vv_up_r (by omega), vv_up_r (by omega), vv_up_r (by omega)]), vv_up_s, fun k hk => ?_, by rw [vv_up_i (by decide), vv_up_c (by decide), vv_up_c (by decide)]; exact k5, by rw [vv_up_r (show (1 : Nat) ≠ 0 by decide), vv_up_r (show (1 : Nat) ≠ 26 by decide), vv_up_r (show (1 : Nat) ≠ 25 by decide)]; exact k6⟩
          have hk' : k < B.2.1.1 + 1 := hk
          rw [vv_up_c (by decide), vv_up_c (by decide), vv_up_c (show (26 : Nat) ≠ 0 by decide)]
          show _ = nI (uN _ _ _ k) ∧ _ = nI (uN _ _ _ k)
          by_cases e : k = B.2.1.1
          · rw [e, uN_s, uN_s, vv_up_s, vv_up_s]; exact ⟨rfl, rfl⟩
          · rw [uN_n e, uN_n e, vv_up_i e, vv_up_i e, vv_up_c (by decide)]; exact k4 k (by omega)
      · rw [k3, nI_eq (by omega) (by decide)]
        omega
  · exact jn_of (fun f => f c) (bad (fun y => q1 y.1)) (fun f hf => ⟨fun _ => hf, fun y => absurd rfl y⟩)

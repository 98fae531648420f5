theorem s_go {P : vP} (hP : pOk P) {b : Nat} (hb : b < 2) {D : vD} (hD : dOk P D) {x : Nat} (hx : x ≤ 60) (hm : dM D ≤ 2000) {m : vv_S} {post : vv_S → Prop} (hc : PM P m) (h0 : DM P b D m)
    (k : ∀ m', FrG b m m' → DM P b (mn P D x) m' → m' 0 38 = nI (mnV P D x) → m' 0 39 = nI (mnP P D) → m' 0 40 = brk (mnB P D x) → post m') : wX9_go (nI b) (nI x) m post := by
  obtain ⟨r1, r4, r5, r6, r7⟩ := h0
  have hw1 := mn1_bd hP hD hx
  have hbt := edP_ta hP (dH D)
  have hbe := edP_le hP (dH D)
  obtain ⟨hn1, hn8, -, -, -, -, hA, hS, hcm, -⟩ := id hP
  have hbc : (nI b).toNatClampNeg = b := nI_clamp (by omega)
  have hin : vp_in (nI b) 2 := vp_in_nI hb (by decide)
  unfold wX9_go
  rw [hbc]
  refine ⟨hin, hin, ?_⟩
  rintro _ rfl
  have em : m 32 b + 1 = nI (dM D + 1) := by rw [r5, nI_1]
  rw [em, vv_up_s]
  have hc1 : CM P (vv_up m 32 b (nI (dM D + 1))) := (hc.moved (fun i i1 i2 => vv_up_r (by omega))).2.2.2.2.2.1
  refine ⟨hin, hin, s_comesInM hc1 (by omega) ⟨hin, ?_⟩⟩
  rintro _ rfl
  have ew : vv_up m 32 b (nI (dM D + 1)) 31 b + (nI (pC P (dM D + 1)) + nI x) = nI (mn1 P D x) := by
    rw [vv_up_c (by decide), r4, nI_add, nI_add]
    rfl
  rw [ew]
  generalize hc5 : vv_up (vv_up m 32 b (nI (dM D + 1))) 31 b (nI (mn1 P D x)) = c5
  have f5 : ∀ i, i ≠ 31 → i ≠ 32 → c5 i = m i := fun i h1 h2 => by rw [← hc5, vv_up_r h1, vv_up_r h2]
  have g31 : ∀ i, c5 31 i = if i = b then nI (mn1 P D x) else m 31 i := fun i => by
    rw [← hc5, vv_up_app]
    by_cases z : i = b
    · rw [if_pos ⟨rfl, z⟩, if_pos z]
    · rw [if_neg (fun y => z y.2), if_neg z, vv_up_c (by decide)]
  have g32 : ∀ i, c5 32 i = if i = b then nI (dM D + 1) else m 32 i := fun i => by
    rw [← hc5, vv_up_c (by decide), vv_up_app]
    by_cases z : i = b
    · rw [if_pos ⟨rfl, z⟩, if_pos z]
    · rw [if_neg (fun y => z y.2), if_neg z]
  have v31 : c5 31 b = nI (mn1 P D x) := by rw [g31, if_pos rfl]
  have hc5' : PM P c5 := hc.moved (fun i i1 i2 => f5 i (by omega) (by omega))
  obtain ⟨p2, p50, p51, p60, p61, -, -⟩ := id hc5'
  rw [v31]
  refine ⟨hin, s_levelOfM hA hS p60 p61 (by omega) ?_⟩
  have hl60 := lv_le (pA P) (pS P) (mn1 P D x) 60
  have hss := sp_sum (lv (pA P) (pS P) (mn1 P D x) 60) (dH D) (dO D) (pN P)
  have hcells : ∀ k, k < pN P → c5 28 (8 * b + k) = nI (dH D k) ∧ c5 29 (8 * b + k) = nI (dO D k) := fun k hk => by
    rw [f5 28 (by decide) (by decide), f5 29 (by decide) (by decide)]
    exact ⟨(r1 k hk).1, (r1 k hk).2.1⟩
  have hb1 : sU (sp1 (lv (pA P) (pS P) (mn1 P D x) 60) (dH D) (dO D)) (pN P) ≤ pN P * 60 := sU_le (pN P) (fun k _ => by
    unfold sp1
    split
    · omega
    · split
      · omega
      · split <;> omega)
  refine jn_of (fun k => k (nI (sU (sp1 (lv (pA P) (pS P) (mn1 P D x) 60) (dH D) (dO D)) (pN P)))) ?_ (fun k' hk' => s_seepM hP hb hD.1 hl60 p2 hcells hk')
  rw [v31]
  refine ⟨hin, jn_of (fun k => k (nI (mnS P D x))) ?_ ?_⟩
  · refine ⟨hin, hin, ?_⟩
    rintro _ rfl
    have hsle : mnS P D x ≤ mn1 P D x := by unfold mnS; omega
    rw [pk_sub hsle]
    refine ⟨hin, hin, ?_⟩
    rintro _ rfl
    rw [vv_up_c (show (34 : Nat) ≠ 31 by decide), f5 34 (by decide) (by decide), r7, nI_add]
    generalize hc6 : vv_up (vv_up c5 31 b (nI (mn1 P D x - mnS P D x))) 34 b (nI (dS D + mnS P D x)) = c6
    have f6 : ∀ i, i ≠ 31 → i ≠ 32 → i ≠ 34 → c6 i = m i := fun i h1 h2 h3 => by rw [← hc6, vv_up_r h3, vv_up_r h1, f5 i h1 h2]
    have v6 : c6 31 b = nI (mn1 P D x - mnS P D x) := by rw [← hc6, vv_up_c (by decide), vv_up_s]
    have hc6' : PM P c6 := hc.moved (fun i i1 i2 => f6 i (by omega) (by omega) (by omega))
    obtain ⟨q2, q50, q51, q60, q61, -, -⟩ := id hc6'
    have hH6 : HM P b (dH D) c6 := fun k hk => by
      rw [f6 28 (by decide) (by decide) (by decide)]
      exact ⟨(r1 k hk).1, (hD.1 k hk).1⟩
    refine s_edgeOf hP hb q2 q50 q51 hH6 (s_takesM q60 q61 (by omega) ⟨hin, ?_⟩)
    rw [v6]
    refine jn_of (fun k => k (nI (mnV P D x))) ?_ ?_
    · rintro _ rfl
      have hH7 : HM P b (dH D) (vv_up c6 0 38 (nI (mnV P D x))) := fun k hk => by
        rw [vv_up_c (by decide)]
        exact hH6 k hk
      refine s_placeOf hP hb (by rw [vv_up_c (by decide), q2]) (by rw [vv_up_c (by decide), q50]) (by rw [vv_up_c (by decide), q51]) hH7 ?_
      rintro _ rfl _ rfl
      refine ⟨hin, hin, ?_⟩
      rintro _ rfl
      rw [vv_up_i (show (38 : Nat) ≠ 40 by decide), vv_up_i (show (38 : Nat) ≠ 39 by decide), vv_up_s, vv_up_c (show (31 : Nat) ≠ 0 by decide), vv_up_c (show (31 : Nat) ≠ 0 by decide), vv_up_c (show (31 : Nat) ≠ 0 by decide), v6]
      have hVle : mnV P D x ≤ mn1 P D x - mnS P D x := by unfold mnV; omega
      rw [pk_sub hVle]
      refine ⟨hin, hin, ?_⟩
      rintro _ rfl
      rw [vv_up_c (show (33 : Nat) ≠ 31 by decide), vv_up_c (show (33 : Nat) ≠ 0 by decide), vv_up_c (show (33 : Nat) ≠ 0 by decide), vv_up_c (show (33 : Nat) ≠ 0 by decide), f6 33 (by decide) (by decide) (by decide), r6, vv_up_c (show (0 : Nat) ≠ 31 by decide), vv_up_i (show (38 : Nat) ≠ 40 by decide), vv_up_i (show (38 : Nat) ≠ 39 by decide), vv_up_s, nI_add]
      generalize hc12 : vv_up (vv_up (vv_up (vv_up (vv_up c6 0 38 (nI (mnV P D x))) 0 39 (nI (edP P (dH D)).2)) 0 40 (-4)) 31 b (nI (mn1 P D x - mnS P D x - mnV P D x))) 33 b (nI (dV D + mnV P D x)) = c12
      have y13 : c12 0 38 = nI (mnV P D x) := by rw [← hc12, vv_up_c (by decide), vv_up_c (by decide), vv_up_i (by decide), vv_up_i (by decide), vv_up_s]
      have y14 : c12 0 39 = nI (mnP P D) := by rw [← hc12, vv_up_c (by decide), vv_up_c (by decide), vv_up_i (by decide), vv_up_s]; rfl
      have y15 : c12 0 40 = -4 := by rw [← hc12, vv_up_c (by decide), vv_up_c (by decide), vv_up_s]
      have f12 : ∀ i, i ≠ 0 → i ≠ 31 → i ≠ 32 → i ≠ 33 → i ≠ 34 → c12 i = m i := fun i h0 h1 h2 h3 h4 => by rw [← hc12, vv_up_r h3, vv_up_r h1, vv_up_r h0, vv_up_r h0, vv_up_r h0, f6 i h1 h2 h4]
      have g0 : ∀ i, i ≠ 38 → i ≠ 39 → i ≠ 40 → c12 0 i = m 0 i := fun i h1 h2 h3 => by rw [← hc12, vv_up_c (by decide), vv_up_c (by decide), vv_up_i h3, vv_up_i h2, vv_up_i h1, f6 0 (by decide) (by decide) (by decide)]
      have w31 : c12 31 b = nI (mn1 P D x - mnS P D x - mnV P D x) := by rw [← hc12, vv_up_c (by decide), vv_up_s]
      have w32 : c12 32 b = nI (dM D + 1) := by rw [← hc12, vv_up_c (by decide), vv_up_c (by decide), vv_up_c (by decide), vv_up_c (by decide), vv_up_c (by decide), ← hc6, vv_up_c (by decide), vv_up_c (by decide), g32, if_pos rfl]
      have w33 : c12 33 b = nI (dV D + mnV P D x) := by rw [← hc12, vv_up_s]
      have w34 : c12 34 b = nI (dS D + mnS P D x) := by rw [← hc12, vv_up_c (by decide), vv_up_c (by decide), vv_up_c (by decide), vv_up_c (by decide), vv_up_c (by decide), ← hc6, vv_up_s]
      have ot : ∀ i, i ≠ b → c12 31 i = m 31 i ∧ c12 32 i = m 32 i ∧ c12 33 i = m 33 i ∧ c12 34 i = m 34 i := fun i hi => by
        refine ⟨?_, ?_, ?_, ?_⟩
        · rw [← hc12, vv_up_c (by decide), vv_up_i hi, vv_up_c (by decide), vv_up_c (by decide), vv_up_c (by decide), ← hc6, vv_up_c (by decide), vv_up_i hi, g31, if_neg hi]
        · rw [← hc12, vv_up_c (by decide), vv_up_c (by decide), vv_up_c (by decide), vv_up_c (by decide), vv_up_c (by decide), ← hc6, vv_up_c (by decide), vv_up_c (by decide), g32, if_neg hi]
        · rw [← hc12, vv_up_i hi, vv_up_c (by decide), vv_up_c (by decide), vv_up_c (by decide), vv_up_c (by decide), f6 33 (by decide) (by decide) (by decide)]
        · rw [← hc12, vv_up_c (by decide), vv_up_c (by decide), vv_up_c (by decide), vv_up_c (by decide), vv_up_c (by decide), ← hc6, vv_up_i hi, vv_up_c (by decide), f5 34 (by decide) (by decide)]
      clear hc12
      refine jn_of (fun k => ∀ σ : vv_S, FrG b m σ → DM P b (mn P D x) σ → σ 0 38 = nI (mnV P D x) → σ 0 39 = nI (mnP P D) → σ 0 40 = brk (mnB P D x) → k σ) k ?_
      intro kk hkk
      have c28 : c12 28 = m 28 := f12 28 (by decide) (by decide) (by decide) (by decide) (by decide)
      have c29 : c12 29 = m 29 := f12 29 (by decide) (by decide) (by decide) (by decide) (by decide)
      have c30 : c12 30 = m 30 := f12 30 (by decide) (by decide) (by decide) (by decide) (by decide)
      have same : mnB P D x = 100 → ¬ (0 < mnV P D x ∧ mnP P D < 8) → kk c12 := by
        intro hb2 hh
        refine hkk c12 ⟨fun i h0 h1 h2 h3 h4 h5 h6 => f12 i h0 h3 h4 h5 h6, g0, fun k hk => by rw [c28, c30]; exact ⟨rfl, rfl⟩, ot⟩ ⟨fun j hj => ?_, w31, w32, w33, w34⟩ y13 y14 (by rw [y15, hb2]; rfl)
        rw [c28, c29, c30]
        show m 28 (8 * b + j) = nI ((if _ then _ else _ : Nat → Nat) j) ∧ _ ∧ m 30 (8 * b + j) = nI ((if _ then _ else _ : Nat → Nat) j)
        rw [if_neg hh, hb2, if_neg (by decide)]
        exact r1 j hj
      rw [y13, y14]
      have hV30 : mnV P D x < 2 ^ 30 := by omega
      have hp100 : mnP P D < 2 ^ 30 := by rcases mnP_le hP D with z | z | z <;> omega
      rw [vn0, vn8, nI_leI (by omega) (by decide), nI_leI (by decide) (by omega)]
      refine ⟨fun q => same ?_ (fun z => by omega), fun q => ⟨fun q2 => same ?_ (fun z => by omega), fun q2 => ?_⟩⟩
      · unfold mnB
        rw [if_neg (fun z => by omega)]
      · unfold mnB
        rw [if_neg (fun z => by omega)]
      have hV : 0 < mnV P D x := by omega
      have hp8 : mnP P D < 8 := by omega
      have hpn := mnP_lt hP hp8
      obtain ⟨b1, b2⟩ := hD.1 _ hpn
      obtain ⟨u1, u2, u3⟩ := r1 _ hpn
      have hH13 : ∀ (σ : vv_S), σ 28 = vv_up c12 28 (8 * b + mnP P D) (nI (dH D (mnP P D) - wr (dO D (mnP P D)) (dM D + 1))) 28 → ∀ j, j < pN P → σ 28 (8 * b + j) = nI (uN (dH D) (mnP P D) (dH D (mnP P D) - wr (dO D (mnP P D)) (dM D + 1)) j) := by
        intro σ hσ j hj
        rw [hσ]
        by_cases ej : j = mnP P D
        · subst ej
          rw [vv_up_s, uN_s]
        · rw [vv_up_i (by omega), uN_n ej, c28, (r1 j hj).1]
      refine s_wear hb hp8 b1 b2 (by omega) (by rw [c28, u1]) (by rw [c29, u2]) w32 ?_ ?_
      · intro hh
        have hb2 : mnB P D x = 100 := by
          unfold mnB
          rw [if_neg (fun z => hh ⟨z.2.2.1, z.2.2.2⟩)]
        generalize hc13 : vv_up c12 28 (8 * b + mnP P D) (nI (dH D (mnP P D) - wr (dO D (mnP P D)) (dM D + 1))) = c13
        have f13 : ∀ i, i ≠ 28 → c13 i = c12 i := fun i hi => by rw [← hc13, vv_up_r hi]
        refine hkk c13 ⟨fun i h0 h1 h2 h3 h4 h5 h6 => by rw [f13 i h1, f12 i h0 h3 h4 h5 h6], fun i h1 h2 h3 => by rw [f13 0 (by decide), g0 i h1 h2 h3], fun k hk => ?_, fun i hi => ?_⟩ ⟨fun j hj => ?_, ?_, ?_, ?_, ?_⟩ ?_ ?_ ?_
        · rw [f13 30 (by decide), c30, ← hc13, vv_up_i (by omega), c28]
          exact ⟨rfl, rfl⟩
        · rw [f13 31 (by decide), f13 32 (by decide), f13 33 (by decide), f13 34 (by decide)]
          exact ot i hi
        · rw [f13 29 (by decide), f13 30 (by decide), c29, c30]
          show _ = nI ((if _ then _ else _ : Nat → Nat) j) ∧ _ ∧ m 30 (8 * b + j) = nI ((if _ then _ else _ : Nat → Nat) j)
          rw [if_pos ⟨hV, hp8⟩, hb2, if_neg (by decide)]
          exact ⟨hH13 c13 (by rw [hc13]) j hj, (r1 j hj).2.1, (r1 j hj).2.2⟩
        · rw [f13 31 (by decide), w31]; rfl
        · rw [f13 32 (by decide), w32]; rfl
        · rw [f13 33 (by decide), w33]; rfl
        · rw [f13 34 (by decide), w34]; rfl
        · rw [f13 0 (by decide), y13]
        · rw [f13 0 (by decide), y14]
        · rw [f13 0 (by decide), y15, hb2]; rfl
      · intro h1 h2
        have hb2 : mnB P D x = mnP P D := by
          unfold mnB
          rw [if_pos ⟨hV, hp8, h1, h2⟩]
        rw [c30, u3, nI_1]
        generalize hc13 : vv_up (vv_up (vv_up c12 28 (8 * b + mnP P D) (nI (dH D (mnP P D) - wr (dO D (mnP P D)) (dM D + 1)))) 30 (8 * b + mnP P D) (nI (dB D (mnP P D) + 1))) 0 40 (nI (mnP P D)) = c13
        have f13 : ∀ i, i ≠ 0 → i ≠ 28 → i ≠ 30 → c13 i = c12 i := fun i i1 i2 i3 => by rw [← hc13, vv_up_r i1, vv_up_r i3, vv_up_r i2]
        have h28 : c13 28 = vv_up c12 28 (8 * b + mnP P D) (nI (dH D (mnP P D) - wr (dO D (mnP P D)) (dM D + 1))) 28 := by rw [← hc13, vv_up_r (by decide), vv_up_r (by decide)]
        have h0i : ∀ i, i ≠ 40 → c13 0 i = c12 0 i := fun i hi => by rw [← hc13, vv_up_i hi, vv_up_c (by decide), vv_up_c (by decide)]
        have h30 : ∀ j, c13 30 j = if j = 8 * b + mnP P D then nI (dB D (mnP P D) + 1) else m 30 j := by
          intro j
          rw [← hc13, vv_up_c (by decide), vv_up_app]
          by_cases ej : j = 8 * b + mnP P D
          · rw [if_pos ⟨rfl, ej⟩, if_pos ej]
          · rw [if_neg (fun z => ej z.2), if_neg ej, vv_up_c (by decide), c30]
        refine hkk c13 ⟨fun i h0 h1 h2 h3 h4 h5 h6 => by rw [f13 i h0 h1 h2, f12 i h0 h3 h4 h5 h6], fun i h1 h2 h3 => by rw [h0i i h3, g0 i h1 h2 h3], fun k hk => ?_, fun i hi => ?_⟩ ⟨fun j hj => ?_, ?_, ?_, ?_, ?_⟩ ?_ ?_ ?_
        · rw [h28, vv_up_i (by omega), c28, h30, if_neg (by omega)]
          exact ⟨rfl, rfl⟩
        · rw [f13 31 (by decide) (by decide) (by decide), f13 32 (by decide) (by decide) (by decide), f13 33 (by decide) (by decide) (by decide), f13 34 (by decide) (by decide) (by decide)]
          exact ot i hi
        · rw [f13 29 (by decide) (by decide) (by decide), c29, h30]
          show _ = nI ((if _ then _ else _ : Nat → Nat) j) ∧ _ ∧ _ = nI ((if _ then _ else _ : Nat → Nat) j)
          rw [if_pos ⟨hV, hp8⟩, hb2, if_pos hp8]
          refine ⟨hH13 c13 h28 j hj, (r1 j hj).2.1, ?_⟩
          by_cases ej : j = mnP P D
          · rw [if_pos (by omega), ej, uN_s]
          · rw [if_neg (by omega), uN_n ej, (r1 j hj).2.2]
        · rw [f13 31 (by decide) (by decide) (by decide), w31]; rfl
        · rw [f13 32 (by decide) (by decide) (by decide), w32]; rfl
        · rw [f13 33 (by decide) (by decide) (by decide), w33]; rfl
        · rw [f13 34 (by decide) (by decide) (by decide), w34]; rfl
        · rw [h0i 38 (by decide), y13]
        · rw [h0i 39 (by decide), y14]
        · rw [← hc13, vv_up_s, hb2]; unfold brk; rw [if_pos hp8]
    · intro k' hk'
      rw [nI_leI (by omega) (by omega)]
      refine ⟨fun q => ?_, fun q => ⟨hin, ?_⟩⟩
      · rw [show mnV P D x = 0 by unfold mnV; omega] at hk'; exact hk'
      · rw [pk_sub (by omega)]; exact hk'
  · intro k' hk'
    rw [nI_leI (by omega) (by omega)]
    refine ⟨fun q => ⟨hin, ?_⟩, fun q => ?_⟩
    · rw [show mnS P D x = mn1 P D x by unfold mnS; omega] at hk'; exact hk'
    · rw [show mnS P D x = sU (sp1 (lv (pA P) (pS P) (mn1 P D x) 60) (dH D) (dO D)) (pN P) by unfold mnS; omega] at hk'; exact hk'

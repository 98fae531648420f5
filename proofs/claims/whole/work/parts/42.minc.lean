theorem uN_id {f : Nat → Nat} {k v : Nat} (h : v = f k) : uN f k v = f := by
  funext j
  unfold uN
  split
  · next q => rw [q, h]
  · rfl
theorem mn1_bd {P : vP} (hP : pOk P) {D : vD} (hD : dOk P D) {x : Nat} (hx : x ≤ 60) : mn1 P D x ≤ 7615 := by
  obtain ⟨-, -, -, -, -, -, -, -, hc, -⟩ := hP
  have := hc (dM D + 1)
  have := hD.2.1
  unfold mn1
  omega
theorem edP_le {P : vP} (hP : pOk P) (H : Nat → Nat) : (edP P H).1 ≤ 50 := by
  obtain ⟨-, -, -, hl, -⟩ := hP
  have := (eD_le (pN P) (pL P) (pR P) H (pN P)).1
  unfold edP
  omega
theorem edP_ta {P : vP} (hP : pOk P) (H : Nat → Nat) : ta (pA P) (pS P) (edP P H).1 ≤ 7375 := by
  have h1 := edP_le hP H
  obtain ⟨-, -, -, -, -, -, hA, hS, -⟩ := hP
  exact ta_bd50 hA hS h1
theorem mnP_le {P : vP} (hP : pOk P) (D : vD) : mnP P D < pN P ∨ mnP P D = 8 ∨ mnP P D = 9 := eD_place _ _ _ _ _ (Nat.le_refl _)
theorem mnP_lt {P : vP} (hP : pOk P) {D : vD} (h : mnP P D < 8) : mnP P D < pN P := by
  rcases mnP_le hP D with q | q | q <;> omega
/-- how the rows of a dam change in a minute: rows d, d + 1, d + 3 alone -/
def FrD (d : Nat) (c c' : vv_S) : Prop := ∀ i, i ≠ d → i ≠ d + 1 → i ≠ d + 3 → c' i = c i
theorem DE.congr {P : vP} {d : Nat} {H H' O : Nat → Nat} {c : vv_S} (h : H = H') (hd : DE P d H O c) : DE P d H' O c := by subst h; exact hd
def brk (b : Nat) : Int32 := if b < 8 then nI b else -4
theorem s_oneMinute {P : vP} (hP : pOk P) {d : Nat} (hd : is_X3 d) {D : vD} (hD : dOk P D) {x : Nat} (hx : x ≤ 60) (hm : dM D ≤ 2000) {c : vv_S} {post : vv_S → Prop} (hc : PC P c) (h0 : DP P d D c)
    (k : ∀ c', FrD d c c' → DP P d (mn P D x) c' → c' d 13 = nI (mnV P D x) → c' d 14 = nI (mnP P D) → c' d 15 = brk (mnB P D x) → post c') : wX3_oneMinute d (nI x) c post := by
  obtain ⟨hd1, hd2⟩ := is_X3_n hd
  obtain ⟨⟨r1, r2, r4, r5, r6, r7⟩, q8, q9, q10, q11, q12⟩ := h0
  have hw1 := mn1_bd hP hD hx
  have hbt := edP_ta hP (dH D)
  have hbe := edP_le hP (dH D)
  obtain ⟨hn1, hn8, -, -, -, -, hA, hS, hcm, -⟩ := id hP
  unfold wX3_oneMinute wX4_brook
  rintro _ rfl
  have em : c d 5 + 1 = nI (dM D + 1) := by rw [r5, nI_1]
  rw [em, vv_up_s]
  have hc1 : PC P (vv_up c d 5 (nI (dM D + 1))) := by
    obtain ⟨a1, a2, a3, a4, a5, a6, a7⟩ := hc
    have e4 : vv_up c d 5 (nI (dM D + 1)) 4 = c 4 := vv_up_r (by omega)
    have e13 : vv_up c d 5 (nI (dM D + 1)) 13 = c 13 := vv_up_r (by omega)
    have e5 : vv_up c d 5 (nI (dM D + 1)) 5 = c 5 := vv_up_r (by omega)
    have e6 : vv_up c d 5 (nI (dM D + 1)) 6 = c 6 := vv_up_r (by omega)
    unfold PC
    rw [e4, e13, e5, e6]
    exact ⟨a1, a2, a3, a4, a5, a6, a7⟩
  refine s_comesIn hP (by omega) hc1 ?_
  rintro _ rfl
  have ew : vv_up c d 5 (nI (dM D + 1)) d 4 + (nI (pC P (dM D + 1)) + nI x) = nI (mn1 P D x) := by
    rw [vv_up_i (by decide), r4, nI_add, nI_add]
    rfl
  rw [ew]
  generalize hc5 : vv_up (vv_up c d 5 (nI (dM D + 1))) d 4 (nI (mn1 P D x)) = c5
  have f5 : ∀ i, i ≠ d → c5 i = c i := fun i hi => by rw [← hc5, vv_up_r hi, vv_up_r hi]
  have g5 : ∀ i, i ≠ 4 → i ≠ 5 → c5 d i = c d i := fun i h4 h5 => by rw [← hc5, vv_up_i h4, vv_up_i h5]
  have v4 : c5 d 4 = nI (mn1 P D x) := by rw [← hc5, vv_up_s]
  have v5 : c5 d 5 = nI (dM D + 1) := by rw [← hc5, vv_up_i (by decide), vv_up_s]
  have hss := sp_sum (lv (pA P) (pS P) (mn1 P D x) 60) (dH D) (dO D) (pN P)
  have ht1 := sU_le (b := 1) (pN P) (fun k _ => f1_le (dH D) (dO D) k)
  have ht3 := sU_le (b := 1) (pN P) (fun k _ => f3_le (dH D) (dO D) k)
  -- what seeps
  refine jn_of (fun k => ∀ σ : vv_S, (∀ i, i ≠ d → σ i = c i) → (∀ i, i ≠ 4 → i ≠ 5 → i ≠ 7 → σ d i = c d i) → σ d 4 = nI (mn1 P D x - mnS P D x) → σ d 5 = nI (dM D + 1) → σ d 7 = nI (dS D + mnS P D x) → k σ) ?_ ?_
  · intro c6 f6 g6 w4 w5 w7
    rintro _ rfl _ rfl _ rfl _ rfl _ rfl
    have e10 : c6 d 10 = nI (ta (pA P) (pS P) (edP P (dH D)).1) := by rw [g6 10 (by decide) (by decide) (by decide), q10]
    have e9 : c6 d 9 = nI (mnP P D) := by rw [g6 9 (by decide) (by decide) (by decide), q9]; rfl
    have e6 : c6 d 6 = nI (dV D) := by rw [g6 6 (by decide) (by decide) (by decide), r6]
    rw [w4, e10, mx_val (by omega) (by omega), show mn1 P D x - mnS P D x - ta (pA P) (pS P) (edP P (dH D)).1 = mnV P D x from rfl]
    rw [vv_up_i (show (9 : Nat) ≠ 13 by decide), e9]
    have z1 : vv_up (vv_up c6 d 13 (nI (mnV P D x))) d 14 (nI (mnP P D)) d 4 = nI (mn1 P D x - mnS P D x) := by rw [vv_up_i (by decide), vv_up_i (by decide), w4]
    have z2 : vv_up (vv_up c6 d 13 (nI (mnV P D x))) d 14 (nI (mnP P D)) d 13 = nI (mnV P D x) := by rw [vv_up_i (by decide), vv_up_s]
    have hVle : mnV P D x ≤ mn1 P D x - mnS P D x := by unfold mnV; omega
    rw [z1, z2, pk_sub hVle]
    have z3 : vv_up (vv_up (vv_up c6 d 13 (nI (mnV P D x))) d 14 (nI (mnP P D))) d 4 (nI (mn1 P D x - mnS P D x - mnV P D x)) d 6 = nI (dV D) := by rw [vv_up_i (by decide), vv_up_i (by decide), vv_up_i (by decide), e6]
    have z4 : vv_up (vv_up (vv_up c6 d 13 (nI (mnV P D x))) d 14 (nI (mnP P D))) d 4 (nI (mn1 P D x - mnS P D x - mnV P D x)) d 13 = nI (mnV P D x) := by rw [vv_up_i (by decide), z2]
    rw [z3, z4, nI_add]
    generalize hc12 : vv_up (vv_up (vv_up (vv_up (vv_up c6 d 13 (nI (mnV P D x))) d 14 (nI (mnP P D))) d 4 (nI (mn1 P D x - mnS P D x - mnV P D x))) d 6 (nI (dV D + mnV P D x))) d 15 (-4) = c12
    have f12 : ∀ i, i ≠ d → c12 i = c i := fun i hi => by rw [← hc12, vv_up_r hi, vv_up_r hi, vv_up_r hi, vv_up_r hi, vv_up_r hi, f6 i hi]
    have g12 : ∀ i, i ≠ 4 → i ≠ 5 → i ≠ 6 → i ≠ 7 → i ≠ 13 → i ≠ 14 → i ≠ 15 → c12 d i = c d i := fun i i4 i5 i6 i7 i13 i14 i15 => by rw [← hc12, vv_up_i i15, vv_up_i i6, vv_up_i i4, vv_up_i i14, vv_up_i i13, g6 i i4 i5 i7]
    have y4 : c12 d 4 = nI (mn1 P D x - mnS P D x - mnV P D x) := by rw [← hc12, vv_up_i (by decide), vv_up_i (by decide), vv_up_s]
    have y5 : c12 d 5 = nI (dM D + 1) := by rw [← hc12, vv_up_i (by decide), vv_up_i (by decide), vv_up_i (by decide), vv_up_i (by decide), vv_up_i (by decide), w5]
    have y6 : c12 d 6 = nI (dV D + mnV P D x) := by rw [← hc12, vv_up_i (by decide), vv_up_s]
    have y7 : c12 d 7 = nI (dS D + mnS P D x) := by rw [← hc12, vv_up_i (by decide), vv_up_i (by decide), vv_up_i (by decide), vv_up_i (by decide), vv_up_i (by decide), w7]
    have y13 : c12 d 13 = nI (mnV P D x) := by rw [← hc12, vv_up_i (by decide), vv_up_i (by decide), vv_up_i (by decide), z2]
    have y14 : c12 d 14 = nI (mnP P D) := by rw [← hc12, vv_up_i (by decide), vv_up_i (by decide), vv_up_i (by decide), vv_up_s]
    have y15 : c12 d 15 = -4 := by rw [← hc12, vv_up_s]
    clear hc12 z1 z2 z3 z4
    -- the end: with the world behind the wearing
    refine jn_of (fun k => ∀ σ : vv_S, FrD d c σ → DP P d (mn P D x) σ → σ d 13 = nI (mnV P D x) → σ d 14 = nI (mnP P D) → σ d 15 = brk (mnB P D x) → k σ) k ?_
    intro kk hkk
    -- where nothing changes of the cells
    have same : mnB P D x = 100 → (0 < mnV P D x ∧ mnP P D < 8 → dH D (mnP P D) - wr (dO D (mnP P D)) (dM D + 1) = dH D (mnP P D)) → kk c12 := by
      intro hb hh
      have eH : (if 0 < mnV P D x ∧ mnP P D < 8 then uN (dH D) (mnP P D) (dH D (mnP P D) - wr (dO D (mnP P D)) (dM D + 1)) else dH D) = dH D := by
        split
        · next q => exact uN_id (hh q)
        · rfl
      refine hkk c12 (fun i i1 i2 i3 => f12 i i1) ⟨⟨fun j hj => ?_, fun j j1 j2 => ?_, y4, y5, y6, y7⟩, ?_⟩ y13 y14 (by rw [y15, hb]; rfl)
      · rw [f12 _ (by omega), f12 _ (by omega), f12 _ (by omega)]
        show c (d + 1) j = nI ((if _ then _ else _ : Nat → Nat) j) ∧ _ ∧ c (d + 3) j = nI ((if _ then _ else _ : Nat → Nat) j)
        rw [eH, hb, if_neg (by decide)]
        exact r1 j hj
      · rw [f12 _ (by omega)]
        exact r2 j j1 j2
      · refine DE.congr (H := dH D) eH.symm ?_
        show DE P d (dH D) (dO D) c12
        refine ⟨?_, ?_, ?_, ?_, ?_⟩
        · rw [g12 8 (by decide) (by decide) (by decide) (by decide) (by decide) (by decide) (by decide), q8]
        · rw [g12 9 (by decide) (by decide) (by decide) (by decide) (by decide) (by decide) (by decide), q9]
        · rw [g12 10 (by decide) (by decide) (by decide) (by decide) (by decide) (by decide) (by decide), q10]
        · rw [g12 11 (by decide) (by decide) (by decide) (by decide) (by decide) (by decide) (by decide), q11]
        · rw [g12 12 (by decide) (by decide) (by decide) (by decide) (by decide) (by decide) (by decide), q12]
    rw [y13, y14]
    have hV30 : mnV P D x < 2 ^ 30 := by omega
    refine ⟨fun q => same ?_ ?_, fun q => ?_⟩
    · have : ¬ 0 < mnV P D x := fun z => nI_nle z (by omega) q
      unfold mnB
      rw [if_neg (fun z => this z.1)]
    · intro z
      exact absurd q (nI_nle z.1 (by omega))
    have hV : 0 < mnV P D x := by
      rcases Nat.eq_zero_or_pos (mnV P D x) with z | z
      · rw [z] at q; exact absurd (by decide) q
      · exact z
    by_cases hp8 : mnP P D < 8
    · have hpn := mnP_lt hP hp8
      obtain ⟨b1, b2⟩ := hD.1 _ hpn
      obtain ⟨u1, u2, u3⟩ := r1 _ hpn
      refine s_wears_lo (h := dH D (mnP P D)) (o := dO D (mnP P D)) (m := dM D + 1) hp8 b1 b2 (by omega) (by rw [f12 _ (by omega), u1]) (by rw [f12 _ (by omega), u2]) y5 ?_ ?_ ?_
      · intro hz
        refine ⟨fun _ => same ?_ ?_, fun h => absurd rfl h⟩
        · unfold mnB
          rw [if_neg (fun z => by omega)]
        · intro _
          omega
      · intro h1 h2
        have hb : mnB P D x = 100 := by
          unfold mnB
          rw [if_neg (fun z => by omega)]
        by_cases hw : 0 < wr (dO D (mnP P D)) (dM D + 1)
        · rw [if_pos hw]
          refine ⟨fun h => absurd h (by decide), fun _ => ?_⟩
          generalize hc13 : vv_up c12 (d + 1) (mnP P D) (nI (dH D (mnP P D) - wr (dO D (mnP P D)) (dM D + 1))) = c13
          have f13 : ∀ i, i ≠ d + 1 → c13 i = c12 i := fun i hi => by rw [← hc13, vv_up_r hi]
          have hH13 : ∀ j, j < pN P → c13 (d + 1) j = nI (uN (dH D) (mnP P D) (dH D (mnP P D) - wr (dO D (mnP P D)) (dM D + 1)) j) ∧ c13 (d + 2) j = nI (dO D j) := by
            intro j hj
            refine ⟨?_, by rw [f13 _ (by omega), f12 _ (by omega), (r1 j hj).2.1]⟩
            rw [← hc13]
            by_cases ej : j = mnP P D
            · subst ej
              rw [vv_up_s, uN_s]
            · rw [vv_up_i ej, uN_n ej, f12 _ (by omega), (r1 j hj).1]
          have hc13' : PC P c13 := by
            obtain ⟨a1, a2, a3, a4, a5, a6, a7⟩ := hc
            have e4 : c13 4 = c 4 := by rw [f13 _ (by omega), f12 _ (by omega)]
            have e13 : c13 13 = c 13 := by rw [f13 _ (by omega), f12 _ (by omega)]
            have e5 : c13 5 = c 5 := by rw [f13 _ (by omega), f12 _ (by omega)]
            have e6 : c13 6 = c 6 := by rw [f13 _ (by omega), f12 _ (by omega)]
            unfold PC
            rw [e4, e13, e5, e6]
            exact ⟨a1, a2, a3, a4, a5, a6, a7⟩
          refine s_survey hP hd (H := uN (dH D) (mnP P D) (dH D (mnP P D) - wr (dO D (mnP P D)) (dM D + 1))) (O := dO D) ?_ hc13' hH13 ?_
          · intro j hj
            refine ⟨?_, (hD.1 j hj).2⟩
            unfold uN
            split
            · omega
            · exact (hD.1 j hj).1
          · intro c' fc gc hE
            refine hkk c' (fun i i1 i2 i3 => by rw [fc i i1, f13 i i2, f12 i i1]) ⟨⟨fun j hj => ?_, fun j j1 j2 => ?_, ?_, ?_, ?_, ?_⟩, ?_⟩ ?_ ?_ ?_
            · rw [fc _ (by omega), fc _ (by omega), fc _ (by omega), f13 (d + 3) (by omega), f12 (d + 3) (by omega)]
              show _ = nI ((if _ then _ else _ : Nat → Nat) j) ∧ _ ∧ c (d + 3) j = nI ((if _ then _ else _ : Nat → Nat) j)
              rw [if_pos ⟨hV, hp8⟩, hb, if_neg (by decide)]
              exact ⟨(hH13 j hj).1, (hH13 j hj).2, (r1 j hj).2.2⟩
            · rw [fc _ (by omega), f13 _ (by omega), f12 _ (by omega)]
              exact r2 j j1 j2
            · rw [gc 4 (by decide), f13 d (by omega), y4]; rfl
            · rw [gc 5 (by decide), f13 d (by omega), y5]; rfl
            · rw [gc 6 (by decide), f13 d (by omega), y6]; rfl
            · rw [gc 7 (by decide), f13 d (by omega), y7]; rfl
            · show DE P d (if _ then _ else _) (dO D) c'
              rw [if_pos ⟨hV, hp8⟩]
              exact hE
            · rw [gc 13 (by decide), f13 d (by omega), y13]
            · rw [gc 14 (by decide), f13 d (by omega), y14]
            · rw [gc 15 (by decide), f13 d (by omega), y15, hb]; rfl
        · rw [if_neg hw]
          refine ⟨fun _ => ?_, fun h => absurd rfl h⟩
          have e0 : wr (dO D (mnP P D)) (dM D + 1) = 0 := by omega
          rw [e0, Nat.sub_zero]
          have : vv_up c12 (d + 1) (mnP P D) (nI (dH D (mnP P D))) = c12 := by
            funext i j
            rw [vv_up_app]
            split
            · next z => rw [z.1, z.2, f12 _ (by omega), u1]
            · rfl
          rw [this]
          exact same hb (fun _ => by omega)
      · intro h1 h2
        have hb : mnB P D x = mnP P D := by
          unfold mnB
          rw [if_pos ⟨hV, hp8, h1, by omega⟩]
        refine ⟨fun h => absurd h (by decide), fun _ => ?_⟩
        rw [f12 (d + 3) (by omega), u3, nI_1]
        generalize hc13 : vv_up (vv_up (vv_up c12 (d + 1) (mnP P D) (nI (dH D (mnP P D) - wr (dO D (mnP P D)) (dM D + 1)))) (d + 3) (mnP P D) (nI (dB D (mnP P D) + 1))) d 15 (nI (mnP P D)) = c13
        have f13 : ∀ i, i ≠ d → i ≠ d + 1 → i ≠ d + 3 → c13 i = c12 i := fun i i1 i2 i3 => by rw [← hc13, vv_up_r i1, vv_up_r i3, vv_up_r i2]
        have g13 : ∀ i, i ≠ 15 → c13 d i = c12 d i := fun i hi => by rw [← hc13, vv_up_i hi, vv_up_c (by omega), vv_up_c (by omega)]
        have hB13 : ∀ j, c13 (d + 3) j = if j = mnP P D then nI (dB D (mnP P D) + 1) else c (d + 3) j := by
          intro j
          rw [← hc13, vv_up_c (by omega), vv_up_app]
          by_cases ej : j = mnP P D
          · rw [if_pos ⟨rfl, ej⟩, if_pos ej]
          · rw [if_neg (fun z => ej z.2), if_neg ej, vv_up_c (by omega), f12 _ (by omega)]
        have hH13 : ∀ j, j < pN P → c13 (d + 1) j = nI (uN (dH D) (mnP P D) (dH D (mnP P D) - wr (dO D (mnP P D)) (dM D + 1)) j) ∧ c13 (d + 2) j = nI (dO D j) := by
          intro j hj
          refine ⟨?_, by rw [f13 _ (by omega) (by omega) (by omega), f12 _ (by omega), (r1 j hj).2.1]⟩
          rw [← hc13, vv_up_c (by omega), vv_up_c (by omega)]
          by_cases ej : j = mnP P D
          · subst ej
            rw [vv_up_s, uN_s]
          · rw [vv_up_i ej, uN_n ej, f12 _ (by omega), (r1 j hj).1]
        have hc13' : PC P c13 := by
          obtain ⟨a1, a2, a3, a4, a5, a6, a7⟩ := hc
          have e4 : c13 4 = c 4 := by rw [f13 _ (by omega) (by omega) (by omega), f12 _ (by omega)]
          have e13 : c13 13 = c 13 := by rw [f13 _ (by omega) (by omega) (by omega), f12 _ (by omega)]
          have e5 : c13 5 = c 5 := by rw [f13 _ (by omega) (by omega) (by omega), f12 _ (by omega)]
          have e6 : c13 6 = c 6 := by rw [f13 _ (by omega) (by omega) (by omega), f12 _ (by omega)]
          unfold PC
          rw [e4, e13, e5, e6]
          exact ⟨a1, a2, a3, a4, a5, a6, a7⟩
        refine s_survey hP hd (H := uN (dH D) (mnP P D) (dH D (mnP P D) - wr (dO D (mnP P D)) (dM D + 1))) (O := dO D) ?_ hc13' hH13 ?_
        · intro j hj
          refine ⟨?_, (hD.1 j hj).2⟩
          unfold uN
          split
          · omega
          · exact (hD.1 j hj).1
        · intro c' fc gc hE
          refine hkk c' (fun i i1 i2 i3 => by rw [fc i i1, f13 i i1 i2 i3, f12 i i1]) ⟨⟨fun j hj => ?_, fun j j1 j2 => ?_, ?_, ?_, ?_, ?_⟩, ?_⟩ ?_ ?_ ?_
          · rw [fc _ (by omega), fc _ (by omega), fc _ (by omega), hB13 j]
            show _ = nI ((if _ then _ else _ : Nat → Nat) j) ∧ _ ∧ _ = nI ((if _ then _ else _ : Nat → Nat) j)
            rw [if_pos ⟨hV, hp8⟩, hb, if_pos hp8]
            refine ⟨(hH13 j hj).1, (hH13 j hj).2, ?_⟩
            unfold uN
            split
            · rfl
            · exact (r1 j hj).2.2
          · rw [fc _ (by omega), hB13 j, if_neg (by omega)]
            exact r2 j j1 j2
          · rw [gc 4 (by decide), g13 4 (by decide), y4]; rfl
          · rw [gc 5 (by decide), g13 5 (by decide), y5]; rfl
          · rw [gc 6 (by decide), g13 6 (by decide), y6]; rfl
          · rw [gc 7 (by decide), g13 7 (by decide), y7]; rfl
          · show DE P d (if _ then _ else _) (dO D) c'
            rw [if_pos ⟨hV, hp8⟩]
            exact hE
          · rw [gc 13 (by decide), g13 13 (by decide), y13]
          · rw [gc 14 (by decide), g13 14 (by decide), y14]
          · rw [gc 15 (by decide), ← hc13, vv_up_s, hb]; unfold brk; rw [if_pos hp8]
    · refine s_wears_hi (by omega) (by rcases mnP_le hP D with z | z | z <;> omega) ⟨fun _ => same ?_ ?_, fun h => absurd rfl h⟩
      · unfold mnB
        rw [if_neg (fun z => by omega)]
      · intro z
        omega
  · intro kk hkk
    have t1 : c5 d 11 = nI (sU (f1 (dH D) (dO D)) (pN P)) := by rw [g5 11 (by decide) (by decide), q11]
    have t3 : c5 d 12 = nI (sU (f3 (dH D) (dO D)) (pN P)) := by rw [g5 12 (by decide) (by decide), q12]
    have s7 : c5 d 7 = nI (dS D) := by rw [g5 7 (by decide) (by decide), r7]
    rw [t1, t3, nI_add]
    refine ⟨fun q => ?_, fun q => ?_⟩
    · have hz : sU (f1 (dH D) (dO D)) (pN P) + sU (f3 (dH D) (dO D)) (pN P) = 0 := by
        rcases Nat.eq_zero_or_pos (sU (f1 (dH D) (dO D)) (pN P) + sU (f3 (dH D) (dO D)) (pN P)) with z | z
        · exact z
        · exact absurd q (nI_nle z (by omega))
      have hs : mnS P D x = 0 := by
        unfold mnS
        rw [hss, show sU (f1 (dH D) (dO D)) (pN P) = 0 by omega, show sU (f3 (dH D) (dO D)) (pN P) = 0 by omega]
        omega
      exact hkk c5 f5 (fun i i4 i5 _ => g5 i i4 i5) (by rw [v4, hs]; rfl) v5 (by rw [s7, hs]; rfl)
    · rw [v4]
      have hc5' : PC P c5 := by
        obtain ⟨a1, a2, a3, a4, a5, a6, a7⟩ := hc
        unfold PC
        rw [f5 4 (by omega), f5 13 (by omega), f5 5 (by omega), f5 6 (by omega)]
        exact ⟨a1, a2, a3, a4, a5, a6, a7⟩
      refine s_levelOf hP (by omega) hc5'.2.2.2.1 hc5'.2.2.2.2.1 ?_
      rintro _ rfl _ rfl _ rfl
      have hl60 := lv_le (pA P) (pS P) (mn1 P D x) 60
      have es : (if c5 d 11 * (nI (lv (pA P) (pS P) (mn1 P D x) 60) / 8) + c5 d 12 * (nI (lv (pA P) (pS P) (mn1 P D x) 60) / 3) < c5 d 4 then c5 d 11 * (nI (lv (pA P) (pS P) (mn1 P D x) 60) / 8) + c5 d 12 * (nI (lv (pA P) (pS P) (mn1 P D x) 60) / 3) else c5 d 4) = nI (mnS P D x) := by
        rw [t1, t3, v4, vn8, vn3, pk_div (by omega) (by decide) (by decide), pk_div (by omega) (by decide) (by decide), pk_mul, pk_mul, nI_add, ← hss]
        have hb1 : sU (sp1 (lv (pA P) (pS P) (mn1 P D x) 60) (dH D) (dO D)) (pN P) ≤ pN P * 60 := sU_le (pN P) (fun k _ => by
          unfold sp1
          split
          · omega
          · split
            · omega
            · split <;> omega)
        unfold mnS
        by_cases z : sU (sp1 (lv (pA P) (pS P) (mn1 P D x) 60) (dH D) (dO D)) (pN P) < mn1 P D x
        · rw [if_pos (nI_lt z (by omega)), show min (sU (sp1 (lv (pA P) (pS P) (mn1 P D x) 60) (dH D) (dO D)) (pN P)) (mn1 P D x) = sU (sp1 (lv (pA P) (pS P) (mn1 P D x) 60) (dH D) (dO D)) (pN P) by omega]
        · rw [if_neg (nI_nlt (by omega) (by omega)), show min (sU (sp1 (lv (pA P) (pS P) (mn1 P D x) 60) (dH D) (dO D)) (pN P)) (mn1 P D x) = mn1 P D x by omega]
      rw [es]
      have hsle : mnS P D x ≤ mn1 P D x := by unfold mnS; omega
      refine hkk _ (fun i hi => by rw [vv_up_r hi, vv_up_r hi, f5 i hi]) (fun i i4 i5 i7 => by rw [vv_up_i i7, vv_up_i i4, g5 i i4 i5]) ?_ ?_ ?_
      · rw [vv_up_i (by decide), vv_up_s, v4, pk_sub hsle]
      · rw [vv_up_i (by decide), vv_up_i (by decide), v5]
      · rw [vv_up_s, vv_up_i (by decide), s7, nI_add]

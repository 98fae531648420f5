def hsz (i : Nat) : Nat := [0, 0, 1, 8, 8, 2, 2, 1, 4, 4, 1, 4, 4, 4, 1, 16, 1, 5, 5, 5].getD i 0
def FrT (m m' : vv_S) : Prop := (∀ i, i = 1 ∨ (20 ≤ i ∧ i ≠ 27) → m' i = m i) ∧ (∀ j, j ≠ 29 → m' 0 j = m 0 j) ∧ ∀ i j, 2 ≤ i → i ≤ 19 → j < hsz i → m' i j = m i j
theorem FrT.rf {m : vv_S} : FrT m m := ⟨fun _ _ => rfl, fun _ _ => rfl, fun _ _ _ _ _ => rfl⟩
theorem FrT.trans {m m' m2 : vv_S} (h : FrT m m') (g : FrT m' m2) : FrT m m2 := ⟨fun i a => by rw [g.1 i a, h.1 i a], fun j a => by rw [g.2.1 j a, h.2.1 j a], fun i j a b d => by rw [g.2.2 i j a b d, h.2.2 i j a b d]⟩
theorem FrT.up {m : vv_S} {i j : Nat} {v : Int32} (h1 : 2 ≤ i) (h2 : i ≤ 19) (h3 : hsz i ≤ j) : FrT m (vv_up m i j v) := ⟨fun k a => vv_up_r (by omega), fun k a => vv_up_c (by omega), fun k l a b d => by
  by_cases y : k = i
  · subst y; exact vv_up_i (by omega)
  · exact vv_up_c y⟩
theorem FrS.toT {m m' : vv_S} (h : FrS m m') : FrT m m' := ⟨fun i a => h.1 i (by omega) (by omega), h.2, fun i j a b d => by rw [h.1 i (by omega) (by omega)]⟩
theorem TXM.frT {n : Nat} {TX : Nat → Int32} {m m' : vv_S} (h : TXM n TX m) (hf : FrT m m') : TXM n TX m' := ⟨h.1, by rw [hf.2.1 0 (by decide)]; exact h.2.1, by rw [hf.1 1 (Or.inl rfl)]; exact h.2.2⟩
def MA (T : vT) (m : vv_S) : Prop := m 2 1 = nI (tN T) ∧ (∀ k, k < tN T → m 3 (8 + k) = nI (tH T k)) ∧ ∀ k, k < tN T → m 4 (8 + k) = nI (tO T k)
def MB (T : vT) (m : vv_S) : Prop := m 5 2 = nI (tL T) ∧ m 5 3 = nI (tR T) ∧ m 6 2 = nI (tA T) ∧ m 6 3 = nI (tS T)
def MF (T : vT) (m : vv_S) : Prop := m 7 1 = nI (tfc T) ∧ (∀ k, k < tfc T → m 8 (4 + k) = nI (tF T k)) ∧ ∀ k, k < tfc T → m 9 (4 + k) = nI (tU T k)
def MR (T : vT) (m : vv_S) : Prop := m 10 1 = nI (trc T) ∧ (∀ k, k < trc T → m 11 (4 + k) = nI (tRF T k)) ∧ (∀ k, k < trc T → m 12 (4 + k) = nI (tRT T k)) ∧ ∀ k, k < trc T → m 13 (4 + k) = nI (tRU T k)
def MK (T : vT) (m : vv_S) : Prop := m 14 1 = nI (tQ T).1 ∧ ∀ i s, i < (tQ T).1 → s < 4 → m 15 (16 + (4 * i + s)) = nI ((tQ T).2.1 i s)
def MJ (T : vT) (m : vv_S) : Prop := m 16 1 = nI (tQ T).2.2.1 ∧ (∀ k, k < (tQ T).2.2.1 → m 18 (5 + k) = nI ((tQ T).2.2.2.1 k)) ∧ ∀ k, k < (tQ T).2.2.1 → m 19 (5 + k) = nI ((tQ T).2.2.2.2 k)
def TM (T : vT) (m : vv_S) : Prop := MA T m ∧ MB T m ∧ MF T m ∧ MR T m ∧ MK T m ∧ MJ T m
theorem MA.fr {T T' : vT} {m m' : vv_S} (h : MA T m) (hT : tN T' = tN T ∧ tH T' = tH T ∧ tO T' = tO T) (e : ∀ i, 2 ≤ i → i ≤ 4 → m' i = m i) : MA T' m' := by
  unfold MA at *
  rw [e 2 (by decide) (by decide), e 3 (by decide) (by decide), e 4 (by decide) (by decide), hT.1, hT.2.1, hT.2.2]
  exact h
theorem MB.fr {T T' : vT} {m m' : vv_S} (h : MB T m) (hT : tL T' = tL T ∧ tR T' = tR T ∧ tA T' = tA T ∧ tS T' = tS T) (e : ∀ i, 5 ≤ i → i ≤ 6 → m' i = m i) : MB T' m' := by
  unfold MB at *
  rw [e 5 (by decide) (by decide), e 6 (by decide) (by decide), hT.1, hT.2.1, hT.2.2.1, hT.2.2.2]
  exact h
theorem MF.fr {T T' : vT} {m m' : vv_S} (h : MF T m) (hT : T'.2.1 = T.2.1) (e : ∀ i, 7 ≤ i → i ≤ 9 → m' i = m i) : MF T' m' := by
  unfold MF at *
  rw [e 7 (by decide) (by decide), e 8 (by decide) (by decide), e 9 (by decide) (by decide), show tfc T' = tfc T by unfold tfc; rw [hT], show tF T' = tF T by unfold tF; rw [hT], show tU T' = tU T by unfold tU; rw [hT]]
  exact h
theorem MR.fr {T T' : vT} {m m' : vv_S} (h : MR T m) (hT : T'.2.2.1 = T.2.2.1) (e : ∀ i, 10 ≤ i → i ≤ 13 → m' i = m i) : MR T' m' := by
  unfold MR at *
  rw [e 10 (by decide) (by decide), e 11 (by decide) (by decide), e 12 (by decide) (by decide), e 13 (by decide) (by decide), show trc T' = trc T by unfold trc; rw [hT], show tRF T' = tRF T by unfold tRF; rw [hT], show tRT T' = tRT T by unfold tRT; rw [hT], show tRU T' = tRU T by unfold tRU; rw [hT]]
  exact h
theorem MK.fr {T T' : vT} {m m' : vv_S} (h : MK T m) (hT : (tQ T').1 = (tQ T).1 ∧ (tQ T').2.1 = (tQ T).2.1) (e : ∀ i, 14 ≤ i → i ≤ 15 → m' i = m i) : MK T' m' := by
  unfold MK at *
  rw [e 14 (by decide) (by decide), e 15 (by decide) (by decide), hT.1, hT.2]
  exact h
theorem MJ.fr {T T' : vT} {m m' : vv_S} (h : MJ T m) (hT : (tQ T').2.2 = (tQ T).2.2) (e : ∀ i, 16 ≤ i → i ≤ 19 → m' i = m i) : MJ T' m' := by
  unfold MJ at *
  rw [e 16 (by decide) (by decide), e 18 (by decide) (by decide), e 19 (by decide) (by decide), hT]
  exact h
theorem TM.frS {T : vT} {m m' : vv_S} (h : TM T m) (e : FrS m m') : TM T m' := by
  obtain ⟨a, b, c, d, f, g⟩ := h
  exact ⟨a.fr ⟨rfl, rfl, rfl⟩ (fun i a b => e.1 i (by omega) (by omega)), b.fr ⟨rfl, rfl, rfl, rfl⟩ (fun i a b => e.1 i (by omega) (by omega)), c.fr rfl (fun i a b => e.1 i (by omega) (by omega)), d.fr rfl (fun i a b => e.1 i (by omega) (by omega)), f.fr ⟨rfl, rfl⟩ (fun i a b => e.1 i (by omega) (by omega)), g.fr rfl (fun i a b => e.1 i (by omega) (by omega))⟩
theorem ix4' (k : Nat) : (4 : Int32) + nI k = nI (4 + k) := by rw [show (4 : Int32) = nI 4 by decide, nI_add]
theorem ix5' (k : Nat) : (5 : Int32) + nI k = nI (5 + k) := by rw [show (5 : Int32) = nI 5 by decide, nI_add]
theorem row_up2 {f : Nat → Nat} {n v o : Nat} {g h : Nat → Int32} (h0 : ∀ k, k < n → g (o + k) = nI (f k)) (h1 : h (o + n) = nI v) (h2 : ∀ k, k < n → h (o + k) = g (o + k)) : ∀ k, k < n + 1 → h (o + k) = nI (uN f n v k) := by
  intro k hk
  by_cases y : k = n
  · rw [y, uN_s]; exact h1
  · rw [uN_n y, h2 k (by omega)]; exact h0 k (by omega)
/-- reading N figures, as the picture has it -/
theorem s_figs {n : Nat} {TX : Nat → Int32} {N s : Nat} (hN1 : 1 ≤ N) (hN : N ≤ 4) (hs : s ≤ 300) {m : vv_S} (hm : TXM n TX m) (h29 : m 0 29 = nI (s + 1)) {post : Int32 → vv_S → Prop}
    (h0 : (∀ L b, rdN (ltt n TX) 4 (s + 1) = some (L, b) → L.length ≠ N) → ∀ m', FrS m m' → post 0 m')
    (h1 : ∀ L b, rdN (ltt n TX) 4 (s + 1) = some (L, b) → L.length = N → (∀ k, L.getD k 0 ≤ 99) → ∀ m', FrS m m' → m' 0 29 = nI b → (∀ i, i < N → m' 27 i = nI (L.getD i 0)) → post 1 m') : wX9_figures (nI N) m post := by
  have e := rdM_N (t := ltt n TX) (j := 4) (r := N - 1) (a := s + 1) (by omega)
  rw [show N - 1 + 1 = N by omega] at e
  refine s_figures hN (by omega) hm h29 (fun en m' hf => h0 (fun L b er hl => ?_) m' hf) (fun L b es m' hf g29 g27 => ?_)
  · rw [er] at e
    dsimp only at e
    rw [if_pos hl, en] at e
    exact absurd e (by simp)
  · cases er : rdN (ltt n TX) 4 (s + 1) with
    | none => rw [er, es] at e; exact absurd e (by simp)
    | some p =>
      rw [er] at e
      dsimp only at e
      by_cases hl : p.1.length = N
      · rw [if_pos hl, es] at e
        injection e with e
        subst e
        exact h1 L b er hl (rdN_bd er).2.2.1 m' hf g29 g27
      · rw [if_neg hl, es] at e
        exact absurd e (by simp)
theorem st_none {n : Nat} {TX : Nat → Int32} {T : vT} {s : Nat} (h : ∀ L b, rdN (ltt n TX) 4 (s + 1) = some (L, b) → tk (ltt n TX s) L T = none) : st (ltt n TX) T s = none := by
  cases er : rdN (ltt n TX) 4 (s + 1) with
  | none => exact st_n1 er
  | some p => exact st_n2 er (h p.1 p.2 er)
theorem s_cellItem {n : Nat} {TX : Nat → Int32} {T : vT} (hT : tOk T) {s : Nat} (hs : s ≤ 300) (hx : ltt n TX s = 99) {m : vv_S} (hm : TXM n TX m) (h29 : m 0 29 = nI (s + 1)) (hc : TM T m) {post : Int32 → vv_S → Prop}
    (h0 : st (ltt n TX) T s = none → ∀ m', FrT m m' → post 0 m') (h1 : ∀ T' b, st (ltt n TX) T s = some (T', b) → ∀ m', FrT m m' → TM T' m' → m' 0 29 = nI b → post 1 m') : wX9_cellItem m post := by
  have hn := hT.1.1
  unfold wX9_cellItem
  refine s_figs (N := 2) (by decide) (by decide) hs hm h29 (fun hz m1 hf1 => ?_) (fun L b er hl hL m1 hf1 g29 g27 => ?_)
  · refine jn_of (fun f => f) (h0 (st_none (fun L b er => by rw [hx, tk_99, if_neg (fun z => hz L b er z.1)])) m1 hf1.toT) (fun f hf => ⟨fun _ => hf, fun z => absurd rfl z⟩)
  · obtain ⟨⟨u1, u2, u3⟩, b', c', d', e', f'⟩ := hc.frS hf1
    have a0 := hL 0
    have a1 := hL 1
    have hcn : (nI (8 + tN T)).toNatClampNeg = 8 + tN T := nI_clamp (by omega)
    have z8 : nI (tN T) = 8 ↔ tN T = 8 := by rw [vn8]; exact nI_eq (by omega) (by decide)
    refine jn_of (fun f => ¬ (L.length = 2 ∧ tN T ≠ 8 ∧ L.getD 0 0 ≤ 40 ∧ L.getD 1 0 ≤ 3) → f) (fun z => h0 (st_n2 er (by rw [hx, tk_99, if_neg z])) m1 hf1.toT) ?_
    intro f hf
    rw [u1, z8, g27 0 (by decide), g27 1 (by decide), show (40 : Int32) = nI 40 by decide, vn3, nI_ltI (by decide) (by omega), nI_leI (by omega) (by decide), ix8', hcn]
    refine ⟨fun z => absurd z (by decide), fun _ => ⟨fun y => hf (fun z => z.2.1 y), fun y => ⟨fun y2 => hf (fun z => by omega), fun y2 => ⟨fun y3 => ⟨vp_in_nI (by omega) (by decide), ?_⟩, fun y3 => hf (fun z => by omega)⟩⟩⟩⟩
    rintro _ rfl
    rw [vv_up_r (show (2 : Nat) ≠ 3 by decide), vv_up_r (show (27 : Nat) ≠ 3 by decide), u1, ix8', hcn, g27 1 (by decide)]
    refine ⟨vp_in_nI (by omega) (by decide), ?_⟩
    rintro _ rfl _ rfl
    rw [vv_up_r (show (2 : Nat) ≠ 4 by decide), vv_up_r (show (2 : Nat) ≠ 3 by decide), u1, nI_1]
    have eS := st_s er (T := T) (T' := kCell T L) (by show tk (ltt n TX s) L T = _; rw [hx, tk_99, if_pos ⟨hl, y, by omega, y3⟩])
    refine h1 _ _ eS _ (hf1.toT.trans ((FrT.up (by decide) (by decide) (show hsz 3 ≤ 8 + tN T from Nat.le_add_right 8 _)).trans ((FrT.up (by decide) (by decide) (show hsz 4 ≤ 8 + tN T from Nat.le_add_right 8 _)).trans (FrT.up (by decide) (by decide) (by decide))))) ⟨⟨vv_up_s, row_up2 u2 ?_ (fun k hk => ?_), row_up2 u3 ?_ (fun k hk => ?_)⟩, b'.fr ⟨rfl, rfl, rfl, rfl⟩ (fun i a b => by rw [vv_up_r (by omega), vv_up_r (by omega), vv_up_r (by omega)]), c'.fr rfl (fun i a b => by rw [vv_up_r (by omega), vv_up_r (by omega), vv_up_r (by omega)]), d'.fr rfl (fun i a b => by rw [vv_up_r (by omega), vv_up_r (by omega), vv_up_r (by omega)]), e'.fr ⟨rfl, rfl⟩ (fun i a b => by rw [vv_up_r (by omega), vv_up_r (by omega), vv_up_r (by omega)]), f'.fr rfl (fun i a b => by rw [vv_up_r (by omega), vv_up_r (by omega), vv_up_r (by omega)])⟩ ?_
    · rw [vv_up_r (by decide), vv_up_r (by decide), vv_up_s]
    · rw [vv_up_r (by decide), vv_up_r (by decide), vv_up_i (by omega)]
    · rw [vv_up_r (by decide), vv_up_s]
    · rw [vv_up_r (by decide), vv_up_i (by omega), vv_up_r (by decide)]
    · rw [vv_up_r (by decide), vv_up_r (by decide), vv_up_r (by decide)]; exact g29
theorem s_flowItem {n : Nat} {TX : Nat → Int32} {T : vT} (hT : tOk T) {s : Nat} (hs : s ≤ 300) (hx : ltt n TX s = 102) {m : vv_S} (hm : TXM n TX m) (h29 : m 0 29 = nI (s + 1)) (hc : TM T m) {post : Int32 → vv_S → Prop}
    (h0 : st (ltt n TX) T s = none → ∀ m', FrT m m' → post 0 m') (h1 : ∀ T' b, st (ltt n TX) T s = some (T', b) → ∀ m', FrT m m' → TM T' m' → m' 0 29 = nI b → post 1 m') : wX9_flowItem m post := by
  have hn := hT.2.2.1.1
  unfold wX9_flowItem
  refine s_figs (N := 2) (by decide) (by decide) hs hm h29 (fun hz m1 hf1 => ?_) (fun L b er hl hL m1 hf1 g29 g27 => ?_)
  · refine jn_of (fun f => f) (h0 (st_none (fun L b er => by rw [hx, tk_102, if_neg (fun z => hz L b er z.1)])) m1 hf1.toT) (fun f hf => ⟨fun _ => hf, fun z => absurd rfl z⟩)
  · obtain ⟨a', b', ⟨u1, u2, u3⟩, d', e', f'⟩ := hc.frS hf1
    have a0 := hL 0
    have a1 := hL 1
    have hcn : (nI (4 + tfc T)).toNatClampNeg = 4 + tfc T := nI_clamp (by omega)
    have z8 : nI (tfc T) = 4 ↔ tfc T = 4 := by rw [show (4 : Int32) = nI 4 by decide]; exact nI_eq (by omega) (by decide)
    refine jn_of (fun f => ¬ (L.length = 2 ∧ tfc T ≠ 4 ∧ L.getD 1 0 ≤ 60) → f) (fun z => h0 (st_n2 er (by rw [hx, tk_102, if_neg z])) m1 hf1.toT) ?_
    intro f hf
    rw [u1, z8, g27 0 (by decide), g27 1 (by decide), show (60 : Int32) = nI 60 by decide, nI_leI (by omega) (by decide), ix4', hcn]
    refine ⟨fun z => absurd z (by decide), fun _ => ⟨fun y => hf (fun z => z.2.1 y), fun y => ⟨fun y3 => ⟨vp_in_nI (by omega) (by decide), ?_⟩, fun y3 => hf (fun z => by omega)⟩⟩⟩
    rintro _ rfl
    rw [vv_up_r (show (7 : Nat) ≠ 8 by decide), vv_up_r (show (27 : Nat) ≠ 8 by decide), u1, ix4', hcn, g27 1 (by decide)]
    refine ⟨vp_in_nI (by omega) (by decide), ?_⟩
    rintro _ rfl _ rfl
    rw [vv_up_r (show (7 : Nat) ≠ 9 by decide), vv_up_r (show (7 : Nat) ≠ 8 by decide), u1, nI_1]
    have eS := st_s er (T := T) (T' := kFlow T L) (by rw [hx, tk_102, if_pos ⟨hl, y, y3⟩])
    refine h1 _ _ eS _ (hf1.toT.trans ((FrT.up (by decide) (by decide) (show hsz 8 ≤ 4 + tfc T from Nat.le_add_right 4 _)).trans ((FrT.up (by decide) (by decide) (show hsz 9 ≤ 4 + tfc T from Nat.le_add_right 4 _)).trans (FrT.up (by decide) (by decide) (by decide))))) ⟨a'.fr ⟨rfl, rfl, rfl⟩ (fun i a b => by rw [vv_up_r (by omega), vv_up_r (by omega), vv_up_r (by omega)]), b'.fr ⟨rfl, rfl, rfl, rfl⟩ (fun i a b => by rw [vv_up_r (by omega), vv_up_r (by omega), vv_up_r (by omega)]), ⟨vv_up_s, row_up2 u2 ?_ (fun k hk => ?_), row_up2 u3 ?_ (fun k hk => ?_)⟩, d'.fr rfl (fun i a b => by rw [vv_up_r (by omega), vv_up_r (by omega), vv_up_r (by omega)]), e'.fr ⟨rfl, rfl⟩ (fun i a b => by rw [vv_up_r (by omega), vv_up_r (by omega), vv_up_r (by omega)]), f'.fr rfl (fun i a b => by rw [vv_up_r (by omega), vv_up_r (by omega), vv_up_r (by omega)])⟩ ?_
    · rw [vv_up_r (by decide), vv_up_r (by decide), vv_up_s]
    · rw [vv_up_r (by decide), vv_up_r (by decide), vv_up_i (by omega)]
    · rw [vv_up_r (by decide), vv_up_s]
    · rw [vv_up_r (by decide), vv_up_i (by omega), vv_up_r (by decide)]
    · rw [vv_up_r (by decide), vv_up_r (by decide), vv_up_r (by decide)]; exact g29
theorem s_rainItem {n : Nat} {TX : Nat → Int32} {T : vT} (hT : tOk T) {s : Nat} (hs : s ≤ 300) (hx : ltt n TX s = 114) {m : vv_S} (hm : TXM n TX m) (h29 : m 0 29 = nI (s + 1)) (hc : TM T m) {post : Int32 → vv_S → Prop}
    (h0 : st (ltt n TX) T s = none → ∀ m', FrT m m' → post 0 m') (h1 : ∀ T' b, st (ltt n TX) T s = some (T', b) → ∀ m', FrT m m' → TM T' m' → m' 0 29 = nI b → post 1 m') : wX9_rainItem m post := by
  have hn := hT.2.2.2.1.1
  unfold wX9_rainItem
  refine s_figs (N := 3) (by decide) (by decide) hs hm h29 (fun hz m1 hf1 => ?_) (fun L b er hl hL m1 hf1 g29 g27 => ?_)
  · refine jn_of (fun f => f) (h0 (st_none (fun L b er => by rw [hx, tk_114, if_neg (fun z => hz L b er z.1)])) m1 hf1.toT) (fun f hf => ⟨fun _ => hf, fun z => absurd rfl z⟩)
  · obtain ⟨a', b', c', ⟨u1, u2, u3, u4⟩, e', f'⟩ := hc.frS hf1
    have a0 := hL 0
    have a1 := hL 1
    have a2 := hL 2
    have hcn : (nI (4 + trc T)).toNatClampNeg = 4 + trc T := nI_clamp (by omega)
    have z8 : nI (trc T) = 4 ↔ trc T = 4 := by rw [show (4 : Int32) = nI 4 by decide]; exact nI_eq (by omega) (by decide)
    refine jn_of (fun f => ¬ (L.length = 3 ∧ trc T ≠ 4 ∧ L.getD 0 0 ≤ L.getD 1 0 ∧ L.getD 2 0 ≤ 30) → f) (fun z => h0 (st_n2 er (by rw [hx, tk_114, if_neg z])) m1 hf1.toT) ?_
    intro f hf
    rw [u1, z8, g27 0 (by decide), g27 1 (by decide), g27 2 (by decide), show (30 : Int32) = nI 30 by decide, nI_ltI (by omega) (by omega), nI_leI (by omega) (by decide), ix4', hcn]
    refine ⟨fun z => absurd z (by decide), fun _ => ⟨fun y => hf (fun z => z.2.1 y), fun y => ⟨fun y2 => hf (fun z => by omega), fun y2 => ⟨fun y3 => ⟨vp_in_nI (by omega) (by decide), ?_⟩, fun y3 => hf (fun z => by omega)⟩⟩⟩⟩
    rintro _ rfl
    rw [vv_up_r (show (10 : Nat) ≠ 11 by decide), vv_up_r (show (27 : Nat) ≠ 11 by decide), u1, ix4', hcn, g27 1 (by decide)]
    refine ⟨vp_in_nI (by omega) (by decide), ?_⟩
    rintro _ rfl
    rw [vv_up_r (show (10 : Nat) ≠ 12 by decide), vv_up_r (show (27 : Nat) ≠ 12 by decide), vv_up_r (show (10 : Nat) ≠ 11 by decide), vv_up_r (show (27 : Nat) ≠ 11 by decide), u1, ix4', hcn, g27 2 (by decide)]
    refine ⟨vp_in_nI (by omega) (by decide), ?_⟩
    rintro _ rfl _ rfl
    rw [vv_up_r (show (10 : Nat) ≠ 13 by decide), vv_up_r (show (10 : Nat) ≠ 12 by decide), vv_up_r (show (10 : Nat) ≠ 11 by decide), u1, nI_1]
    have eS := st_s er (T := T) (T' := kRain T L) (by show tk (ltt n TX s) L T = _; rw [hx, tk_114, if_pos ⟨hl, y, by omega, y3⟩])
    refine h1 _ _ eS _ (hf1.toT.trans ((FrT.up (by decide) (by decide) (show hsz 11 ≤ 4 + trc T from Nat.le_add_right 4 _)).trans ((FrT.up (by decide) (by decide) (show hsz 12 ≤ 4 + trc T from Nat.le_add_right 4 _)).trans ((FrT.up (by decide) (by decide) (show hsz 13 ≤ 4 + trc T from Nat.le_add_right 4 _)).trans (FrT.up (by decide) (by decide) (by decide)))))) ⟨a'.fr ⟨rfl, rfl, rfl⟩ (fun i a b => by rw [vv_up_r (by omega), vv_up_r (by omega), vv_up_r (by omega), vv_up_r (by omega)]), b'.fr ⟨rfl, rfl, rfl, rfl⟩ (fun i a b => by rw [vv_up_r (by omega), vv_up_r (by omega), vv_up_r (by omega), vv_up_r (by omega)]), c'.fr rfl (fun i a b => by rw [vv_up_r (by omega), vv_up_r (by omega), vv_up_r (by omega), vv_up_r (by omega)]), ⟨vv_up_s, row_up2 u2 ?_ (fun k hk => ?_), row_up2 u3 ?_ (fun k hk => ?_), row_up2 u4 ?_ (fun k hk => ?_)⟩, e'.fr ⟨rfl, rfl⟩ (fun i a b => by rw [vv_up_r (by omega), vv_up_r (by omega), vv_up_r (by omega), vv_up_r (by omega)]), f'.fr rfl (fun i a b => by rw [vv_up_r (by omega), vv_up_r (by omega), vv_up_r (by omega), vv_up_r (by omega)])⟩ ?_
    · rw [vv_up_r (by decide), vv_up_r (by decide), vv_up_r (by decide), vv_up_s]
    · rw [vv_up_r (by decide), vv_up_r (by decide), vv_up_r (by decide), vv_up_i (by omega)]
    · rw [vv_up_r (by decide), vv_up_r (by decide), vv_up_s]
    · rw [vv_up_r (by decide), vv_up_r (by decide), vv_up_i (by omega), vv_up_r (by decide)]
    · rw [vv_up_r (by decide), vv_up_s]
    · rw [vv_up_r (by decide), vv_up_i (by omega), vv_up_r (by decide), vv_up_r (by decide)]
    · rw [vv_up_r (by decide), vv_up_r (by decide), vv_up_r (by decide), vv_up_r (by decide)]; exact g29
theorem s_jobItem {n : Nat} {TX : Nat → Int32} {T : vT} (hT : tOk T) {s : Nat} (hs : s ≤ 300) (hx : ltt n TX s = 106) {m : vv_S} (hm : TXM n TX m) (h29 : m 0 29 = nI (s + 1)) (hc : TM T m) {post : Int32 → vv_S → Prop}
    (h0 : st (ltt n TX) T s = none → ∀ m', FrT m m' → post 0 m') (h1 : ∀ T' b, st (ltt n TX) T s = some (T', b) → ∀ m', FrT m m' → TM T' m' → m' 0 29 = nI b → post 1 m') : wX9_jobItem m post := by
  have hn := hT.2.2.2.2.2.1
  have hn8 := hT.1.1
  unfold wX9_jobItem
  refine s_figs (N := 3) (by decide) (by decide) hs hm h29 (fun hz m1 hf1 => ?_) (fun L b er hl hL m1 hf1 g29 g27 => ?_)
  · refine jn_of (fun f => f m1) (h0 (st_none (fun L b er => by rw [hx, tk_106, if_neg (fun z => hz L b er z.1)])) m1 hf1.toT) (fun f hf => ⟨fun _ => hf, fun z => absurd rfl z⟩)
  · obtain ⟨a', b', c', d', e', ⟨u1, u2, u3⟩⟩ := hc.frS hf1
    have a0 := hL 0
    have a1 := hL 1
    have a2 := hL 2
    have hcn : (nI (5 + (tQ T).2.2.1)).toNatClampNeg = 5 + (tQ T).2.2.1 := nI_clamp (by omega)
    have z8 : nI (tQ T).2.2.1 = 5 ↔ (tQ T).2.2.1 = 5 := by rw [show (5 : Int32) = nI 5 by decide]; exact nI_eq (by omega) (by decide)
    refine jn_of (fun f => ¬ (L.length = 3 ∧ (tQ T).2.2.1 ≠ 5 ∧ L.getD 0 0 < tN T ∧ L.getD 1 0 ≤ 3 ∧ 1 ≤ L.getD 2 0 ∧ L.getD 2 0 ≤ 30) → f m1) (fun z => h0 (st_n2 er (by rw [hx, tk_106, if_neg z])) m1 hf1.toT) ?_
    intro f hf
    rw [u1, z8, a'.1, g27 0 (by decide), g27 1 (by decide), g27 2 (by decide), vn3, nI_leI (by omega) (by omega), nI_ltI (by decide) (by omega)]
    refine ⟨fun z => absurd z (by decide), fun _ => ⟨fun y => hf (fun z => z.2.1 y), fun y => ⟨fun y2 => hf (fun z => by omega), fun y2 => ⟨fun y3 => hf (fun z => by omega), fun y3 => s_inM (lo := 1) (hi := 30) (by decide) (by decide) (fun q => ⟨fun _ => ?_, fun z => absurd z (by decide)⟩) (fun q => ⟨fun z => absurd rfl z, fun _ => hf (fun z => q ⟨by rw [vn1]; exact nI_le z.2.2.2.2.1 (by omega), by rw [show (30 : Int32) = nI 30 by decide]; exact nI_le z.2.2.2.2.2 (by decide)⟩)⟩)⟩⟩⟩⟩
    rw [vn1, show (30 : Int32) = nI 30 by decide, nI_leI (by decide) (by omega), nI_leI (by omega) (by decide)] at q
    rw [u1, ix5', hcn, g27 0 (by decide)]
    refine ⟨vp_in_nI (by omega) (by decide), ?_⟩
    rintro _ rfl
    rw [vv_up_r (show (16 : Nat) ≠ 17 by decide), vv_up_r (show (27 : Nat) ≠ 17 by decide), u1, ix5', hcn, g27 1 (by decide)]
    refine ⟨vp_in_nI (by omega) (by decide), ?_⟩
    rintro _ rfl
    rw [vv_up_r (show (16 : Nat) ≠ 18 by decide), vv_up_r (show (27 : Nat) ≠ 18 by decide), vv_up_r (show (16 : Nat) ≠ 17 by decide), vv_up_r (show (27 : Nat) ≠ 17 by decide), u1, ix5', hcn, g27 2 (by decide)]
    refine ⟨vp_in_nI (by omega) (by decide), ?_⟩
    rintro _ rfl _ rfl
    rw [vv_up_r (show (16 : Nat) ≠ 19 by decide), vv_up_r (show (16 : Nat) ≠ 18 by decide), vv_up_r (show (16 : Nat) ≠ 17 by decide), u1, nI_1]
    have eS := st_s er (T := T) (T' := kJob T L) (by show tk (ltt n TX s) L T = _; rw [hx, tk_106, if_pos ⟨hl, y, by omega, by omega, q⟩])
    refine h1 _ _ eS _ (hf1.toT.trans ((FrT.up (by decide) (by decide) (show hsz 17 ≤ 5 + (tQ T).2.2.1 from Nat.le_add_right 5 _)).trans ((FrT.up (by decide) (by decide) (show hsz 18 ≤ 5 + (tQ T).2.2.1 from Nat.le_add_right 5 _)).trans ((FrT.up (by decide) (by decide) (show hsz 19 ≤ 5 + (tQ T).2.2.1 from Nat.le_add_right 5 _)).trans (FrT.up (by decide) (by decide) (by decide)))))) ⟨a'.fr ⟨rfl, rfl, rfl⟩ (fun i a b => by rw [vv_up_r (by omega), vv_up_r (by omega), vv_up_r (by omega), vv_up_r (by omega)]), b'.fr ⟨rfl, rfl, rfl, rfl⟩ (fun i a b => by rw [vv_up_r (by omega), vv_up_r (by omega), vv_up_r (by omega), vv_up_r (by omega)]), c'.fr rfl (fun i a b => by rw [vv_up_r (by omega), vv_up_r (by omega), vv_up_r (by omega), vv_up_r (by omega)]), d'.fr rfl (fun i a b => by rw [vv_up_r (by omega), vv_up_r (by omega), vv_up_r (by omega), vv_up_r (by omega)]), e'.fr ⟨rfl, rfl⟩ (fun i a b => by rw [vv_up_r (by omega), vv_up_r (by omega), vv_up_r (by omega), vv_up_r (by omega)]), ⟨vv_up_s, row_up2 u2 ?_ (fun k hk => ?_), row_up2 u3 ?_ (fun k hk => ?_)⟩⟩ ?_
    · rw [vv_up_r (by decide), vv_up_r (by decide), vv_up_s]
    · rw [vv_up_r (by decide), vv_up_r (by decide), vv_up_i (by omega), vv_up_r (by decide)]
    · rw [vv_up_r (by decide), vv_up_s]
    · rw [vv_up_r (by decide), vv_up_i (by omega), vv_up_r (by decide), vv_up_r (by decide)]
    · rw [vv_up_r (by decide), vv_up_r (by decide), vv_up_r (by decide), vv_up_r (by decide)]; exact g29

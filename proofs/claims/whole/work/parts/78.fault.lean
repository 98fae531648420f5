theorem RC.frY {P : vP} {D : vD} {A : vA} {Q : vQ} {B : vK} {c c' : vv_S} (hq : qOk Q) (hk : kOk P B) (h : RC P D A Q B c) (hf : FrY 23 c c') : RC P D A Q B c' := by
  obtain ⟨e, e1⟩ := hf
  have hw : RC P D A Q B (fun i => if i = 1 then c 1 else c' i) := h.fr hq hk (fun i hi => by
    by_cases y : i = 1
    · subst y; exact if_pos rfl
    · rw [if_neg y]
      exact e i y (by omega) (by omega))
  obtain ⟨pc, dp, ac, ⟨u1, u2, u3, u4⟩, k1, k2, k3, k4, k5, k6⟩ := hw
  have hk2 := hk.1
  refine ⟨?_, ?_, ?_, ⟨u1, u2, fun i s hi hs => ?_, u4⟩, k1, fun j hj => ?_, k3, k4, ?_, k6⟩
  · exact pc
  · exact dp
  · exact ac
  · have := u3 i s hi hs
    rw [show (fun i => if i = 1 then c 1 else c' i) (16 + i) = c' (16 + i) from if_neg (by omega)] at this
    exact this
  · have := k2 j hj
    unfold AC at *
    rw [show (fun i => if i = 1 then c 1 else c' i) (55 + 5 * j) = c' (55 + 5 * j) from if_neg (by omega), show (fun i => if i = 1 then c 1 else c' i) (55 + 5 * j + 1) = c' (55 + 5 * j + 1) from if_neg (by omega), show (fun i => if i = 1 then c 1 else c' i) (55 + 5 * j + 2) = c' (55 + 5 * j + 2) from if_neg (by omega), show (fun i => if i = 1 then c 1 else c' i) (55 + 5 * j + 3) = c' (55 + 5 * j + 3) from if_neg (by omega), show (fun i => if i = 1 then c 1 else c' i) (55 + 5 * j + 4) = c' (55 + 5 * j + 4) from if_neg (by omega)] at this
    exact this
  · rw [e1 1 (by decide)]; exact k5
theorem RM.frT {P : vP} {D : vD} {A : vA} {Q : vQ} {B : vK} {m m' : vv_S} (hp : pOk P) (hq : qOk Q) (h : RM P D A Q B m) (hf : FrT m m') : RM P D A Q B m' := by
  obtain ⟨f1, f2, f3⟩ := hf
  obtain ⟨⟨p1, p2, p3, p4, p5, ⟨fc, rc, F, U, RF, RT, RU, v1, v2, v3, v4, v5, v6, v7⟩, p7⟩, ⟨r1, r4, r5, r6, r7⟩, am, ⟨u1, u2, u3, u4⟩, k1, k2, k3, k4, k5, k6⟩ := h
  have hn8 := hp.2.1
  have q1 := hq.1
  have q2 := hq.2.1
  refine ⟨⟨by rw [f3 2 0 (by decide) (by decide) (by decide)]; exact p1, by rw [f3 5 0 (by decide) (by decide) (by decide)]; exact p2, by rw [f3 5 1 (by decide) (by decide) (by decide)]; exact p3, by rw [f3 6 0 (by decide) (by decide) (by decide)]; exact p4, by rw [f3 6 1 (by decide) (by decide) (by decide)]; exact p5, ⟨fc, rc, F, U, RF, RT, RU, v1, v2, by rw [f3 7 0 (by decide) (by decide) (by decide)]; exact v3, by rw [f3 10 0 (by decide) (by decide) (by decide)]; exact v4, fun k hk => ?_, fun k hk => ?_, v7⟩, fun k hk => ?_⟩, ⟨?_, ?_, ?_, ?_, ?_⟩, ?_, ⟨?_, ?_, fun i s hi hs => ?_, fun j hj => ?_⟩, ?_, ?_, ?_, ?_, ?_, ?_⟩
  · rw [f3 8 k (by decide) (by decide) (show k < 4 by omega), f3 9 k (by decide) (by decide) (show k < 4 by omega)]; exact v5 k hk
  · rw [f3 11 k (by decide) (by decide) (show k < 4 by omega), f3 12 k (by decide) (by decide) (show k < 4 by omega), f3 13 k (by decide) (by decide) (show k < 4 by omega)]; exact v6 k hk
  · rw [f3 3 k (by decide) (by decide) (show k < 8 by omega), f3 4 k (by decide) (by decide) (show k < 8 by omega)]; exact p7 k hk
  · rw [f1 28 (by omega), f1 29 (by omega), f1 30 (by omega)]; exact r1
  · rw [f1 31 (by omega)]; exact r4
  · rw [f1 32 (by omega)]; exact r5
  · rw [f1 33 (by omega)]; exact r6
  · rw [f1 34 (by omega)]; exact r7
  · unfold AM
    rw [f1 20 (by omega), f1 21 (by omega), f1 22 (by omega), f1 23 (by omega), f1 24 (by omega)]
    exact am
  · rw [f3 14 0 (by decide) (by decide) (by decide)]; exact u1
  · rw [f3 16 0 (by decide) (by decide) (by decide)]; exact u2
  · rw [f3 15 _ (by decide) (by decide) (show 4 * i + s < 16 by omega)]; exact u3 i s hi hs
  · rw [f3 18 j (by decide) (by decide) (show j < 5 by omega), f3 19 j (by decide) (by decide) (show j < 5 by omega)]; exact u4 j hj
  · rw [f2 25 (by decide)]; exact k1
  · intro j hj
    unfold AMo
    rw [f1 20 (by omega), f1 21 (by omega), f1 22 (by omega), f1 23 (by omega), f1 24 (by omega)]
    exact k2 j hj
  · rw [f2 26 (by decide)]; exact k3
  · rw [f1 25 (by omega), f1 26 (by omega)]; exact k4
  · rw [f2 0 (by decide)]; exact k5
  · rw [f1 1 (by omega)]; exact k6
theorem sim_fault {c m : vv_S} (h : Rel c m) : wX8_fault c (fun x s => wX9_fault m (fun y t => x = y ∧ Rel s t)) := by
  obtain ⟨P, D, A, Q, B, ho, hc, hm⟩ := h
  obtain ⟨hp, hd, hA, hMA, hq, hk⟩ := id ho
  have tc : TXT B.2.2.1 B.2.2.2 c := ⟨hk.2.2.2.2, hc.2.2.2.2.2.2.2.2.1, hc.2.2.2.2.2.2.2.2.2⟩
  have tm : TXM B.2.2.1 B.2.2.2 m := ⟨hk.2.2.2.2, hm.2.2.2.2.2.2.2.2.1, hm.2.2.2.2.2.2.2.2.2⟩
  unfold wX8_fault wX9_fault
  refine s_readFrom (p := 23) (by decide) tc (fun a e c' hf _ => s_readAll tm (fun a' e' m' hf' => ?_) (fun T' e' => absurd (e.symm.trans e') (by simp))) (fun T e _ c' hf _ _ => s_readAll tm (fun a' e' => absurd (e.symm.trans e') (by simp)) (fun T' e' m' hf' _ => ?_))
  · have := e.symm.trans e'
    injection this with this
    subst this
    exact ⟨rfl, P, D, A, Q, B, ho, hc.frY hq hk hf, hm.frT hp hq hf'⟩
  · exact ⟨rfl, P, D, A, Q, B, ho, hc.frY hq hk hf, hm.frT hp hq hf'⟩
def cpR (h k : Nat) (g : Nat → Int32) : Nat → Int32 := fun j => if j < k then g (h + j) else g j
theorem cpR_0 {h : Nat} {g : Nat → Int32} : cpR h 0 g = g := funext fun j => if_neg (Nat.not_lt_zero _)
theorem cp_step {σ : vv_S} {i h k : Nat} {g : Nat → Int32} {v : Int32} (e : σ i = cpR h k g) (hv : v = g (h + k)) : (vv_up σ i k v) i = cpR h (k + 1) g := by
  funext j
  rw [vv_up_app, e]
  unfold cpR
  by_cases y : j = k
  · rw [if_pos ⟨rfl, y⟩, if_pos (by omega), y, hv]
  · rw [if_neg (fun z => y z.2)]
    by_cases y2 : j < k
    · rw [if_pos y2, if_pos (by omega)]
    · rw [if_neg y2, if_neg (by omega)]
theorem cp_at {σ : vv_S} {i h k : Nat} {g : Nat → Int32} (e : σ i = cpR h k g) (hk : k < h) : σ i (h + k) = g (h + k) := by
  rw [e]; exact if_neg (by omega)
theorem cp_lo {h j : Nat} {g : Nat → Int32} (hj : j < h) : cpR h h g j = g (h + j) := if_pos hj
theorem s_laid5 {m : vv_S} {K : vv_S → Prop} (hK : ∀ m', (∀ i, i ≠ 5 → i ≠ 6 → m' i = m i) → m' 5 = cpR 2 2 (m 5) → m' 6 = cpR 2 2 (m 6) → K m') : ∃ f, lX9_laid_5 K f 0 m := by
  have key : ∀ (j i : Nat) (c : vv_S), i + j = 2 → (∀ i, i ≠ 5 → i ≠ 6 → c i = m i) → c 5 = cpR 2 i (m 5) → c 6 = cpR 2 i (m 6) → lX9_laid_5 K (j + 1) (nI i) c := by
    intro j
    induction j with
    | zero =>
      intro i c hi e e5 e6
      unfold lX9_laid_5
      have y : i = 2 := by omega
      subst y
      exact ⟨fun _ => hK c e e5 e6, fun y => absurd (by decide) y⟩
    | succ j ih =>
      intro i c hi e e5 e6
      have hci : (nI i).toNatClampNeg = i := nI_clamp (by omega)
      have ix : (2 : Int32) + nI i = nI (2 + i) := by rw [vn2, nI_add]
      unfold lX9_laid_5
      rw [ix, hci, nI_clamp (n := 2 + i) (by omega)]
      refine ⟨fun y => absurd y (by rw [vn2]; exact nI_ge (by omega) (by omega)), fun _ => ⟨vp_in_nI (by omega) (by decide), vp_in_nI (by omega) (by decide), ?_⟩⟩
      rintro _ rfl
      refine ⟨vp_in_nI (by omega) (by decide), vp_in_nI (by omega) (by decide), ?_⟩
      rintro _ rfl _ rfl
      rw [nI_1]
      refine ih (i + 1) _ (by omega) (fun i' a b => by rw [vv_up_r b, vv_up_r a]; exact e i' a b) ?_ ?_
      · rw [vv_up_r (by decide)]; exact cp_step e5 (cp_at e5 (by omega))
      · exact cp_step (by rw [vv_up_r (by decide)]; exact e6) (by rw [vv_up_r (by decide)]; exact cp_at e6 (by omega))
  exact ⟨3, key 2 0 m (by omega) (fun _ _ _ => rfl) cpR_0.symm cpR_0.symm⟩
theorem s_laid4 {m : vv_S} {K : vv_S → Prop} (hK : ∀ m', (∀ i, i ≠ 3 → i ≠ 4 → m' i = m i) → m' 3 = cpR 8 8 (m 3) → m' 4 = cpR 8 8 (m 4) → K m') : ∃ f, lX9_laid_4 K f 0 m := by
  have key : ∀ (j i : Nat) (c : vv_S), i + j = 8 → (∀ i, i ≠ 3 → i ≠ 4 → c i = m i) → c 3 = cpR 8 i (m 3) → c 4 = cpR 8 i (m 4) → lX9_laid_4 K (j + 1) (nI i) c := by
    intro j
    induction j with
    | zero =>
      intro i c hi e e5 e6
      unfold lX9_laid_4
      have y : i = 8 := by omega
      subst y
      exact ⟨fun _ => hK c e e5 e6, fun y => absurd (by decide) y⟩
    | succ j ih =>
      intro i c hi e e5 e6
      have hci : (nI i).toNatClampNeg = i := nI_clamp (by omega)
      unfold lX9_laid_4
      rw [ix8', hci, nI_clamp (n := 8 + i) (by omega)]
      refine ⟨fun y => absurd y (by rw [vn8]; exact nI_ge (by omega) (by omega)), fun _ => ⟨vp_in_nI (by omega) (by decide), vp_in_nI (by omega) (by decide), ?_⟩⟩
      rintro _ rfl
      refine ⟨vp_in_nI (by omega) (by decide), vp_in_nI (by omega) (by decide), ?_⟩
      rintro _ rfl _ rfl
      rw [nI_1]
      refine ih (i + 1) _ (by omega) (fun i' a b => by rw [vv_up_r b, vv_up_r a]; exact e i' a b) ?_ ?_
      · rw [vv_up_r (by decide)]; exact cp_step e5 (cp_at e5 (by omega))
      · exact cp_step (by rw [vv_up_r (by decide)]; exact e6) (by rw [vv_up_r (by decide)]; exact cp_at e6 (by omega))
  exact ⟨9, key 8 0 m (by omega) (fun _ _ _ => rfl) cpR_0.symm cpR_0.symm⟩
theorem s_laid3 {m : vv_S} {K : vv_S → Prop} (hK : ∀ m', (∀ i, i ≠ 8 → i ≠ 9 → i ≠ 11 → i ≠ 12 → i ≠ 13 → m' i = m i) → m' 8 = cpR 4 4 (m 8) → m' 9 = cpR 4 4 (m 9) → m' 11 = cpR 4 4 (m 11) → m' 12 = cpR 4 4 (m 12) → m' 13 = cpR 4 4 (m 13) → K m') : ∃ f, lX9_laid_3 K f 0 m := by
  have key : ∀ (j i : Nat) (c : vv_S), i + j = 4 → (∀ i, i ≠ 8 → i ≠ 9 → i ≠ 11 → i ≠ 12 → i ≠ 13 → c i = m i) → c 8 = cpR 4 i (m 8) → c 9 = cpR 4 i (m 9) → c 11 = cpR 4 i (m 11) → c 12 = cpR 4 i (m 12) → c 13 = cpR 4 i (m 13) → lX9_laid_3 K (j + 1) (nI i) c := by
    intro j
    induction j with
    | zero =>
      intro i c hi e e1 e2 e3 e4 e5
      unfold lX9_laid_3
      have y : i = 4 := by omega
      subst y
      exact ⟨fun _ => hK c e e1 e2 e3 e4 e5, fun y => absurd (by decide) y⟩
    | succ j ih =>
      intro i c hi e e1 e2 e3 e4 e5
      have hci : (nI i).toNatClampNeg = i := nI_clamp (by omega)
      have hb : vp_in (nI (4 + i)) 8 ∧ vp_in (nI i) 8 := ⟨vp_in_nI (by omega) (by decide), vp_in_nI (by omega) (by decide)⟩
      unfold lX9_laid_3
      rw [ix4', hci, nI_clamp (n := 4 + i) (by omega)]
      refine ⟨fun y => absurd y (by rw [show (4 : Int32) = nI 4 by decide]; exact nI_ge (by omega) (by omega)), fun _ => ⟨hb.1, hb.2, ?_⟩⟩
      rintro _ rfl
      refine ⟨hb.1, hb.2, ?_⟩
      rintro _ rfl
      refine ⟨hb.1, hb.2, ?_⟩
      rintro _ rfl
      refine ⟨hb.1, hb.2, ?_⟩
      rintro _ rfl
      refine ⟨hb.1, hb.2, ?_⟩
      rintro _ rfl _ rfl
      rw [nI_1]
      refine ih (i + 1) _ (by omega) (fun i' a b d f g => by rw [vv_up_r g, vv_up_r f, vv_up_r d, vv_up_r b, vv_up_r a]; exact e i' a b d f g) ?_ ?_ ?_ ?_ ?_
      · rw [vv_up_r (by decide), vv_up_r (by decide), vv_up_r (by decide), vv_up_r (by decide)]; exact cp_step e1 (cp_at e1 (by omega))
      · rw [vv_up_r (by decide), vv_up_r (by decide), vv_up_r (by decide)]; exact cp_step (by rw [vv_up_r (by decide)]; exact e2) (by rw [vv_up_r (by decide)]; exact cp_at e2 (by omega))
      · rw [vv_up_r (by decide), vv_up_r (by decide)]; exact cp_step (by rw [vv_up_r (by decide), vv_up_r (by decide)]; exact e3) (by rw [vv_up_r (by decide), vv_up_r (by decide)]; exact cp_at e3 (by omega))
      · rw [vv_up_r (by decide)]; exact cp_step (by rw [vv_up_r (by decide), vv_up_r (by decide), vv_up_r (by decide)]; exact e4) (by rw [vv_up_r (by decide), vv_up_r (by decide), vv_up_r (by decide)]; exact cp_at e4 (by omega))
      · exact cp_step (by rw [vv_up_r (by decide), vv_up_r (by decide), vv_up_r (by decide), vv_up_r (by decide)]; exact e5) (by rw [vv_up_r (by decide), vv_up_r (by decide), vv_up_r (by decide), vv_up_r (by decide)]; exact cp_at e5 (by omega))
  exact ⟨5, key 4 0 m (by omega) (fun _ _ _ _ _ _ => rfl) cpR_0.symm cpR_0.symm cpR_0.symm cpR_0.symm cpR_0.symm⟩
theorem s_laid2 {m : vv_S} {K : vv_S → Prop} (hK : ∀ m', (∀ i, i ≠ 15 → m' i = m i) → m' 15 = cpR 16 16 (m 15) → K m') : ∃ f, lX9_laid_2 K f 0 m := by
  have key : ∀ (j i : Nat) (c : vv_S), i + j = 16 → (∀ i, i ≠ 15 → c i = m i) → c 15 = cpR 16 i (m 15) → lX9_laid_2 K (j + 1) (nI i) c := by
    intro j
    induction j with
    | zero =>
      intro i c hi e e5
      unfold lX9_laid_2
      have y : i = 16 := by omega
      subst y
      exact ⟨fun _ => hK c e e5, fun y => absurd (by decide) y⟩
    | succ j ih =>
      intro i c hi e e5
      have hci : (nI i).toNatClampNeg = i := nI_clamp (by omega)
      have e16 : (16 : Int32) = nI 16 := by decide
      have ix : (16 : Int32) + nI i = nI (16 + i) := by rw [e16, nI_add]
      unfold lX9_laid_2
      rw [ix, hci, nI_clamp (n := 16 + i) (by omega)]
      refine ⟨fun y => absurd y (by rw [e16]; exact nI_ge (by omega) (by omega)), fun _ => ⟨vp_in_nI (by omega) (by decide), vp_in_nI (by omega) (by decide), ?_⟩⟩
      rintro _ rfl _ rfl
      rw [nI_1]
      exact ih (i + 1) _ (by omega) (fun i' a => by rw [vv_up_r a]; exact e i' a) (cp_step e5 (cp_at e5 (by omega)))
  exact ⟨17, key 16 0 m (by omega) (fun _ _ => rfl) cpR_0.symm⟩
theorem s_laid1 {m : vv_S} {K : vv_S → Prop} (hK : ∀ m', (∀ i, i ≠ 17 → i ≠ 18 → i ≠ 19 → m' i = m i) → m' 18 = cpR 5 5 (m 18) → m' 19 = cpR 5 5 (m 19) → K m') : ∃ f, lX9_laid_1 K f 0 m := by
  have key : ∀ (j i : Nat) (c : vv_S), i + j = 5 → (∀ i, i ≠ 17 → i ≠ 18 → i ≠ 19 → c i = m i) → c 18 = cpR 5 i (m 18) → c 19 = cpR 5 i (m 19) → lX9_laid_1 K (j + 1) (nI i) c := by
    intro j
    induction j with
    | zero =>
      intro i c hi e e5 e6
      unfold lX9_laid_1
      have y : i = 5 := by omega
      subst y
      exact ⟨fun _ => hK c e e5 e6, fun y => absurd (by decide) y⟩
    | succ j ih =>
      intro i c hi e e5 e6
      have hci : (nI i).toNatClampNeg = i := nI_clamp (by omega)
      have hb : vp_in (nI (5 + i)) 10 ∧ vp_in (nI i) 10 := ⟨vp_in_nI (by omega) (by decide), vp_in_nI (by omega) (by decide)⟩
      unfold lX9_laid_1
      rw [ix5', hci, nI_clamp (n := 5 + i) (by omega)]
      refine ⟨fun y => absurd y (by rw [show (5 : Int32) = nI 5 by decide]; exact nI_ge (by omega) (by omega)), fun _ => ⟨hb.1, hb.2, ?_⟩⟩
      rintro _ rfl
      refine ⟨hb.1, hb.2, ?_⟩
      rintro _ rfl
      refine ⟨hb.1, hb.2, ?_⟩
      rintro _ rfl _ rfl
      rw [nI_1]
      refine ih (i + 1) _ (by omega) (fun i' a b d => by rw [vv_up_r d, vv_up_r b, vv_up_r a]; exact e i' a b d) ?_ ?_
      · rw [vv_up_r (by decide)]; exact cp_step (by rw [vv_up_r (by decide)]; exact e5) (by rw [vv_up_r (by decide)]; exact cp_at e5 (by omega))
      · exact cp_step (by rw [vv_up_r (by decide), vv_up_r (by decide)]; exact e6) (by rw [vv_up_r (by decide), vv_up_r (by decide)]; exact cp_at e6 (by omega))
  exact ⟨6, key 5 0 m (by omega) (fun _ _ _ _ => rfl) cpR_0.symm cpR_0.symm⟩

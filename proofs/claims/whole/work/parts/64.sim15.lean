def dvn (n w : Nat) : Nat → Nat
  | 0 => w
  | k + 1 => dvn n w k / n
theorem dvn_le (n w : Nat) : ∀ k, dvn n w k ≤ w
  | 0 => Nat.le_refl _
  | k + 1 => Nat.le_trans (Nat.div_le_self _ _) (dvn_le n w k)
def dg (Q : vQ) (w j : Nat) : Nat := dvn Q.1 w (Q.2.2.1 - 1 - j) % Q.1
def rt (Q : vQ) (w j : Nat) : Nat := Q.2.1 (dg Q w j) (Q.2.2.2.1 j)
def tm (Q : vQ) (w j : Nat) : Nat := if rt Q w j = 0 then 100000 else (Q.2.2.2.2 j + rt Q w j - 1) / rt Q w j
def bC (Q : vQ) (w : Nat) : Nat → Nat → Nat
  | 0 => fun _ => 0
  | k + 1 => uN (bC Q w k) (dg Q w k) (bC Q w k (dg Q w k) + tm Q w k)
def bM (Q : vQ) (w : Nat) : Nat → Nat → Nat
  | 0 => fun _ => 0
  | k + 1 => uN (bM Q w k) (dg Q w (Q.2.2.1 - 1 - k)) (bM Q w k (dg Q w (Q.2.2.1 - 1 - k)) + tm Q w (Q.2.2.1 - 1 - k))
def M4 (f : Nat → Nat) : Nat := max (max (f 0) (f 1)) (max (f 2) (f 3))
def cn (Q : vQ) (w : Nat) : Nat → Bool
  | 0 => true
  | k + 1 => cn Q w k && decide (rt Q w k ≠ 0)
theorem M4_u {f : Nat → Nat} {e t : Nat} (he : e < 4) : M4 (uN f e (f e + t)) = max (M4 f) (f e + t) := by
  rcases (by omega : e = 0 ∨ e = 1 ∨ e = 2 ∨ e = 3) with rfl | rfl | rfl | rfl <;> simp [M4, uN] <;> omega
theorem dg_lt {Q : vQ} (h1 : 1 ≤ Q.1) (w j : Nat) : dg Q w j < Q.1 := Nat.mod_lt _ h1
theorem tm_bd {Q : vQ} (hq : qOk Q) (h1 : 1 ≤ Q.1) {w j : Nat} (hj : j < Q.2.2.1) : tm Q w j ≤ 100000 ∧ (rt Q w j ≠ 0 → tm Q w j ≤ 100) ∧ rt Q w j ≤ 9 := by
  have h2 := hq.2.2.2 j hj
  have h3 := hq.2.2.1 (dg Q w j) (Q.2.2.2.1 j) (dg_lt h1 w j) (by omega)
  have h4 := Nat.div_le_self (Q.2.2.2.2 j + rt Q w j - 1) (rt Q w j)
  have h5 : rt Q w j ≤ 9 := h3
  unfold tm
  refine ⟨?_, fun y => ?_, h5⟩
  · split <;> omega
  · rw [if_neg y]; omega
theorem bC_sum (Q : vQ) (w : Nat) (i : Nat) : ∀ k, bC Q w k i = sU (fun j => if dg Q w j = i then tm Q w j else 0) k
  | 0 => rfl
  | k + 1 => by
    show uN _ _ _ i = _ + _
    have ih := bC_sum Q w i k
    by_cases e : i = dg Q w k
    · subst e
      rw [uN_s, ih]
      dsimp only
      rw [if_pos rfl]
    · rw [uN_n e, ih]
      dsimp only
      rw [if_neg (fun y => e y.symm)]
      rfl
theorem bM_sum (Q : vQ) (w : Nat) (i : Nat) : ∀ k, k ≤ Q.2.2.1 → bM Q w k i + sU (fun j => if dg Q w j = i then tm Q w j else 0) (Q.2.2.1 - k) = sU (fun j => if dg Q w j = i then tm Q w j else 0) Q.2.2.1
  | 0, _ => by show 0 + _ = _; rw [Nat.zero_add, Nat.sub_zero]
  | k + 1, hk => by
    have ih := bM_sum Q w i k (by omega)
    rw [show Q.2.2.1 - k = Q.2.2.1 - (k + 1) + 1 by omega] at ih
    rw [← ih]
    show uN _ _ _ i + _ = _ + (_ + _)
    rw [show Q.2.2.1 - 1 - k = Q.2.2.1 - (k + 1) by omega]
    by_cases e : i = dg Q w (Q.2.2.1 - (k + 1))
    · subst e
      rw [uN_s]
      dsimp only
      rw [if_pos rfl]
      omega
    · rw [uN_n e]
      dsimp only
      rw [if_neg (fun y => e y.symm)]
      omega
theorem bM_C (Q : vQ) (w : Nat) : M4 (bM Q w Q.2.2.1) = M4 (bC Q w Q.2.2.1) := by
  have : ∀ i, bM Q w Q.2.2.1 i = bC Q w Q.2.2.1 i := fun i => by
    have h1 := bM_sum Q w i Q.2.2.1 (Nat.le_refl _)
    rw [Nat.sub_self] at h1
    rw [bC_sum, ← h1]
    rfl
  unfold M4
  rw [this, this, this, this]
theorem bC_bd {Q : vQ} (hq : qOk Q) (h1 : 1 ≤ Q.1) {w : Nat} : ∀ k, k ≤ Q.2.2.1 → ∀ i, bC Q w k i ≤ k * 100000 ∧ (cn Q w k = true → bC Q w k i ≤ k * 100) ∧ (cn Q w k = false → ∃ e, e < Q.1 ∧ 100000 ≤ bC Q w k e)
  | 0, _, i => ⟨Nat.le_refl 0, fun _ => Nat.le_refl 0, fun y => absurd y (by simp [cn])⟩
  | k + 1, hk, i => by
    have ih := bC_bd hq h1 (w := w) k (by omega)
    have ht := tm_bd hq h1 (w := w) (j := k) (by omega)
    have hd := dg_lt (Q := Q) h1 w k
    have ec : cn Q w (k + 1) = (cn Q w k && decide (rt Q w k ≠ 0)) := rfl
    have eb : ∀ i, bC Q w (k + 1) i = uN (bC Q w k) (dg Q w k) (bC Q w k (dg Q w k) + tm Q w k) i := fun _ => rfl
    refine ⟨?_, fun y => ?_, fun y => ?_⟩
    · rw [eb]
      have a1 := (ih i).1
      have a2 := (ih (dg Q w k)).1
      have a3 := ht.1
      have a4 : (k + 1) * 100000 = k * 100000 + 100000 := Nat.succ_mul _ _
      rw [a4]
      by_cases y : i = dg Q w k
      · rw [y, uN_s]; exact Nat.add_le_add a2 a3
      · rw [uN_n y]; exact Nat.le_trans a1 (Nat.le_add_right _ _)
    · rw [ec, Bool.and_eq_true, decide_eq_true_iff] at y
      rw [eb]
      have a1 := (ih i).2.1 y.1
      have a2 := (ih (dg Q w k)).2.1 y.1
      have a3 := ht.2.1 y.2
      have a4 : (k + 1) * 100 = k * 100 + 100 := Nat.succ_mul _ _
      rw [a4]
      by_cases y : i = dg Q w k
      · rw [y, uN_s]; exact Nat.add_le_add a2 a3
      · rw [uN_n y]; exact Nat.le_trans a1 (Nat.le_add_right _ _)
    · by_cases w1 : cn Q w k = true
      · rw [ec, w1, Bool.true_and, decide_eq_false_iff_not] at y
        have : rt Q w k = 0 := Classical.byContradiction (fun z => y z)
        refine ⟨dg Q w k, hd, ?_⟩
        rw [eb, uN_s]
        have : tm Q w k = 100000 := by unfold tm; rw [if_pos this]
        omega
      · obtain ⟨e, e1, e2⟩ := (ih i).2.2 (by simpa using w1)
        refine ⟨e, e1, ?_⟩
        rw [eb]
        by_cases z : e = dg Q w k
        · rw [z, uN_s, ← z]; omega
        · rw [uN_n z]; exact e2
theorem M4_bd {f : Nat → Nat} {b : Nat} (h : ∀ i, f i ≤ b) : M4 f ≤ b := by
  have h0 := h 0
  have h1 := h 1
  have h2 := h 2
  have h3 := h 3
  unfold M4
  omega
theorem M4_ge (f : Nat → Nat) {e : Nat} (he : e < 4) : f e ≤ M4 f := by
  unfold M4
  rcases (by omega : e = 0 ∨ e = 1 ∨ e = 2 ∨ e = 3) with rfl | rfl | rfl | rfl <;> omega
theorem cn_M {Q : vQ} (hq : qOk Q) (h1 : 1 ≤ Q.1) (w : Nat) : (cn Q w Q.2.2.1 = true ↔ M4 (bC Q w Q.2.2.1) < 100000) ∧ M4 (bC Q w Q.2.2.1) ≤ 500000 := by
  have h := bC_bd hq h1 (w := w) Q.2.2.1 (Nat.le_refl _)
  have hj := hq.2.1
  refine ⟨⟨fun y => ?_, fun y => ?_⟩, ?_⟩
  · have := M4_bd (fun i => (h i).2.1 y)
    omega
  · cases e : cn Q w Q.2.2.1 with
    | true => rfl
    | false =>
      obtain ⟨x, x1, x2⟩ := (h 0).2.2 e
      have := M4_ge (bC Q w Q.2.2.1) (e := x) (by have := hq.1; omega)
      omega
  · have := M4_bd (fun i => (h i).1)
    omega
theorem cn_mono {Q : vQ} {w i n : Nat} (hn : i ≤ n) (h : cn Q w i = false) : cn Q w n = false := by
  induction hn with
  | refl => exact h
  | step _ ih => simp [cn, ih]
theorem QC.mv {Q : vQ} (hq : qOk Q) {c c' : vv_S} (h : QC Q c) (e : ∀ i, i ≠ 22 → c' i = c i) : QC Q c' := by
  obtain ⟨u1, u2, u3, u4⟩ := h
  have := hq.1
  refine ⟨by rw [e 14 (by decide)]; exact u1, by rw [e 14 (by decide)]; exact u2, fun i s hi hs => by rw [e (16 + i) (by omega)]; exact u3 i s hi hs, ?_⟩
  rw [e 20 (by decide), e 21 (by decide)]
  exact u4
theorem s_whoDoes {Q : vQ} (hq : qOk Q) (h1 : 1 ≤ Q.1) {j w : Nat} (hj : j < Q.2.2.1) (hw : w < 2 ^ 30) {c : vv_S} {post : Int32 → vv_S → Prop} (hc : QC Q c) (h : post (nI (dg Q w j)) c) : wX2_whoDoes 14 (nI j) (nI w) c post := by
  obtain ⟨u1, u2, -⟩ := hc
  have hn := hq.1
  have hnj := hq.2.1
  have hne : ¬ nI Q.1 = 0 := nI_ne0 h1 (by omega)
  unfold wX2_whoDoes
  rw [u1, u2]
  refine ⟨fun _ => ?_, fun y => absurd (by rw [vn1]; exact nI_le h1 (by omega)) y⟩
  rintro _ rfl
  refine jn_of (fun k => k (nI (dvn Q.1 w (Q.2.2.1 - 1 - j)))) ⟨hne, ?_⟩ ?_
  · have := dvn_le Q.1 w (Q.2.2.1 - 1 - j)
    rw [pk_rem (by omega) h1 (by omega)]
    exact h
  · intro k hk
    have key : ∀ (i s : Nat), s + i = Q.2.2.1 - 1 - j → lX2_whoDoes_1 (nI j) k c 14 (i + 1) (nI (dvn Q.1 w s)) (nI (Q.2.2.1 - 1 - s)) := by
      intro i
      induction i with
      | zero =>
        intro s hs
        unfold lX2_whoDoes_1
        refine ⟨fun _ => by rw [show s = Q.2.2.1 - 1 - j by omega]; exact hk, fun y => absurd (nI_le (by omega) (by omega)) y⟩
      | succ i ih =>
        intro s hs
        have := dvn_le Q.1 w s
        unfold lX2_whoDoes_1
        rw [u1]
        refine ⟨fun y => absurd y (nI_ge (by omega) (by omega)), fun _ => ⟨hne, ?_⟩⟩
        rintro _ rfl _ rfl
        rw [pk_div (by omega) h1 (by omega), show Q.2.2.1 - 1 - s = Q.2.2.1 - 1 - (s + 1) + 1 by omega, pk_m1]
        exact ih (s + 1) (by omega)
    refine ⟨Q.2.2.1 - 1 - j + 1, ?_⟩
    have := key (Q.2.2.1 - 1 - j) 0 (by omega)
    rw [vn1, pk_sub (by omega)]
    exact this
theorem s_minutesFor {Q : vQ} (hq : qOk Q) {i j : Nat} (hi : i < Q.1) (hj : j < Q.2.2.1) {c : vv_S} {post : Int32 → vv_S → Prop} (hc : QC Q c) (h : post (if Q.2.1 i (Q.2.2.2.1 j) = 0 then -4 else nI ((Q.2.2.2.2 j + Q.2.1 i (Q.2.2.2.1 j) - 1) / Q.2.1 i (Q.2.2.2.1 j))) c) : wX2_minutesFor 14 (nI i) (nI j) c post := by
  obtain ⟨u1, u2, u3, u4⟩ := hc
  have hn := hq.1
  have hnj := hq.2.1
  have hjj := hq.2.2.2 j hj
  have hr9 := hq.2.2.1 i (Q.2.2.2.1 j) hi (by omega)
  have e1 : c 20 j = nI (Q.2.2.2.1 j) := (u4 j hj).1
  have e2 : c 21 j = nI (Q.2.2.2.2 j) := (u4 j hj).2
  have e3 : c (16 + i) (Q.2.2.2.1 j) = nI (Q.2.1 i (Q.2.2.2.1 j)) := u3 i _ hi (by omega)
  have hci : (nI i).toNatClampNeg = i := nI_clamp (by omega)
  have hcj : (nI j).toNatClampNeg = j := nI_clamp (by omega)
  have hcs : (nI (Q.2.2.2.1 j)).toNatClampNeg = Q.2.2.2.1 j := nI_clamp (by omega)
  unfold wX2_minutesFor
  rw [u1, u2]
  refine jn_of (fun _ => True) trivial ?_
  intro k _
  refine ⟨fun y => absurd y (nI_pos (by omega)), fun _ => ⟨fun y => absurd y (nI_ge hi (by omega)), fun _ => ⟨fun y => absurd y (nI_pos (by omega)), fun _ => ⟨fun _ => ?_, fun y => absurd (nI_lt hj (by omega)) y⟩⟩⟩⟩
  rw [hci, hcj]
  show _ ∧ _ ∧ vp_in (c 20 j) 4 ∧ _
  rw [e1]
  refine ⟨vp_in_nI (by omega) (by decide), vp_in_nI (by omega) (by decide), vp_in_nI (by omega) (by decide), ?_⟩
  rw [show 14 + 2 + 1 * i = 16 + i by omega]
  rw [hcs, e3]
  rintro _ rfl
  refine jn_of (fun f => f (if Q.2.1 i (Q.2.2.2.1 j) = 0 then -4 else nI ((Q.2.2.2.2 j + Q.2.1 i (Q.2.2.2.1 j) - 1) / Q.2.1 i (Q.2.2.2.1 j)))) h ?_
  intro f hf
  rw [vn1, nI_leI (by decide) (by omega)]
  refine ⟨fun y => ⟨vp_in_nI (by omega) (by decide), nI_ne0 y (by omega), ?_⟩, fun y => ?_⟩
  · show f ((c 21 j + _ - _) / _)
    rw [e2, nI_add, pk_sub (by omega), pk_div (by omega) y (by omega)]
    rw [if_neg (by omega)] at hf
    exact hf
  · rw [if_pos (by omega)] at hf
    exact hf
theorem nI_nm4 {n : Nat} (h : n < 2 ^ 31) : ¬ nI n = -4 := fun y => absurd (y ▸ nI_pos' h : (0 : Int32) ≤ -4) (by decide)
theorem s_minutesBy {Q : vQ} (hq : qOk Q) {w : Nat} (h1 : 0 < Q.2.2.1 → 1 ≤ Q.1) (hw : w < 2 ^ 30) {c : vv_S} {post : Int32 → vv_S → Prop} (hc : QC Q c)
    (h : ∀ c', (∀ i, i ≠ 22 → c' i = c i) → post (if cn Q w Q.2.2.1 = true then nI (M4 (bC Q w Q.2.2.1)) else -4) c') : wX2_minutesBy 14 (nI w) c post := by
  have hn := hq.1
  have hnj := hq.2.1
  have e4 : (4 : Int32) = nI 4 := by decide
  unfold wX2_minutesBy
  refine jn_of (fun k => ∀ c', (∀ i, i ≠ 22 → c' i = c i) → (∀ i, i < 4 → c' 22 i = nI 0) → k c') ?_ ?_
  · intro c1 hf1 hb1
    refine jn_of (fun k => ∀ c', (∀ i, i ≠ 22 → c' i = c i) → cn Q w Q.2.2.1 = false → k c') (fun c' hf' y => by have := h c' hf'; rw [if_neg (by rw [y]; decide)] at this; exact this) ?_
    intro k hk
    have key : ∀ (j i : Nat) (c' : vv_S), i + j = Q.2.2.1 → cn Q w i = true → (∀ i, i ≠ 22 → c' i = c i) → (∀ e, e < 4 → c' 22 e = nI (bC Q w i e)) → lX2_minutesBy_1 14 post (nI w) k (j + 1) (nI (M4 (bC Q w i))) (nI i) c' := by
      intro j
      induction j with
      | zero =>
        intro i c' hi hcn hf' hb'
        have hc' := hc.mv hq hf'
        unfold lX2_minutesBy_1
        rw [hc'.2.1]
        refine ⟨fun _ => ?_, fun y => absurd (nI_le (by omega) (by omega)) y⟩
        have := h c' hf'
        rw [show Q.2.2.1 = i by omega, if_pos hcn] at this
        exact this
      | succ j ih =>
        intro i c' hi hcn hf' hb'
        have hc' := hc.mv hq hf'
        have h11 := h1 (by omega)
        have hd := dg_lt (Q := Q) h11 w i
        have ht := tm_bd hq h11 (w := w) (j := i) (by omega)
        have ec : cn Q w (i + 1) = (cn Q w i && decide (rt Q w i ≠ 0)) := rfl
        rw [hcn, Bool.true_and] at ec
        have hcd : (nI (dg Q w i)).toNatClampNeg = dg Q w i := nI_clamp (by omega)
        have hin : vp_in (nI (dg Q w i)) 4 := vp_in_nI (by omega) (by decide)
        unfold lX2_minutesBy_1
        rw [hc'.2.1]
        refine ⟨fun y => absurd y (nI_ge (by omega) (by omega)), fun _ => s_whoDoes hq h11 (show i < Q.2.2.1 by omega) hw hc' (s_minutesFor hq hd (by omega) hc' ?_)⟩
        rw [hcd]
        have er : Q.2.1 (dg Q w i) (Q.2.2.2.1 i) = rt Q w i := rfl
        rw [er]
        by_cases z : rt Q w i = 0
        · rw [if_pos z]
          exact ⟨fun _ => hk c' hf' (cn_mono (show i + 1 ≤ Q.2.2.1 by omega) (by rw [ec]; simp [z])), fun y => absurd rfl y⟩
        · rw [if_neg z]
          have et : (Q.2.2.2.2 i + rt Q w i - 1) / rt Q w i = tm Q w i := by unfold tm; rw [if_neg z]
          rw [et]
          have ht2 := ht.2.1 z
          refine ⟨fun y => absurd y (nI_nm4 (by omega)), fun _ => ⟨fun y => absurd y (nI_pos (by omega)), fun _ => ⟨fun _ => ⟨hin, hin, ?_⟩, fun y => absurd (by rw [e4]; exact nI_lt (by omega) (by decide)) y⟩⟩⟩
          have hbd := (bC_bd hq h11 (w := w) i (by omega) (dg Q w i)).1
          have hbm := M4_bd (fun e => (bC_bd hq h11 (w := w) i (by omega) e).1)
          show ∀ σ19, σ19 = vv_up c' 22 _ (c' 22 _ + _) → _
          rw [hb' _ (by omega), nI_add]
          rintro _ rfl
          refine ⟨hin, ?_⟩
          show ∀ v21, v21 = (if _ < vv_up c' 22 _ _ 22 _ then vv_up c' 22 _ _ 22 _ else _) → _
          rw [vv_up_s]
          rintro _ rfl _ rfl
          have em : (if nI (M4 (bC Q w i)) < nI (bC Q w i (dg Q w i) + tm Q w i) then nI (bC Q w i (dg Q w i) + tm Q w i) else nI (M4 (bC Q w i))) = nI (M4 (bC Q w (i + 1))) := by
            have : M4 (bC Q w (i + 1)) = max (M4 (bC Q w i)) (bC Q w i (dg Q w i) + tm Q w i) := M4_u (by omega)
            rw [this]
            by_cases y : M4 (bC Q w i) < bC Q w i (dg Q w i) + tm Q w i
            · rw [if_pos (nI_lt y (by omega)), Nat.max_eq_right (by omega)]
            · rw [if_neg (nI_nlt (by omega) (by omega)), Nat.max_eq_left (by omega)]
          rw [em, nI_1]
          refine ih (i + 1) _ (by omega) (by rw [ec]; simp [z]) (fun i' a => by rw [vv_up_r a]; exact hf' i' a) (fun e he => ?_)
          show _ = nI (uN _ _ _ e)
          by_cases y : e = dg Q w i
          · rw [y, vv_up_s, uN_s]
          · rw [vv_up_i y, uN_n y]; exact hb' e he
    refine ⟨Q.2.2.1 + 1, ?_⟩
    have := key Q.2.2.1 0 c1 (by omega) rfl hf1 hb1
    exact this
  · intro k hk
    have key : ∀ (j i : Nat) (c' : vv_S), i + j = 4 → (∀ i, i ≠ 22 → c' i = c i) → (∀ e, e < i → c' 22 e = nI 0) → lX2_minutesBy_2 k 14 (j + 1) (nI i) c' := by
      intro j
      induction j with
      | zero =>
        intro i c' hi hf' hb'
        unfold lX2_minutesBy_2
        rw [e4]
        exact ⟨fun _ => hk c' hf' (fun e he => hb' e (by omega)), fun y => absurd (nI_le (by omega) (by omega)) y⟩
      | succ j ih =>
        intro i c' hi hf' hb'
        have hci : (nI i).toNatClampNeg = i := nI_clamp (by omega)
        unfold lX2_minutesBy_2
        rw [hci]
        refine ⟨fun y => absurd y (by rw [e4]; exact nI_ge (by omega) (by omega)), fun _ => ⟨vp_in_nI (by omega) (by decide), ?_⟩⟩
        rintro _ rfl _ rfl
        rw [nI_1]
        refine ih (i + 1) _ (by omega) (fun i' a => by rw [vv_up_r a]; exact hf' i' a) (fun e he => ?_)
        by_cases y : e = i
        · rw [y]; exact vv_up_s
        · rw [vv_up_i y]; exact hb' e (by omega)
    exact ⟨5, key 4 0 c (by omega) (fun _ _ => rfl) (fun e he => absurd he (Nat.not_lt_zero _))⟩

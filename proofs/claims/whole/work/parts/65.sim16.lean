theorem QM.mv {Q : vQ} {m m' : vv_S} (h : QM Q m) (e : ∀ i, i ≠ 37 → i ≠ 38 → i ≠ 39 → m' i = m i) : QM Q m' := by
  unfold QM at *
  rw [e 14 (by decide) (by decide) (by decide), e 15 (by decide) (by decide) (by decide), e 16 (by decide) (by decide) (by decide), e 18 (by decide) (by decide) (by decide), e 19 (by decide) (by decide) (by decide)]
  exact h
theorem bM_bd {Q : vQ} (hq : qOk Q) (h1 : 1 ≤ Q.1) {w : Nat} : ∀ k, k ≤ Q.2.2.1 → ∀ i, bM Q w k i ≤ k * 100000
  | 0, _, i => Nat.le_refl 0
  | k + 1, hk, i => by
    have ih := bM_bd hq h1 (w := w) k (by omega)
    have ht := tm_bd hq h1 (w := w) (j := Q.2.2.1 - 1 - k) (by omega)
    have a4 : (k + 1) * 100000 = k * 100000 + 100000 := Nat.succ_mul _ _
    rw [a4]
    show uN _ _ _ i ≤ _
    by_cases y : i = dg Q w (Q.2.2.1 - 1 - k)
    · rw [y, uN_s]; exact Nat.add_le_add (ih _) ht.1
    · rw [uN_n y]; exact Nat.le_trans (ih i) (Nat.le_add_right _ _)
theorem s_timeOf {Q : vQ} (hq : qOk Q) (h1 : 1 ≤ Q.1) {w : Nat} (hw : w < 2 ^ 30) {m : vv_S} {post : Int32 → vv_S → Prop} (hm : QM Q m)
    (h : ∀ m', (∀ i, i ≠ 37 → i ≠ 38 → m' i = m i) → (∀ j, j < Q.2.2.1 → m' 38 j = nI (dg Q w j)) → post (if cn Q w Q.2.2.1 = true then nI (M4 (bC Q w Q.2.2.1)) else -4) m') : wX9_timeOf (nI w) m post := by
  have hn := hq.1
  have hnj := hq.2.1
  have e4 : (4 : Int32) = nI 4 := by decide
  have eK : (100000 : Int32) = nI 100000 := by decide
  have hcm := cn_M hq h1 w
  unfold wX9_timeOf
  refine jn_of (fun k => ∀ c', (∀ i, i ≠ 37 → i ≠ 38 → c' i = m i) → (∀ i, i < 4 → c' 37 i = nI 0) → k c') ?_ ?_
  · intro c1 hf1 hb1
    have hq1 := hm.mv (fun i a b _ => hf1 i a b)
    rintro _ rfl
    rw [hq1.2.1]
    refine jn_of (fun k => ∀ c', (∀ i, i ≠ 37 → i ≠ 38 → c' i = m i) → (∀ j, j < Q.2.2.1 → c' 38 j = nI (dg Q w j)) → k (nI (M4 (bC Q w Q.2.2.1))) c') ?_ ?_
    · intro c' hf' hd'
      refine jn_of (fun k => k (if cn Q w Q.2.2.1 = true then nI (M4 (bC Q w Q.2.2.1)) else -4)) (h c' hf' hd') ?_
      intro k hk
      rw [eK, nI_ltI (by omega) (by decide), ← hcm.1]
      exact ⟨fun y => by rw [if_pos y] at hk; exact hk, fun y => by rw [if_neg y] at hk; exact hk⟩
    · intro k hk
      have key : ∀ (i s : Nat) (c' : vv_S), s + i = Q.2.2.1 → (∀ i, i ≠ 37 → i ≠ 38 → c' i = m i) → (∀ e, e < 4 → c' 37 e = nI (bM Q w s e)) → (∀ j, Q.2.2.1 ≤ j + s → j < Q.2.2.1 → c' 38 j = nI (dg Q w j)) → lX9_timeOf_1 k (i + 1) (nI (dvn Q.1 w s)) (nI (M4 (bM Q w s))) (nI i - 1) c' := by
        intro i
        induction i with
        | zero =>
          intro s c' hs hf' hb' hd'
          unfold lX9_timeOf_1
          refine ⟨fun _ => ?_, fun y => absurd (by decide) y⟩
          have e : s = Q.2.2.1 := by omega
          subst e
          rw [bM_C]
          exact hk c' hf' (fun j hj => hd' j (by omega) hj)
        | succ i ih =>
          intro s c' hs hf' hb' hd'
          obtain ⟨u1, u2, u3, u4⟩ := hm.mv (fun i a b _ => hf' i a b)
          have hne : ¬ nI Q.1 = 0 := nI_ne0 h1 (by omega)
          have hdl := dvn_le Q.1 w s
          have edg : dvn Q.1 w s % Q.1 = dg Q w i := by
            unfold dg
            rw [show Q.2.2.1 - 1 - i = s by omega]
          have hd := dg_lt (Q := Q) h1 w i
          have hsi := (hq.2.2.2 i (by omega))
          have ht := tm_bd hq h1 (w := w) (j := i) (by omega)
          have hcd : (nI (dg Q w i)).toNatClampNeg = dg Q w i := nI_clamp (by omega)
          have hci : (nI i).toNatClampNeg = i := nI_clamp (by omega)
          have hin : vp_in (nI (dg Q w i)) 4 := vp_in_nI (by omega) (by decide)
          have hbd := bM_bd hq h1 (w := w) s (by omega) (dg Q w i)
          have hbm := M4_bd (fun e => bM_bd hq h1 (w := w) s (by omega) e)
          unfold lX9_timeOf_1
          rw [nI_pred, u1]
          refine ⟨fun y => absurd y (nI_pos (by omega)), fun _ => ⟨hne, ?_⟩⟩
          rintro _ rfl
          rw [pk_rem (by omega) h1 (by omega), edg]
          refine ⟨hne, ?_⟩
          rintro _ rfl
          rw [pk_div (by omega) h1 (by omega)]
          refine ⟨vp_in_nI (by omega) (by decide), ?_⟩
          rintro _ rfl
          rw [hci, hcd]
          refine ⟨vp_in_nI (by omega) (by decide), ?_⟩
          rw [vv_up_r (show (18 : Nat) ≠ 38 by decide), vv_up_r (show (15 : Nat) ≠ 38 by decide), vv_up_r (show (19 : Nat) ≠ 38 by decide), vv_up_r (show (37 : Nat) ≠ 38 by decide), (u4 i (by omega)).1, (u4 i (by omega)).2, e4, pk_mul, nI_add, nI_clamp (n := 4 * dg Q w i + Q.2.2.2.1 i) (by omega)]
          refine ⟨vp_in_nI (by omega) (by decide), ?_⟩
          rw [u3 (dg Q w i) (Q.2.2.2.1 i) hd (by omega)]
          have er : Q.2.1 (dg Q w i) (Q.2.2.2.1 i) = rt Q w i := rfl
          rw [er]
          rintro _ rfl
          refine ⟨hin, jn_of (fun f => f (nI (tm Q w i))) ?_ ?_⟩
          · refine ⟨hin, ?_⟩
            rintro _ rfl
            rw [hb' _ (by omega), nI_add, vv_up_s]
            refine ⟨hin, jn_of (fun f => f (nI (M4 (bM Q w (s + 1))))) ?_ ?_⟩
            · rintro _ rfl
              rw [← Int32.sub_eq_add_neg]
              have eU : bM Q w (s + 1) = uN (bM Q w s) (dg Q w i) (bM Q w s (dg Q w i) + tm Q w i) := by
                show uN _ _ _ = _
                rw [show Q.2.2.1 - 1 - s = i by omega]
              refine ih (s + 1) _ (by omega) (fun i' a b => by rw [vv_up_r a, vv_up_r b]; exact hf' i' a b) (fun e he => ?_) (fun j j1 j2 => ?_)
              · rw [eU]
                by_cases y : e = dg Q w i
                · rw [y, vv_up_s, uN_s]
                · rw [vv_up_i y, uN_n y, vv_up_c (by decide)]; exact hb' e he
              · rw [vv_up_c (by decide)]
                by_cases y : j = i
                · rw [y, vv_up_s]
                · rw [vv_up_i y]; exact hd' j (by omega) j2
            · intro f hf
              have eM : M4 (bM Q w (s + 1)) = max (M4 (bM Q w s)) (bM Q w s (dg Q w i) + tm Q w i) := by
                show M4 (uN _ _ _) = _
                rw [show Q.2.2.1 - 1 - s = i by omega]
                exact M4_u (by omega)
              rw [eM] at hf
              rw [nI_leI (by omega) (by omega)]
              refine ⟨fun y => ?_, fun y => ⟨hin, ?_⟩⟩
              · rw [Nat.max_eq_left y] at hf; exact hf
              · rw [Nat.max_eq_right (by omega)] at hf; exact hf
          · intro f hf
            have z0 : nI (rt Q w i) = 0 ↔ rt Q w i = 0 := by rw [vn0]; exact nI_eq (by omega) (by decide)
            have et : tm Q w i = if rt Q w i = 0 then 100000 else (Q.2.2.2.2 i + rt Q w i - 1) / rt Q w i := rfl
            refine ⟨fun y => ⟨vp_in_nI (by omega) (by decide), y, ?_⟩, fun y => ?_⟩
            · have yy : ¬ rt Q w i = 0 := fun z => y (z0.mpr z)
              rw [if_neg yy] at et
              rw [nI_add, vn1, pk_sub (by omega), pk_div (by omega) (by omega) (by omega), ← et]
              exact hf
            · rw [if_pos (z0.mp y)] at et
              rw [eK, ← et]
              exact hf
      refine ⟨Q.2.2.1 + 1, ?_⟩
      have := key Q.2.2.1 0 c1 (by omega) hf1 hb1 (fun j j1 j2 => by omega)
      exact this
  · intro k hk
    have key : ∀ (j i : Nat) (c' : vv_S), i + j = 4 → (∀ i, i ≠ 37 → i ≠ 38 → c' i = m i) → (∀ e, e < i → c' 37 e = nI 0) → lX9_timeOf_2 k (j + 1) (nI i) c' := by
      intro j
      induction j with
      | zero =>
        intro i c' hi hf' hb'
        unfold lX9_timeOf_2
        rw [e4]
        exact ⟨fun _ => hk c' hf' (fun e he => hb' e (by omega)), fun y => absurd (nI_le (by omega) (by omega)) y⟩
      | succ j ih =>
        intro i c' hi hf' hb'
        have hci : (nI i).toNatClampNeg = i := nI_clamp (by omega)
        unfold lX9_timeOf_2
        rw [hci]
        refine ⟨fun y => absurd y (by rw [e4]; exact nI_ge (by omega) (by omega)), fun _ => ⟨vp_in_nI (by omega) (by decide), ?_⟩⟩
        rintro _ rfl _ rfl
        rw [nI_1]
        refine ih (i + 1) _ (by omega) (fun i' a b => by rw [vv_up_r a]; exact hf' i' a b) (fun e he => ?_)
        by_cases y : e = i
        · rw [y]; exact vv_up_s
        · rw [vv_up_i y]; exact hb' e (by omega)
    exact ⟨5, key 4 0 m (by omega) (fun _ _ _ => rfl) (fun e he => absurd he (Nat.not_lt_zero _))⟩
def wc (n : Nat) : Nat → Nat
  | 0 => 1
  | k + 1 => wc n k * n
theorem wc_le {n : Nat} (hn : n ≤ 4) : ∀ k, wc n k ≤ 4 ^ k
  | 0 => Nat.le_refl 1
  | k + 1 => by rw [Nat.pow_succ]; exact Nat.mul_le_mul (wc_le hn k) hn
theorem wc_bd {n k : Nat} (hn : n ≤ 4) (hk : k ≤ 5) : wc n k ≤ 1024 := Nat.le_trans (wc_le hn k) (Nat.le_trans (Nat.pow_le_pow_right (by decide) hk) (by decide))
theorem wc_pos {n : Nat} : ∀ {k : Nat}, 0 < wc n k → 0 < k → 1 ≤ n
  | k + 1, h, _ => by
    rcases Nat.eq_zero_or_pos n with z | z
    · subst z; simp [wc] at h
    · exact z
def qs (Q : vQ) : Nat → Option (Nat × Nat)
  | 0 => none
  | i + 1 => if cn Q i Q.2.2.1 = true then (match qs Q i with
    | none => some (i, M4 (bC Q i Q.2.2.1))
    | some p => if M4 (bC Q i Q.2.2.1) < p.2 then some (i, M4 (bC Q i Q.2.2.1)) else some p) else qs Q i
theorem qs_some {Q : vQ} : ∀ {i : Nat} {p : Nat × Nat}, qs Q i = some p → p.1 < i ∧ cn Q p.1 Q.2.2.1 = true ∧ p.2 = M4 (bC Q p.1 Q.2.2.1)
  | i + 1, p, h => by
    unfold qs at h
    by_cases hc : cn Q i Q.2.2.1 = true
    · rw [if_pos hc] at h
      cases e : qs Q i with
      | none =>
        rw [e] at h
        injection h with h
        subst h
        exact ⟨Nat.lt_succ_self _, hc, rfl⟩
      | some q =>
        rw [e] at h
        dsimp only at h
        split at h
        · injection h with h
          subst h
          exact ⟨Nat.lt_succ_self _, hc, rfl⟩
        · injection h with h
          subst h
          have := qs_some e
          exact ⟨by omega, this.2⟩
    · rw [if_neg hc] at h
      have := qs_some h
      exact ⟨by omega, this.2⟩
def qW : Option (Nat × Nat) → Int32
  | none => -4
  | some p => nI p.1
def qL (z : Int32) : Option (Nat × Nat) → Int32
  | none => z
  | some p => nI p.2
theorem s_quickest {Q : vQ} (hq : qOk Q) {c : vv_S} {post : Int32 → vv_S → Prop} (hc : QC Q c) (h : ∀ c', (∀ i, i ≠ 22 → c' i = c i) → post (qW (qs Q (wc Q.1 Q.2.2.1))) c') : wX2_quickestWay 14 c post := by
  have hn := hq.1
  have hnj := hq.2.1
  have hwb := wc_bd hn hnj
  unfold wX2_quickestWay wX2_wayCount
  have key1 : ∀ (K : Int32 → vv_S → Prop), K (nI (wc Q.1 Q.2.2.1)) c → ∀ (j i : Nat), i + j = Q.2.2.1 → lX2_wayCount_1 c 14 K (j + 1) (nI (wc Q.1 i)) (nI i) := by
    intro K hK j
    induction j with
    | zero =>
      intro i hi
      unfold lX2_wayCount_1
      rw [hc.2.1]
      exact ⟨fun _ => by rw [show i = Q.2.2.1 by omega]; exact hK, fun y => absurd (nI_le (by omega) (by omega)) y⟩
    | succ j ih =>
      intro i hi
      unfold lX2_wayCount_1
      rw [hc.2.1, hc.1]
      refine ⟨fun y => absurd y (nI_ge (by omega) (by omega)), fun _ => ?_⟩
      rintro _ rfl _ rfl
      rw [pk_mul, nI_1]
      exact ih (i + 1) (by omega)
  refine ⟨Q.2.2.1 + 1, key1 _ ?_ Q.2.2.1 0 (by omega)⟩
  have key : ∀ (j i : Nat) (c' : vv_S), i + j = wc Q.1 Q.2.2.1 → (∀ i, i ≠ 22 → c' i = c i) → lX2_quickestWay_1 (nI (wc Q.1 Q.2.2.1)) post 14 (j + 1) (qW (qs Q i)) (qL 0 (qs Q i)) (nI i) c' := by
    intro j
    induction j with
    | zero =>
      intro i c' hi hf'
      unfold lX2_quickestWay_1
      refine ⟨fun _ => by rw [show i = wc Q.1 Q.2.2.1 by omega]; exact h c' hf', fun y => absurd (nI_le (by omega) (by omega)) y⟩
    | succ j ih =>
      intro i c' hi hf'
      have hn1 : 0 < Q.2.2.1 → 1 ≤ Q.1 := wc_pos (by omega)
      unfold lX2_quickestWay_1
      refine ⟨fun y => absurd y (nI_ge (by omega) (by omega)), fun _ => s_minutesBy hq hn1 (by omega) (hc.mv hq hf') ?_⟩
      intro c2 hf2
      have hf3 : ∀ i, i ≠ 22 → c2 i = c i := fun i a => by rw [hf2 i a, hf' i a]
      refine jn_of (fun k => k (qW (qs Q (i + 1))) (qL 0 (qs Q (i + 1)))) ?_ ?_
      · rintro _ rfl
        rw [nI_1]
        exact ih (i + 1) c2 (by omega) hf3
      · intro k hk
        by_cases hcn : cn Q i Q.2.2.1 = true
        · have hM : M4 (bC Q i Q.2.2.1) ≤ 500000 := by
            rcases Nat.eq_zero_or_pos Q.2.2.1 with z | z
            · rw [z]; exact (by decide : M4 (fun _ => 0) ≤ 500000)
            · exact (cn_M hq (hn1 z) i).2
          rw [if_pos hcn]
          refine ⟨fun y => absurd y (nI_nm4 (by omega)), fun _ => ?_⟩
          have eq : qs Q (i + 1) = (match qs Q i with
            | none => some (i, M4 (bC Q i Q.2.2.1))
            | some p => if M4 (bC Q i Q.2.2.1) < p.2 then some (i, M4 (bC Q i Q.2.2.1)) else some p) := by
            rw [qs, if_pos hcn]
          cases e : qs Q i with
          | none =>
            rw [e] at eq
            rw [eq] at hk
            refine jn_of (fun f => f) hk (fun f hf => ⟨fun _ => hf, fun y => absurd rfl y⟩)
          | some p =>
            rw [e] at eq
            dsimp only at eq
            have hp2 := qs_some e
            have hpl : p.2 ≤ 500000 := by
              rw [hp2.2.2]
              rcases Nat.eq_zero_or_pos Q.2.2.1 with z | z
              · rw [z]; exact (by decide : M4 (fun _ => 0) ≤ 500000)
              · exact (cn_M hq (hn1 z) p.1).2
            refine jn_of (fun f => M4 (bC Q i Q.2.2.1) < p.2 → f) (fun y => by rw [if_pos y] at eq; rw [eq] at hk; exact hk) (fun f hf => ⟨fun y => absurd y (nI_nm4 (n := p.1) (by omega)), fun _ => ?_⟩)
            show (nI p.2 ≤ nI _ → _) ∧ (¬ nI p.2 ≤ nI _ → _)
            rw [nI_leI (by omega) (by omega)]
            refine ⟨fun y => ?_, fun y => hf (by omega)⟩
            rw [if_neg (by omega)] at eq
            rw [eq] at hk
            exact hk
        · have eq : qs Q (i + 1) = qs Q i := by rw [qs, if_neg hcn]
          rw [eq] at hk
          rw [if_neg hcn]
          exact ⟨fun _ => hk, fun y => absurd rfl y⟩
  exact ⟨wc Q.1 Q.2.2.1 + 1, key (wc Q.1 Q.2.2.1) 0 c (by omega) (fun _ _ => rfl)⟩

def beA (a : Int32) : vB → Int32
  | none => -4
  | some p => if a = -1 then nI p.2 else nI (p.1.getD a.toNatClampNeg 0)
theorem sim_best {a1 a2 a3 a4 : Int32} {c m : vv_S} (h : Rel c m) : wX8_best a1 a2 a3 a4 c (fun x s => wX9_best a1 a2 a3 a4 m (fun y t => x = y ∧ Rel s t)) := by
  have hR := h
  obtain ⟨P, D, A, Q, B, ho, hc, hm⟩ := h
  obtain ⟨hp, hd, -⟩ := id ho
  have hm9 := ho.m999
  have hn8 := ho.1.2.1
  have n1 : (-1 : Int32) ≤ nI (pN P) - 1 := nJ_le (by omega)
  have bad : ¬ (((1 : Int32) ≤ a1 ∧ a1 ≤ 5) ∧ ((0 : Int32) ≤ a2 ∧ a2 ≤ 3) ∧ ((1 : Int32) ≤ a3 ∧ a3 ≤ 60) ∧ ((-1 : Int32) ≤ a4 ∧ a4 ≤ nI (pN P) - 1)) → wX9_best a1 a2 a3 a4 m (fun y t => -1 = y ∧ Rel c t) := by
    intro hz
    unfold wX9_best
    refine s_inM (lo := 1) (hi := 5) (by decide) (by decide) (fun q1 => jn_of (fun f => f m) ⟨rfl, hR⟩ (fun f hf => ⟨fun z => absurd z (by decide), fun _ => s_inM (lo := 0) (hi := 3) (by decide) (by decide) (fun q2 => ⟨fun z => absurd z (by decide), fun _ => s_inM (lo := 1) (hi := 60) (by decide) (by decide) (fun q3 => ⟨fun z => absurd z (by decide), fun _ => ?_⟩) (fun _ => ⟨fun _ => hf, fun z => absurd rfl z⟩)⟩) (fun _ => ⟨fun _ => hf, fun z => absurd rfl z⟩)⟩)) (fun _ => jn_of (fun f => f m) ⟨rfl, hR⟩ (fun f hf => ⟨fun _ => hf, fun z => absurd rfl z⟩))
    refine jn_of (fun _ => True) trivial (fun g _ => ⟨fun y => absurd ⟨q1, q2, q3, by rw [y]; exact ⟨Int32.le_refl _, n1⟩⟩ hz, fun y => s_isCellM hn8 hm.1.1 (fun k k1 k2 => absurd ⟨q1, q2, q3, ?_⟩ hz) (fun _ => ⟨fun z => absurd rfl z, fun _ => hf⟩)⟩)
    have := (cellQ hn8 a4).mpr ⟨k, k1, k2⟩
    exact ⟨Int32.le_trans (by decide) this.1, this.2⟩
  unfold wX8_best wX8_isStuff wX4_cellCount
  refine s_within (fun q1 => ?_) (fun q1 => jn_of (fun f => f c) (bad (fun y => q1 y.1)) (fun f hf => ⟨fun _ => hf, fun z => absurd rfl z⟩))
  refine jn_of (fun f => ¬ (((0 : Int32) ≤ a2 ∧ a2 ≤ 3) ∧ ((1 : Int32) ≤ a3 ∧ a3 ≤ 60) ∧ ((-1 : Int32) ≤ a4 ∧ a4 ≤ nI (pN P) - 1)) → f c) (fun z => bad (fun y => z y.2)) ?_
  intro f hf
  refine ⟨fun z => absurd z (by decide), fun _ => s_within (fun q2 => ?_) (fun q2 => ?_)⟩
  rotate_left
  · exact ⟨Or.inl rfl, ⟨fun _ => hf (fun y => q2 y.1), fun z => absurd rfl z⟩⟩
  refine ⟨Or.inr rfl, ⟨fun z => absurd z (by decide), fun _ => s_within (fun q3 => ⟨fun z => absurd z (by decide), fun _ => ?_⟩) (fun q3 => ⟨fun _ => hf (fun y => q3 y.2.1), fun z => absurd rfl z⟩)⟩⟩
  rw [hc.1.1]
  refine s_within (fun q4 => ⟨fun _ => ?_, fun z => absurd z (by decide)⟩) (fun q4 => ⟨fun z => absurd rfl z, fun _ => hf (fun y => q4 y.2.2)⟩)
  obtain ⟨m0', m1, m5, rfl⟩ := rng1 (L := 1) (N := 5) (by decide) (by decide) q1.1 q1.2
  obtain ⟨s, hs, rfl⟩ := rng (N := 3) (by decide) q2.1 q2.2
  obtain ⟨t, t1, t60, rfl⟩ := rng1 (L := 1) (N := 60) (by decide) (by decide) q3.1 q3.2
  generalize hb : bst P D s t 900 [m0', 0, 0, 0, 0, 0, 0, 0] none = b
  have hmod : ∀ (c2 : vv_S), FQC c c2 → wX9_best (nI m0') (nI s) (nI t) a4 m (fun y t => beA a4 b = y ∧ Rel c2 t) := by
    intro c2 hfc
    unfold wX9_best
    refine s_inM (lo := 1) (hi := 5) (by decide) (by decide) (fun _ => jn_of (fun _ => True) trivial (fun f _ => ⟨fun z => absurd z (by decide), fun _ => s_inM (lo := 0) (hi := 3) (by decide) (by decide) (fun _ => ⟨fun z => absurd z (by decide), fun _ => s_inM (lo := 1) (hi := 60) (by decide) (by decide) (fun _ => ⟨fun z => absurd z (by decide), fun _ => ?_⟩) (fun z => absurd q3 z)⟩) (fun z => absurd q2 z)⟩)) (fun z => absurd q1 z)
    refine jn_of (fun g => g m) ?_ (fun g hg => ⟨fun _ => hg, fun y => s_isCellM hn8 hm.1.1 (fun _ _ _ => ⟨fun _ => hg, fun z => absurd z (by decide)⟩) (fun z => ?_)⟩)
    rotate_left
    · rcases rngJ hn8 q4.1 q4.2 with e | e
      · exact absurd e y
      · exact absurd e z
    refine jn_of (fun k => ∀ m', (∀ i, i ≠ 35 → m' i = m i) → RW 35 [m0', 0, 0, 0, 0, 0, 0, 0] m' → k m') ?_ ?_
    · intro ma hfa h35
      have hqa : FQM m ma := ⟨fun i a b => hfa i (by omega), fun i a => by rw [hfa 0 (by decide)], fun k hk => by rw [hfa 28 (by decide), hfa 29 (by decide), hfa 30 (by decide)]; exact ⟨rfl, rfl, rfl⟩, by rw [hfa 31 (by decide)], by rw [hfa 32 (by decide)], by rw [hfa 33 (by decide)], by rw [hfa 34 (by decide)]⟩
      refine jn_of (fun k => ∀ m', FQM m m' → bR 36 b m' → k (bV b) m') ?_ ?_
      · intro m' hf' hbr
        refine jn_of (fun k => k (beA a4 b)) ⟨rfl, rel_q ho hc hm hfc hf'⟩ ?_
        intro k hk
        cases b with
        | none => exact jn_of (fun f => f) hk (fun f hf => ⟨fun _ => hf, fun y => absurd (by decide) y⟩)
        | some p =>
          have hpl : p.2 ≤ 7375 := by
            have : ∀ (f : Nat) (l : List Nat) (b : vB), bOk b → bOk (bst P D s t f l b) := by
              intro f
              induction f with
              | zero => intro l b h; exact h
              | succ f ih =>
                intro l b h
                cases e : nextL (pN P) l with
                | none => rw [bst_n e]; exact bUp_ok hp hd hs h
                | some l' => rw [bst_s e]; exact ih l' _ (bUp_ok hp hd hs h)
            exact this 900 _ none (fun p e => absurd e (by simp)) p hb
          rcases rngJ hn8 q4.1 q4.2 with rfl | ⟨j, hj, rfl⟩
          · refine jn_of (fun f => f) hk (fun f hf => ⟨fun y => hf, fun _ => ⟨fun y => absurd y (by decide), fun _ => hf⟩⟩)
          · refine jn_of (fun _ => True) trivial (fun f _ => ⟨fun y => absurd y (nI_pos (n := p.2) (by omega)), fun _ => ⟨fun _ => ⟨vp_in_nI (by omega) (by decide), ?_⟩, fun y => absurd (nI_pos' (by omega)) y⟩⟩)
            have hcj : (nI j).toNatClampNeg = j := nI_clamp (by omega)
            have hnm : ¬ nI j = -1 := fun y => absurd (y ▸ nI_pos' (n := j) (by omega) : (0 : Int32) ≤ -1) (by decide)
            rw [hcj, hbr p rfl j (by omega)]
            have : beA (nI j) (some p) = nI (p.1.getD j 0) := by
              show (if _ then _ else _) = _
              rw [if_neg hnm, hcj]
            rw [this] at hk
            exact hk
      · intro k hk
        subst hb
        exact s_bestM hp hd hm9 hs t60 m5 (fun m' h => ⟨(hm.fr hp (hqa.trans h)).1, (hm.fr hp (hqa.trans h)).2.1⟩) h35 (fun m' h => hk m' (hqa.trans h))
    · intro k hk
      have key : ∀ (j i : Nat) (c' : vv_S), i + j = 8 → (∀ i, i ≠ 35 → c' i = m i) → (∀ e, e < i → c' 35 e = nI ([m0', 0, 0, 0, 0, 0, 0, 0].getD e 0)) → lX9_best_4 k (nI m0') (j + 1) (nI i) c' := by
        intro j
        induction j with
        | zero =>
          intro i c' hi hf' hb'
          unfold lX9_best_4
          rw [vn8]
          exact ⟨fun _ => hk c' hf' (fun e he => hb' e (by omega)), fun y => absurd (nI_le (by omega) (by omega)) y⟩
        | succ j ih =>
          intro i c' hi hf' hb'
          have hci : (nI i).toNatClampNeg = i := nI_clamp (by omega)
          have hin : vp_in (nI i) 8 := vp_in_nI (by omega) (by decide)
          have z0 : nI i = 0 ↔ i = 0 := by rw [vn0]; exact nI_eq (by omega) (by decide)
          unfold lX9_best_4
          rw [hci, z0]
          refine ⟨fun y => absurd y (by rw [vn8]; exact nI_ge (by omega) (by omega)), fun _ => ?_⟩
          refine jn_of (fun g => g (nI ([m0', 0, 0, 0, 0, 0, 0, 0].getD i 0))) ?_ ?_
          · refine ⟨hin, ?_⟩
            rintro _ rfl _ rfl
            rw [nI_1]
            refine ih (i + 1) _ (by omega) (fun i' a => by rw [vv_up_r a]; exact hf' i' a) (fun e he => ?_)
            by_cases y : e = i
            · rw [y]; exact vv_up_s
            · rw [vv_up_i y]; exact hb' e (by omega)
          · intro g hg
            refine ⟨fun y => ?_, fun y => ?_⟩
            · have : [m0', 0, 0, 0, 0, 0, 0, 0].getD i 0 = 0 := by
                rcases (by omega : i = 1 ∨ i = 2 ∨ i = 3 ∨ i = 4 ∨ i = 5 ∨ i = 6 ∨ i = 7) with rfl | rfl | rfl | rfl | rfl | rfl | rfl <;> rfl
              rw [this] at hg
              exact hg
            · subst y
              exact hg
      exact ⟨9, key 8 0 m (by omega) (fun _ _ => rfl) (fun e he => absurd he (Nat.not_lt_zero _))⟩
  refine s_findBest hp hd hm9 hs t60 m5 (fun c' h => ⟨(hc.fr ho.2.2.2.2.1 ho.2.2.2.2.2 h).1, (hc.fr ho.2.2.2.2.1 ho.2.2.2.2.2 h).2.1.1⟩) ?_
  rw [hb]
  intro c1 hf1 hbr
  refine jn_of (fun k => k (beA a4 b) c1) (hmod c1 hf1) ?_
  intro k hk
  cases b with
  | none => exact jn_of (fun f => f) hk (fun f hf => ⟨fun _ => hf, fun y => absurd rfl y⟩)
  | some p =>
    have hpl : p.2 ≤ 7375 := by
      have : ∀ (f : Nat) (l : List Nat) (b : vB), bOk b → bOk (bst P D s t f l b) := by
        intro f
        induction f with
        | zero => intro l b h; exact h
        | succ f ih =>
          intro l b h
          cases e : nextL (pN P) l with
          | none => rw [bst_n e]; exact bUp_ok hp hd hs h
          | some l' => rw [bst_s e]; exact ih l' _ (bUp_ok hp hd hs h)
      exact this 900 _ none (fun p e => absurd e (by simp)) p hb
    rcases rngJ hn8 q4.1 q4.2 with rfl | ⟨j, hj, rfl⟩
    · exact jn_of (fun f => f) hk (fun f hf => ⟨fun y => hf, fun _ => ⟨fun y => absurd rfl y, fun _ => hf⟩⟩)
    · have hcj : (nI j).toNatClampNeg = j := nI_clamp (by omega)
      have hnm : ¬ nI j = -1 := fun y => absurd (y ▸ nI_pos' (n := j) (by omega) : (0 : Int32) ≤ -1) (by decide)
      refine jn_of (fun _ => True) trivial (fun f _ => ⟨fun y => absurd y (nI_nm4 (n := p.2) (by omega)), fun _ => ⟨fun _ => s_inchesAt (by omega) ?_, fun y => absurd y hnm⟩⟩)
      have e7 : c1 (71 + 1) j = nI (p.1.getD j 0) := hbr p rfl j (by omega)
      rw [e7]
      have : beA (nI j) (some p) = nI (p.1.getD j 0) := by
        show (if _ then _ else _) = _
        rw [if_neg hnm, hcj]
      rw [this] at hk
      exact hk

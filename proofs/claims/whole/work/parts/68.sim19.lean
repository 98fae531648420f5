theorem s_start {m0' n : Nat} (hn : n ≤ 8) {c : vv_S} {post : vv_S → Prop} (h : ∀ c', (∀ i, i ≠ 69 → i ≠ 70 → c' i = c i) → c' 69 1 = nI n → RW 70 [m0', 0, 0, 0, 0, 0, 0, 0] c' → post c') : wX5_start 69 (nI m0') (nI n) c post := by
  unfold wX5_start
  refine jn_of (fun f => ∀ c', (∀ i, i ≠ 70 → c' i = c i) → (∀ e, e < 8 → c' 70 e = nI 0) → f c') ?_ ?_
  · intro c' hf' hz
    rintro _ rfl _ rfl
    have e : (if (8 : Int32) < nI n then (8 : Int32) else nI n) = nI n := by
      rw [if_neg (by rw [vn8]; exact nI_nlt hn (by decide))]
    rw [e]
    refine h _ (fun i a b => by rw [vv_up_r a, vv_up_r b, hf' i b]) vv_up_s (fun k hk => ?_)
    rw [vv_up_r (by decide)]
    rcases k with _ | k
    · exact vv_up_s
    · rw [vv_up_i (by omega), hz (k + 1) hk]
      rcases (by omega : k = 0 ∨ k = 1 ∨ k = 2 ∨ k = 3 ∨ k = 4 ∨ k = 5 ∨ k = 6) with rfl | rfl | rfl | rfl | rfl | rfl | rfl <;> rfl
  · intro f hf
    have key : ∀ (j i : Nat) (c' : vv_S), i + j = 8 → (∀ i, i ≠ 70 → c' i = c i) → (∀ e, e < i → c' 70 e = nI 0) → lX5_start_1 f 69 (j + 1) (nI i) c' := by
      intro j
      induction j with
      | zero =>
        intro i c' hi hf' hb'
        unfold lX5_start_1
        rw [vn8]
        exact ⟨fun _ => hf c' hf' (fun e he => hb' e (by omega)), fun y => absurd (nI_le (by omega) (by omega)) y⟩
      | succ j ih =>
        intro i c' hi hf' hb'
        have hci : (nI i).toNatClampNeg = i := nI_clamp (by omega)
        unfold lX5_start_1
        rw [hci]
        refine ⟨fun y => absurd y (by rw [vn8]; exact nI_ge (by omega) (by omega)), fun _ => ⟨vp_in_nI (by omega) (by decide), ?_⟩⟩
        rintro _ rfl _ rfl
        rw [nI_1]
        refine ih (i + 1) _ (by omega) (fun i' a => by rw [vv_up_r a]; exact hf' i' a) (fun e he => ?_)
        by_cases y : e = i
        · rw [y]; exact vv_up_s
        · rw [vv_up_i y]; exact hb' e (by omega)
    exact ⟨9, key 8 0 c (by omega) (fun _ _ => rfl) (fun e he => absurd he (Nat.not_lt_zero _))⟩
theorem s_shcopy {l : List Nat} {c : vv_S} {post : vv_S → Prop} (h7 : RW 70 l c) (h : ∀ c', (∀ i, i ≠ 71 → i ≠ 72 → c' i = c i) → RW 72 l c' → post c') : wX5_copyFrom 71 69 c post := by
  unfold wX5_copyFrom
  refine jn_of (fun f => ∀ c', (∀ i, i ≠ 72 → c' i = c i) → RW 72 l c' → f c') ?_ ?_
  · intro c' hf' hz
    rintro _ rfl
    exact h _ (fun i a b => by rw [vv_up_r a, hf' i b]) (fun k hk => by rw [vv_up_r (by decide)]; exact hz k hk)
  · intro f hf
    have key : ∀ (j i : Nat) (c' : vv_S), i + j = 8 → (∀ i, i ≠ 72 → c' i = c i) → (∀ e, e < i → c' 72 e = c 70 e) → lX5_copyFrom_1 f 71 69 (j + 1) (nI i) c' := by
      intro j
      induction j with
      | zero =>
        intro i c' hi hf' hb'
        unfold lX5_copyFrom_1
        rw [vn8]
        exact ⟨fun _ => hf c' hf' (fun e he => by rw [hb' e (by omega)]; exact h7 e he), fun y => absurd (nI_le (by omega) (by omega)) y⟩
      | succ j ih =>
        intro i c' hi hf' hb'
        have hci : (nI i).toNatClampNeg = i := nI_clamp (by omega)
        have hin : vp_in (nI i) 8 := vp_in_nI (by omega) (by decide)
        unfold lX5_copyFrom_1
        rw [hci]
        refine ⟨fun y => absurd y (by rw [vn8]; exact nI_ge (by omega) (by omega)), fun _ => ⟨hin, hin, ?_⟩⟩
        rintro _ rfl _ rfl
        rw [nI_1]
        refine ih (i + 1) _ (by omega) (fun i' a => by show vv_up c' 72 _ _ i' = _; rw [vv_up_r a]; exact hf' i' a) (fun e he => ?_)
        show vv_up c' 72 i (c' 70 i) 72 e = c 70 e
        by_cases y : e = i
        · rw [y, vv_up_s, hf' 70 (by decide)]
        · rw [vv_up_i y]; exact hb' e (by omega)
    exact ⟨9, key 8 0 c (by omega) (fun _ _ => rfl) (fun e he => absurd he (Nat.not_lt_zero _))⟩
abbrev vB : Type := Option (List Nat × Nat)
def bLe (w : Nat) : vB → Bool
  | none => true
  | some p => decide (p.2 < w)
def bUp (P : vP) (D : vD) (s t : Nat) (l : List Nat) (b : vB) : vB := if cl D s l (pN P) = true ∧ bLe (wv P D s t l) b = true then some (l, wv P D s t l) else b
def bst (P : vP) (D : vD) (s t : Nat) : Nat → List Nat → vB → vB
  | 0, _, b => b
  | f + 1, l, b => match nextL (pN P) l with
    | none => bUp P D s t l b
    | some l' => bst P D s t f l' (bUp P D s t l b)
theorem bst_n {P : vP} {D : vD} {s t f : Nat} {l : List Nat} {b : vB} (h : nextL (pN P) l = none) : bst P D s t (f + 1) l b = bUp P D s t l b := by
  unfold bst; rw [h]
theorem bst_s {P : vP} {D : vD} {s t f : Nat} {l l' : List Nat} {b : vB} (h : nextL (pN P) l = some l') : bst P D s t (f + 1) l b = bst P D s t f l' (bUp P D s t l b) := by
  rw [bst]; rw [h]
def bV : vB → Int32
  | none => -4
  | some p => nI p.2
def bR (r : Nat) (b : vB) (c : vv_S) : Prop := ∀ p, b = some p → RW r p.1 c
def bOk (b : vB) : Prop := ∀ p, b = some p → p.2 ≤ 7375
theorem bV_le {w : Nat} (hw : w ≤ 7375) : ∀ {b : vB}, bOk b → (nI w ≤ bV b ↔ ¬ bLe w b = true)
  | none, _ => by
    refine ⟨fun y => absurd (Int32.le_trans (nI_pos' (n := w) (by omega)) y) (by decide), fun y => absurd rfl y⟩
  | some p, h => by
    have := h p rfl
    show nI w ≤ nI p.2 ↔ ¬ decide (p.2 < w) = true
    rw [nI_leI (by omega) (by omega), decide_eq_true_iff]
    omega
theorem bV_none {b : vB} (h : bOk b) : (-4 : Int32) ≤ bV b := by
  cases b with
  | none => exact (by decide : (-4 : Int32) ≤ -4)
  | some p =>
    have := h p rfl
    exact Int32.le_trans (by decide : (-4 : Int32) ≤ 0) (nI_pos' (by omega))
theorem wv_bd {P : vP} (hp : pOk P) {D : vD} (hd : dOk P D) {s t : Nat} (hs : s ≤ 3) {l : List Nat} (h : cl D s l (pN P) = true) : wv P D s t l ≤ 7375 := (mns_ok (x := fun _ => 0) hp (lD_ok hd hs (l := l) (pN P) (Nat.le_refl _) h) t).2.1
theorem bUp_ok {P : vP} (hp : pOk P) {D : vD} (hd : dOk P D) {s t : Nat} (hs : s ≤ 3) {l : List Nat} {b : vB} (h : bOk b) : bOk (bUp P D s t l b) := by
  unfold bUp
  split
  · next y =>
    intro p e
    injection e with e
    subst e
    exact wv_bd hp hd hs y.1
  · exact h
theorem s_findBest {P : vP} (hp : pOk P) {D : vD} (hd : dOk P D) (hm9 : dM D ≤ 999) {s t m0' : Nat} (hs : s ≤ 3) (ht : t ≤ 60) (hm5 : m0' ≤ 5) {c : vv_S} {post : Int32 → vv_S → Prop} (hc : ∀ c', FQC c c' → PC P c' ∧ DR P 42 D c')
    (kk : ∀ c', FQC c c' → bR 72 (bst P D s t 900 [m0', 0, 0, 0, 0, 0, 0, 0] none) c' → post (bV (bst P D s t 900 [m0', 0, 0, 0, 0, 0, 0, 0] none)) c') : wX8_findBestShares (nI m0') (nI s) (nI t) c post := by
  have hn8 := hp.2.1
  have hn1 := hp.1
  have e1000 : (1000 : Int32) = nI 1000 := by decide
  unfold wX8_findBestShares wX4_cellCount
  dsimp only
  rw [(hc c FQC.rf).1.1]
  refine s_start hn8 ?_
  intro c1 hf1 h69 h70
  refine jn_of (fun f => ∀ c', FQC c c' → bR 72 (bst P D s t 900 [m0', 0, 0, 0, 0, 0, 0, 0] none) c' → f (bV (bst P D s t 900 [m0', 0, 0, 0, 0, 0, 0, 0] none)) c') kk ?_
  intro f hf
  have key : ∀ (j i : Nat) (l : List Nat) (b : vB) (c' : vv_S), i + j = 900 → chk (pN P) j l = true → bst P D s t j l b = bst P D s t 900 [m0', 0, 0, 0, 0, 0, 0, 0] none → FQC c c' → c' 69 1 = nI (pN P) → RW 70 l c' → bOk b → bR 72 b c' → lX8_findBestShares_1 f (nI s) (nI t) (j + 1) (bV b) 1 (nI i) c' := by
    intro j
    induction j with
    | zero =>
      intro i l b c' hi hck
      exact absurd hck (by simp [chk])
    | succ j ih =>
      intro i l b c' hi hck hbs hf' h1 h7 hb hbr
      have hl := chk_ok hck
      obtain ⟨pc', dr'⟩ := hc c' hf'
      unfold lX8_findBestShares_1
      refine ⟨fun y => absurd y (by rw [e1000]; exact nI_ge (by omega) (by omega)), fun _ => ⟨fun y => absurd y (by decide), fun _ => s_water hp hd hm9 hl hs ht pc' dr' h7 ?_⟩⟩
      intro c2 hf2
      have h72 : RW 70 l c2 := fun k hk => by rw [hf2 70 (by omega)]; exact h7 k hk
      have h12 : c2 69 1 = nI (pN P) := by rw [hf2 69 (by omega)]; exact h1
      have hb2 : bR 72 b c2 := fun p e k hk => by rw [hf2 72 (by omega)]; exact hbr p e k hk
      refine jn_of (fun g => ∀ c3, FQC c c3 → c3 69 1 = nI (pN P) → RW 70 l c3 → bR 72 (bUp P D s t l b) c3 → g (bV (bUp P D s t l b)) c3) ?_ ?_
      · intro c3 hf3 h13 h73 hbr3
        have hb3 := bUp_ok hp hd (t := t) hs (l := l) hb
        refine s_nextC hn1 hn8 hl h13 h73 ?_ ?_
        · intro en
          rintro _ rfl
          have eb := bst_n (P := P) (D := D) (s := s) (t := t) (f := j) (b := b) en
          have e2 := eb.symm.trans hbs
          cases j with
          | zero =>
            unfold lX8_findBestShares_1
            refine ⟨fun _ => ?_, fun _ => ⟨fun _ => ?_, fun y => absurd rfl y⟩⟩
            · rw [e2] at hbr3 ⊢; exact hf c3 hf3 hbr3
            · rw [e2] at hbr3 ⊢; exact hf c3 hf3 hbr3
          | succ j =>
            unfold lX8_findBestShares_1
            refine ⟨fun _ => ?_, fun _ => ⟨fun _ => ?_, fun y => absurd rfl y⟩⟩
            · rw [e2] at hbr3 ⊢; exact hf c3 hf3 hbr3
            · rw [e2] at hbr3 ⊢; exact hf c3 hf3 hbr3
        · intro l' el c4 hf4 h74
          rintro _ rfl
          rw [nI_1]
          refine ih (i + 1) l' (bUp P D s t l b) c4 (by omega) (chk_next hck el) ((bst_s el).symm.trans hbs) (hf3.trans (fun i hi => hf4 i (by omega))) (by rw [hf4 69 (by decide)]; exact h13) h74 hb3 (fun p e k hk => by rw [hf4 72 (by decide)]; exact hbr3 p e k hk)
      · intro g hg
        by_cases w : cl D s l (pN P) = true
        · rw [if_pos w, bV_le (wv_bd hp hd hs w) hb]
          refine ⟨fun y => ?_, fun y => s_shcopy h72 ?_⟩
          · have e : bUp P D s t l b = b := by
              unfold bUp; rw [if_neg (fun z => y z.2)]
            have := hg c2 (hf'.trans hf2.toQ) h12 h72 (by rw [e]; exact hb2)
            rw [e] at this
            exact this
          · intro c3 hf3 h73
            have e : bUp P D s t l b = some (l, wv P D s t l) := by
              unfold bUp; rw [if_pos ⟨w, Classical.byContradiction y⟩]
            have := hg c3 ((hf'.trans hf2.toQ).trans (fun i hi => hf3 i (by omega) (by omega))) (by rw [hf3 69 (by decide) (by decide)]; exact h12) (fun k hk => by rw [hf3 70 (by decide) (by decide)]; exact h72 k hk) (by
              rw [e]
              intro p ep
              injection ep with ep
              subst ep
              exact h73)
            rw [e] at this
            exact this
        · rw [if_neg w]
          refine ⟨fun _ => ?_, fun y => absurd (bV_none hb) y⟩
          have e : bUp P D s t l b = b := by
            unfold bUp; rw [if_neg (fun z => w z.1)]
          have := hg c2 (hf'.trans hf2.toQ) h12 h72 (by rw [e]; exact hb2)
          rw [e] at this
          exact this
  refine ⟨901, key 900 0 _ none c1 (by omega) (chk_all (pN P) (by omega) m0' (by omega)) rfl (fun i hi => hf1 i (by omega) (by omega)) h69 h70 (fun p e => absurd e (by simp)) (fun p e => absurd e (by simp))⟩
theorem s_bestM {P : vP} (hp : pOk P) {D : vD} (hd : dOk P D) (hm9 : dM D ≤ 999) {s t m0' : Nat} (hs : s ≤ 3) (ht : t ≤ 60) (hm5 : m0' ≤ 5) {m : vv_S} {f : Int32 → vv_S → Prop} (hm : ∀ m', FQM m m' → PM P m' ∧ DM P 0 D m') (h35 : RW 35 [m0', 0, 0, 0, 0, 0, 0, 0] m)
    (hf : ∀ m', FQM m m' → bR 36 (bst P D s t 900 [m0', 0, 0, 0, 0, 0, 0, 0] none) m' → f (bV (bst P D s t 900 [m0', 0, 0, 0, 0, 0, 0, 0] none)) m') : ∃ n, lX9_best_1 f (nI s) (nI t) n (-4) 1 m := by
  have hn8 := hp.2.1
  have hn1 := hp.1
  have q35 : ∀ {m' m2 : vv_S}, (∀ i, i ≠ 35 → i ≠ 36 → m2 i = m' i) → FQM m' m2 := fun {m' m2} h => ⟨fun i a b => h i (by omega) (by omega), fun i a => by rw [h 0 (by decide) (by decide)], fun k hk => by rw [h 28 (by decide) (by decide), h 29 (by decide) (by decide), h 30 (by decide) (by decide)]; exact ⟨rfl, rfl, rfl⟩, by rw [h 31 (by decide) (by decide)], by rw [h 32 (by decide) (by decide)], by rw [h 33 (by decide) (by decide)], by rw [h 34 (by decide) (by decide)]⟩
  have key : ∀ (j i : Nat) (l : List Nat) (b : vB) (m' : vv_S), i + j = 900 → chk (pN P) j l = true → bst P D s t j l b = bst P D s t 900 [m0', 0, 0, 0, 0, 0, 0, 0] none → FQM m m' → RW 35 l m' → bOk b → bR 36 b m' → lX9_best_1 f (nI s) (nI t) (j + 1) (bV b) 1 m' := by
    intro j
    induction j with
    | zero =>
      intro i l b c' hi hck
      exact absurd hck (by simp [chk])
    | succ j ih =>
      intro i l b m' hi hck hbs hf' h7 hb hbr
      have hl := chk_ok hck
      obtain ⟨pm', dm'⟩ := hm m' hf'
      unfold lX9_best_1
      refine ⟨fun y => absurd y (by decide), fun _ => s_layRow hp hd hl hs pm' dm' h7 ?_⟩
      intro m2 hf2 hd2
      have n35 : ∀ {ma mb : vv_S}, FrW 1 ma mb → mb 35 = ma 35 ∧ mb 36 = ma 36 := fun h => ⟨h.1 35 (by decide) (by decide) (by decide) (by decide) (by decide) (by decide) (by decide) (by decide), h.1 36 (by decide) (by decide) (by decide) (by decide) (by decide) (by decide) (by decide) (by decide)⟩
      refine jn_of (fun g => ∀ c3, FQM m c3 → RW 35 l c3 → bR 36 (bUp P D s t l b) c3 → g (bV (bUp P D s t l b)) c3) ?_ ?_
      · intro c3 hf3 h73 hbr3
        have hb3 := bUp_ok hp hd (t := t) hs (l := l) hb
        refine s_nextM hn1 hn8 hl (hm c3 hf3).1.1 h73 ?_ ?_
        · intro en
          have eb := bst_n (P := P) (D := D) (s := s) (t := t) (f := j) (b := b) en
          have e2 := eb.symm.trans hbs
          have fin : ∀ j, lX9_best_1 f (nI s) (nI t) (j + 1) (bV (bUp P D s t l b)) 0 c3 := fun j => by
            unfold lX9_best_1
            refine ⟨fun _ => ?_, fun y => absurd rfl y⟩
            rw [e2] at hbr3 ⊢
            exact hf c3 hf3 hbr3
          exact fin j
        · intro l' el c4 hf4 h74
          refine ih (i + 1) l' (bUp P D s t l b) c4 (by omega) (chk_next hck el) ((bst_s el).symm.trans hbs) (hf3.trans (q35 (fun i a _ => hf4 i a))) h74 hb3 (fun p e k hk => by rw [hf4 36 (by decide)]; exact hbr3 p e k hk)
      · intro g hg
        by_cases w : cl D s l (pN P) = true
        · rw [if_pos w]
          refine ⟨fun y => absurd y (by decide), fun _ => ?_⟩
          have hok := lD_ok hd hs (l := l) (pN P) (Nat.le_refl _) w
          have hwb := wv_bd hp hd (t := t) hs w
          refine jn_of (fun k => ∀ c3, FrW 1 m' c3 → DM P 1 (m0 P (lD D s l (pN P)) t) c3 → k c3) ?_ ?_
          · intro c3 hf3 hd3
            have e31 : c3 31 1 = nI (wv P D s t l) := hd3.2.1
            have hq3 := hf'.trans hf3.toQ
            have h73 : RW 35 l c3 := fun k hk => by rw [(n35 hf3).1]; exact h7 k hk
            have hbr3 : bR 36 b c3 := fun p e k hk => by rw [(n35 hf3).2]; exact hbr p e k hk
            rw [e31, bV_le hwb hb]
            refine ⟨fun y => ?_, fun y => ?_⟩
            · have e : bUp P D s t l b = b := by
                unfold bUp; rw [if_neg (fun z => y z.2)]
              have := hg c3 hq3 h73 (by rw [e]; exact hbr3)
              rw [e] at this
              exact this
            · rintro _ rfl
              have e : bUp P D s t l b = some (l, wv P D s t l) := by
                unfold bUp; rw [if_pos ⟨w, Classical.byContradiction y⟩]
              have key2 : ∀ (j2 i2 : Nat) (c4 : vv_S), i2 + j2 = 8 → (∀ i, i ≠ 36 → c4 i = c3 i) → (∀ e, e < i2 → c4 36 e = c3 35 e) → lX9_best_2 g (nI (wv P D s t l)) (j2 + 1) (nI i2) c4 := by
                intro j2
                induction j2 with
                | zero =>
                  intro i2 c4 hi2 hf4 hb4
                  unfold lX9_best_2
                  refine ⟨fun _ => ?_, fun y => absurd (by rw [vn8]; exact nI_le (by omega) (by omega)) y⟩
                  have := hg c4 (hq3.trans (q35 (fun i _ b => hf4 i b))) (fun k hk => by rw [hf4 35 (by decide)]; exact h73 k hk) (by
                    rw [e]
                    intro p ep
                    injection ep with ep
                    subst ep
                    exact fun k hk => by rw [hb4 k (by omega)]; exact h73 k hk)
                  rw [e] at this
                  exact this
                | succ j2 ih2 =>
                  intro i2 c4 hi2 hf4 hb4
                  have hci : (nI i2).toNatClampNeg = i2 := nI_clamp (by omega)
                  have hin : vp_in (nI i2) 8 := vp_in_nI (by omega) (by decide)
                  unfold lX9_best_2
                  rw [hci]
                  refine ⟨fun y => absurd y (by rw [vn8]; exact nI_ge (by omega) (by omega)), fun _ => ⟨hin, hin, ?_⟩⟩
                  rintro _ rfl _ rfl
                  rw [nI_1]
                  refine ih2 (i2 + 1) _ (by omega) (fun i' a => by rw [vv_up_r a]; exact hf4 i' a) (fun e he => ?_)
                  by_cases y : e = i2
                  · rw [y, vv_up_s, hf4 35 (by decide)]
                  · rw [vv_up_i y]; exact hb4 e (by omega)
              exact ⟨9, key2 8 0 c3 (by omega) (fun _ _ => rfl) (fun e he => absurd he (Nat.not_lt_zero _))⟩
          · intro k hk
            obtain ⟨F, hF⟩ := s_goes hp (b := 1) (by decide) hok (n := t) (by omega) (by rw [lD_M]; omega) (pm'.fr hf2) (hd2 w) (W := fun n v c => lX9_best_3 (nI t) k n v c)
              (fun c3 hf3 hd3 fu => by
                unfold lX9_best_3
                exact ⟨fun _ => hk c3 (hf2.trans hf3) hd3, fun y => absurd (nI_le (by omega) (by omega)) y⟩)
              (fun fu i c3 hi hf3 hd3 hgo => by
                unfold lX9_best_3
                refine ⟨fun y => absurd y (nI_ge (by omega) (by omega)), fun _ => ?_⟩
                have e1 : (nI 1 : Int32) = 1 := rfl
                have e0 : (nI 0 : Int32) = 0 := rfl
                rw [e1, e0] at hgo
                refine cast (congrArg (fun z => wX9_go 1 0 c3 z) (funext fun σ => ?_)) hgo
                exact propext ⟨fun h v e => e ▸ h, fun h => h _ rfl⟩)
            exact ⟨F, hF⟩
        · rw [if_neg w]
          refine ⟨fun _ => ?_, fun y => absurd rfl y⟩
          have e : bUp P D s t l b = b := by
            unfold bUp; rw [if_neg (fun z => w z.1)]
          have := hg m2 (hf'.trans hf2.toQ) (fun k hk => by rw [(n35 hf2).1]; exact h7 k hk) (by rw [e]; exact fun p ep k hk => by rw [(n35 hf2).2]; exact hbr p ep k hk)
          rw [e] at this
          exact this
  exact ⟨901, key 900 0 _ none m (by omega) (chk_all (pN P) (by omega) m0' (by omega)) rfl FQM.rf h35 (fun p e => absurd e (by simp)) (fun p e => absurd e (by simp))⟩

theorem i64_le {x y : Int32} : x.toInt64 ≤ y.toInt64 ↔ x ≤ y := by
  rw [Int64.le_iff_toInt_le, Int32.le_iff_toInt_le, Int32.toInt_toInt64, Int32.toInt_toInt64]
theorem i64_lt {x y : Int32} : x.toInt64 < y.toInt64 ↔ x < y := by
  rw [Int64.lt_iff_toInt_lt, Int32.lt_iff_toInt_lt, Int32.toInt_toInt64, Int32.toInt_toInt64]
theorem s_in {a b c : Int32} {lo hi : Int64} (hl : lo = b.toInt64) (hh : hi = c.toInt64) {σ : vv_S} {post : Int32 → vv_S → Prop} (k : post (if b ≤ a ∧ a ≤ c then 1 else 0) σ) : wX9_in a.toInt64 lo hi σ post := by
  subst hl
  subst hh
  unfold wX9_in
  refine jn_of (fun k => k (if b ≤ a ∧ a ≤ c then 1 else 0)) ⟨by split <;> simp, k⟩ ?_
  intro k' hk'
  refine jn_of (fun k => ¬ (b ≤ a ∧ a ≤ c) → k) (fun h => by rw [if_neg h] at hk'; exact hk') ?_
  intro k2 hk2
  rw [lg_cmp_lt, lg_cmp_gt, i64_lt, i64_lt]
  refine ⟨fun q => hk2 (fun z => absurd z.1 (Int32.not_le.mpr q)), fun q => ⟨fun q2 => hk2 (fun z => absurd z.2 (Int32.not_le.mpr q2)), fun q2 => ?_⟩⟩
  rw [if_pos ⟨Int32.not_lt.mp q, Int32.not_lt.mp q2⟩] at hk'
  exact hk'
theorem ix8 (b k : Nat) : (8 : Int32) * nI b + nI k = nI (8 * b + k) := by rw [vn8, pk_mul, nI_add]
/-- the flow that the rows tell: the latest that has begun (0: none; f + 1), and its units -/
def flA (F U : Nat → Nat) (t : Nat) : Nat → Nat × Nat
  | 0 => (0, 0)
  | k + 1 => if F k ≤ t ∧ (flA F U t k).1 ≤ F k + 1 then (F k + 1, U k) else flA F U t k
def rnA (RF RT RU : Nat → Nat) (t : Nat) : Nat → Nat := sU (fun k => if RF k ≤ t ∧ t ≤ RT k then RU k else 0)
/-- the rows of flow and rain -/
def CM (P : vP) (m : vv_S) : Prop := ∃ (fc rc : Nat) (F U RF RT RU : Nat → Nat), fc ≤ 4 ∧ rc ≤ 4 ∧ m 7 0 = nI fc ∧ m 10 0 = nI rc ∧ (∀ k, k < fc → m 8 k = nI (F k) ∧ m 9 k = nI (U k) ∧ F k ≤ 99 ∧ U k ≤ 60) ∧ (∀ k, k < rc → m 11 k = nI (RF k) ∧ m 12 k = nI (RT k) ∧ m 13 k = nI (RU k) ∧ RF k ≤ 99 ∧ RT k ≤ 99 ∧ RU k ≤ 30) ∧ ∀ t, pC P t = (flA F U t fc).2 + rnA RF RT RU t rc
def PM (P : vP) (m : vv_S) : Prop := m 2 0 = nI (pN P) ∧ m 5 0 = nI (pL P) ∧ m 5 1 = nI (pR P) ∧ m 6 0 = nI (pA P) ∧ m 6 1 = nI (pS P) ∧ CM P m ∧ ∀ k, k < pN P → m 3 k = nI (pH P k) ∧ m 4 k = nI (pO P k)
theorem PM.moved {P : vP} {m m' : vv_S} (h : PM P m) (hf : ∀ i, 2 ≤ i → i ≤ 13 → m' i = m i) : PM P m' := by
  obtain ⟨h1, h2, h3, h4, h5, ⟨fc, rc, F, U, RF, RT, RU, g1, g2, g3, g4, g5, g6, g7⟩, h7⟩ := h
  unfold PM CM
  rw [hf 2 (by decide) (by decide), hf 3 (by decide) (by decide), hf 4 (by decide) (by decide), hf 5 (by decide) (by decide), hf 6 (by decide) (by decide), hf 7 (by decide) (by decide), hf 8 (by decide) (by decide), hf 9 (by decide) (by decide), hf 10 (by decide) (by decide), hf 11 (by decide) (by decide), hf 12 (by decide) (by decide), hf 13 (by decide) (by decide)]
  exact ⟨h1, h2, h3, h4, h5, ⟨fc, rc, F, U, RF, RT, RU, g1, g2, g3, g4, g5, g6, g7⟩, h7⟩
theorem s_takesM {A S : Nat} {σ : vv_S} {post : Int32 → vv_S → Prop} (hA : σ 6 0 = nI A) (hS : σ 6 1 = nI S) {h : Nat} (hh : h ≤ 64) (k : post (nI (ta A S h)) σ) : wX9_takes (nI h) σ post := by
  have key : ∀ (j c : Nat), c + j = h → lX9_takes_1 (nI h) post σ (j + 1) (nI (ta A S c)) (nI (c + 1)) := by
    intro j
    induction j with
    | zero =>
      intro c hc
      unfold lX9_takes_1
      refine ⟨fun _ => ?_, fun q => absurd (nI_lt (by omega) (by omega)) q⟩
      rw [show c = h by omega]
      exact k
    | succ j ih =>
      intro c hc
      unfold lX9_takes_1
      refine ⟨fun q => absurd q (nI_nlt (by omega) (by omega)), fun _ => ?_⟩
      rintro _ rfl _ rfl
      rw [hA, hS, pk_mul, nI_add, nI_add, nI_1, ← ta_succ]
      exact ih (c + 1) (by omega)
  exact ⟨h + 1, by have := key h 0 (by omega); rw [ta_0] at this; exact this⟩
theorem s_levelOfM {A S : Nat} (hA20 : A ≤ 20) (hS5 : S ≤ 5) {σ : vv_S} {post : Int32 → vv_S → Prop} (hA : σ 6 0 = nI A) (hS : σ 6 1 = nI S) {w : Nat} (hw : w < 2 ^ 30) (k : post (nI (lv A S w 60)) σ) : wX9_levelOf (nI w) σ post := by
  unfold wX9_levelOf
  refine jn_of (fun k => k (nI (lv A S w 60)) σ) k ?_
  intro k' hk'
  have key : ∀ (j c : Nat), c + j = 60 → ta A S c ≤ w → lX9_levelOf_1 k' (nI w) (j + 1) (nI c) σ := by
    intro j
    induction j with
    | zero =>
      intro c hc hcw
      unfold lX9_levelOf_1
      refine ⟨fun _ => ?_, fun q => absurd ?_ q⟩
      · rw [lv_is A S w 60 c (by omega) hcw (fun z => by omega)] at hk'
        exact hk'
      · rw [show (60 : Int32) = nI 60 by decide]
        exact nI_le (by omega) (by omega)
    | succ j ih =>
      intro c hc hcw
      have hb := ta_bd (A := A) (S := S) (h := c + 1) hA20 hS5 (by omega)
      unfold lX9_levelOf_1
      rw [nI_1]
      refine ⟨fun q => absurd q ?_, fun _ => s_takesM hA hS (by omega) ?_⟩
      · rw [show (60 : Int32) = nI 60 by decide]
        exact nI_ge (by omega) (by omega)
      · rw [nI_ltI (by omega) (by omega)]
        refine ⟨fun q => ?_, fun q => ?_⟩
        · rw [lv_is A S w 60 c (by omega) hcw (fun z => q)] at hk'
          exact hk'
        · rintro _ rfl
          exact ih (c + 1) (by omega) (by omega)
  exact ⟨61, key 60 0 (by omega) (by rw [ta_0]; omega)⟩
theorem s_comesInM {P : vP} {m : vv_S} {post : Int32 → vv_S → Prop} (hm : CM P m) {t : Nat} (ht : t < 2 ^ 30) (k : post (nI (pC P t)) m) : wX9_comesIn (nI t) m post := by
  obtain ⟨fc, rc, F, U, RF, RT, RU, g1, g2, g3, g4, g5, g6, g7⟩ := hm
  rw [g7] at k
  unfold wX9_comesIn
  refine jn_of (fun k => k (nI (flA F U t fc).2)) ?_ ?_
  · have key : ∀ (j c : Nat), c + j = rc → lX9_comesIn_1 post (nI t) (j + 1) (nI ((flA F U t fc).2 + rnA RF RT RU t c)) (nI c) m := by
      intro j
      induction j with
      | zero =>
        intro c hc
        unfold lX9_comesIn_1
        rw [g4]
        refine ⟨fun _ => ?_, fun q => absurd (nI_le (by omega) (by omega)) q⟩
        rw [show c = rc by omega]
        exact k
      | succ j ih =>
        intro c hc
        obtain ⟨e1, e2, e3, b1, b2, b3⟩ := g6 c (by omega)
        have hcc : (nI c).toNatClampNeg = c := nI_clamp (by omega)
        have hin : vp_in (nI c) 8 := vp_in_nI (by omega) (by decide)
        unfold lX9_comesIn_1
        rw [g4, hcc, e1, e2]
        refine ⟨fun q => absurd q (nI_ge (by omega) (by omega)), fun _ => ⟨hin, hin, s_in rfl rfl ?_⟩⟩
        have hr : rnA RF RT RU t (c + 1) = rnA RF RT RU t c + (if RF c ≤ t ∧ t ≤ RT c then RU c else 0) := rfl
        have hi : (nI (RF c) ≤ nI t ∧ nI t ≤ nI (RT c)) ↔ (RF c ≤ t ∧ t ≤ RT c) := by rw [nI_leI (by omega) (by omega), nI_leI (by omega) (by omega)]
        refine jn_of (fun k => k (nI (if RF c ≤ t ∧ t ≤ RT c then RU c else 0))) ?_ ?_
        · rintro _ rfl _ rfl
          rw [nI_add, nI_1, Nat.add_assoc, ← hr]
          exact ih (c + 1) (by omega)
        · intro k' hk'
          by_cases z : RF c ≤ t ∧ t ≤ RT c
          · rw [if_pos (hi.mpr z)]
            rw [if_pos z] at hk'
            exact ⟨fun q => absurd q (by decide), fun _ => ⟨hin, by rw [e3]; exact hk'⟩⟩
          · rw [if_neg (fun y => z (hi.mp y))]
            rw [if_neg z] at hk'
            exact ⟨fun _ => hk', fun q => absurd rfl q⟩
    refine ⟨rc + 1, ?_⟩
    have := key rc 0 (by omega)
    rw [show rnA RF RT RU t 0 = 0 from rfl, Nat.add_zero] at this
    exact this
  · intro k' hk'
    have key : ∀ (j c : Nat) (v : Int32), c + j = fc → v = nI (flA F U t c).1 - 1 → lX9_comesIn_2 m k' (nI t) (j + 1) v (nI (flA F U t c).2) (nI c) := by
      intro j
      induction j with
      | zero =>
        intro c v hc hv
        unfold lX9_comesIn_2
        rw [g3]
        refine ⟨fun _ => ?_, fun q => absurd (nI_le (by omega) (by omega)) q⟩
        rw [show c = fc by omega]
        exact hk'
      | succ j ih =>
        intro c v hc hv
        obtain ⟨e1, e2, b1, b2⟩ := g5 c (by omega)
        have hcc : (nI c).toNatClampNeg = c := nI_clamp (by omega)
        have hin : vp_in (nI c) 8 := vp_in_nI (by omega) (by decide)
        have hfl : (flA F U t c).1 ≤ 100 := by
          have : ∀ k, k ≤ fc → (flA F U t k).1 ≤ 100 := by
            intro k
            induction k with
            | zero => intro _; simp [flA]
            | succ k ihk =>
              intro hk
              simp only [flA]
              split
              · have := (g5 k (by omega)).2.2.1
                dsimp only
                omega
              · exact ihk (by omega)
          exact this c (by omega)
        have hst : flA F U t (c + 1) = if F c ≤ t ∧ (flA F U t c).1 ≤ F c + 1 then (F c + 1, U c) else flA F U t c := rfl
        have hv2 : nI (F c) < v ↔ ¬ (flA F U t c).1 ≤ F c + 1 := by
          have e := pk_sub_toInt (a := (flA F U t c).1) (b := 1) (by omega) (by decide)
          have e1 : nI 1 = (1 : Int32) := rfl
          rw [e1] at e
          rw [hv, Int32.lt_iff_toInt_lt, e, nI_toInt (by omega)]
          omega
        unfold lX9_comesIn_2
        rw [g3, hcc, e1, e2]
        refine ⟨fun q => absurd q (nI_ge (by omega) (by omega)), fun _ => ⟨hin, jn_of (fun k => ∀ v', v' = nI (flA F U t (c + 1)).1 - 1 → k v' (nI (flA F U t (c + 1)).2)) ?_ ?_⟩⟩
        · rintro v' hv' _ rfl
          rw [nI_1]
          exact ih (c + 1) v' (by omega) hv'
        · intro k2 hk2
          rw [nI_ltI (by omega) (by omega), hv2]
          refine ⟨fun q => ?_, fun q => ⟨hin, fun q2 => ?_, fun q2 => ⟨hin, ?_⟩⟩⟩
          · rw [hst, if_neg (by omega)] at hk2
            exact hk2 v hv
          · rw [hst, if_neg (by omega)] at hk2
            exact hk2 v hv
          · rintro _ rfl
            refine ⟨hin, ?_⟩
            rintro _ rfl
            rw [hst, if_pos (by omega)] at hk2
            refine hk2 _ ?_
            show nI (F c) = nI (F c + 1) - 1
            rw [nI_pred]
    refine ⟨fc + 1, ?_⟩
    exact key fc 0 (-1) (by omega) (show (-1 : Int32) = nI 0 - 1 by decide)

theorem s_takeItem {p : Nat} (hp1 : 4 ≤ p) {T : vT} (hT : tOk T) {L : List Nat} (hlen : L.length ≤ 4) (hL : ∀ k, L.getD k 0 ≤ 99) {x : Int32} {c : vv_S} (hc : TC p T c) (h3 : c 1 3 = nI L.length) (hn3 : ∀ i, i < L.length → c 3 i = nI (L.getD i 0)) {post : Int32 → vv_S → Prop}
    (h0 : tk x L T = none → ∀ c', FrP p c c' → post 0 c') (h1 : ∀ T', tk x L T = some T' → ∀ c', FrP p c c' → TC p T' c' → post 1 c') : wX4_takeItem p x c post := by
  have z2 : nI L.length = 2 ↔ L.length = 2 := by rw [vn2]; exact nI_eq (by omega) (by decide)
  have z3 : nI L.length = 3 ↔ L.length = 3 := by rw [vn3]; exact nI_eq (by omega) (by decide)
  have z4 : nI L.length = 4 ↔ L.length = 4 := by rw [show (4 : Int32) = nI 4 by decide]; exact nI_eq (by omega) (by decide)
  unfold wX4_takeItem wX7_numberCount
  refine s_numberAt hlen (k := 0) (by decide) h3 hn3 (s_numberAt hlen (k := 1) (by decide) h3 hn3 (s_numberAt hlen (k := 2) (by decide) h3 hn3 ?_))
  rw [h3]
  refine ⟨fun y => ?_, fun y => ?_, fun y => ?_, fun y => ?_, fun y => ?_, fun y => ?_, fun y => ?_, fun y => ?_⟩
  · subst y
    refine s_case (fun K => wX4_setLake p (nI (L.getD 0 0)) (nI (L.getD 1 0)) c K) (fun y => h0 (by rw [tk_97, if_neg (fun z => y (z2.mpr z.1))]) c FrP.rf) (fun y K k0 k1 => ?_)
    exact s_setLake hT hL hc (fun z c' hf => k0 c' (h0 (by rw [tk_97, if_neg (fun w => z w.2)]) c' hf)) (fun z c' hf ht => k1 c' (h1 _ (by rw [tk_97, if_pos ⟨z2.mp y, z⟩]) c' hf ht))
  · subst y
    refine s_case (fun K => wX4_setBanks p (nI (L.getD 0 0)) (nI (L.getD 1 0)) c K) (fun y => h0 (by rw [tk_98, if_neg (fun z => y (z2.mpr z.1))]) c FrP.rf) (fun y K k0 k1 => ?_)
    exact s_setBanks hT hL hc (fun z c' hf => k0 c' (h0 (by rw [tk_98, if_neg (fun w => z w.2)]) c' hf)) (fun z c' hf ht => k1 c' (h1 _ (by rw [tk_98, if_pos ⟨z2.mp y, z⟩]) c' hf ht))
  · subst y
    refine s_case (fun K => wX4_addCell p (nI (L.getD 0 0)) (nI (L.getD 1 0)) c K) (fun y => h0 (by rw [tk_99, if_neg (fun z => y (z2.mpr z.1))]) c FrP.rf) (fun y K k0 k1 => ?_)
    exact s_addCell hT hL hc (fun z => k0 c (h0 (by rw [tk_99, if_neg (fun w => z w.2)]) c FrP.rf)) (fun z c' hf ht => k1 c' (h1 _ (by rw [tk_99, if_pos ⟨z2.mp y, z⟩]) c' hf ht))
  · subst y
    refine s_case (fun K => wX1_addFlow (p + 3) (nI (L.getD 0 0)) (nI (L.getD 1 0)) c K) (fun y => h0 (by rw [tk_102, if_neg (fun z => y (z2.mpr z.1))]) c FrP.rf) (fun y K k0 k1 => ?_)
    exact s_addFlow hT hL hc (fun z => k0 c (h0 (by rw [tk_102, if_neg (fun w => z w.2)]) c FrP.rf)) (fun z c' hf ht => k1 c' (h1 _ (by rw [tk_102, if_pos ⟨z2.mp y, z⟩]) c' hf ht))
  · subst y
    refine jn_of (fun k => (∀ c', post 0 c' → k 0 c') ∧ (∀ c', post 1 c' → k 1 c')) ⟨fun c' h => ⟨Or.inl rfl, h⟩, fun c' h => ⟨Or.inr rfl, h⟩⟩ ?_
    intro k hk
    refine jn_of (fun k2 => ∀ c', post 0 c' → k2 c') hk.1 ?_
    intro k2 hk2
    have hn := hT.1.1
    have a0 := hL 0
    rw [hc.1.1, nI_leI (by omega) (by omega), z3]
    refine ⟨fun y => hk2 c (h0 (by rw [tk_106, if_neg (fun z => y z.1)]) c FrP.rf), fun y => ⟨fun y2 => hk2 c (h0 (by rw [tk_106, if_neg (fun z => by omega)]) c FrP.rf), fun y2 => ?_⟩⟩
    exact s_addJob hT hL hc (fun z => ⟨fun _ => hk2 c (h0 (by rw [tk_106, if_neg (fun w => z ⟨w.2.1, w.2.2.2⟩)]) c FrP.rf), fun z => absurd rfl z⟩) (fun z c' hf ht => ⟨fun z => absurd z (by decide), fun _ => hk.2 c' (h1 _ (by rw [tk_106, if_pos ⟨y, z.1, by omega, z.2⟩]) c' hf ht)⟩)
  · subst y
    refine s_case (fun K => wX2_addChild (p + 10) c K) (fun y => h0 (by rw [tk_112, if_neg (fun z => y (z4.mpr z.1))]) c FrP.rf) (fun y K k0 k1 => ?_)
    exact s_addChild hp1 hT hlen hL hc h3 hn3 (fun z c' hf => k0 c' (h0 (by rw [tk_112, if_neg (fun w => z w.2)]) c' hf)) (fun z c' hf ht => k1 c' (h1 _ (by rw [tk_112, if_pos ⟨z4.mp y, z⟩]) c' hf ht))
  · subst y
    refine s_case (fun K => wX1_addRain (p + 3) (nI (L.getD 0 0)) (nI (L.getD 1 0)) (nI (L.getD 2 0)) c K) (fun y => h0 (by rw [tk_114, if_neg (fun z => y (z3.mpr z.1))]) c FrP.rf) (fun y K k0 k1 => ?_)
    exact s_addRain hT hL hc (fun z => k0 c (h0 (by rw [tk_114, if_neg (fun w => z w.2)]) c FrP.rf)) (fun z c' hf ht => k1 c' (h1 _ (by rw [tk_114, if_pos ⟨z3.mp y, z⟩]) c' hf ht))
  · refine h0 ?_ c FrP.rf
    unfold tk
    rw [if_neg y.2.2.1, if_neg y.2.1, if_neg y.1, if_neg y.2.2.2.1, if_neg y.2.2.2.2.2.2, if_neg y.2.2.2.2.2.1, if_neg y.2.2.2.2.1]
def st (t : Nat → Int32) (T : vT) (s : Nat) : Option (vT × Nat) := match rdN t 4 (s + 1) with
  | none => none
  | some p => match tk (t s) p.1 T with
    | none => none
    | some T' => some (T', p.2)
theorem st_n1 {t : Nat → Int32} {T : vT} {s : Nat} (h : rdN t 4 (s + 1) = none) : st t T s = none := by unfold st; rw [h]
theorem st_n2 {t : Nat → Int32} {T : vT} {s : Nat} {p : List Nat × Nat} (h : rdN t 4 (s + 1) = some p) (h2 : tk (t s) p.1 T = none) : st t T s = none := by unfold st; rw [h]; dsimp only; rw [h2]
theorem st_s {t : Nat → Int32} {T T' : vT} {s : Nat} {p : List Nat × Nat} (h : rdN t 4 (s + 1) = some p) (h2 : tk (t s) p.1 T = some T') : st t T s = some (T', p.2) := by unfold st; rw [h]; dsimp only; rw [h2]
theorem st_ok {t : Nat → Int32} {T T' : vT} (hT : tOk T) {s b : Nat} (h : st t T s = some (T', b)) : tOk T' ∧ s + 2 ≤ b ∧ b ≤ s + 13 ∧ t (b - 1) = 59 := by
  unfold st at h
  cases e : rdN t 4 (s + 1) with
  | none => rw [e] at h; exact absurd h (by simp)
  | some p =>
    rw [e] at h
    dsimp only at h
    have hb := rdN_bd (L := p.1) (b := p.2) e
    cases e2 : tk (t s) p.1 T with
    | none => rw [e2] at h; exact absurd h (by simp)
    | some T2 =>
      rw [e2] at h
      injection h with h
      injection h with ha hb2
      subst ha hb2
      exact ⟨tk_ok hb.2.2.1 hT e2, by omega, by omega, hb.2.2.2.2.2⟩
/-- all of a text: the fault's place, or what it tells -/
def ra (t : Nat → Int32) (n : Nat) : Nat → Nat → vT → Nat ⊕ vT
  | 0, a, _ => .inl a
  | f + 1, a, T => if n ≤ a then .inr T else match st t T a with
    | none => .inl a
    | some p => ra t n f p.2 p.1
theorem ra_end {t : Nat → Int32} {n f a : Nat} {T : vT} (h : n ≤ a) : ra t n (f + 1) a T = .inr T := by unfold ra; rw [if_pos h]
theorem ra_n {t : Nat → Int32} {n f a : Nat} {T : vT} (h : ¬ n ≤ a) (e : st t T a = none) : ra t n (f + 1) a T = .inl a := by unfold ra; rw [if_neg h, e]
theorem ra_s {t : Nat → Int32} {n f a : Nat} {T : vT} {p : vT × Nat} (h : ¬ n ≤ a) (e : st t T a = some p) : ra t n (f + 1) a T = ra t n f p.2 p.1 := by rw [ra, if_neg h, e]
theorem T0_ok : tOk T0 := ⟨⟨by decide, fun k hk => absurd hk (Nat.not_lt_zero _)⟩, by decide, ⟨by decide, fun k hk => absurd hk (Nat.not_lt_zero _)⟩, ⟨by decide, fun k hk => absurd hk (Nat.not_lt_zero _)⟩, ⟨by decide, by decide, fun i s hi => absurd hi (Nat.not_lt_zero _), fun k hk => absurd hk (Nat.not_lt_zero _)⟩⟩
theorem ltt_59 {n : Nat} {TX : Nat → Int32} {k : Nat} (h : ltt n TX k = 59) : k < n := by
  unfold ltt at h
  split at h
  · assumption
  · exact absurd h (by decide)
/-- what comes, minute by minute -/
def tC (T : vT) (t : Nat) : Nat := (flA (tF T) (tU T) t (tfc T)).2 + rnA (tRF T) (tRT T) (tRU T) t (trc T)
def tP (T : vT) : vP := (tN T, tH T, tO T, tL T, tR T, tA T, tS T, tC T)
theorem flA_bd {F U : Nat → Nat} {t : Nat} : ∀ {n : Nat}, (∀ k, k < n → F k ≤ 99 ∧ U k ≤ 60) → (flA F U t n).2 ≤ 60 ∧ (flA F U t n).1 ≤ 100
  | 0, _ => by simp [flA]
  | n + 1, h => by
    have ih := flA_bd (t := t) (n := n) (fun k hk => h k (by omega))
    have := h n (by omega)
    unfold flA
    split
    · dsimp only; omega
    · exact ih
theorem flA_100 {F U : Nat → Nat} {t : Nat} (ht : 100 ≤ t) : ∀ {n : Nat}, (∀ k, k < n → F k ≤ 99) → flA F U t n = flA F U 100 n
  | 0, _ => rfl
  | n + 1, h => by
    have ih := flA_100 ht (U := U) (n := n) (fun k hk => h k (by omega))
    have h2 := h n (by omega)
    unfold flA
    rw [ih]
    by_cases y : (flA F U 100 n).1 ≤ F n + 1
    · rw [if_pos ⟨by omega, y⟩, if_pos ⟨by omega, y⟩]
    · rw [if_neg (fun z => y z.2), if_neg (fun z => y z.2)]
theorem tP_ok {T : vT} (hT : tOk T) (h1 : 1 ≤ tN T) : pOk (tP T) := by
  obtain ⟨⟨a1, a2⟩, ⟨b1, b2, b3, b4, b5⟩, ⟨c1, c2⟩, ⟨d1, d2⟩, q⟩ := hT
  refine ⟨h1, a1, a2, b1, b2, b3, b4, b5, fun t => ?_, fun t ht => ?_⟩
  · have f1 := (flA_bd (t := t) c2).1
    have f2 : rnA (tRF T) (tRT T) (tRU T) t (trc T) ≤ trc T * 30 := sU_le (trc T) (fun k hk => by
      have := d2 k hk
      split <;> omega)
    show tC T t ≤ 180
    unfold tC
    omega
  · show tC T t = tC T 100
    unfold tC
    rw [flA_100 ht (fun k hk => (c2 k hk).1)]
    congr 1
    refine sU_congr (trc T) (fun k hk => ?_)
    have := d2 k hk
    rw [if_neg (by omega), if_neg (by omega)]

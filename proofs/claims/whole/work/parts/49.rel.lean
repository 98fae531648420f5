theorem rng {a : Int32} {N : Nat} (hN : N < 2 ^ 31) (h0 : (0 : Int32) ≤ a) (h1 : a ≤ nI N) : ∃ n : Nat, n ≤ N ∧ a = nI n := nI_of2 (nI_toInt hN) (Int32.not_lt.mpr h0) h1
theorem rng1 {a : Int32} {L N : Nat} (hL : L < 2 ^ 31) (hN : N < 2 ^ 31) (h0 : nI L ≤ a) (h1 : a ≤ nI N) : ∃ n : Nat, L ≤ n ∧ n ≤ N ∧ a = nI n := by
  obtain ⟨n, h2, h3⟩ := rng hN (Int32.le_trans (nI_pos' hL) h0) h1
  subst h3
  rw [nI_leI hL (by omega)] at h0
  exact ⟨n, h0, h2, rfl⟩
theorem s_within {a lo hi : Int32} {σ : vv_S} {post : Int32 → vv_S → Prop} (h1 : lo ≤ a ∧ a ≤ hi → post 1 σ) (h2 : ¬ (lo ≤ a ∧ a ≤ hi) → post 0 σ) : wX8_isWithin a lo hi σ post := by
  unfold wX8_isWithin
  refine jn_of (fun f => (lo ≤ a ∧ a ≤ hi → f 1) ∧ (¬ (lo ≤ a ∧ a ≤ hi) → f 0)) ⟨fun q => ⟨Or.inr rfl, h1 q⟩, fun q => ⟨Or.inl rfl, h2 q⟩⟩ ?_
  intro f hf
  refine jn_of (fun f2 => ¬ (lo ≤ a ∧ a ≤ hi) → f2) hf.2 ?_
  intro f2 hf2
  exact ⟨fun q => hf2 (fun z => absurd z.1 (Int32.not_le.mpr q)), fun q => ⟨fun q2 => hf2 (fun z => absurd z.2 (Int32.not_le.mpr q2)), fun q2 => hf.1 ⟨Int32.not_lt.mp q, Int32.not_lt.mp q2⟩⟩⟩
theorem s_inM {a lo hi : Int32} {l h : Int64} (hl : l = lo.toInt64) (hh : h = hi.toInt64) {σ : vv_S} {post : Int32 → vv_S → Prop} (h1 : lo ≤ a ∧ a ≤ hi → post 1 σ) (h2 : ¬ (lo ≤ a ∧ a ≤ hi) → post 0 σ) : wX9_in a.toInt64 l h σ post := by
  refine s_in hl hh ?_
  split
  · next q => exact h1 q
  · next q => exact h2 q
theorem cellQ {n : Nat} (hn : n ≤ 8) (a : Int32) : ((0 : Int32) ≤ a ∧ a ≤ nI n - 1) ↔ ∃ k, k < n ∧ a = nI k := by
  constructor
  · rintro ⟨h0, h1⟩
    rcases Nat.eq_zero_or_pos n with z | z
    · subst z
      have : (0 : Int32) ≤ nI 0 - 1 := Int32.le_trans h0 h1
      exact absurd this (by decide)
    · rw [show n = (n - 1) + 1 by omega, nI_pred] at h1
      obtain ⟨k, h2, h3⟩ := rng (by omega) h0 h1
      exact ⟨k, by omega, h3⟩
  · rintro ⟨k, hk, rfl⟩
    rw [show n = (n - 1) + 1 by omega, nI_pred]
    exact ⟨nI_pos' (by omega), nI_le (by omega) (by omega)⟩
theorem s_isCellC {n : Nat} (hn : n ≤ 8) {a : Int32} {c : vv_S} {post : Int32 → vv_S → Prop} (hc : c 4 2 = nI n) (h1 : ∀ k, k < n → a = nI k → post 1 c) (h2 : (¬ ∃ k, k < n ∧ a = nI k) → post 0 c) : wX8_isCell a c post := by
  unfold wX8_isCell wX4_cellCount
  rw [hc]
  refine s_within (fun q => ⟨Or.inr rfl, ?_⟩) (fun q => ⟨Or.inl rfl, h2 (fun z => q ((cellQ hn a).mpr z))⟩)
  obtain ⟨k, k1, k2⟩ := (cellQ hn a).mp q
  exact h1 k k1 k2
theorem s_isCellM {n : Nat} (hn : n ≤ 8) {a : Int32} {m : vv_S} {post : Int32 → vv_S → Prop} (hc : m 2 0 = nI n) (h1 : ∀ k, k < n → a = nI k → post 1 m) (h2 : (¬ ∃ k, k < n ∧ a = nI k) → post 0 m) : wX9_isCell a m post := by
  unfold wX9_isCell
  rw [hc]
  refine s_inM (lo := 0) (by decide) rfl (fun q => ⟨Or.inr rfl, ?_⟩) (fun q => ⟨Or.inl rfl, h2 (fun z => q ((cellQ hn a).mpr z))⟩)
  obtain ⟨k, k1, k2⟩ := (cellQ hn a).mp q
  exact h1 k k1 k2
/-- children and jobs: how many children, what they lay, how many jobs, their stuffs and inches -/
abbrev vQ : Type := Nat × (Nat → Nat → Nat) × Nat × (Nat → Nat) × (Nat → Nat)
def qOk (Q : vQ) : Prop := Q.1 ≤ 4 ∧ Q.2.2.1 ≤ 5 ∧ (∀ i s, i < Q.1 → s < 4 → Q.2.1 i s ≤ 9) ∧ ∀ j, j < Q.2.2.1 → Q.2.2.2.1 j ≤ 3 ∧ 1 ≤ Q.2.2.2.2 j ∧ Q.2.2.2.2 j ≤ 30
def QC (Q : vQ) (c : vv_S) : Prop := c 14 1 = nI Q.1 ∧ c 14 4 = nI Q.2.2.1 ∧ (∀ i s, i < Q.1 → s < 4 → c (16 + i) s = nI (Q.2.1 i s)) ∧ ∀ j, j < Q.2.2.1 → c 20 j = nI (Q.2.2.2.1 j) ∧ c 21 j = nI (Q.2.2.2.2 j)
def QM (Q : vQ) (m : vv_S) : Prop := m 14 0 = nI Q.1 ∧ m 16 0 = nI Q.2.2.1 ∧ (∀ i s, i < Q.1 → s < 4 → m 15 (4 * i + s) = nI (Q.2.1 i s)) ∧ ∀ j, j < Q.2.2.1 → m 18 j = nI (Q.2.2.2.1 j) ∧ m 19 j = nI (Q.2.2.2.2 j)
/-- what is kept, seen and written: how many kept, they; how many seen, levels, minutes; how many letters, they -/
abbrev vK : Type := (Nat × (Nat → vA)) × (Nat × (Nat → Nat) × (Nat → Nat)) × Nat × (Nat → Int32)
def AMo (o : Nat) (j : Nat) (A : vA) (m : vv_S) : Prop := m 20 j = nI (aN A) ∧ ∀ k, k < aN A → m 21 (o + k) = nI (aK A k) ∧ m 22 (o + k) = nI (aC A k) ∧ m 23 (o + k) = nI (aT A k) ∧ m 24 (o + k) = nI (aA A k)
def kOk (P : vP) (B : vK) : Prop := B.1.1 ≤ 2 ∧ (∀ j, j < B.1.1 → aOk P (B.1.2 j)) ∧ B.2.1.1 ≤ 8 ∧ (∀ k, k < B.2.1.1 → B.2.1.2.1 k ≤ 60 ∧ 1 ≤ B.2.1.2.2 k ∧ B.2.1.2.2 k ≤ 99) ∧ B.2.2.1 ≤ 200
def KC (B : vK) (c : vv_S) : Prop := c 0 7 = nI B.1.1 ∧ (∀ j, j < B.1.1 → AC (55 + 5 * j) (B.1.2 j) c) ∧ c 66 2 = nI B.2.1.1 ∧ (∀ k, k < B.2.1.1 → c 67 k = nI (B.2.1.2.1 k) ∧ c 68 k = nI (B.2.1.2.2 k)) ∧ c 1 1 = nI B.2.2.1 ∧ ∀ k, k < B.2.2.1 → c 2 k = B.2.2.2 k
def KM (B : vK) (m : vv_S) : Prop := m 0 25 = nI B.1.1 ∧ (∀ j, j < B.1.1 → AMo (30 * (j + 1)) (j + 1) (B.1.2 j) m) ∧ m 0 26 = nI B.2.1.1 ∧ (∀ k, k < B.2.1.1 → m 25 k = nI (B.2.1.2.1 k) ∧ m 26 k = nI (B.2.1.2.2 k)) ∧ m 0 0 = nI B.2.2.1 ∧ ∀ k, k < B.2.2.1 → m 1 k = B.2.2.2 k
def RC (P : vP) (D : vD) (A : vA) (Q : vQ) (B : vK) (c : vv_S) : Prop := PC P c ∧ DP P 42 D c ∧ AC 50 A c ∧ QC Q c ∧ KC B c
def RM (P : vP) (D : vD) (A : vA) (Q : vQ) (B : vK) (m : vv_S) : Prop := PM P m ∧ DM P 0 D m ∧ AM A m ∧ QM Q m ∧ KM B m
def ROk (P : vP) (D : vD) (A : vA) (Q : vQ) (B : vK) : Prop := pOk P ∧ dOk P D ∧ aOk P A ∧ dM D = sU (aM A) (aN A) ∧ qOk Q ∧ kOk P B
/-- the class's world and the model's hold the same -/
def Rel (c m : vv_S) : Prop := ∃ (P : vP) (D : vD) (A : vA) (Q : vQ) (B : vK), ROk P D A Q B ∧ RC P D A Q B c ∧ RM P D A Q B m
/-- what a question leaves as it is -/
def FQC (c c' : vv_S) : Prop := ∀ i, i ≤ 2 ∨ (4 ≤ i ∧ i ≤ 6) ∨ (13 ≤ i ∧ i ≤ 14) ∨ (16 ≤ i ∧ i ≤ 21) ∨ (42 ≤ i ∧ i ≤ 45) ∨ (50 ≤ i ∧ i ≤ 68) → c' i = c i
theorem FQC.trans {c c' c2 : vv_S} (h : FQC c c') (g : FQC c' c2) : FQC c c2 := fun i hi => by rw [g i hi, h i hi]
theorem FQC.rf {c : vv_S} : FQC c c := fun _ _ => rfl
theorem Fr4.toQ {c c' : vv_S} (h : Fr4 46 c c') : FQC c c' := fun i hi => h i (by omega)
theorem RC.fr {P : vP} {D : vD} {A : vA} {Q : vQ} {B : vK} {c c' : vv_S} (hq : qOk Q) (hk : kOk P B) (h : RC P D A Q B c) (hf : FQC c c') : RC P D A Q B c' := by
  obtain ⟨⟨p1, p2, p3, p4, p5, p6, p7⟩, ⟨⟨r1, r2, r4, r5, r6, r7⟩, q8, q9, q10, q11, q12⟩, ⟨a1, a2⟩, ⟨u1, u2, u3, u4⟩, k1, k2, k3, k4, k5, k6⟩ := h
  refine ⟨?_, ⟨⟨?_, ?_, ?_⟩, ?_⟩, ?_, ⟨?_, ?_, ?_, ?_⟩, ?_, ?_, ?_, ?_, ?_, ?_⟩
  · unfold PC
    rw [hf 4 (by omega), hf 13 (by omega), hf 5 (by omega), hf 6 (by omega)]
    exact ⟨p1, p2, p3, p4, p5, p6, p7⟩
  · rw [hf (42 + 1) (by omega), hf (42 + 2) (by omega), hf (42 + 3) (by omega)]; exact r1
  · rw [hf (42 + 3) (by omega)]; exact r2
  · rw [hf 42 (by omega)]; exact ⟨r4, r5, r6, r7⟩
  · unfold DE; rw [hf 42 (by omega)]; exact ⟨q8, q9, q10, q11, q12⟩
  · unfold AC
    rw [hf 50 (by omega), hf (50 + 1) (by omega), hf (50 + 2) (by omega), hf (50 + 3) (by omega), hf (50 + 4) (by omega)]
    exact ⟨a1, a2⟩
  · rw [hf 14 (by omega)]; exact u1
  · rw [hf 14 (by omega)]; exact u2
  · intro i s hi hs
    have := hq.1
    rw [hf (16 + i) (by omega)]
    exact u3 i s hi hs
  · rw [hf 20 (by omega), hf 21 (by omega)]; exact u4
  · rw [hf 0 (by omega)]; exact k1
  · intro j hj
    have := hk.1
    unfold AC
    rw [hf (55 + 5 * j) (by omega), hf (55 + 5 * j + 1) (by omega), hf (55 + 5 * j + 2) (by omega), hf (55 + 5 * j + 3) (by omega), hf (55 + 5 * j + 4) (by omega)]
    exact k2 j hj
  · rw [hf 66 (by omega)]; exact k3
  · rw [hf 67 (by omega), hf 68 (by omega)]; exact k4
  · rw [hf 1 (by omega)]; exact k5
  · rw [hf 2 (by omega)]; exact k6
def FQM (m m' : vv_S) : Prop := (∀ i, 1 ≤ i → i ≤ 26 → m' i = m i) ∧ (∀ i, i ≤ 28 → m' 0 i = m 0 i) ∧ (∀ k, k < 8 → m' 28 k = m 28 k ∧ m' 29 k = m 29 k ∧ m' 30 k = m 30 k) ∧ m' 31 0 = m 31 0 ∧ m' 32 0 = m 32 0 ∧ m' 33 0 = m 33 0 ∧ m' 34 0 = m 34 0
theorem FQM.rf {m : vv_S} : FQM m m := ⟨fun _ _ _ => rfl, fun _ _ => rfl, fun _ _ => ⟨rfl, rfl, rfl⟩, rfl, rfl, rfl, rfl⟩
theorem FQM.trans {m m' m2 : vv_S} (h : FQM m m') (g : FQM m' m2) : FQM m m2 := by
  obtain ⟨h1, h2, h3, h4, h5, h6, h7⟩ := h
  obtain ⟨g1, g2, g3, g4, g5, g6, g7⟩ := g
  exact ⟨fun i a b => by rw [g1 i a b, h1 i a b], fun i a => by rw [g2 i a, h2 i a], fun k hk => by rw [(g3 k hk).1, (g3 k hk).2.1, (g3 k hk).2.2]; exact h3 k hk, by rw [g4, h4], by rw [g5, h5], by rw [g6, h6], by rw [g7, h7]⟩
theorem FrW.toQ {m m' : vv_S} (h : FrW 1 m m') : FQM m m' := by
  obtain ⟨h1, h2, h3, h4⟩ := h
  obtain ⟨z1, z2, z3, z4⟩ := h4 0 (by decide)
  exact ⟨fun i a b => h1 i (by omega) (by omega) (by omega) (by omega) (by omega) (by omega) (by omega) (by omega), fun i a => h2 i (by omega) (by omega) (by omega), fun k hk => h3 k (by omega), z1, z2, z3, z4⟩
theorem RM.fr {P : vP} {D : vD} {A : vA} {Q : vQ} {B : vK} {m m' : vv_S} (hp : pOk P) (h : RM P D A Q B m) (hf : FQM m m') : RM P D A Q B m' := by
  obtain ⟨f1, f2, f3, f4, f5, f6, f7⟩ := hf
  obtain ⟨pm, ⟨r1, r4, r5, r6, r7⟩, am, qm, k1, k2, k3, k4, k5, k6⟩ := h
  have hn8 := hp.2.1
  refine ⟨pm.moved (fun i a b => f1 i (by omega) (by omega)), ⟨?_, by rw [f4]; exact r4, by rw [f5]; exact r5, by rw [f6]; exact r6, by rw [f7]; exact r7⟩, ?_, ?_, ?_, ?_, ?_, ?_, ?_, ?_⟩
  · intro k hk
    obtain ⟨g1, g2, g3⟩ := f3 k (by omega)
    have := r1 k hk
    rw [show 8 * 0 + k = k by omega] at *
    rw [g1, g2, g3]
    exact this
  · unfold AM
    rw [f1 20 (by omega) (by omega), f1 21 (by omega) (by omega), f1 22 (by omega) (by omega), f1 23 (by omega) (by omega), f1 24 (by omega) (by omega)]
    exact am
  · unfold QM
    rw [f1 14 (by omega) (by omega), f1 15 (by omega) (by omega), f1 16 (by omega) (by omega), f1 18 (by omega) (by omega), f1 19 (by omega) (by omega)]
    exact qm
  · rw [f2 25 (by omega)]; exact k1
  · intro j hj
    unfold AMo
    rw [f1 20 (by omega) (by omega), f1 21 (by omega) (by omega), f1 22 (by omega) (by omega), f1 23 (by omega) (by omega), f1 24 (by omega) (by omega)]
    exact k2 j hj
  · rw [f2 26 (by omega)]; exact k3
  · rw [f1 25 (by omega) (by omega), f1 26 (by omega) (by omega)]; exact k4
  · rw [f2 0 (by omega)]; exact k5
  · rw [f1 1 (by omega) (by omega)]; exact k6
/-- a question, answered alike on both sides -/
theorem rel_q {P : vP} {D : vD} {A : vA} {Q : vQ} {B : vK} {c c' m m' : vv_S} (h : ROk P D A Q B) (hc : RC P D A Q B c) (hm : RM P D A Q B m) (hfc : FQC c c') (hfm : FQM m m') : Rel c' m' :=
  ⟨P, D, A, Q, B, h, hc.fr h.2.2.2.2.1 h.2.2.2.2.2 hfc, hm.fr h.1 hfm⟩
theorem ROk.m999 {P : vP} {D : vD} {A : vA} {Q : vQ} {B : vK} (h : ROk P D A Q B) : dM D ≤ 999 := by
  rw [h.2.2.2.1]
  exact h.2.2.1.2.2

/-- what works on the dam b may change of the model -/
def FrW (b : Nat) (m m' : vv_S) : Prop := (∀ i, i ≠ 0 → i ≠ 28 → i ≠ 29 → i ≠ 30 → i ≠ 31 → i ≠ 32 → i ≠ 33 → i ≠ 34 → m' i = m i) ∧ (∀ i, i ≠ 38 → i ≠ 39 → i ≠ 40 → m' 0 i = m 0 i) ∧ (∀ k, ¬ (8 * b ≤ k ∧ k < 8 * b + 8) → m' 28 k = m 28 k ∧ m' 29 k = m 29 k ∧ m' 30 k = m 30 k) ∧ ∀ k, k ≠ b → m' 31 k = m 31 k ∧ m' 32 k = m 32 k ∧ m' 33 k = m 33 k ∧ m' 34 k = m 34 k
theorem FrW.rf {b : Nat} {m : vv_S} : FrW b m m := ⟨fun _ _ _ _ _ _ _ _ _ => rfl, fun _ _ _ _ => rfl, fun _ _ => ⟨rfl, rfl, rfl⟩, fun _ _ => ⟨rfl, rfl, rfl, rfl⟩⟩
theorem FrW.trans {b : Nat} {m m' m2 : vv_S} (h : FrW b m m') (g : FrW b m' m2) : FrW b m m2 := ⟨fun i h0 h1 h2 h3 h4 h5 h6 h7 => by rw [g.1 i h0 h1 h2 h3 h4 h5 h6 h7, h.1 i h0 h1 h2 h3 h4 h5 h6 h7], fun i h1 h2 h3 => by rw [g.2.1 i h1 h2 h3, h.2.1 i h1 h2 h3], fun k hk => by rw [(g.2.2.1 k hk).1, (g.2.2.1 k hk).2.1, (g.2.2.1 k hk).2.2]; exact h.2.2.1 k hk, fun k hk => by rw [(g.2.2.2 k hk).1, (g.2.2.2 k hk).2.1, (g.2.2.2 k hk).2.2.1, (g.2.2.2 k hk).2.2.2]; exact h.2.2.2 k hk⟩
theorem FrG.toW {b : Nat} {m m' : vv_S} (h : FrG b m m') : FrW b m m' := ⟨fun i h0 h1 h2 h3 h4 h5 h6 h7 => h.1 i h0 h1 h3 h4 h5 h6 h7, h.2.1, fun k hk => by rw [h.1 29 (by decide) (by decide) (by decide) (by decide) (by decide) (by decide) (by decide)]; exact ⟨(h.2.2.1 k hk).1, rfl, (h.2.2.1 k hk).2⟩, h.2.2.2⟩
theorem PM.fr {P : vP} {b : Nat} {m m' : vv_S} (h : PM P m) (hf : FrW b m m') : PM P m' := h.moved (fun i h1 h2 => hf.1 i (by omega) (by omega) (by omega) (by omega) (by omega) (by omega) (by omega) (by omega))
theorem ix8' (k : Nat) : (8 : Int32) + nI k = nI (8 + k) := by rw [vn8, nI_add]
theorem s_tryIt {P : vP} (hP : pOk P) {D : vD} {m : vv_S} {post : vv_S → Prop} (h0 : DM P 0 D m)
    (kk : ∀ m', FrW 1 m m' → DM P 1 D m' → post m') : wX9_tryIt m post := by
  obtain ⟨hn1, hn8, -⟩ := id hP
  obtain ⟨r1, r4, r5, r6, r7⟩ := h0
  unfold wX9_tryIt
  refine jn_of (fun f => ∀ σ : vv_S, FrW 1 m σ → (∀ k, k < 8 → σ 28 (8 + k) = m 28 k ∧ σ 29 (8 + k) = m 29 k ∧ σ 30 (8 + k) = m 30 k) → f σ) ?_ ?_
  · intro c1 hf hh
    obtain ⟨z31, z32, z33, z34⟩ := hf.2.2.2 0 (by decide)
    rintro _ rfl _ rfl _ rfl _ rfl
    rw [vv_up_c (show (32 : Nat) ≠ 31 by decide), vv_up_c (show (33 : Nat) ≠ 32 by decide), vv_up_c (show (33 : Nat) ≠ 31 by decide), vv_up_c (show (34 : Nat) ≠ 33 by decide), vv_up_c (show (34 : Nat) ≠ 32 by decide), vv_up_c (show (34 : Nat) ≠ 31 by decide), z31, z32, z33, z34, r4, r5, r6, r7]
    refine kk _ (hf.trans ⟨fun i h0 h1 h2 h3 h4 h5 h6 h7 => by rw [vv_up_r h7, vv_up_r h6, vv_up_r h5, vv_up_r h4], fun i h1 h2 h3 => by rw [vv_up_c (by decide), vv_up_c (by decide), vv_up_c (by decide), vv_up_c (by decide)], fun k hk => by simp [vv_up_app], fun k hk => by simp [vv_up_app, hk]⟩) ⟨fun k hk => ?_, ?_, ?_, ?_, ?_⟩
    · have h := hh k (by omega)
      have e := r1 k hk
      rw [show 8 * 0 + k = k by omega] at e
      simp [vv_up_app, h.1, h.2.1, h.2.2, e.1, e.2.1, e.2.2]
    · simp [vv_up_app]
    · simp [vv_up_app]
    · simp [vv_up_app]
    · simp [vv_up_app]
  · intro f hf
    have key : ∀ (j i : Nat) (c1 : vv_S), i + j = 8 → FrW 1 m c1 → (∀ k, k < i → c1 28 (8 + k) = m 28 k ∧ c1 29 (8 + k) = m 29 k ∧ c1 30 (8 + k) = m 30 k) → lX9_tryIt_1 f (j + 1) (nI i) c1 := by
      intro j
      induction j with
      | zero =>
        intro i c1 hi hf1 hh
        unfold lX9_tryIt_1
        refine ⟨fun _ => hf c1 hf1 (fun k hk => hh k (by omega)), fun q => absurd ?_ q⟩
        rw [vn8]; exact nI_le (by omega) (by omega)
      | succ j ih =>
        intro i c1 hi hf1 hh
        have hcl : (nI i).toNatClampNeg = i := nI_clamp (by omega)
        have hcl2 : (nI (8 + i)).toNatClampNeg = 8 + i := nI_clamp (by omega)
        have hin : vp_in (nI i) 16 := vp_in_nI (by omega) (by decide)
        have hin2 : vp_in (nI (8 + i)) 16 := vp_in_nI (by omega) (by decide)
        unfold lX9_tryIt_1
        rw [ix8', hcl, hcl2]
        refine ⟨fun q => absurd q ?_, fun _ => ⟨hin, hin2, ?_⟩⟩
        · rw [vn8]; exact nI_ge (by omega) (by decide)
        rintro _ rfl
        refine ⟨hin, hin2, ?_⟩
        rintro _ rfl
        refine ⟨hin, hin2, ?_⟩
        rintro _ rfl _ rfl
        rw [nI_1]
        have h1 := hf1.2.2.1 i (by omega)
        refine ih (i + 1) _ (by omega) (hf1.trans ⟨fun i h0 h1 h2 h3 h4 h5 h6 h7 => by rw [vv_up_r h3, vv_up_r h2, vv_up_r h1], fun i h1 h2 h3 => by rw [vv_up_c (by decide), vv_up_c (by decide), vv_up_c (by decide)], fun k hk => ?_, fun k hk => by simp [vv_up_app]⟩) ?_
        · have : ¬ k = 8 + i := by omega
          simp [vv_up_app, this]
        · intro k hk
          by_cases e : k = i
          · subst e
            simp [vv_up_app, h1.1, h1.2.1, h1.2.2]
          · have := hh k (by omega)
            simp [vv_up_app, e, this.1, this.2.1, this.2.2]
    exact ⟨9, key 8 0 m (by omega) FrW.rf (fun k hk => by omega)⟩
/-- acts in the model's rows, from the place o on -/
def AM (A : vA) (m : vv_S) : Prop := m 20 0 = nI (aN A) ∧ ∀ k, k < aN A → m 21 k = nI (aK A k) ∧ m 22 k = nI (aC A k) ∧ m 23 k = nI (aT A k) ∧ m 24 k = nI (aA A k)
theorem AM.fr {A : vA} {b : Nat} {m m' : vv_S} (h : AM A m) (hf : FrW b m m') : AM A m' := by
  unfold AM
  rw [hf.1 20 (by decide) (by decide) (by decide) (by decide) (by decide) (by decide) (by decide) (by decide), hf.1 21 (by decide) (by decide) (by decide) (by decide) (by decide) (by decide) (by decide) (by decide), hf.1 22 (by decide) (by decide) (by decide) (by decide) (by decide) (by decide) (by decide) (by decide), hf.1 23 (by decide) (by decide) (by decide) (by decide) (by decide) (by decide) (by decide) (by decide), hf.1 24 (by decide) (by decide) (by decide) (by decide) (by decide) (by decide) (by decide) (by decide)]
  exact h
theorem s_goes {P : vP} (hP : pOk P) {b : Nat} (hb : b < 2) {D : vD} (hD : dOk P D) {n : Nat} (hn : n ≤ 200) (hm : dM D + n ≤ 2000) {m : vv_S} (hc : PM P m) (h0 : DM P b D m) {W : Nat → Int32 → vv_S → Prop}
    (hend : ∀ m', FrW b m m' → DM P b (m0 P D n) m' → ∀ f, W (f + 1) (nI n) m') (hstep : ∀ f i m', i < n → FrW b m m' → DM P b (m0 P D i) m' → (wX9_go (nI b) (nI 0) m' (fun m2 => W f (nI i + 1) m2)) → W (f + 1) (nI i) m') : ∃ f, W f (nI 0) m := by
  have key : ∀ (j i : Nat) (m' : vv_S), i + j = n → FrW b m m' → DM P b (m0 P D i) m' → W (j + 1) (nI i) m' := by
    intro j
    induction j with
    | zero =>
      intro i m' hi hf hd
      have e : i = n := by omega
      subst e
      exact hend m' hf hd 0
    | succ j ih =>
      intro i m' hi hf hd
      refine hstep (j + 1) i m' (by omega) hf hd ?_
      refine s_go hP hb (mns_ok hP hD i) (x := 0) (by omega) (by rw [mns_M]; omega) (hc.fr hf) hd ?_
      intro m2 hf2 hd2 _ _ _
      rw [nI_1]
      exact ih (i + 1) m2 (by omega) (hf.trans hf2.toW) hd2
  exact ⟨n + 1, key n 0 m (by omega) FrW.rf h0⟩
theorem DM.re {P : vP} {b : Nat} (hP : pOk P) {D : vD} {k h s : Nat} (hk : k < pN P) {m m' : vv_S} (h0 : DM P b D m) (e28 : ∀ j, m' 28 j = if j = 8 * b + k then nI h else m 28 j) (e29 : ∀ j, m' 29 j = if j = 8 * b + k then nI s else m 29 j) (ho : ∀ i, i ≠ 28 → i ≠ 29 → m' i = m i) : DM P b (reD D k h s) m' := by
  obtain ⟨r1, r4, r5, r6, r7⟩ := h0
  refine ⟨fun j hj => ?_, by rw [ho 31 (by decide) (by decide)]; exact r4, by rw [ho 32 (by decide) (by decide)]; exact r5, by rw [ho 33 (by decide) (by decide)]; exact r6, by rw [ho 34 (by decide) (by decide)]; exact r7⟩
  rw [e28, e29, ho 30 (by decide) (by decide)]
  show _ = nI (uN (dH D) k h j) ∧ _ = nI (uN (dO D) k s j) ∧ m 30 (8 * b + j) = nI (dB D j)
  by_cases e : j = k
  · subst e
    rw [if_pos rfl, if_pos rfl, uN_s, uN_s]
    exact ⟨rfl, rfl, (r1 j hj).2.2⟩
  · rw [if_neg (by omega), if_neg (by omega), uN_n e, uN_n e]
    exact r1 j hj
theorem FrW.re {b k : Nat} (hk : k < 8) {m m' : vv_S} {x y : Int32} (e28 : ∀ j, m' 28 j = if j = 8 * b + k then x else m 28 j) (e29 : ∀ j, m' 29 j = if j = 8 * b + k then y else m 29 j) (ho : ∀ i, i ≠ 28 → i ≠ 29 → m' i = m i) : FrW b m m' := by
  refine ⟨fun i h0 h1 h2 h3 h4 h5 h6 h7 => ho i h1 h2, fun i _ _ _ => by rw [ho 0 (by decide) (by decide)], fun j hj => ?_, fun j hj => by rw [ho 31 (by decide) (by decide), ho 32 (by decide) (by decide), ho 33 (by decide) (by decide), ho 34 (by decide) (by decide)]; exact ⟨rfl, rfl, rfl, rfl⟩⟩
  rw [e28, e29, if_neg (by omega), if_neg (by omega), ho 30 (by decide) (by decide)]
  exact ⟨rfl, rfl, rfl⟩
/-- can an act be done -/
def can (D : vD) (kd ce ma : Nat) : Prop := (kd = 0 → dH D ce + ma ≤ 40) ∧ (kd = 1 → ma ≤ dH D ce)
theorem s_canDo {P : vP} (hP : pOk P) {b : Nat} (hb : b < 2) {D : vD} (hD : dOk P D) {k kd ce st ma : Nat} (hk : k < 90) (hkd : kd ≤ 2) (hce : ce < pN P) (hma : ma ≤ 60) {m : vv_S} {post : Int32 → vv_S → Prop} (h0 : DM P b D m) (e1 : m 21 k = nI kd) (e2 : m 22 k = nI ce) (e4 : m 24 k = nI ma)
    (k1 : can D kd ce ma → post 1 m) (k2 : ¬ can D kd ce ma → post 0 m) : wX9_canDo (nI b) (nI k) m post := by
  obtain ⟨hn1, hn8, -⟩ := id hP
  obtain ⟨b1, b2⟩ := hD.1 ce hce
  have hcl : (nI k).toNatClampNeg = k := nI_clamp (by omega)
  have hin : vp_in (nI k) 90 := vp_in_nI hk (by decide)
  have hcl2 : (nI (8 * b + ce)).toNatClampNeg = 8 * b + ce := nI_clamp (by omega)
  have hin2 : vp_in (nI (8 * b + ce)) 16 := vp_in_nI (by omega) (by decide)
  have o0 : nI kd = 0 ↔ kd = 0 := by rw [vn0]; exact nI_eq (by omega) (by decide)
  have o1 : nI kd = (1 : Int32) ↔ kd = 1 := by rw [vn1]; exact nI_eq (by omega) (by decide)
  unfold wX9_canDo
  rw [hcl, e2, ix8]
  refine ⟨hin, ?_⟩
  rintro _ rfl
  rw [hcl2, e1, e4, (h0.1 ce hce).1, o0, o1, nI_add, show (40 : Int32) = nI 40 by decide, nI_ltI (by omega) (by omega), nI_ltI (by decide) (by omega)]
  refine ⟨hin, jn_of (fun f => (can D kd ce ma → f 1) ∧ (¬ can D kd ce ma → f 0)) ⟨fun q => ⟨Or.inr rfl, k1 q⟩, fun q => ⟨Or.inl rfl, k2 q⟩⟩ ?_⟩
  intro f hf
  refine ⟨fun q => ⟨hin, jn_of (fun f2 => (kd = 1 → ma ≤ dH D ce) → f2) (fun z => hf.1 ⟨fun y => absurd y q, z⟩) (fun f2 hf2 => ⟨fun q1 => hf2 (fun z => absurd z q1), fun q1 => ⟨hin2, hin, fun q2 => hf.2 (fun z => ?_), fun q2 => hf2 (fun _ => by omega)⟩⟩)⟩, fun q => ⟨hin2, hin, fun q2 => hf.2 (fun z => ?_), fun q2 => hf.1 ⟨fun _ => by omega, fun z => by omega⟩⟩⟩
  · have := z.2 q1; omega
  · have := z.1 q; omega
theorem s_doAct {P : vP} (hP : pOk P) {b : Nat} (hb : b < 2) {D : vD} (hD : dOk P D) {k kd ce st ma : Nat} (hk : k < 90) (hkd : kd ≤ 2) (hce : ce < pN P) (hma : ma ≤ 60) (hm : dM D ≤ 1500) {m : vv_S} {post : vv_S → Prop} (hpm : PM P m) (h0 : DM P b D m) (e1 : m 21 k = nI kd) (e2 : m 22 k = nI ce) (e3 : m 23 k = nI st) (e4 : m 24 k = nI ma) (hcan : can D kd ce ma)
    (kk : ∀ m', FrW b m m' → DM P b (do1 P kd ce st ma D) m' → post m') : wX9_doAct (nI b) (nI k) m post := by
  obtain ⟨hn1, hn8, -⟩ := id hP
  obtain ⟨b1, b2⟩ := hD.1 ce hce
  have hcl : (nI k).toNatClampNeg = k := nI_clamp (by omega)
  have hin : vp_in (nI k) 90 := vp_in_nI hk (by decide)
  have hcl2 : (nI (8 * b + ce)).toNatClampNeg = 8 * b + ce := nI_clamp (by omega)
  have hin2 : vp_in (nI (8 * b + ce)) 16 := vp_in_nI (by omega) (by decide)
  have o0 : nI kd = 0 ↔ kd = 0 := by rw [vn0]; exact nI_eq (by omega) (by decide)
  have o1 : nI kd = (1 : Int32) ↔ kd = 1 := by rw [vn1]; exact nI_eq (by omega) (by decide)
  obtain ⟨u1, u2, u3⟩ := h0.1 ce hce
  unfold wX9_doAct
  rw [hcl, e2, ix8]
  refine ⟨hin, ?_⟩
  rintro _ rfl
  rw [hcl2, e1, e4, u1, o0, o1]
  refine ⟨hin, jn_of (fun f => ∀ m', FrW b m m' → DM P b (do1 P kd ce st ma D) m' → f m') kk ?_⟩
  intro f hf
  refine ⟨fun q => ⟨hin2, hin, hin2, ?_⟩, fun q => ⟨hin2, hin, hin2, ?_⟩, fun q => ?_⟩
  · rintro _ rfl
    refine ⟨hin, hin2, ?_⟩
    rintro _ rfl
    rw [vv_up_c (show (23 : Nat) ≠ 28 by decide), e3, nI_add]
    have g1 : ∀ j, vv_up (vv_up m 28 (8 * b + ce) (nI (dH D ce + ma))) 29 (8 * b + ce) (nI st) 28 j = if j = 8 * b + ce then nI (dH D ce + ma) else m 28 j := fun j => by simp [vv_up_app]
    have g2 : ∀ j, vv_up (vv_up m 28 (8 * b + ce) (nI (dH D ce + ma))) 29 (8 * b + ce) (nI st) 29 j = if j = 8 * b + ce then nI st else m 29 j := fun j => by simp [vv_up_app]
    have g3 : ∀ i, i ≠ 28 → i ≠ 29 → vv_up (vv_up m 28 (8 * b + ce) (nI (dH D ce + ma))) 29 (8 * b + ce) (nI st) i = m i := fun i i1 i2 => by rw [vv_up_r i2, vv_up_r i1]
    refine hf _ (FrW.re (by omega) g1 g2 g3) ?_
    have : do1 P kd ce st ma D = reD D ce (dH D ce + ma) st := by
      unfold do1
      rw [if_pos q, if_pos (hcan.1 q)]
    rw [this]
    exact DM.re hP hce h0 g1 g2 g3
  · rintro _ rfl
    rw [pk_sub (hcan.2 q)]
    have g1 : ∀ j, vv_up m 28 (8 * b + ce) (nI (dH D ce - ma)) 28 j = if j = 8 * b + ce then nI (dH D ce - ma) else m 28 j := fun j => by simp [vv_up_app]
    have g2 : ∀ j, vv_up m 28 (8 * b + ce) (nI (dH D ce - ma)) 29 j = if j = 8 * b + ce then nI (dO D ce) else m 29 j := fun j => by
      rw [vv_up_c (by decide)]
      split
      · next z => rw [z, u2]
      · rfl
    have g3 : ∀ i, i ≠ 28 → i ≠ 29 → vv_up m 28 (8 * b + ce) (nI (dH D ce - ma)) i = m i := fun i i1 i2 => by rw [vv_up_r i1]
    refine hf _ (FrW.re (by omega) g1 g2 g3) ?_
    have : do1 P kd ce st ma D = reD D ce (dH D ce - ma) (dO D ce) := by
      unfold do1
      rw [if_neg (by omega), if_pos q, if_pos (hcan.2 q)]
    rw [this]
    exact DM.re hP hce h0 g1 g2 g3
  · have : do1 P kd ce st ma D = m0 P D ma := by
      unfold do1
      rw [if_neg q.1, if_neg q.2]
    rw [this] at hf
    have e24 : ∀ m', FrW b m m' → m' 24 k = nI ma := fun m' hf' => by rw [hf'.1 24 (by decide) (by decide) (by decide) (by decide) (by decide) (by decide) (by decide) (by decide), e4]
    refine s_goes hP hb hD (n := ma) (by omega) (by omega) hpm h0 (W := fun n v m' => lX9_doAct_1 (nI k) f (nI b) n v m') ?_ ?_
    · intro m' hf' hd' n
      unfold lX9_doAct_1
      rw [hcl, e24 m' hf']
      exact ⟨hin, fun _ => hf m' hf' hd', fun q => absurd (nI_le (Nat.le_refl _) (by omega)) q⟩
    · intro n i m' hi hf' hd' hgo
      unfold lX9_doAct_1
      rw [hcl, e24 m' hf']
      refine ⟨hin, fun q => absurd q (nI_ge (by omega) (by omega)), fun _ => ?_⟩
      simp only [forall_eq]
      exact hgo
theorem s_beginBut {P : vP} (hP : pOk P) {b : Nat} (hb : b < 2) {A : vA} (hA : aOk P A) {but : Nat} {a2 : Int32} (hbut : ∀ k, k < 30 → (nI k = a2 ↔ k = but)) {m : vv_S} {post : vv_S → Prop} (hpm : PM P m) (ham : AM A m)
    (kk : ∀ m', FrW b m m' → DM P b (run P A but (aN A)) m' → post m') : wX9_beginBut (nI b) a2 m post := by
  obtain ⟨hn1, hn8, -⟩ := id hP
  have hn30 := hA.1
  have hbc : (nI b).toNatClampNeg = b := nI_clamp (by omega)
  have hbin : vp_in (nI b) 2 := vp_in_nI hb (by decide)
  unfold wX9_beginBut
  rw [hbc]
  refine jn_of (fun f => ∀ σ : vv_S, FrW b m σ → (∀ k, k < pN P → σ 28 (8 * b + k) = nI (pH P k) ∧ σ 29 (8 * b + k) = nI (pO P k) ∧ σ 30 (8 * b + k) = 0) → f σ) ?_ ?_
  · intro c1 hf hh
    refine ⟨hbin, ?_⟩
    rintro _ rfl
    refine ⟨hbin, ?_⟩
    rintro _ rfl
    refine ⟨hbin, ?_⟩
    rintro _ rfl
    refine ⟨hbin, ?_⟩
    rintro _ rfl
    generalize hc7 : vv_up (vv_up (vv_up (vv_up c1 31 b 0) 32 b 0) 33 b 0) 34 b 0 = c7
    have hf7 : FrW b m c7 := hf.trans (by
      rw [← hc7]
      exact ⟨fun i h0 h1 h2 h3 h4 h5 h6 h7 => by rw [vv_up_r h7, vv_up_r h6, vv_up_r h5, vv_up_r h4], fun i h1 h2 h3 => by rw [vv_up_c (by decide), vv_up_c (by decide), vv_up_c (by decide), vv_up_c (by decide)], fun k hk => by simp [vv_up_app], fun k hk => by simp [vv_up_app, hk]⟩)
    have hd7 : DM P b (D0 P) c7 := by
      rw [← hc7]
      refine ⟨fun k hk => ?_, ?_, ?_, ?_, ?_⟩
      · have h := hh k hk
        simp [vv_up_app, h.1, h.2.1, h.2.2, D0]
        rfl
      · simp [vv_up_app, D0]; rfl
      · simp [vv_up_app, D0]; rfl
      · simp [vv_up_app, D0]; rfl
      · simp [vv_up_app, D0]; rfl
    have key : ∀ (j i : Nat) (c2 : vv_S), i + j = aN A → FrW b m c2 → DM P b (run P A but i) c2 → lX9_beginBut_1 post a2 (nI b) (j + 1) (nI i) c2 := by
      intro j
      induction j with
      | zero =>
        intro i c2 hi hf2 hd2
        have ha2 := ham.fr hf2
        unfold lX9_beginBut_1
        rw [ha2.1]
        refine ⟨fun _ => kk c2 hf2 ?_, fun q => absurd (nI_le (by omega) (by omega)) q⟩
        rw [← show i = aN A by omega]
        exact hd2
      | succ j ih =>
        intro i c2 hi hf2 hd2
        have ha2 := ham.fr hf2
        obtain ⟨g1, g2, g3, g4⟩ := hA.2.1 i (by omega)
        obtain ⟨u1, u2, u3, u4⟩ := ha2.2 i (by omega)
        have hro := run_ok hP hA but i (by omega)
        have hrb := run_bd hP hA but (show i ≤ aN A by omega)
        unfold lX9_beginBut_1
        rw [ha2.1, hbut i (by omega)]
        refine ⟨fun q => absurd q (nI_ge (by omega) (by omega)), fun _ => ?_⟩
        refine jn_of (fun f2 => ∀ c3, FrW b m c3 → DM P b (run P A but (i + 1)) c3 → f2 c3) ?_ ?_
        · intro c3 hf3 hd3
          rintro _ rfl
          rw [nI_1]
          exact ih (i + 1) c3 (by omega) hf3 hd3
        · intro f2 hf2'
          have hr : run P A but (i + 1) = if i = but then run P A but i else do1 P (aK A i) (aC A i) (aT A i) (aA A i) (run P A but i) := rfl
          refine ⟨fun q => hf2' c2 hf2 (by rw [hr, if_pos q]; exact hd2), fun q => ?_⟩
          rw [if_neg q] at hr
          refine s_canDo (st := aT A i) hP hb hro.1 (by omega) g1 g2 g4 hd2 u1 u2 u4 (fun hcan => ⟨fun z => absurd z (by decide), fun _ => ?_⟩) (fun hcan => ⟨fun _ => hf2' c2 hf2 ?_, fun z => absurd rfl z⟩)
          · refine s_doAct hP hb hro.1 (by omega) g1 g2 g4 (by omega) (hpm.fr hf2) hd2 u1 u2 u3 u4 hcan ?_
            intro c3 hf3 hd3
            exact hf2' c3 (hf2.trans hf3) (by rw [hr]; exact hd3)
          · have : do1 P (aK A i) (aC A i) (aT A i) (aA A i) (run P A but i) = run P A but i := by
              unfold do1
              unfold can at hcan
              split
              · next z => rw [if_neg (fun y => hcan ⟨fun _ => y, fun w => by omega⟩)]
              · split
                · next z w => rw [if_neg (fun y => hcan ⟨fun w2 => by omega, fun _ => y⟩)]
                · next z w => exact absurd ⟨fun y => absurd y z, fun y => absurd y w⟩ hcan
            rw [hr, this]
            exact hd2
    exact ⟨aN A + 1, key (aN A) 0 c7 (by omega) hf7 hd7⟩
  · intro f hf
    have key : ∀ (j i : Nat) (c1 : vv_S), i + j = 8 → FrW b m c1 → (∀ k, k < i → c1 28 (8 * b + k) = m 3 k ∧ c1 29 (8 * b + k) = m 4 k ∧ c1 30 (8 * b + k) = 0) → lX9_beginBut_2 f (nI b) (j + 1) (nI i) c1 := by
      intro j
      induction j with
      | zero =>
        intro i c1 hi hf1 hh
        unfold lX9_beginBut_2
        refine ⟨fun _ => hf c1 hf1 (fun k hk => ?_), fun q => absurd ?_ q⟩
        · have := hh k (by omega)
          have e := hpm.2.2.2.2.2.2 k hk
          rw [this.1, this.2.1, e.1, e.2]
          exact ⟨rfl, rfl, this.2.2⟩
        · rw [vn8]; exact nI_le (by omega) (by omega)
      | succ j ih =>
        intro i c1 hi hf1 hh
        have hcl : (nI i).toNatClampNeg = i := nI_clamp (by omega)
        have hcl2 : (nI (8 * b + i)).toNatClampNeg = 8 * b + i := nI_clamp (by omega)
        have hin : vp_in (nI i) 16 := vp_in_nI (by omega) (by decide)
        have hin2 : vp_in (nI (8 * b + i)) 16 := vp_in_nI (by omega) (by decide)
        have e3 : c1 3 = m 3 := hf1.1 3 (by decide) (by decide) (by decide) (by decide) (by decide) (by decide) (by decide) (by decide)
        have e4 : c1 4 = m 4 := hf1.1 4 (by decide) (by decide) (by decide) (by decide) (by decide) (by decide) (by decide) (by decide)
        unfold lX9_beginBut_2
        rw [ix8, hcl, hcl2]
        refine ⟨fun q => absurd q ?_, fun _ => ⟨hin, hin2, ?_⟩⟩
        · rw [vn8]; exact nI_ge (by omega) (by decide)
        rintro _ rfl
        refine ⟨hin, hin2, ?_⟩
        rintro _ rfl
        refine ⟨hin2, ?_⟩
        rintro _ rfl _ rfl
        rw [nI_1]
        refine ih (i + 1) _ (by omega) (hf1.trans ⟨fun i h0 h1 h2 h3 h4 h5 h6 h7 => by rw [vv_up_r h3, vv_up_r h2, vv_up_r h1], fun i h1 h2 h3 => by rw [vv_up_c (by decide), vv_up_c (by decide), vv_up_c (by decide)], fun k hk => ?_, fun k hk => by simp [vv_up_app]⟩) ?_
        · have : ¬ k = 8 * b + i := by omega
          simp [vv_up_app, this]
        · intro k hk
          by_cases e : k = i
          · subst e
            simp [vv_up_app, e3, e4]
          · have := hh k (by omega)
            simp [vv_up_app, e, this.1, this.2.1, this.2.2]
    exact ⟨9, key 8 0 m (by omega) FrW.rf (fun k hk => by omega)⟩

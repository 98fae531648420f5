theorem eD_low (n l r : Nat) (H : Nat → Nat) : ∀ j, j ≤ n → ∀ k, n - j ≤ k → k < n → (eD n l r H j).1 ≤ H k
  | 0, _, k, h1, h2 => by omega
  | j + 1, hj, k, h1, h2 => by
    have ih := eD_low n l r H j (by omega)
    simp only [eD]
    by_cases e : k = n - (j + 1)
    · subst e
      split
      · exact Nat.le_refl _
      · omega
    · have := ih k (by omega) h2
      split
      · dsimp only; omega
      · exact this
theorem eD_pl (n l r : Nat) (H : Nat → Nat) : ∀ j, j ≤ n → (n - j ≤ (eD n l r H j).2 ∧ (eD n l r H j).2 < n ∧ H (eD n l r H j).2 = (eD n l r H j).1 ∧ ∀ k, n - j ≤ k → k < (eD n l r H j).2 → (eD n l r H j).1 < H k) ∨ ((∀ k, n - j ≤ k → k < n → (eD n l r H j).1 < H k) ∧ (eD n l r H j).2 = (if r < l then 9 else 8) ∧ (eD n l r H j).1 = (if r < l then r else l))
  | 0, _ => Or.inr ⟨fun k h1 h2 => by omega, rfl, rfl⟩
  | j + 1, hj => by
    have ih := eD_pl n l r H j (by omega)
    simp only [eD]
    split
    · next q =>
      left
      exact ⟨Nat.le_refl _, by dsimp only; omega, rfl, fun k h1 h2 => by dsimp only at h2; omega⟩
    · next q =>
      rcases ih with ⟨a1, a2, a3, a4⟩ | ⟨a1, a2, a3⟩
      · left
        refine ⟨by omega, a2, a3, fun k h1 h2 => ?_⟩
        by_cases e : k = n - (j + 1)
        · subst e; omega
        · exact a4 k (by omega) h2
      · right
        refine ⟨fun k h1 h2 => ?_, a2, a3⟩
        by_cases e : k = n - (j + 1)
        · subst e; omega
        · exact a1 k (by omega) h2
/-- the cells' heights and stuffs of the dam b -/
def HM (P : vP) (b : Nat) (H : Nat → Nat) (m : vv_S) : Prop := ∀ k, k < pN P → m 28 (8 * b + k) = nI (H k) ∧ H k ≤ 40
theorem s_edgeOf {P : vP} (hP : pOk P) {b : Nat} (hb : b < 2) {H : Nat → Nat} {m : vv_S} {post : Int32 → vv_S → Prop} (h2 : m 2 0 = nI (pN P)) (h50 : m 5 0 = nI (pL P)) (h51 : m 5 1 = nI (pR P)) (hH : HM P b H m) (k : post (nI (edP P H).1) m) : wX9_edgeOf (nI b) m post := by
  obtain ⟨hn1, hn8, -, hl, hr, -⟩ := id hP
  unfold wX9_edgeOf
  rw [h50, h51, nI_leI (by omega) (by omega)]
  refine jn_of (fun k => k (nI (if pR P < pL P then pR P else pL P))) ?_ ?_
  · have key : ∀ (j c e : Nat), c + j = pN P → e ≤ pL P → e ≤ pR P → (∀ k, k < c → e ≤ H k) → (e = (if pR P < pL P then pR P else pL P) ∨ ∃ k, k < c ∧ e = H k) → lX9_edgeOf_1 m post (nI b) (j + 1) (nI e) (nI c) := by
      intro j
      induction j with
      | zero =>
        intro c e hc e1 e2 e3 e4
        unfold lX9_edgeOf_1
        rw [h2]
        refine ⟨fun _ => ?_, fun q => absurd (nI_le (by omega) (by omega)) q⟩
        have a1 := eD_le (pN P) (pL P) (pR P) H (pN P)
        have a2 := eD_low (pN P) (pL P) (pR P) H (pN P) (Nat.le_refl _)
        have a3 := eD_pl (pN P) (pL P) (pR P) H (pN P) (Nat.le_refl _)
        have ee : e = (edP P H).1 := by
          unfold edP
          have g1 : (eD (pN P) (pL P) (pR P) H (pN P)).1 ≤ e := by
            rcases e4 with z | ⟨k, z1, z2⟩
            · rw [z]; split <;> omega
            · rw [z2]; exact a2 k (by omega) (by omega)
          have g2 : e ≤ (eD (pN P) (pL P) (pR P) H (pN P)).1 := by
            rcases a3 with ⟨z1, z2, z3, z4⟩ | ⟨z1, z2, z3⟩
            · rw [← z3]; exact e3 _ (by omega)
            · rw [z3]; split <;> omega
          omega
        rw [ee]
        exact k
      | succ j ih =>
        intro c e hc e1 e2 e3 e4
        obtain ⟨u1, u2⟩ := hH c (by omega)
        have hcc : (nI (8 * b + c)).toNatClampNeg = 8 * b + c := nI_clamp (by omega)
        have hin : vp_in (nI (8 * b + c)) 16 := vp_in_nI (by omega) (by decide)
        unfold lX9_edgeOf_1
        rw [h2, ix8, hcc, u1]
        refine ⟨fun q => absurd q (nI_ge (by omega) (by omega)), fun _ => ⟨hin, jn_of (fun k => k (nI (if e ≤ H c then e else H c))) ?_ ?_⟩⟩
        · rintro _ rfl
          rw [nI_1]
          refine ih (c + 1) _ (by omega) ?_ ?_ ?_ ?_
          · split <;> omega
          · split <;> omega
          · intro k hk
            by_cases z : k = c
            · subst z; split <;> omega
            · have := e3 k (by omega)
              split <;> omega
          · split
            · rcases e4 with z | ⟨k, z1, z2⟩
              · exact Or.inl z
              · exact Or.inr ⟨k, by omega, z2⟩
            · exact Or.inr ⟨c, by omega, rfl⟩
        · intro k' hk'
          rw [nI_leI (by omega) (by omega)]
          refine ⟨fun q => ?_, fun q => ⟨hin, ?_⟩⟩
          · rw [if_pos q] at hk'; exact hk'
          · rw [if_neg q] at hk'; exact hk'
    refine ⟨pN P + 1, key (pN P) 0 _ (by omega) ?_ ?_ (fun k hk => by omega) (Or.inl rfl)⟩
    · split <;> omega
    · split <;> omega
  · intro k' hk'
    refine ⟨fun q => ?_, fun q => ?_⟩
    · by_cases z : pR P < pL P
      · rw [if_pos z] at hk'; exact hk'
      · rw [if_neg z] at hk'
        rw [show pR P = pL P by omega]; exact hk'
    · rw [if_neg (by omega)] at hk'; exact hk'
theorem s_placeOf {P : vP} (hP : pOk P) {b : Nat} (hb : b < 2) {H : Nat → Nat} {m : vv_S} {post : Int32 → vv_S → Prop} (h2 : m 2 0 = nI (pN P)) (h50 : m 5 0 = nI (pL P)) (h51 : m 5 1 = nI (pR P)) (hH : HM P b H m) (k : post (nI (edP P H).2) m) : wX9_placeOf (nI b) m post := by
  obtain ⟨hn1, hn8, -, hl, hr, -⟩ := id hP
  have a1 := eD_le (pN P) (pL P) (pR P) H (pN P)
  have a2 := eD_low (pN P) (pL P) (pR P) H (pN P) (Nat.le_refl _)
  have a3 := eD_pl (pN P) (pL P) (pR P) H (pN P) (Nat.le_refl _)
  have ebd := edP_le hP H
  unfold wX9_placeOf
  refine s_edgeOf hP hb h2 h50 h51 hH ?_
  refine jn_of (fun k => (∀ c, c < pN P → H c ≠ (edP P H).1) → k) ?_ ?_
  · intro hno
    have hp : (edP P H).2 = (if pR P < pL P then 9 else 8) ∧ (edP P H).1 = (if pR P < pL P then pR P else pL P) := by
      unfold edP at *
      rcases a3 with ⟨z1, z2, z3, z4⟩ | ⟨z1, z2, z3⟩
      · exact absurd z3 (hno _ z2)
      · exact ⟨z2, z3⟩
    rw [h50]
    refine jn_of (fun k => k (nI (edP P H).2)) k ?_
    intro k' hk'
    have e1 : nI (pL P) = nI (edP P H).1 ↔ ¬ pR P < pL P := by
      rw [nI_eq (by omega) (by omega), hp.2]
      split <;> omega
    rw [e1]
    refine ⟨fun q => ?_, fun q => ?_⟩
    · rw [hp.1, if_pos (by omega)] at hk'; exact hk'
    · rw [hp.1, if_neg q] at hk'; exact hk'
  · intro k' hk'
    have key : ∀ (j c : Nat), c + j = pN P → (∀ i, i < c → H i ≠ (edP P H).1) → lX9_placeOf_1 m k' (nI b) (nI (edP P H).1) post (j + 1) (nI c) := by
      intro j
      induction j with
      | zero =>
        intro c hc hno
        unfold lX9_placeOf_1
        rw [h2]
        exact ⟨fun _ => hk' (fun i hi => hno i (by omega)), fun q => absurd (nI_le (by omega) (by omega)) q⟩
      | succ j ih =>
        intro c hc hno
        obtain ⟨u1, u2⟩ := hH c (by omega)
        have hcc : (nI (8 * b + c)).toNatClampNeg = 8 * b + c := nI_clamp (by omega)
        have hin : vp_in (nI (8 * b + c)) 16 := vp_in_nI (by omega) (by decide)
        unfold lX9_placeOf_1
        rw [h2, ix8, hcc, u1, nI_eq (by omega) (by omega)]
        refine ⟨fun q => absurd q (nI_ge (by omega) (by omega)), fun _ => ⟨hin, fun q => ?_, fun q => ?_⟩⟩
        · rintro _ rfl
          rw [nI_1]
          refine ih (c + 1) (by omega) (fun i hi => ?_)
          by_cases z : i = c
          · subst z; exact q
          · exact hno i (by omega)
        · have : c = (edP P H).2 := by
            unfold edP at *
            rcases a3 with ⟨z1, z2, z3, z4⟩ | ⟨z1, z2, z3⟩
            · rcases Nat.lt_trichotomy c (eD (pN P) (pL P) (pR P) H (pN P)).2 with y | y | y
              · have := z4 c (by omega) y
                omega
              · exact y
              · exact absurd z3 (hno _ y)
            · have := z1 c (by omega) (by omega)
              omega
          rw [this]
          exact k
    exact ⟨pN P + 1, key (pN P) 0 (by omega) (fun i hi => by omega)⟩
/-- what the model's minute may change -/
def FrG (b : Nat) (m m' : vv_S) : Prop := (∀ i, i ≠ 0 → i ≠ 28 → i ≠ 30 → i ≠ 31 → i ≠ 32 → i ≠ 33 → i ≠ 34 → m' i = m i) ∧ (∀ i, i ≠ 38 → i ≠ 39 → i ≠ 40 → m' 0 i = m 0 i) ∧ (∀ k, ¬ (8 * b ≤ k ∧ k < 8 * b + 8) → m' 28 k = m 28 k ∧ m' 30 k = m 30 k) ∧ ∀ k, k ≠ b → m' 31 k = m 31 k ∧ m' 32 k = m 32 k ∧ m' 33 k = m 33 k ∧ m' 34 k = m 34 k
def DM (P : vP) (b : Nat) (D : vD) (m : vv_S) : Prop := (∀ k, k < pN P → m 28 (8 * b + k) = nI (dH D k) ∧ m 29 (8 * b + k) = nI (dO D k) ∧ m 30 (8 * b + k) = nI (dB D k)) ∧ m 31 b = nI (dW D) ∧ m 32 b = nI (dM D) ∧ m 33 b = nI (dV D) ∧ m 34 b = nI (dS D)
theorem s_wear {b p h o mi : Nat} (hb : b < 2) (hp : p < 8) (hh : h ≤ 40) (ho : o ≤ 3) (hm : mi < 2 ^ 30) {σ : vv_S} {post : vv_S → Prop} (e1 : σ 28 (8 * b + p) = nI h) (e2 : σ 29 (8 * b + p) = nI o) (e5 : σ 32 b = nI mi)
    (k0 : ¬ (0 < h ∧ h ≤ wr o mi) → post (vv_up σ 28 (8 * b + p) (nI (h - wr o mi))))
    (k2 : 0 < h → h ≤ wr o mi → post (vv_up (vv_up (vv_up σ 28 (8 * b + p) (nI (h - wr o mi))) 30 (8 * b + p) (σ 30 (8 * b + p) + 1)) 0 40 (nI p))) : wX9_wear (nI b) (nI p) σ post := by
  have hwr : wr o mi ≤ 2 := by unfold wr; split; omega; split <;> omega
  have hbc : (nI b).toNatClampNeg = b := nI_clamp (by omega)
  have hbin : vp_in (nI b) 2 := vp_in_nI hb (by decide)
  have hcc : (nI (8 * b + p)).toNatClampNeg = 8 * b + p := nI_clamp (by omega)
  have hin : vp_in (nI (8 * b + p)) 16 := vp_in_nI (by omega) (by decide)
  unfold wX9_wear
  rintro _ rfl
  rw [ix8, hcc, hbc, e2, e5]
  refine ⟨hin, jn_of (fun k => k (nI (wr o mi))) ?_ ?_⟩
  · refine ⟨hin, ?_⟩
    rintro _ rfl
    rw [e1]
    refine jn_of (fun k => k (nI (h - wr o mi))) ?_ ?_
    · refine ⟨hin, ?_⟩
      rintro _ rfl
      refine jn_of (fun k => (¬ (0 < h ∧ h ≤ wr o mi) → k (vv_up σ 28 (8 * b + p) (nI (h - wr o mi)))) ∧ ((0 < h ∧ h ≤ wr o mi) → k (vv_up (vv_up (vv_up σ 28 (8 * b + p) (nI (h - wr o mi))) 30 (8 * b + p) (σ 30 (8 * b + p) + 1)) 0 40 (nI p)))) ⟨k0, fun z => k2 z.1 z.2⟩ ?_
      intro k' hk'
      rw [vv_up_s, vv_up_c (show (30 : Nat) ≠ 28 by decide), vn0, nI_leI (by omega) (by decide), nI_eq (by omega) (by decide)]
      refine ⟨fun q => hk'.1 (fun z => by omega), fun q => ⟨hin, fun q2 => hk'.1 (fun z => by omega), fun q2 => ⟨hin, hin, ?_⟩⟩⟩
      rintro _ rfl _ rfl
      exact hk'.2 (by omega)
    · intro k' hk'
      rw [nI_leI (by omega) (by omega)]
      refine ⟨fun q => ?_, fun q => ?_⟩
      · rw [show h - wr o mi = 0 by omega] at hk'; exact hk'
      · rw [pk_sub (by omega)]; exact hk'
  · intro kk hkk
    have o0 : nI o = 0 ↔ o = 0 := by rw [vn0]; exact nI_eq (by omega) (by decide)
    have o1 : nI o = (1 : Int32) ↔ o = 1 := by rw [vn1]; exact nI_eq (by omega) (by decide)
    have om : nI mi - nI mi / 2 * 2 = nI (mi % 2) := by rw [vn2]; exact pk_rem (by omega) (by decide) (by decide)
    have om0 : nI (mi % 2) = 0 ↔ mi % 2 = 0 := by rw [vn0]; exact nI_eq (by omega) (by decide)
    rw [o0, o1, om, om0]
    refine ⟨fun q => ⟨hin, ?_⟩, fun q => ?_⟩
    · refine jn_of (fun k => ¬ (o = 1 ∧ mi % 2 = 0) → k) (fun q2 => ?_) (fun k57 hk57 => ⟨fun q2 => hk57 (fun z => q2 z.1), fun q2 => ⟨hbin, fun q3 => hk57 (fun z => q3 z.2), fun q3 => ?_⟩⟩)
      · rw [show wr o mi = 0 by simp [wr, q, q2]] at hkk
        exact hkk
      · rw [show wr o mi = 1 by simp [wr, q2, q3]] at hkk
        exact hkk
    · rw [show wr o mi = 2 by simp [wr, q]] at hkk
      exact hkk
theorem s_seepM {P : vP} (hP : pOk P) {b : Nat} (hb : b < 2) {D : vD} (hD : ∀ k, k < pN P → dH D k ≤ 40 ∧ dO D k ≤ 3) {lev : Nat} (hlev : lev ≤ 60) {σ : vv_S} {K : Int32 → Prop} (h2 : σ 2 0 = nI (pN P)) (hc : ∀ k, k < pN P → σ 28 (8 * b + k) = nI (dH D k) ∧ σ 29 (8 * b + k) = nI (dO D k)) (k : K (nI (sU (sp1 lev (dH D) (dO D)) (pN P)))) :
    ∃ n, lX9_go_1 σ K (nI b) (nI lev) n 0 0 := by
  obtain ⟨hn1, hn8, -⟩ := id hP
  have key : ∀ (j c : Nat), c + j = pN P → lX9_go_1 σ K (nI b) (nI lev) (j + 1) (nI (sU (sp1 lev (dH D) (dO D)) c)) (nI c) := by
    intro j
    induction j with
    | zero =>
      intro c hc
      unfold lX9_go_1
      rw [h2]
      refine ⟨fun _ => ?_, fun q => absurd (nI_le (by omega) (by omega)) q⟩
      rw [show c = pN P by omega]
      exact k
    | succ j ih =>
      intro c hcj
      obtain ⟨u1, u2⟩ := hc c (by omega)
      obtain ⟨b1, b2⟩ := hD c (by omega)
      have hcc : (nI (8 * b + c)).toNatClampNeg = 8 * b + c := nI_clamp (by omega)
      have hin : vp_in (nI (8 * b + c)) 16 := vp_in_nI (by omega) (by decide)
      unfold lX9_go_1
      rw [h2]
      refine ⟨fun q => absurd q (nI_ge (by omega) (by omega)), fun _ => ?_⟩
      rintro _ rfl
      rw [ix8, hcc, u1, u2]
      refine ⟨hin, jn_of (fun k => k (nI (sp1 lev (dH D) (dO D) c))) ?_ ?_⟩
      · rintro _ rfl _ rfl
        rw [nI_add, nI_1]
        exact ih (c + 1) (by omega)
      · intro k' hk'
        have z0 : nI (dH D c) = 0 ↔ dH D c = 0 := by rw [vn0]; exact nI_eq (by omega) (by decide)
        have o1 : nI (dO D c) = (1 : Int32) ↔ dO D c = 1 := by rw [vn1]; exact nI_eq (by omega) (by decide)
        have o3 : nI (dO D c) = (3 : Int32) ↔ dO D c = 3 := by rw [vn3]; exact nI_eq (by omega) (by decide)
        rw [z0, o1, o3, vn8, vn3, pk_div (by omega) (by decide) (by decide), pk_div (by omega) (by decide) (by decide)]
        refine ⟨fun q => ⟨hin, fun q1 => ⟨hin, fun q3 => ?_, fun q3 => ?_⟩, fun q1 => ?_⟩, fun q => ?_⟩
        · rw [show sp1 lev (dH D) (dO D) c = 0 by simp [sp1, q1, q3]] at hk'; exact hk'
        · rw [show sp1 lev (dH D) (dO D) c = lev / 3 by simp [sp1, q, q3]] at hk'; exact hk'
        · rw [show sp1 lev (dH D) (dO D) c = lev / 8 by simp [sp1, q, q1]] at hk'; exact hk'
        · rw [show sp1 lev (dH D) (dO D) c = 0 by simp [sp1, q]] at hk'; exact hk'
  exact ⟨pN P + 1, key (pN P) 0 (by omega)⟩

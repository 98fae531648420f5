theorem vv_up_app {σ : vv_S} {k j c i : Nat} {v : Int32} : vv_up σ k j v c i = if c = k ∧ i = j then v else σ c i := by
  unfold vv_up upd
  by_cases h1 : c = k
  · subst h1
    simp
  · simp [h1]
theorem jn_of {α : Type} {k : α} {f : α → Prop} (J : α → Prop) (h1 : J k) (h2 : ∀ k', J k' → f k') : vv_jn k f := h2 k h1
def PC (P : vP) (c : vv_S) : Prop := c 4 2 = nI (pN P) ∧ c 4 3 = nI (pL P) ∧ c 4 4 = nI (pR P) ∧ c 4 5 = nI (pA P) ∧ c 4 6 = nI (pS P) ∧ (∀ t, t ≤ 100 → c 13 t = nI (pC P t)) ∧ ∀ k, k < pN P → c 5 k = nI (pH P k) ∧ c 6 k = nI (pO P k)
def f1 (H O : Nat → Nat) (k : Nat) : Nat := if 0 < H k ∧ O k = 1 then 1 else 0
def f3 (H O : Nat → Nat) (k : Nat) : Nat := if 0 < H k ∧ O k = 3 then 1 else 0
def DE (P : vP) (d : Nat) (H O : Nat → Nat) (c : vv_S) : Prop := c d 8 = nI (edP P H).1 ∧ c d 9 = nI (edP P H).2 ∧ c d 10 = nI (ta (pA P) (pS P) (edP P H).1) ∧ c d 11 = nI (sU (f1 H O) (pN P)) ∧ c d 12 = nI (sU (f3 H O) (pN P))
/-- while it surveys: what stays, and the four numbers -/
def SV (c0 : vv_S) (d e p t1 t3 : Nat) (c : vv_S) : Prop := (∀ i, i ≠ d → c i = c0 i) ∧ (∀ i, i ≠ 8 → i ≠ 9 → i ≠ 11 → i ≠ 12 → c d i = c0 d i) ∧ c d 8 = nI e ∧ c d 9 = nI p ∧ c d 11 = nI t1 ∧ c d 12 = nI t3
theorem SV.u8 {c0 c : vv_S} {d e p t1 t3 e' : Nat} {v : Int32} (h : SV c0 d e p t1 t3 c) (hv : v = nI e') : SV c0 d e' p t1 t3 (vv_up c d 8 v) := by
  obtain ⟨h1, h2, h3, h4, h5, h6⟩ := h
  subst hv
  exact ⟨fun i hi => by rw [vv_up_r hi, h1 i hi], fun i g1 g2 g3 g4 => by rw [vv_up_i g1]; exact h2 i g1 g2 g3 g4, vv_up_s, by rw [vv_up_i (by decide), h4], by rw [vv_up_i (by decide), h5], by rw [vv_up_i (by decide), h6]⟩
theorem SV.u9 {c0 c : vv_S} {d e p t1 t3 e' : Nat} {v : Int32} (h : SV c0 d e p t1 t3 c) (hv : v = nI e') : SV c0 d e e' t1 t3 (vv_up c d 9 v) := by
  obtain ⟨h1, h2, h3, h4, h5, h6⟩ := h
  subst hv
  exact ⟨fun i hi => by rw [vv_up_r hi, h1 i hi], fun i g1 g2 g3 g4 => by rw [vv_up_i g2]; exact h2 i g1 g2 g3 g4, by rw [vv_up_i (by decide), h3], vv_up_s, by rw [vv_up_i (by decide), h5], by rw [vv_up_i (by decide), h6]⟩
theorem SV.u11 {c0 c : vv_S} {d e p t1 t3 e' : Nat} {v : Int32} (h : SV c0 d e p t1 t3 c) (hv : v = nI e') : SV c0 d e p e' t3 (vv_up c d 11 v) := by
  obtain ⟨h1, h2, h3, h4, h5, h6⟩ := h
  subst hv
  exact ⟨fun i hi => by rw [vv_up_r hi, h1 i hi], fun i g1 g2 g3 g4 => by rw [vv_up_i g3]; exact h2 i g1 g2 g3 g4, by rw [vv_up_i (by decide), h3], by rw [vv_up_i (by decide), h4], vv_up_s, by rw [vv_up_i (by decide), h6]⟩
theorem SV.u12 {c0 c : vv_S} {d e p t1 t3 e' : Nat} {v : Int32} (h : SV c0 d e p t1 t3 c) (hv : v = nI e') : SV c0 d e p t1 e' (vv_up c d 12 v) := by
  obtain ⟨h1, h2, h3, h4, h5, h6⟩ := h
  subst hv
  exact ⟨fun i hi => by rw [vv_up_r hi, h1 i hi], fun i g1 g2 g3 g4 => by rw [vv_up_i g4]; exact h2 i g1 g2 g3 g4, by rw [vv_up_i (by decide), h3], by rw [vv_up_i (by decide), h4], by rw [vv_up_i (by decide), h5], vv_up_s⟩
theorem s_survey_l {P : vP} (hP : pOk P) {d : Nat} {H O : Nat → Nat} (hH : ∀ k, k < pN P → H k ≤ 40 ∧ O k ≤ 3) {K : vv_S → Prop} {c0 : vv_S} (h0 : ∀ k, k < pN P → c0 (d + 1) k = nI (H k) ∧ c0 (d + 2) k = nI (O k))
    (hK : ∀ c : vv_S, SV c0 d (edP P H).1 (edP P H).2 (sU (f1 H O) (pN P)) (sU (f3 H O) (pN P)) c → K c) :
    ∀ (j : Nat) (c : vv_S) (t1 t3 : Nat), j ≤ pN P → SV c0 d (eD (pN P) (pL P) (pR P) H (pN P - j)).1 (eD (pN P) (pL P) (pR P) H (pN P - j)).2 t1 t3 c → t1 + sU (f1 H O) j = sU (f1 H O) (pN P) → t3 + sU (f3 H O) j = sU (f3 H O) (pN P) → lX3_survey_1 K d (j + 1) (nI j - 1) c
  | 0, c, t1, t3, _, e1, e7, e8 => by
    unfold lX3_survey_1
    refine ⟨fun _ => hK c ?_, fun h => absurd (by decide) h⟩
    simp only [sU, Nat.add_zero, Nat.sub_zero] at e1 e7 e8
    rw [← e7, ← e8]
    exact e1
  | j + 1, c, t1, t3, hj, e1, e7, e8 => by
    obtain ⟨hn1, hn8, -, hl, hr, -⟩ := id hP
    have hjc : (nI j).toNatClampNeg = j := nI_clamp (by omega)
    have hin : vp_in (nI j) 8 := vp_in_nI (by omega) (by decide)
    have hn : ¬ (nI j < 0) := nI_pos (by omega)
    have ej : nI (j + 1) - 1 = nI j := nI_pred j
    obtain ⟨hj40, hj3⟩ := hH j (by omega)
    have hle := eD_le (pN P) (pL P) (pR P) H (pN P - (j + 1))
    have hE : eD (pN P) (pL P) (pR P) H (pN P - j) = if H j ≤ (eD (pN P) (pL P) (pR P) H (pN P - (j + 1))).1 then (H j, j) else eD (pN P) (pL P) (pR P) H (pN P - (j + 1)) := by
      rw [show pN P - j = (pN P - (j + 1)) + 1 by omega]
      show (if _ then _ else _) = _
      rw [show pN P - (pN P - (j + 1) + 1) = j by omega]
    have a1 : ∀ {e p t1 t3 : Nat} {c' : vv_S}, SV c0 d e p t1 t3 c' → c' (d + 1) j = nI (H j) := fun h => by rw [h.1 (d + 1) (by omega)]; exact (h0 j (by omega)).1
    have a2 : ∀ {e p t1 t3 : Nat} {c' : vv_S}, SV c0 d e p t1 t3 c' → c' (d + 2) j = nI (O j) := fun h => by rw [h.1 (d + 2) (by omega)]; exact (h0 j (by omega)).2
    unfold lX3_survey_1
    rw [ej, hjc]
    refine ⟨fun h => absurd h hn, fun _ => ⟨hin, jn_of (fun k => ∀ σ, SV c0 d (eD (pN P) (pL P) (pR P) H (pN P - j)).1 (eD (pN P) (pL P) (pR P) H (pN P - j)).2 t1 t3 σ → k σ) (fun σ hσ => ⟨hin, jn_of (fun k => ∀ σ, SV c0 d (eD (pN P) (pL P) (pR P) H (pN P - j)).1 (eD (pN P) (pL P) (pR P) H (pN P - j)).2 (t1 + f1 H O j) (t3 + f3 H O j) σ → k σ) (fun σ hσ => ?_) (fun k hk => ?_)⟩) (fun k hk => ?_)⟩⟩
    · rintro _ rfl
      rw [← Int32.sub_eq_add_neg]
      exact s_survey_l hP hH h0 hK j σ _ _ (by omega) hσ (by simp only [sU] at e7; omega) (by simp only [sU] at e8; omega)
    · rw [a1 hσ]
      refine ⟨fun h => hk _ ?_, fun h => ⟨hin, ?_⟩⟩
      · have hz : H j = 0 := by
          have : ¬ 0 < H j := fun q => nI_nle q (by omega) h
          omega
        rw [show f1 H O j = 0 by simp [f1, hz], show f3 H O j = 0 by simp [f3, hz]]
        exact hσ
      · have hz : 0 < H j := by
          rcases Nat.eq_zero_or_pos (H j) with q | q
          · rw [q] at h; exact absurd (by decide) h
          · exact q
        rw [a2 hσ]
        have o1 : nI (O j) = (1 : Int32) ↔ O j = 1 := by rw [vn1]; exact nI_eq (by omega) (by decide)
        have o3 : nI (O j) = (3 : Int32) ↔ O j = 3 := by rw [vn3]; exact nI_eq (by omega) (by decide)
        refine jn_of (fun k => ∀ v, v = nI (f1 H O j) → k v) ?_ ?_
        · rintro _ rfl _ rfl
          have hs2 := hσ.u11 (v := σ d 11 + nI (f1 H O j)) (e' := t1 + f1 H O j) (by rw [hσ.2.2.2.2.1, nI_add])
          refine ⟨hin, jn_of (fun k => ∀ v, v = nI (f3 H O j) → k v) ?_ ?_⟩
          · rintro _ rfl _ rfl
            exact hk _ (hs2.u12 (by rw [hs2.2.2.2.2.2, nI_add]))
          · intro k' hk'
            rw [a2 hs2, o3]
            exact ⟨fun q => hk' _ (by simp [f3, q]; rfl), fun q => hk' _ (by simp [f3, q, hz]; rfl)⟩
        · intro k' hk'
          rw [o1]
          exact ⟨fun q => hk' _ (by simp [f1, q]; rfl), fun q => hk' _ (by simp [f1, q, hz]; rfl)⟩
    · rw [a1 e1, e1.2.2.1, nI_ltI (by omega) (by omega)]
      refine ⟨fun h => hk _ ?_, fun h => ⟨hin, ?_⟩⟩
      · rw [hE, if_neg (by omega)]
        exact e1
      · rintro _ rfl _ rfl
        refine hk _ ?_
        rw [hE, if_pos (by omega)]
        exact (e1.u8 rfl).u9 rfl
theorem tk_val {A S h : Nat} (hh : h ≤ 64) : nI A * nI h + nI S * (nI h * (nI h + 1) / 2) = nI (ta A S h) := by
  have hb := tri_le hh
  have h2 := Nat.mul_le_mul hh (show h + 1 ≤ 65 by omega)
  rw [nI_1, pk_mul, pk_mul, vn2, pk_div (by omega) (by decide) (by decide), pk_mul, nI_add]
  rfl
/-- the raw picture of a dam -/
def DR (P : vP) (d : Nat) (D : vD) (c : vv_S) : Prop := (∀ k, k < pN P → c (d + 1) k = nI (dH D k) ∧ c (d + 2) k = nI (dO D k) ∧ c (d + 3) k = nI (dB D k)) ∧ (∀ k, pN P ≤ k → k < 8 → c (d + 3) k = 0) ∧ c d 4 = nI (dW D) ∧ c d 5 = nI (dM D) ∧ c d 6 = nI (dV D) ∧ c d 7 = nI (dS D)
def DP (P : vP) (d : Nat) (D : vD) (c : vv_S) : Prop := DR P d D c ∧ DE P d (dH D) (dO D) c
theorem is_X3_n {d : Nat} (hd : is_X3 d) : 42 ≤ d ∧ d ≤ 46 := by rcases hd with rfl | rfl <;> decide
theorem s_survey {P : vP} (hP : pOk P) {d : Nat} (hd : is_X3 d) {H O : Nat → Nat} (hH : ∀ k, k < pN P → H k ≤ 40 ∧ O k ≤ 3) {c : vv_S} {post : vv_S → Prop} (hc : PC P c) (h0 : ∀ k, k < pN P → c (d + 1) k = nI (H k) ∧ c (d + 2) k = nI (O k))
    (k : ∀ c', (∀ i, i ≠ d → c' i = c i) → (∀ i, i < 8 ∨ 12 < i → c' d i = c d i) → DE P d H O c' → post c') : wX3_survey d c post := by
  obtain ⟨hd1, hd2⟩ := is_X3_n hd
  obtain ⟨hn1, hn8, -, hl, hr, -, -, -⟩ := id hP
  obtain ⟨c2, c3, c4, c5, c6, -, -⟩ := hc
  unfold wX3_survey wX4_left wX4_right wX4_cellCount wX4_takes
  rintro _ rfl
  have eb : (if c 4 4 < c 4 3 then c 4 4 else c 4 3) = nI (if pR P < pL P then pR P else pL P) := by
    rw [c3, c4]
    by_cases q : pR P < pL P
    · rw [if_pos q, if_pos (nI_lt q (by omega))]
    · rw [if_neg q, if_neg (nI_nlt (by omega) (by omega))]
  rw [eb, vv_up_s, vv_up_c (show 4 ≠ d by omega), c3]
  refine jn_of (fun k => ∀ v, v = nI (if pR P < pL P then 9 else 8) → k v) ?_ ?_
  · rintro _ rfl _ rfl _ rfl _ rfl _ rfl
    rw [vv_up_c (show 4 ≠ d by omega), vv_up_c (show 4 ≠ d by omega), vv_up_c (show 4 ≠ d by omega), vv_up_c (show 4 ≠ d by omega), c2]
    have e8 : (if (8 : Int32) < nI (pN P) then (8 : Int32) else nI (pN P)) = nI (pN P) := by
      rw [vn8, if_neg (nI_nlt (by omega) (by omega))]
    rw [e8]
    have hs0 : SV c d (if pR P < pL P then pR P else pL P) (if pR P < pL P then 9 else 8) 0 0 (vv_up (vv_up (vv_up (vv_up c d 8 (nI (if pR P < pL P then pR P else pL P))) d 9 (nI (if pR P < pL P then 9 else 8))) d 11 0) d 12 0) := by
      refine ⟨fun i hi => ?_, fun i g1 g2 g3 g4 => ?_, ?_, ?_, ?_, ?_⟩
      · rw [vv_up_r hi, vv_up_r hi, vv_up_r hi, vv_up_r hi]
      · rw [vv_up_i g4, vv_up_i g3, vv_up_i g2, vv_up_i g1]
      · rw [vv_up_i (by decide), vv_up_i (by decide), vv_up_i (by decide), vv_up_s]
      · rw [vv_up_i (by decide), vv_up_i (by decide), vv_up_s]
      · rw [vv_up_i (by decide), vv_up_s]; rfl
      · rw [vv_up_s]; rfl
    refine jn_of (fun k => ∀ σ, SV c d (edP P H).1 (edP P H).2 (sU (f1 H O) (pN P)) (sU (f3 H O) (pN P)) σ → k σ) ?_ ?_
    · rintro σ hσ _ rfl
      have hle := eD_le (pN P) (pL P) (pR P) H (pN P)
      rw [hσ.1 4 (by omega), c5, c6, hσ.2.2.1, tk_val (show (edP P H).1 ≤ 64 by have : (edP P H).1 ≤ pL P := hle.1; omega)]
      obtain ⟨g1, g2, g3, g4, g5, g6⟩ := hσ
      refine k _ (fun i hi => by rw [vv_up_r hi, g1 i hi]) (fun i hi => ?_) ⟨?_, ?_, ?_, ?_, ?_⟩
      · rw [vv_up_i (by omega), g2 i (by omega) (by omega) (by omega) (by omega)]
      · rw [vv_up_i (by decide), g3]
      · rw [vv_up_i (by decide), g4]
      · rw [vv_up_s]
      · rw [vv_up_i (by decide), g5]
      · rw [vv_up_i (by decide), g6]
    · intro k' hk'
      refine ⟨pN P + 1, s_survey_l hP hH h0 hk' (pN P) _ 0 0 (Nat.le_refl _) ?_ (by omega) (by omega)⟩
      rw [Nat.sub_self]
      exact hs0
  · intro k' hk'
    have e1 : nI (if pR P < pL P then pR P else pL P) = nI (pL P) ↔ ¬ pR P < pL P := by
      rw [nI_eq (by split <;> omega) (by omega)]
      split <;> omega
    rw [e1]
    exact ⟨fun q => hk' _ (by rw [if_pos (by omega)]; rfl), fun q => hk' _ (by rw [if_neg q]; rfl)⟩
theorem s_levelOf_l {P : vP} (hP : pOk P) {d : Nat} {w : Nat} (hw : w < 2 ^ 30) {post : Int32 → vv_S → Prop} {σ : vv_S} (h5 : σ d 5 = nI (pA P)) (h6 : σ d 6 = nI (pS P)) (k : post (nI (lv (pA P) (pS P) w 60)) σ) :
    ∀ (s L : Nat), L + 2 ^ s ≤ 64 → (L ≤ 60 ∧ (L = 0 ∨ ta (pA P) (pS P) L ≤ w)) → (L + 2 ^ s ≤ 60 → w < ta (pA P) (pS P) (L + 2 ^ s)) → lX4_levelOf_1 post d (nI w) (s + 1) (nI L) (nI (2 ^ s / 2)) σ
  | 0, L, h1, h2, h3 => by
    unfold lX4_levelOf_1
    refine ⟨fun _ => ?_, fun h => absurd (by decide) h⟩
    rw [← lv_is (pA P) (pS P) w 60 L h2.1 (by rcases h2.2 with q | q; · rw [q, ta_0]; omega
                                              · exact q) (fun q => h3 (show L + 1 ≤ 60 by omega))]
    exact k
  | s + 1, L, h1, h2, h3 => by
    have e2 : 2 ^ (s + 1) / 2 = 2 ^ s := by rw [Nat.pow_succ]; omega
    have e3 : 2 ^ (s + 1) = 2 ^ s + 2 ^ s := by rw [Nat.pow_succ]; omega
    have hp : 0 < 2 ^ s := Nat.pos_of_ne_zero (by simp)
    obtain ⟨-, -, -, -, -, -, hA, hS, -⟩ := id hP
    unfold lX4_levelOf_1
    rw [e2]
    refine ⟨fun h => absurd h (nI_nle hp (by omega)), fun _ => ?_⟩
    rintro _ rfl
    rw [nI_add]
    have estep : nI (2 ^ s) / 2 = nI (2 ^ s / 2) := by rw [vn2]; exact pk_div (by omega) (by decide) (by decide)
    refine jn_of (fun k => ((L + 2 ^ s ≤ 60 ∧ ta (pA P) (pS P) (L + 2 ^ s) ≤ w) → k (nI (L + 2 ^ s)) σ) ∧ (¬ (L + 2 ^ s ≤ 60 ∧ ta (pA P) (pS P) (L + 2 ^ s) ≤ w) → k (nI L) σ)) ?_ ?_
    · refine ⟨fun q => ?_, fun q => ?_⟩
      · rintro _ rfl
        rw [estep]
        exact s_levelOf_l hP hw h5 h6 k s (L + 2 ^ s) (by omega) ⟨q.1, Or.inr q.2⟩ (fun z => by have := h3 (by omega); rw [e3, ← Nat.add_assoc] at this; exact this)
      · rintro _ rfl
        rw [estep]
        exact s_levelOf_l hP hw h5 h6 k s L (by omega) h2 (fun z => by omega)
    · intro k' hk'
      have c60 : (60 : Int32) < nI (L + 2 ^ s) ↔ 60 < L + 2 ^ s := by rw [show (60 : Int32) = nI 60 by decide]; exact nI_ltI (by decide) (by omega)
      have hbd := ta_bd (A := pA P) (S := pS P) (h := L + 2 ^ s) hA hS (by omega)
      rw [c60]
      refine ⟨fun q => hk'.2 (by omega), fun q => ?_⟩
      unfold wX4_takes
      rw [h5, h6, tk_val (by omega)]
      show (nI w < nI (ta (pA P) (pS P) (L + 2 ^ s)) → k' (nI L) σ) ∧ (¬ nI w < nI (ta (pA P) (pS P) (L + 2 ^ s)) → k' (nI (L + 2 ^ s)) σ)
      rw [nI_ltI (by omega) (by omega)]
      exact ⟨fun q2 => hk'.2 (by omega), fun q2 => hk'.1 (by omega)⟩
theorem s_levelOf {P : vP} (hP : pOk P) {d w : Nat} (hw : w < 2 ^ 30) {post : Int32 → vv_S → Prop} {σ : vv_S} (h5 : σ d 5 = nI (pA P)) (h6 : σ d 6 = nI (pS P)) (k : post (nI (lv (pA P) (pS P) w 60)) σ) : wX4_levelOf d (nI w) σ post :=
  ⟨7, s_levelOf_l hP hw h5 h6 k 6 0 (by decide) ⟨by decide, Or.inl rfl⟩ (fun h => absurd h (by decide))⟩
theorem s_comesIn {P : vP} (hP : pOk P) {t : Nat} (ht : t < 2 ^ 30) {post : Int32 → vv_S → Prop} {σ : vv_S} (hc : PC P σ) (k : post (nI (pC P t)) σ) : wX1_comesIn 7 (nI t) σ post := by
  obtain ⟨-, -, -, -, -, h13, -⟩ := hc
  obtain ⟨-, -, -, -, -, -, -, -, -, hst⟩ := hP
  unfold wX1_comesIn
  refine jn_of (fun k => k (nI (pC P t))) k ?_
  intro k' hk'
  refine ⟨fun _ => ?_, fun h => absurd (nI_pos' (by omega)) h⟩
  have e : (if (100 : Int32) < nI t then (100 : Int32) else nI t) = nI (min t 100) := by
    rw [show (100 : Int32) = nI 100 by decide]
    by_cases q : 100 < t
    · rw [if_pos (nI_lt q (by omega)), show min t 100 = 100 by omega]
    · rw [if_neg (nI_nlt (by omega) (by decide)), show min t 100 = t by omega]
  rw [e, nI_clamp (by omega)]
  refine ⟨vp_in_nI (by omega) (by decide), ?_⟩
  show k' (σ 13 (min t 100))
  rw [h13 _ (by omega)]
  by_cases q : t ≤ 100
  · rw [show min t 100 = t by omega]; exact hk'
  · rw [show min t 100 = 100 by omega, ← hst t (by omega)]; exact hk'
theorem mx_val {a b : Nat} (ha : a < 2 ^ 30) (hb : b < 2 ^ 30) : (if (0 : Int32) < nI a - nI b then nI a - nI b else 0) = nI (a - b) := by
  by_cases h : b < a
  · rw [pk_sub (by omega), vn0, if_pos (nI_lt (by omega) (by omega))]
  · have : ¬ (0 : Int32) < nI a - nI b := by
      rw [Int32.lt_iff_toInt_lt, pk_sub_toInt ha hb]
      show ¬ (0 : Int) < _
      omega
    rw [if_neg this, show a - b = 0 by omega]
    rfl
theorem s_wears_hi {d p : Nat} (hp : 8 ≤ p) (hp2 : p ≤ 100) {σ : vv_S} {post : Int32 → vv_S → Prop} (k : post 0 σ) : wX3_wears d (nI p) σ post := by
  unfold wX3_wears
  refine jn_of (fun k => k) k (fun k' hk' => ⟨fun _ => hk', fun _ => ⟨fun _ => hk', fun h => absurd ?_ h⟩⟩)
  rw [vn8]
  exact nI_le hp (by omega)
theorem s_wears_lo {d p h o m : Nat} (hp : p < 8) (hh : h ≤ 40) (ho : o ≤ 3) (hm : m < 2 ^ 30) {σ : vv_S} {post : Int32 → vv_S → Prop} (e1 : σ (d + 1) p = nI h) (e2 : σ (d + 2) p = nI o) (e5 : σ d 5 = nI m)
    (k0 : h = 0 → post 0 σ) (k1 : 0 < h → 0 < h - wr o m → post (if 0 < wr o m then 1 else 0) (vv_up σ (d + 1) p (nI (h - wr o m))))
    (k2 : 0 < h → h - wr o m = 0 → post 1 (vv_up (vv_up (vv_up σ (d + 1) p (nI (h - wr o m))) (d + 3) p (σ (d + 3) p + 1)) d 15 (nI p))) : wX3_wears d (nI p) σ post := by
  have hpc : (nI p).toNatClampNeg = p := nI_clamp (by omega)
  have hin : vp_in (nI p) 8 := vp_in_nI hp (by decide)
  have hwr : wr o m ≤ 2 := by unfold wr; split; omega; split <;> omega
  unfold wX3_wears
  rw [hpc, e1]
  have z1 : nI h = 0 ↔ h = 0 := by rw [vn0]; exact nI_eq (by omega) (by decide)
  refine jn_of (fun k => h = 0 → k) k0 (fun k' hk' => ⟨fun q => absurd q (nI_pos (by omega)), fun _ => ⟨fun q => absurd q ?_, fun _ => ⟨hin, ?_⟩⟩⟩)
  · rw [vn8]; exact nI_ge hp (by decide)
  rw [z1]
  refine ⟨fun hz => ⟨hin, ?_⟩, hk'⟩
  refine jn_of (fun k => k (nI (wr o m))) ?_ ?_
  · refine ⟨hin, hin, ?_⟩
    rintro _ rfl
    rw [mx_val (by omega) (by omega)]
    have hv0 : nI (wr o m) ≤ (0 : Int32) ↔ ¬ 0 < wr o m := by rw [vn0, nI_leI (by omega) (by decide)]; omega
    refine ⟨hin, ?_⟩
    have fin : ∀ (σ13 : vv_S), post (if 0 < wr o m then 1 else 0) σ13 → vv_jn (fun (v15 : Int32) => (v15 = 0 ∨ v15 = 1) ∧ post v15 σ13) (fun k110_15 => (nI (wr o m) ≤ 0 → k110_15 0) ∧ (¬ nI (wr o m) ≤ 0 → k110_15 1)) := by
      intro σ13 hpo
      refine ⟨fun q => ?_, fun q => ?_⟩
      · rw [hv0] at q
        rw [if_neg q] at hpo
        exact ⟨Or.inl rfl, hpo⟩
      · rw [hv0, Decidable.not_not] at q
        rw [if_pos q] at hpo
        exact ⟨Or.inr rfl, hpo⟩
    refine jn_of (fun k => ∀ σ, post (if 0 < wr o m then 1 else 0) σ → k σ) fin ?_
    intro kk hkk
    rw [vv_up_s, vv_up_c (show d + 3 ≠ d + 1 by omega), vn0, nI_eq (by omega) (by decide)]
    refine ⟨fun q => hkk _ (k1 (by omega) (by omega)), fun q => ⟨hin, hin, ?_⟩⟩
    rintro _ rfl _ rfl
    refine hkk _ ?_
    have hw : 0 < wr o m := by omega
    rw [if_pos hw]
    exact k2 (by omega) q
  · intro kk hkk
    rw [e2, e5]
    have o0 : nI o = 0 ↔ o = 0 := by rw [vn0]; exact nI_eq (by omega) (by decide)
    have o1 : nI o = (1 : Int32) ↔ o = 1 := by rw [vn1]; exact nI_eq (by omega) (by decide)
    have om : nI m - nI m / 2 * 2 = nI (m % 2) := by rw [vn2]; exact pk_rem (by omega) (by decide) (by decide)
    have om0 : nI (m % 2) = 0 ↔ m % 2 = 0 := by rw [vn0]; exact nI_eq (by omega) (by decide)
    rw [o0, o1, om, om0]
    refine ⟨fun q => ⟨hin, ?_⟩, fun q => ?_⟩
    · refine jn_of (fun k => ¬ (o = 1 ∧ m % 2 = 0) → k) (fun q2 => ?_) (fun k57 hk57 => ⟨fun q2 => hk57 (fun z => q2 z.1), fun q2 => ⟨fun q3 => hk57 (fun z => q3 z.2), fun q3 => ?_⟩⟩)
      · rw [show wr o m = 0 by simp [wr, q, q2]] at hkk
        exact hkk
      · rw [show wr o m = 1 by simp [wr, q2, q3]] at hkk
        exact hkk
    · rw [show wr o m = 2 by simp [wr, q]] at hkk
      exact hkk
theorem sp_sum (lev : Nat) (H O : Nat → Nat) : ∀ n, sU (sp1 lev H O) n = sU (f1 H O) n * (lev / 8) + sU (f3 H O) n * (lev / 3)
  | 0 => by simp [sU]
  | n + 1 => by
    simp only [sU, sp_sum lev H O n]
    by_cases h0 : H n = 0
    · simp [sp1, f1, f3, h0]
    · have h0' : 0 < H n := by omega
      by_cases h1 : O n = 1
      · simp [sp1, f1, f3, h0, h0', h1, Nat.add_mul]; omega
      · by_cases h3 : O n = 3
        · simp [sp1, f1, f3, h0, h0', h3, Nat.add_mul]; omega
        · simp [sp1, f1, f3, h0, h0', h1, h3]
theorem sU_le {f : Nat → Nat} {b : Nat} : ∀ (n : Nat), (∀ k, k < n → f k ≤ b) → sU f n ≤ n * b
  | 0, _ => by simp [sU]
  | n + 1, h => by
    have h1 := sU_le n (fun k hk => h k (by omega))
    have h2 := h n (by omega)
    simp only [sU, Nat.add_mul]
    omega
theorem f1_le (H O : Nat → Nat) (k : Nat) : f1 H O k ≤ 1 := by unfold f1; split <;> omega
theorem f3_le (H O : Nat → Nat) (k : Nat) : f3 H O k ≤ 1 := by unfold f3; split <;> omega

/-! ===== reading what a text tells ===== -/
def ltt (n : Nat) (TX : Nat → Int32) (k : Nat) : Int32 := if k < n then TX k else 0
def fgn (x : Int32) : Nat := if 48 ≤ x ∧ x ≤ 57 then x.toNatClampNeg - 48 else 10
theorem fgn_in {x : Int32} (h1 : 48 ≤ x) (h2 : x ≤ 57) : fgn x ≤ 9 ∧ x = nI (48 + fgn x) := by
  obtain ⟨n, n1, n2, rfl⟩ := rng1 (L := 48) (N := 57) (by decide) (by decide) h1 h2
  unfold fgn
  rw [if_pos ⟨h1, h2⟩, nI_clamp (by omega)]
  exact ⟨by omega, by rw [show 48 + (n - 48) = n by omega]⟩
theorem fgn_out {x : Int32} (h : ¬ (48 ≤ x ∧ x ≤ 57)) : fgn x = 10 := by
  unfold fgn
  rw [if_neg h]
def nf (t : Nat → Int32) (a : Nat) : Nat := if fgn (t a) = 10 then 0 else if fgn (t (a + 1)) = 10 then 1 else 2
def nv (t : Nat → Int32) (a : Nat) : Nat := if nf t a = 1 then fgn (t a) else 10 * fgn (t a) + fgn (t (a + 1))
theorem fgn_le (x : Int32) : fgn x ≤ 10 := by
  by_cases h : 48 ≤ x ∧ x ≤ 57
  · have := (fgn_in h.1 h.2).1; omega
  · rw [fgn_out h]; omega
theorem nv_le (t : Nat → Int32) (a : Nat) (h : nf t a ≠ 0) : nv t a ≤ 99 := by
  have h1 := fgn_le (t a)
  have h2 := fgn_le (t (a + 1))
  unfold nv
  unfold nf at *
  split at h
  · exact absurd rfl h
  · split at h
    · next y1 y2 => rw [if_neg y1, if_pos y2, if_pos rfl]; omega
    · next y1 y2 => rw [if_neg y1, if_neg y2, if_neg (by decide)]; omega
theorem nf_le (t : Nat → Int32) (a : Nat) : nf t a ≤ 2 := by
  unfold nf
  split
  · omega
  · split <;> omega
def rdN (t : Nat → Int32) : Nat → Nat → Option (List Nat × Nat)
  | 0, _ => none
  | j + 1, a => if nf t a = 0 then none else if t (a + nf t a) = 59 then some ([nv t a], a + nf t a + 1) else if t (a + nf t a) = 44 then (rdN t j (a + nf t a + 1)).map (fun p => (nv t a :: p.1, p.2)) else none
theorem rdN_bd {t : Nat → Int32} : ∀ {j a : Nat} {L : List Nat} {b : Nat}, rdN t j a = some (L, b) → 1 ≤ L.length ∧ L.length ≤ j ∧ (∀ k, L.getD k 0 ≤ 99) ∧ a + 2 ≤ b ∧ b ≤ a + 3 * j ∧ t (b - 1) = 59
  | j + 1, a, L, b, h => by
    have hn := nf_le t a
    unfold rdN at h
    by_cases h0 : nf t a = 0
    · rw [if_pos h0] at h; exact absurd h (by simp)
    · rw [if_neg h0] at h
      have hv := nv_le t a h0
      by_cases h1 : t (a + nf t a) = 59
      · rw [if_pos h1] at h
        injection h with h
        injection h with h2 h3
        subst h2 h3
        refine ⟨Nat.le_refl _, by simp, fun k => ?_, by omega, by omega, h1⟩
        rcases k with _ | k
        · exact hv
        · exact Nat.zero_le _
      · rw [if_neg h1] at h
        by_cases h2 : t (a + nf t a) = 44
        · rw [if_pos h2] at h
          cases e : rdN t j (a + nf t a + 1) with
          | none => rw [e] at h; exact absurd h (by simp)
          | some p =>
            rw [e] at h
            injection h with h
            injection h with h3 h4
            subst h3 h4
            obtain ⟨r1, r2, r3, r4, r5, r6⟩ := rdN_bd (L := p.1) (b := p.2) e
            refine ⟨by simp, by simp only [List.length_cons]; omega, fun k => ?_, by omega, by omega, r6⟩
            rcases k with _ | k
            · exact hv
            · exact r3 k
        · rw [if_neg h2] at h; exact absurd h (by simp)
def TXT (n : Nat) (TX : Nat → Int32) (c : vv_S) : Prop := n ≤ 200 ∧ c 1 1 = nI n ∧ ∀ k, k < n → c 2 k = TX k
def FrX (c c' : vv_S) : Prop := (∀ i, i ≠ 1 → i ≠ 3 → c' i = c i) ∧ ∀ j, j ≠ 3 → c' 1 j = c 1 j
theorem FrX.rf {c : vv_S} : FrX c c := ⟨fun _ _ _ => rfl, fun _ _ => rfl⟩
theorem FrX.trans {c c' c2 : vv_S} (h : FrX c c') (g : FrX c' c2) : FrX c c2 := ⟨fun i a b => by rw [g.1 i a b, h.1 i a b], fun j a => by rw [g.2 j a, h.2 j a]⟩
theorem TXT.fr {n : Nat} {TX : Nat → Int32} {c c' : vv_S} (h : TXT n TX c) (hf : FrX c c') : TXT n TX c' := ⟨h.1, by rw [hf.2 1 (by decide)]; exact h.2.1, by rw [hf.1 2 (by decide) (by decide)]; exact h.2.2⟩
theorem s_letterAt {n : Nat} {TX : Nat → Int32} {k : Nat} (hk : k < 2 ^ 30) {c : vv_S} {post : Int32 → vv_S → Prop} (hc : TXT n TX c) (h : post (ltt n TX k) c) : wX7_letterAt (nI k) c post := by
  obtain ⟨h1, h2, h3⟩ := hc
  have e200 : (200 : Int32) = nI 200 := by decide
  have hcl : (nI k).toNatClampNeg = k := nI_clamp (by omega)
  unfold wX7_letterAt
  rw [h2, hcl, nI_leI (by omega) (by omega)]
  refine jn_of (fun f => f (ltt n TX k)) h (fun f hf => jn_of (fun g => ¬ k < n → g) (fun y => by unfold ltt at hf; rw [if_neg y] at hf; exact hf) (fun g hg => ⟨fun y => absurd y (nI_pos (by omega)), fun _ => ⟨fun y => hg (by omega), fun y => ⟨fun z => absurd z (by rw [e200]; exact nI_ge (by omega) (by decide)), fun _ => ⟨vp_in_nI (by omega) (by decide), ?_⟩⟩⟩⟩))
  unfold ltt at hf
  rw [if_pos (by omega)] at hf
  rw [h3 k (by omega)]
  exact hf
theorem s_figureAt {n : Nat} {TX : Nat → Int32} {k : Nat} (hk : k < 2 ^ 30) {c : vv_S} {post : Int32 → vv_S → Prop} (hc : TXT n TX c) (h : post (if fgn (ltt n TX k) = 10 then -4 else nI (fgn (ltt n TX k))) c) : wX7_figureAt (nI k) c post := by
  unfold wX7_figureAt
  refine s_letterAt hk hc ?_
  refine jn_of (fun f => f (if fgn (ltt n TX k) = 10 then -4 else nI (fgn (ltt n TX k)))) h ?_
  intro f hf
  refine jn_of (fun g => ¬ (48 ≤ ltt n TX k ∧ ltt n TX k ≤ 57) → g) (fun y => by rw [if_pos (fgn_out y)] at hf; exact hf) ?_
  intro g hg
  refine ⟨fun y => hg (fun z => absurd z.1 (Int32.not_le.mpr y)), fun y => ⟨fun y2 => hg (fun z => absurd z.2 (Int32.not_le.mpr y2)), fun y2 => ?_⟩⟩
  obtain ⟨e1, e2⟩ := fgn_in (Int32.not_lt.mp y) (Int32.not_lt.mp y2)
  rw [if_neg (by omega)] at hf
  rw [e2, show (48 : Int32) = nI 48 by decide, pk_sub (by omega), show 48 + fgn (ltt n TX k) - 48 = fgn (ltt n TX k) by omega]
  exact hf
theorem s_figuresAt {n : Nat} {TX : Nat → Int32} {k : Nat} (hk : k < 2 ^ 29) {c : vv_S} {post : Int32 → vv_S → Prop} (hc : TXT n TX c) (h : post (nI (nf (ltt n TX) k)) c) : wX7_figuresAt (nI k) c post := by
  unfold wX7_figuresAt
  refine s_figureAt (by omega) hc ?_
  have h1 := fgn_le (ltt n TX k)
  have h2 := fgn_le (ltt n TX (k + 1))
  unfold nf at h
  by_cases y : fgn (ltt n TX k) = 10
  · rw [if_pos y] at h ⊢
    exact ⟨fun z => absurd rfl z, fun _ => h⟩
  · rw [if_neg y] at h ⊢
    refine ⟨fun _ => ?_, fun z => absurd z (nI_nm4 (by omega))⟩
    rw [nI_1]
    refine s_figureAt (by omega) hc ?_
    by_cases y2 : fgn (ltt n TX (k + 1)) = 10
    · rw [if_pos y2] at h ⊢
      exact jn_of (fun f => f 1) h (fun f hf => ⟨fun z => absurd rfl z, fun _ => hf⟩)
    · rw [if_neg y2] at h ⊢
      exact jn_of (fun f => f 2) h (fun f hf => ⟨fun _ => hf, fun z => absurd z (nI_nm4 (by omega))⟩)
theorem s_readItem {n : Nat} {TX : Nat → Int32} {a : Nat} (ha : a ≤ 300) {c : vv_S} {post : Int32 → vv_S → Prop} (hc : TXT n TX c) (h0 : rdN (ltt n TX) 4 (a + 1) = none → ∀ c', FrX c c' → post (-4) c')
    (h1 : ∀ L b, rdN (ltt n TX) 4 (a + 1) = some (L, b) → ∀ c', FrX c c' → c' 1 3 = nI L.length → (∀ i, i < L.length → c' 3 i = nI (L.getD i 0)) → post (nI b) c') : wX7_readItem (nI a) c post := by
  have e4 : (4 : Int32) = nI 4 := by decide
  have key : ∀ (j k a' : Nat) (c' : vv_S) (Pn : Prop) (Ps : List Nat → Nat → vv_S → Prop), k + j = 4 → a' ≤ 301 + 3 * k → FrX c c' → (rdN (ltt n TX) j a' = none → ∀ c2, FrX c c2 → post (-4) c2) →
      (∀ L b, rdN (ltt n TX) j a' = some (L, b) → ∀ c2, FrX c c2 → c2 1 3 = nI (k + L.length) → (∀ i, i < k → c2 3 i = c' 3 i) → (∀ i, i < L.length → c2 3 (k + i) = nI (L.getD i 0)) → post (nI b) c2) → lX7_readItem_1 post (j + 1) (nI a') (nI k) c' := by
    intro j
    induction j with
    | zero =>
      intro k a' c' _ _ hk ha' hf' hn hs
      unfold lX7_readItem_1
      refine ⟨fun _ => hn rfl c' hf', fun y => absurd (by rw [e4]; exact nI_le (by omega) (by omega)) y⟩
    | succ j ih =>
      intro k a' c' _ _ hk ha' hf' hn hs
      have hc' := hc.fr hf'
      have hnf := nf_le (ltt n TX) a'
      have hck : (nI k).toNatClampNeg = k := nI_clamp (by omega)
      have er : rdN (ltt n TX) (j + 1) a' = if nf (ltt n TX) a' = 0 then none else if ltt n TX (a' + nf (ltt n TX) a') = 59 then some ([nv (ltt n TX) a'], a' + nf (ltt n TX) a' + 1) else if ltt n TX (a' + nf (ltt n TX) a') = 44 then (rdN (ltt n TX) j (a' + nf (ltt n TX) a' + 1)).map (fun p => (nv (ltt n TX) a' :: p.1, p.2)) else none := rfl
      unfold lX7_readItem_1
      refine ⟨fun y => absurd y (by rw [e4]; exact nI_ge (by omega) (by omega)), fun _ => s_figuresAt (by omega) hc' ?_⟩
      have z0 : nI (nf (ltt n TX) a') = 0 ↔ nf (ltt n TX) a' = 0 := by rw [vn0]; exact nI_eq (by omega) (by decide)
      have z1 : nI (nf (ltt n TX) a') = 1 ↔ nf (ltt n TX) a' = 1 := by rw [vn1]; exact nI_eq (by omega) (by decide)
      rw [z0, z1]
      refine ⟨fun hne => ?_, fun y => hn (by rw [er, if_pos y]) c' hf'⟩
      rw [if_neg hne] at er
      have hv := nv_le (ltt n TX) a' hne
      refine jn_of (fun f => f (nI (nv (ltt n TX) a')) c') ?_ ?_
      · refine ⟨vp_in_nI (by omega) (by decide), ?_⟩
        rintro _ rfl _ rfl
        rw [hck, nI_1, nI_add]
        have hf2 : FrX c (vv_up (vv_up c' 3 k (nI (nv (ltt n TX) a'))) 1 3 (nI (k + 1))) := hf'.trans ⟨fun i a b => by rw [vv_up_r a, vv_up_r b], fun j a => by rw [vv_up_i a, vv_up_c (by decide)]⟩
        have g3 : ∀ i, i ≤ k → (vv_up (vv_up c' 3 k (nI (nv (ltt n TX) a'))) 1 3 (nI (k + 1))) 3 i = if i = k then nI (nv (ltt n TX) a') else c' 3 i := fun i hi => by
          rw [vv_up_c (by decide)]
          by_cases y : i = k
          · rw [y, vv_up_s, if_pos rfl]
          · rw [vv_up_i y, if_neg y]
        have g13 : (vv_up (vv_up c' 3 k (nI (nv (ltt n TX) a'))) 1 3 (nI (k + 1))) 1 3 = nI (k + 1) := vv_up_s
        revert hf2 g3 g13
        generalize vv_up (vv_up c' 3 k (nI (nv (ltt n TX) a'))) 1 3 (nI (k + 1)) = c2
        intro hf2 g3 g13
        refine s_letterAt (by omega) (hc.fr hf2) ?_
        rintro _ rfl
        rw [nI_1, nI_add, show a' + (nf (ltt n TX) a' + 1) = a' + nf (ltt n TX) a' + 1 by omega]
        refine ⟨fun y => ⟨fun y2 => ?_, fun y2 => ?_⟩, fun y => ?_⟩
        · rintro _ rfl
          rw [if_neg y, if_pos y2] at er
          refine ih (k + 1) (a' + nf (ltt n TX) a' + 1) c2 True (fun _ _ _ => True) (by omega) (by omega) hf2 (fun en => hn (by rw [er, en]; rfl)) (fun L b es c3 hf3 u1 u2 u3 => ?_)
          refine hs (nv (ltt n TX) a' :: L) b (by rw [er, es]; rfl) c3 hf3 (by rw [u1, List.length_cons]; congr 1; omega) (fun i hi => ?_) (fun i hi => ?_)
          · rw [u2 i (by omega), g3 i (by omega), if_neg (by omega)]
          · rcases i with _ | i
            · rw [Nat.add_zero, u2 k (by omega), g3 k (Nat.le_refl _), if_pos rfl]; rfl
            · rw [List.length_cons] at hi
              rw [show k + (i + 1) = k + 1 + i by omega, u3 i (by omega)]
              rfl
        · rw [if_neg y, if_neg y2] at er
          exact hn er c2 hf2
        · rw [if_pos y] at er
          refine hs _ _ er c2 hf2 (by rw [g13]; rfl) (fun i hi => by rw [g3 i (by omega), if_neg (by omega)]) (fun i hi => ?_)
          have : i = 0 := by simp at hi; omega
          subst this
          rw [Nat.add_zero, g3 k (Nat.le_refl _), if_pos rfl]
          rfl
      · intro f hf
        have h1 := fgn_le (ltt n TX a')
        have h2 := fgn_le (ltt n TX (a' + 1))
        have ne1 : ¬ fgn (ltt n TX a') = 10 := fun y => hne (by unfold nf; rw [if_pos y])
        unfold nv at hf
        refine ⟨fun y => s_figureAt (by omega) hc' ?_, fun y => s_figureAt (by omega) hc' ?_⟩
        · rw [if_neg ne1, nI_1]
          refine s_figureAt (by omega) hc' ?_
          have ne2 : ¬ fgn (ltt n TX (a' + 1)) = 10 := fun z => y (by unfold nf; rw [if_neg ne1, if_pos z])
          rw [if_neg ne2, e10, pk_mul, nI_add]
          rw [if_neg y] at hf
          exact hf
        · rw [if_neg ne1]
          rw [if_pos y] at hf
          exact hf
  unfold wX7_readItem
  rintro _ rfl _ rfl
  rw [nI_1]
  have hf0 : FrX c (vv_up c 1 3 0) := ⟨fun i a b => vv_up_r a, fun j a => vv_up_i a⟩
  refine ⟨5, key 4 0 (a + 1) _ True (fun _ _ _ => True) (by omega) (by omega) hf0 h0 (fun L b e c2 hf2 u1 u2 u3 => h1 L b e c2 hf2 (by rw [u1, Nat.zero_add]) (fun i hi => by have := u3 i hi; rw [Nat.zero_add] at this; exact this))⟩
def rdM (t : Nat → Int32) : Nat → Nat → Option (List Nat × Nat)
  | 0, a => some ([], a)
  | r + 1, a => if nf t a = 0 then none else if t (a + nf t a) = (if r = 0 then 59 else 44) then (rdM t r (a + nf t a + 1)).map (fun p => (nv t a :: p.1, p.2)) else none
theorem rdM_N {t : Nat → Int32} : ∀ {j r a : Nat}, r + 1 ≤ j → rdM t (r + 1) a = (match rdN t j a with
    | none => none
    | some p => if p.1.length = r + 1 then some p else none)
  | j + 1, r, a, hr => by
    rw [rdM, rdN]
    by_cases h0 : nf t a = 0
    · rw [if_pos h0, if_pos h0]
    · rw [if_neg h0, if_neg h0]
      rcases r with _ | r
      · rw [if_pos rfl]
        by_cases h1 : t (a + nf t a) = 59
        · rw [if_pos h1, if_pos h1]
          rfl
        · rw [if_neg h1, if_neg h1]
          by_cases h2 : t (a + nf t a) = 44
          · rw [if_pos h2]
            cases e : rdN t j (a + nf t a + 1) with
            | none => rfl
            | some p =>
              have := (rdN_bd (L := p.1) (b := p.2) e).1
              show none = if (nv t a :: p.1).length = 0 + 1 then _ else _
              rw [if_neg (by rw [List.length_cons]; omega)]
          · rw [if_neg h2]
      · rw [if_neg (Nat.succ_ne_zero r)]
        by_cases h2 : t (a + nf t a) = 44
        · rw [if_pos h2, if_neg (by rw [h2]; decide), if_pos h2]
          rw [rdM_N (j := j) (r := r) (by omega)]
          cases e : rdN t j (a + nf t a + 1) with
          | none => rfl
          | some p =>
            show Option.map _ (if p.1.length = r + 1 then some p else none) = if (nv t a :: p.1).length = r + 1 + 1 then some (nv t a :: p.1, p.2) else none
            by_cases y : p.1.length = r + 1
            · rw [if_pos y, if_pos (by rw [List.length_cons, y])]; rfl
            · rw [if_neg y, if_neg (by rw [List.length_cons]; omega)]; rfl
        · rw [if_neg h2]
          by_cases h1 : t (a + nf t a) = 59
          · rw [if_pos h1]
            show none = if [nv t a].length = r + 1 + 1 then _ else _
            rw [if_neg (by simp)]
          · rw [if_neg h1, if_neg h2]

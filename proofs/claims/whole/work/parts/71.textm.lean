def TXM (n : Nat) (TX : Nat → Int32) (m : vv_S) : Prop := n ≤ 200 ∧ m 0 0 = nI n ∧ ∀ k, k < n → m 1 k = TX k
def FrS (m m' : vv_S) : Prop := (∀ i, i ≠ 0 → i ≠ 27 → m' i = m i) ∧ ∀ j, j ≠ 29 → m' 0 j = m 0 j
theorem FrS.rf {m : vv_S} : FrS m m := ⟨fun _ _ _ => rfl, fun _ _ => rfl⟩
theorem FrS.trans {m m' m2 : vv_S} (h : FrS m m') (g : FrS m' m2) : FrS m m2 := ⟨fun i a b => by rw [g.1 i a b, h.1 i a b], fun j a => by rw [g.2 j a, h.2 j a]⟩
theorem FrS.sp {m : vv_S} {v : Int32} : FrS m (vv_up m 0 29 v) := ⟨fun i a b => vv_up_r a, fun j a => vv_up_i a⟩
theorem TXM.fr {n : Nat} {TX : Nat → Int32} {m m' : vv_S} (h : TXM n TX m) (hf : FrS m m') : TXM n TX m' := ⟨h.1, by rw [hf.2 0 (by decide)]; exact h.2.1, by rw [hf.1 1 (by decide) (by decide)]; exact h.2.2⟩
theorem s_letterAtM {n : Nat} {TX : Nat → Int32} {k : Nat} (hk : k < 2 ^ 30) {m : vv_S} {post : Int32 → vv_S → Prop} (hc : TXM n TX m) (h : post (ltt n TX k) m) : wX9_letterAt (nI k) m post := by
  obtain ⟨h1, h2, h3⟩ := hc
  have hcl : (nI k).toNatClampNeg = k := nI_clamp (by omega)
  unfold wX9_letterAt
  rw [h2, hcl, nI_leI (by omega) (by omega)]
  refine jn_of (fun f => f (ltt n TX k)) h (fun f hf => ⟨fun y => ?_, fun y => ⟨vp_in_nI (by omega) (by decide), ?_⟩⟩)
  · unfold ltt at hf; rw [if_neg (by omega)] at hf; exact hf
  · unfold ltt at hf; rw [if_pos (by omega)] at hf; rw [h3 k (by omega)]; exact hf
theorem s_fig2 {n : Nat} {TX : Nat → Int32} {f v s : Nat} (hf : f ≤ 3) (hs : s < 2 ^ 29) {m : vv_S} (hm : TXM n TX m) (h29 : m 0 29 = nI s) {k : Int32 → Int32 → vv_S → Prop} {fu : Nat}
    (h0 : fgn (ltt n TX s) = 10 → k (nI f) (nI v) m) (h3 : f = 3 → k (nI f) (nI v) m) (h1 : f < 3 → fgn (ltt n TX s) ≠ 10 → lX9_figures_2 k fu (nI (f + 1)) (nI (10 * v + fgn (ltt n TX s))) (vv_up m 0 29 (nI (s + 1)))) : lX9_figures_2 k (fu + 1) (nI f) (nI v) m := by
  unfold lX9_figures_2
  rw [h29]
  refine s_letterAtM (by omega) hm (s_inM (lo := 48) (hi := 57) (by decide) (by decide) (fun q => ⟨fun z => absurd z (by decide), fun _ => ?_⟩) (fun q => ⟨fun _ => h0 (fgn_out q), fun z => absurd rfl z⟩))
  have hd := fgn_in q.1 q.2
  rw [show (3 : Int32) = nI 3 by decide, nI_leI (by decide) (by omega)]
  refine ⟨fun y => h3 (by omega), fun y => ?_⟩
  rw [h29]
  refine s_letterAtM (by omega) hm ?_
  rintro _ rfl _ rfl _ rfl
  rw [h29, nI_1, nI_1, e10, pk_mul]
  have e : nI (10 * v) + ltt n TX s - 48 = nI (10 * v + fgn (ltt n TX s)) := by
    obtain ⟨d1, d2⟩ := hd
    revert d1 d2
    generalize fgn (ltt n TX s) = w
    intro d1 d2
    rw [d2, show (48 : Int32) = nI 48 by decide, nI_add, pk_sub (by omega), show 10 * v + (48 + w) - 48 = 10 * v + w by omega]
  rw [e]
  exact h1 (by omega) (by omega)
theorem s_fig {n : Nat} {TX : Nat → Int32} {s : Nat} (hs : s < 2 ^ 28) {m : vv_S} (hm : TXM n TX m) (h29 : m 0 29 = nI s) {k : Int32 → Int32 → vv_S → Prop}
    (h0 : nf (ltt n TX) s = 0 → k 0 0 m) (h3 : ∀ v m', FrS m m' → fgn (ltt n TX (s + 2)) ≠ 10 → nf (ltt n TX) s = 2 → k 3 v m')
    (h1 : ∀ m', FrS m m' → nf (ltt n TX) s ≠ 0 → m' 27 = m 27 → m' 0 29 = nI (s + nf (ltt n TX) s) → k (nI (nf (ltt n TX) s)) (nI (nv (ltt n TX) s)) m') : ∃ fu, lX9_figures_2 k fu 0 0 m := by
  refine ⟨4, ?_⟩
  refine s_fig2 (f := 0) (v := 0) (s := s) (by decide) (by omega) hm h29 (fun y => h0 (by unfold nf; rw [if_pos y])) (fun y => absurd y (by decide)) (fun _ y => ?_)
  have f1 : FrS m (vv_up m 0 29 (nI (s + 1))) := FrS.sp
  have g1 : (vv_up m 0 29 (nI (s + 1))) 0 29 = nI (s + 1) := vv_up_s
  have r1 : (vv_up m 0 29 (nI (s + 1))) 27 = m 27 := vv_up_r (by decide)
  revert f1 g1 r1
  generalize vv_up m 0 29 (nI (s + 1)) = m1
  intro f1 g1 r1
  refine s_fig2 (f := 1) (v := 10 * 0 + fgn (ltt n TX s)) (s := s + 1) (by decide) (by omega) (hm.fr f1) g1 (fun y2 => ?_) (fun y => absurd y (by decide)) (fun _ y2 => ?_)
  · have e : nf (ltt n TX) s = 1 := by unfold nf; rw [if_neg y, if_pos y2]
    have := h1 m1 f1 (by omega) r1 (by rw [e]; exact g1)
    unfold nv at this
    rw [e, if_pos rfl] at this
    rw [show 10 * 0 + fgn (ltt n TX s) = fgn (ltt n TX s) by omega]
    exact this
  · have e : nf (ltt n TX) s = 2 := by unfold nf; rw [if_neg y, if_neg y2]
    have f2 : FrS m (vv_up m1 0 29 (nI (s + 1 + 1))) := f1.trans FrS.sp
    have g2 : (vv_up m1 0 29 (nI (s + 1 + 1))) 0 29 = nI (s + 2) := vv_up_s
    have r2 : (vv_up m1 0 29 (nI (s + 1 + 1))) 27 = m 27 := by rw [vv_up_r (by decide)]; exact r1
    revert f2 g2 r2
    generalize vv_up m1 0 29 (nI (s + 1 + 1)) = m2
    intro f2 g2 r2
    refine s_fig2 (f := 2) (s := s + 2) (by decide) (by omega) (hm.fr f2) g2 (fun y3 => ?_) (fun y => absurd y (by decide)) (fun _ y3 => ?_)
    · have := h1 m2 f2 (by omega) r2 (by rw [e]; exact g2)
      unfold nv at this
      rw [e, if_neg (by decide)] at this
      rw [show 10 * (10 * 0 + fgn (ltt n TX s)) + fgn (ltt n TX (s + 1)) = 10 * fgn (ltt n TX s) + fgn (ltt n TX (s + 1)) by omega]
      exact this
    · have f3 : FrS m (vv_up m2 0 29 (nI (s + 2 + 1))) := f2.trans FrS.sp
      have g3 : (vv_up m2 0 29 (nI (s + 2 + 1))) 0 29 = nI (s + 3) := vv_up_s
      revert f3 g3
      generalize vv_up m2 0 29 (nI (s + 2 + 1)) = m3
      intro f3 g3
      exact s_fig2 (f := 3) (s := s + 3) (by decide) (by omega) (hm.fr f3) g3 (fun _ => h3 _ m3 f3 y3 e) (fun _ => h3 _ m3 f3 y3 e) (fun y => absurd y (by decide))
theorem s_figures {n : Nat} {TX : Nat → Int32} {N s : Nat} (hN : N ≤ 4) (hs : s ≤ 301) {m : vv_S} (hm : TXM n TX m) (h29 : m 0 29 = nI s) {post : Int32 → vv_S → Prop}
    (h0 : rdM (ltt n TX) N s = none → ∀ m', FrS m m' → post 0 m') (h1 : ∀ L b, rdM (ltt n TX) N s = some (L, b) → ∀ m', FrS m m' → m' 0 29 = nI b → (∀ i, i < N → m' 27 i = nI (L.getD i 0)) → post 1 m') : wX9_figures (nI N) m post := by
  unfold wX9_figures
  refine jn_of (fun f => rdM (ltt n TX) N s = none → ∀ m', FrS m m' → f m') h0 ?_
  intro f hf
  have key : ∀ (r k a : Nat) (m' : vv_S), k + r = N → a ≤ 301 + 3 * k → FrS m m' → m' 0 29 = nI a → (rdM (ltt n TX) r a = none → rdM (ltt n TX) N s = none) →
      (∀ L b, rdM (ltt n TX) r a = some (L, b) → ∀ c2, FrS m c2 → c2 0 29 = nI b → (∀ i, i < k → c2 27 i = m' 27 i) → (∀ i, i < r → c2 27 (k + i) = nI (L.getD i 0)) → post 1 c2) → lX9_figures_1 (nI N) post f (r + 1) (nI k) m' := by
    intro r
    induction r with
    | zero =>
      intro k a m' hk ha hf' h29' hn hs'
      unfold lX9_figures_1
      refine ⟨fun _ => hs' [] a rfl m' hf' h29' (fun _ _ => rfl) (fun i hi => absurd hi (Nat.not_lt_zero _)), fun y => absurd (nI_le (by omega) (by omega)) y⟩
    | succ r ih =>
      intro k a m' hk ha hf' h29' hn hs'
      have hnf := nf_le (ltt n TX) a
      have hck : (nI k).toNatClampNeg = k := nI_clamp (by omega)
      have er : rdM (ltt n TX) (r + 1) a = if nf (ltt n TX) a = 0 then none else if ltt n TX (a + nf (ltt n TX) a) = (if r = 0 then 59 else 44) then (rdM (ltt n TX) r (a + nf (ltt n TX) a + 1)).map (fun p => (nv (ltt n TX) a :: p.1, p.2)) else none := rfl
      unfold lX9_figures_1
      refine ⟨fun y => absurd y (nI_ge (by omega) (by omega)), fun _ => ?_⟩
      refine jn_of (fun g => (nf (ltt n TX) a = 0 → g 0 0 m') ∧ (∀ v m2, FrS m' m2 → fgn (ltt n TX (a + 2)) ≠ 10 → nf (ltt n TX) a = 2 → g 3 v m2) ∧ (∀ m2, FrS m' m2 → nf (ltt n TX) a ≠ 0 → m2 27 = m' 27 → m2 0 29 = nI (a + nf (ltt n TX) a) → g (nI (nf (ltt n TX) a)) (nI (nv (ltt n TX) a)) m2)) ⟨?_, ?_, ?_⟩ ?_
      · intro y
        refine s_inM (lo := 1) (hi := 2) (by decide) (by decide) (fun q => absurd q (by decide)) (fun _ => ⟨fun _ => hf (hn (by rw [er, if_pos y])) m' hf', fun z => absurd rfl z⟩)
      · intro v m2 hf2 y3 y2
        refine s_inM (lo := 1) (hi := 2) (by decide) (by decide) (fun q => absurd q (by decide)) (fun _ => ⟨fun _ => hf (hn ?_) m2 (hf'.trans hf2), fun z => absurd rfl z⟩)
        rw [er, if_neg (by omega), if_neg ?_]
        rw [y2]
        intro z
        rw [z] at y3
        split at y3
        · exact y3 (by decide)
        · exact y3 (by decide)
      · intro m2 hf2 yne h27 h292
        have hv := nv_le (ltt n TX) a yne
        rw [if_neg yne] at er
        refine s_inM (lo := 1) (hi := 2) (by decide) (by decide) (fun q => ⟨fun z => absurd z (by decide), fun _ => ?_⟩) (fun q => absurd ⟨by rw [vn1]; exact nI_le (by omega) (by omega), by rw [vn2]; exact nI_le hnf (by decide)⟩ q)
        rw [h292]
        refine s_letterAtM (by omega) (hm.fr (hf'.trans hf2)) ?_
        refine jn_of (fun g => g (if r = 0 then 59 else 44)) ⟨fun y => ⟨vp_in_nI (by omega) (by decide), ?_⟩, fun y => ?_⟩ ?_
        · rw [if_pos y] at er
          rintro _ rfl _ rfl _ rfl
          rw [hck, nI_1, vv_up_c (by decide), h292, nI_1]
          have hf3 : FrS m' (vv_up (vv_up m2 27 k (nI (nv (ltt n TX) a))) 0 29 (nI (a + nf (ltt n TX) a + 1))) := hf2.trans ⟨fun i a b => by rw [vv_up_r a, vv_up_r b], fun j a => by rw [vv_up_i a, vv_up_c (by decide)]⟩
          have g27 : ∀ i, i ≤ k → (vv_up (vv_up m2 27 k (nI (nv (ltt n TX) a))) 0 29 (nI (a + nf (ltt n TX) a + 1))) 27 i = if i = k then nI (nv (ltt n TX) a) else m' 27 i := fun i hi => by
            rw [vv_up_c (by decide)]
            by_cases w : i = k
            · rw [w, vv_up_s, if_pos rfl]
            · rw [vv_up_i w, if_neg w, h27]
          have g29 : (vv_up (vv_up m2 27 k (nI (nv (ltt n TX) a))) 0 29 (nI (a + nf (ltt n TX) a + 1))) 0 29 = nI (a + nf (ltt n TX) a + 1) := vv_up_s
          revert hf3 g27 g29
          generalize vv_up (vv_up m2 27 k (nI (nv (ltt n TX) a))) 0 29 (nI (a + nf (ltt n TX) a + 1)) = m3
          intro hf3 g27 g29
          refine ih (k + 1) (a + nf (ltt n TX) a + 1) m3 (by omega) (by omega) (hf'.trans hf3) g29 (fun en => hn (by rw [er, en]; rfl)) (fun L b es c2 hf4 u1 u2 u3 => ?_)
          refine hs' (nv (ltt n TX) a :: L) b (by rw [er, es]; rfl) c2 hf4 u1 (fun i hi => ?_) (fun i hi => ?_)
          · rw [u2 i (by omega), g27 i (by omega), if_neg (by omega)]
          · rcases i with _ | i
            · rw [Nat.add_zero, u2 k (by omega), g27 k (Nat.le_refl _), if_pos rfl]; rfl
            · rw [show k + (i + 1) = k + 1 + i by omega, u3 i (by omega)]
              rfl
        · rw [if_neg y] at er
          exact hf (hn er) m2 (hf'.trans hf2)
        · intro g hg
          rw [vn1, pk_sub (by omega), nI_leI (by omega) (by omega)]
          exact ⟨fun y => by rw [if_pos (by omega)] at hg; exact hg, fun y => by rw [if_neg (by omega)] at hg; exact hg⟩
      · intro g hg
        exact s_fig (by omega) (hm.fr hf') h29' hg.1 hg.2.1 hg.2.2
  exact ⟨N + 1, key N 0 s m (by omega) (by omega) FrS.rf h29 (fun e => e) (fun L b e c2 hf2 u1 u2 u3 => h1 L b e c2 hf2 u1 (fun i hi => by have := u3 i hi; rw [Nat.zero_add] at this; exact this))⟩

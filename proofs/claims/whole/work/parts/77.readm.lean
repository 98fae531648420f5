theorem s_childItem {n : Nat} {TX : Nat → Int32} {T : vT} (hT : tOk T) {s : Nat} (hs : s ≤ 300) (hx : ltt n TX s = 112) {m : vv_S} (hm : TXM n TX m) (h29 : m 0 29 = nI (s + 1)) (hc : TM T m) {post : Int32 → vv_S → Prop}
    (h0 : st (ltt n TX) T s = none → ∀ m', FrT m m' → post 0 m') (h1 : ∀ T' b, st (ltt n TX) T s = some (T', b) → ∀ m', FrT m m' → TM T' m' → m' 0 29 = nI b → post 1 m') : wX9_childItem m post := by
  have hn := hT.2.2.2.2.1
  have e4 : (4 : Int32) = nI 4 := by decide
  unfold wX9_childItem
  have bad : ∀ (m1 : vv_S), FrT m m1 → st (ltt n TX) T s = none → vv_jn (fun (v5 : Int32) (σ6 : vv_S) => (vv_jn (fun (v8 : Int32) => (∀ σ10 : vv_S, σ10 = vv_up σ6 14 1 ((σ6 14 1) + v8) → ((v5 = 0 ∨ v5 = 1) ∧ post v5 σ10))) (fun k98_8 : Int32 → Prop => (((v5 = 0 → (k98_8 (0 : Int32))) ∧ (¬ v5 = 0 → (k98_8 (1 : Int32)))))))) (fun k82_6 : Int32 → vv_S → Prop => ((∃ n15 : Nat, lX9_childItem_1 k82_6 n15 0 (0 : Int32) m1))) := by
    intro m1 hf en
    refine jn_of (fun k => k 0 m1) (jn_of (fun k => k 0) ?_ (fun k hk => ⟨fun _ => hk, fun z => absurd rfl z⟩)) (fun k hk => ⟨1, ?_⟩)
    · rintro _ rfl
      exact ⟨Or.inl rfl, h0 en _ (hf.trans (FrT.up (by decide) (by decide) (by decide)))⟩
    · unfold lX9_childItem_1
      exact ⟨fun _ => hk, fun _ => ⟨fun _ => hk, fun z => absurd rfl z⟩⟩
  refine s_figs (N := 4) (by decide) (by decide) hs hm h29 (fun hz m1 hf1 => ?_) (fun L b er hl hL m1 hf1 g29 g27 => ?_)
  · refine jn_of (fun k => k 0) (bad m1 hf1.toT (st_none (fun L b er => by rw [hx, tk_112, if_neg (fun z => hz L b er z.1)]))) (fun k hk => jn_of (fun g => g) hk (fun g hg => ⟨fun _ => hg, fun z => absurd rfl z⟩))
  · obtain ⟨a', b', c', d', ⟨u1, u2⟩, f'⟩ := hc.frS hf1
    rw [u1, e4, nI_leI (by decide) (by omega)]
    by_cases hq : (tQ T).1 = 4
    · refine jn_of (fun k => k 0) (bad m1 hf1.toT (st_n2 er (by rw [hx, tk_112, if_neg (fun z => z.2.1 hq)]))) (fun k hk => jn_of (fun g => g) hk (fun g hg => ⟨fun z => absurd z (by decide), fun _ => ⟨fun _ => hg, fun z => absurd (by omega) z⟩⟩))
    · refine jn_of (fun k => k 1) ?_ (fun k hk => jn_of (fun _ => True) trivial (fun g _ => ⟨fun z => absurd z (by decide), fun _ => ⟨fun z => absurd z (by omega), fun _ => hk⟩⟩))
      have hq4 : (tQ T).1 < 4 := by omega
      refine jn_of (fun k => (∀ m2, FrT m m2 → st (ltt n TX) T s = none → k 0 m2) ∧ (∀ m2, (∀ i, i ≠ 15 → m2 i = m1 i) → (∀ j, ¬ (16 + 4 * (tQ T).1 ≤ j ∧ j < 16 + 4 * (tQ T).1 + 4) → m2 15 j = m1 15 j) → (∀ e, e < 4 → m2 15 (16 + 4 * (tQ T).1 + e) = nI (L.getD e 0) ∧ L.getD e 0 ≤ 9) → k 1 m2)) ⟨?_, ?_⟩ ?_
      · intro m2 hf2 en
        refine jn_of (fun k => k 0) ?_ (fun k hk => ⟨fun _ => hk, fun z => absurd rfl z⟩)
        rintro _ rfl
        exact ⟨Or.inl rfl, h0 en _ (hf2.trans (FrT.up (by decide) (by decide) (by decide)))⟩
      · intro m2 e2 e15 hr
        refine jn_of (fun k => k 1) ?_ (fun k hk => ⟨fun z => absurd z (by decide), fun _ => hk⟩)
        rintro _ rfl
        rw [e2 14 (by decide), u1, nI_1]
        refine ⟨Or.inr rfl, ?_⟩
        have eS := st_s er (T := T) (T' := kKid T L) (by show tk (ltt n TX s) L T = _; rw [hx, tk_112, if_pos ⟨hl, hq, (hr 0 (by decide)).2, (hr 1 (by decide)).2, (hr 2 (by decide)).2, (hr 3 (by decide)).2⟩])
        have e' : ∀ i, i ≠ 14 → i ≠ 15 → (vv_up m2 14 1 (nI ((tQ T).1 + 1))) i = m1 i := fun i a b => by rw [vv_up_r a, e2 i b]
        refine h1 _ _ eS _ ((hf1.toT.trans ⟨fun i a => e2 i (by omega), fun j a => by rw [e2 0 (by decide)], fun i j a b d => ?_⟩).trans (FrT.up (by decide) (by decide) (by decide))) ⟨a'.fr ⟨rfl, rfl, rfl⟩ (fun i a b => e' i (by omega) (by omega)), b'.fr ⟨rfl, rfl, rfl, rfl⟩ (fun i a b => e' i (by omega) (by omega)), c'.fr rfl (fun i a b => e' i (by omega) (by omega)), d'.fr rfl (fun i a b => e' i (by omega) (by omega)), ⟨vv_up_s, fun i e hi he => ?_⟩, f'.fr rfl (fun i a b => e' i (by omega) (by omega))⟩ ?_
        · by_cases y : i = 15
          · subst y
            have d2 : j < 16 := d
            exact e15 j (by omega)
          · rw [e2 i y]
        · show _ = nI ((if i = (tQ T).1 then fun s => L.getD s 0 else (tQ T).2.1 i) e)
          have hi : i < (tQ T).1 + 1 := hi
          rw [vv_up_r (by decide)]
          by_cases z : i = (tQ T).1
          · rw [if_pos z, z, show 16 + (4 * (tQ T).1 + e) = 16 + 4 * (tQ T).1 + e by omega]
            exact (hr e he).1
          · rw [if_neg z, e15 _ (by omega)]
            exact u2 i e (by omega) he
        · rw [vv_up_r (by decide), e2 0 (by decide)]
          exact g29
      · intro k hk
        have key : ∀ (j i : Nat) (c' : vv_S), i + j = 4 → (∀ i, i ≠ 15 → c' i = m1 i) → (∀ j, ¬ (16 + 4 * (tQ T).1 ≤ j ∧ j < 16 + 4 * (tQ T).1 + 4) → c' 15 j = m1 15 j) → (∀ e, e < i → c' 15 (16 + 4 * (tQ T).1 + e) = nI (L.getD e 0) ∧ L.getD e 0 ≤ 9) → lX9_childItem_1 k (j + 1) 1 (nI i) c' := by
          intro j
          induction j with
          | zero =>
            intro i c' hi e2 e15 hr
            unfold lX9_childItem_1
            exact ⟨fun _ => hk.2 c' e2 e15 (fun e he => hr e (by omega)), fun y => absurd (by rw [e4]; exact nI_le (by omega) (by omega)) y⟩
          | succ j ih =>
            intro i c' hi e2 e15 hr
            have hci : (nI i).toNatClampNeg = i := nI_clamp (by omega)
            have hli := hL i
            have hin : vp_in (nI i) 4 := vp_in_nI (by omega) (by decide)
            have eix : (16 : Int32) + (4 : Int32) * nI (tQ T).1 + nI i = nI (16 + 4 * (tQ T).1 + i) := by rw [e4, pk_mul, show (16 : Int32) = nI 16 by decide, nI_add, nI_add]
            unfold lX9_childItem_1
            rw [e2 14 (by decide), e2 27 (by decide), u1, hci, g27 i (by omega), eix, nI_clamp (n := 16 + 4 * (tQ T).1 + i) (by omega), e10, nI_leI (by decide) (by omega)]
            refine ⟨fun y => absurd y (by rw [e4]; exact nI_ge (by omega) (by omega)), fun _ => ⟨fun y => absurd y (by decide), fun _ => ⟨hin, ?_⟩⟩⟩
            have e15' : ∀ j, ¬ (16 + 4 * (tQ T).1 ≤ j ∧ j < 16 + 4 * (tQ T).1 + 4) → (vv_up c' 15 (16 + 4 * (tQ T).1 + i) (nI (L.getD i 0))) 15 j = m1 15 j := fun j hj => by rw [vv_up_i (by omega)]; exact e15 j hj
            have e2' : ∀ i', i' ≠ 15 → (vv_up c' 15 (16 + 4 * (tQ T).1 + i) (nI (L.getD i 0))) i' = m1 i' := fun i' a => by rw [vv_up_r a]; exact e2 i' a
            by_cases y9 : 10 ≤ L.getD i 0
            · refine jn_of (fun g => g 0) ⟨hin, vp_in_nI (by omega) (by decide), ?_⟩ (fun g hg => ⟨fun _ => hg, fun z => absurd y9 z⟩)
              rintro _ rfl _ rfl
              have en : st (ltt n TX) T s = none := st_n2 er (by
                show tk (ltt n TX s) L T = _
                rw [hx, tk_112, if_neg (fun z => by have := le9 z.2.2 i (by omega); omega)])
              have hft : FrT m (vv_up c' 15 (16 + 4 * (tQ T).1 + i) (nI (L.getD i 0))) := hf1.toT.trans ⟨fun i a => e2' i (by omega), fun j a => by rw [e2' 0 (by decide)], fun i' j a b d => by
                by_cases y : i' = 15
                · subst y
                  have d2 : j < 16 := d
                  exact e15' j (by omega)
                · rw [e2' i' y]⟩
              cases j with
              | zero => unfold lX9_childItem_1; exact ⟨fun _ => hk.1 _ hft en, fun _ => ⟨fun _ => hk.1 _ hft en, fun z => absurd rfl z⟩⟩
              | succ j => unfold lX9_childItem_1; exact ⟨fun _ => hk.1 _ hft en, fun _ => ⟨fun _ => hk.1 _ hft en, fun z => absurd rfl z⟩⟩
            · refine jn_of (fun g => g 1) ⟨hin, vp_in_nI (by omega) (by decide), ?_⟩ (fun g hg => ⟨fun z => absurd z y9, fun _ => hg⟩)
              rintro _ rfl _ rfl
              rw [nI_1]
              refine ih (i + 1) _ (by omega) e2' e15' (fun e he => ?_)
              by_cases y : e = i
              · rw [y]; exact ⟨vv_up_s, by omega⟩
              · rw [vv_up_i (by omega)]; exact hr e (by omega)
        exact ⟨5, key 4 0 m1 (by omega) (fun _ _ => rfl) (fun _ _ => rfl) (fun e he => absurd he (Nat.not_lt_zero _))⟩
theorem s_item {n : Nat} {TX : Nat → Int32} {T : vT} (hT : tOk T) {s : Nat} (hs : s ≤ 300) {m : vv_S} (hm : TXM n TX m) (h29 : m 0 29 = nI s) (hc : TM T m) {post : Int32 → vv_S → Prop}
    (h0 : st (ltt n TX) T s = none → ∀ m', FrT m m' → post 0 m') (h1 : ∀ T' b, st (ltt n TX) T s = some (T', b) → ∀ m', FrT m m' → TM T' m' → m' 0 29 = nI b → post 1 m') : wX9_item m post := by
  unfold wX9_item
  rw [h29]
  refine s_letterAtM (by omega) hm ?_
  rintro _ rfl
  rw [h29, nI_1]
  have hf0 : FrS m (vv_up m 0 29 (nI (s + 1))) := FrS.sp
  have hm2 := hm.fr hf0
  have hc2 := hc.frS hf0
  have g29 : (vv_up m 0 29 (nI (s + 1))) 0 29 = nI (s + 1) := vv_up_s
  have k0 : st (ltt n TX) T s = none → ∀ m', FrT (vv_up m 0 29 (nI (s + 1))) m' → post 0 m' := fun en m' hf => h0 en m' (hf0.toT.trans hf)
  have k1 : ∀ T' b, st (ltt n TX) T s = some (T', b) → ∀ m', FrT (vv_up m 0 29 (nI (s + 1))) m' → TM T' m' → m' 0 29 = nI b → post 1 m' := fun T' b es m' hf ht hb => h1 T' b es m' (hf0.toT.trans hf) ht hb
  clear h0 h1
  revert hm2 hc2 g29 k0 k1
  generalize vv_up m 0 29 (nI (s + 1)) = m2
  intro hm2 hc2 g29 k0 k1
  have p0 : st (ltt n TX) T s = none → ∀ m', FrT m2 m' → ((0 : Int32) = 0 ∨ (0 : Int32) = 1) ∧ post 0 m' := fun en m' hf => ⟨Or.inl rfl, k0 en m' hf⟩
  have p1 : ∀ T' b, st (ltt n TX) T s = some (T', b) → ∀ m', FrT m2 m' → TM T' m' → m' 0 29 = nI b → ((1 : Int32) = 0 ∨ (1 : Int32) = 1) ∧ post 1 m' := fun T' b es m' hf ht hb => ⟨Or.inr rfl, k1 T' b es m' hf ht hb⟩
  refine ⟨fun hx => ?_, fun hx => ?_, fun hx => s_cellItem hT hs hx hm2 g29 hc2 p0 p1, fun hx => s_flowItem hT hs hx hm2 g29 hc2 p0 p1, fun hx => s_jobItem hT hs hx hm2 g29 hc2 p0 p1, fun hx => s_childItem hT hs hx hm2 g29 hc2 p0 p1, fun hx => s_rainItem hT hs hx hm2 g29 hc2 p0 p1, fun y => ?_⟩
  · refine s_figs (N := 2) (by decide) (by decide) hs hm2 g29 (fun hz m1 hf1 => ?_) (fun L b er hl hL m1 hf1 g29 g27 => ?_)
    · refine jn_of (fun f => f m1) (k0 (st_none (fun L b er => by rw [hx, tk_97, if_neg (fun z => hz L b er z.1)])) m1 hf1.toT) (fun f hf => ⟨fun _ => hf, fun z => absurd rfl z⟩)
    · obtain ⟨a', ⟨u1, u2, u3, u4⟩, c', d', e', f'⟩ := hc2.frS hf1
      have a0 := hL 0
      have a1 := hL 1
      have e20 : (20 : Int32) = nI 20 := by decide
      refine jn_of (fun f => ¬ (L.length = 2 ∧ (1 ≤ L.getD 0 0 ∧ L.getD 0 0 ≤ 20) ∧ L.getD 1 0 ≤ 5) → f m1) (fun z => k0 (st_n2 er (by rw [hx, tk_97, if_neg z])) m1 hf1.toT) ?_
      intro f hf
      rw [g27 0 (by decide)]
      refine ⟨fun z => absurd z (by decide), fun _ => s_inM (lo := 1) (hi := 20) (by decide) (by decide) (fun q => ⟨fun z => absurd z (by decide), fun _ => ?_⟩) (fun q => ⟨fun _ => hf (fun z => q ⟨by rw [vn1]; exact nI_le z.2.1.1 (by omega), by rw [e20]; exact nI_le z.2.1.2 (by decide)⟩), fun z => absurd rfl z⟩)⟩
      rw [vn1, e20, nI_leI (by decide) (by omega), nI_leI (by omega) (by decide)] at q
      rw [g27 0 (by decide), g27 1 (by decide), show (5 : Int32) = nI 5 by decide, nI_leI (by omega) (by decide)]
      refine ⟨fun y3 => ?_, fun y3 => hf (fun z => y3 z.2.2)⟩
      rintro _ rfl
      rw [vv_up_r (show (27 : Nat) ≠ 6 by decide), g27 1 (by decide)]
      rintro _ rfl
      have eS := st_s er (T := T) (T' := kLake T L) (by show tk (ltt n TX s) L T = _; rw [hx, tk_97, if_pos ⟨hl, q, y3⟩])
      refine k1 _ _ eS _ (hf1.toT.trans ((FrT.up (by decide) (by decide) (by decide)).trans (FrT.up (by decide) (by decide) (by decide)))) ⟨a'.fr ⟨rfl, rfl, rfl⟩ (fun i a b => by rw [vv_up_r (by omega), vv_up_r (by omega)]), ⟨?_, ?_, ?_, ?_⟩, c'.fr rfl (fun i a b => by rw [vv_up_r (by omega), vv_up_r (by omega)]), d'.fr rfl (fun i a b => by rw [vv_up_r (by omega), vv_up_r (by omega)]), e'.fr ⟨rfl, rfl⟩ (fun i a b => by rw [vv_up_r (by omega), vv_up_r (by omega)]), f'.fr rfl (fun i a b => by rw [vv_up_r (by omega), vv_up_r (by omega)])⟩ ?_
      · rw [vv_up_r (by decide), vv_up_r (by decide)]; exact u1
      · rw [vv_up_r (by decide), vv_up_r (by decide)]; exact u2
      · rw [vv_up_i (by decide), vv_up_s]; rfl
      · rw [vv_up_s]; rfl
      · rw [vv_up_r (by decide), vv_up_r (by decide)]; exact g29
  · refine s_figs (N := 2) (by decide) (by decide) hs hm2 g29 (fun hz m1 hf1 => ?_) (fun L b er hl hL m1 hf1 g29 g27 => ?_)
    · refine jn_of (fun f => f) (k0 (st_none (fun L b er => by rw [hx, tk_98, if_neg (fun z => hz L b er z.1)])) m1 hf1.toT) (fun f hf => ⟨fun _ => hf, fun z => absurd rfl z⟩)
    · obtain ⟨a', ⟨u1, u2, u3, u4⟩, c', d', e', f'⟩ := hc2.frS hf1
      have a0 := hL 0
      have a1 := hL 1
      refine jn_of (fun f => ¬ (L.length = 2 ∧ L.getD 0 0 ≤ 50 ∧ L.getD 1 0 ≤ 50) → f) (fun z => k0 (st_n2 er (by rw [hx, tk_98, if_neg z])) m1 hf1.toT) ?_
      intro f hf
      rw [g27 0 (by decide), g27 1 (by decide), show (50 : Int32) = nI 50 by decide, nI_leI (by omega) (by decide), nI_ltI (by decide) (by omega)]
      refine ⟨fun z => absurd z (by decide), fun _ => ⟨fun y => hf (fun z => by omega), fun y => ⟨fun y3 => ?_, fun y3 => hf (fun z => by omega)⟩⟩⟩
      rintro _ rfl
      rw [vv_up_r (show (27 : Nat) ≠ 5 by decide), g27 1 (by decide)]
      rintro _ rfl
      have eS := st_s er (T := T) (T' := kBank T L) (by show tk (ltt n TX s) L T = _; rw [hx, tk_98, if_pos ⟨hl, by omega, y3⟩])
      refine k1 _ _ eS _ (hf1.toT.trans ((FrT.up (by decide) (by decide) (by decide)).trans (FrT.up (by decide) (by decide) (by decide)))) ⟨a'.fr ⟨rfl, rfl, rfl⟩ (fun i a b => by rw [vv_up_r (by omega), vv_up_r (by omega)]), ⟨?_, ?_, ?_, ?_⟩, c'.fr rfl (fun i a b => by rw [vv_up_r (by omega), vv_up_r (by omega)]), d'.fr rfl (fun i a b => by rw [vv_up_r (by omega), vv_up_r (by omega)]), e'.fr ⟨rfl, rfl⟩ (fun i a b => by rw [vv_up_r (by omega), vv_up_r (by omega)]), f'.fr rfl (fun i a b => by rw [vv_up_r (by omega), vv_up_r (by omega)])⟩ ?_
      · rw [vv_up_i (by decide), vv_up_s]; rfl
      · rw [vv_up_s]; rfl
      · rw [vv_up_r (by decide), vv_up_r (by decide)]; exact u3
      · rw [vv_up_r (by decide), vv_up_r (by decide)]; exact u4
      · rw [vv_up_r (by decide), vv_up_r (by decide)]; exact g29
  · refine k0 (st_none (fun L b er => ?_)) m2 FrT.rf
    unfold tk
    rw [if_neg y.2.2.1, if_neg y.2.1, if_neg y.1, if_neg y.2.2.2.1, if_neg y.2.2.2.2.2.2, if_neg y.2.2.2.2.2.1, if_neg y.2.2.2.2.1]
theorem s_noDam {m : vv_S} {post : vv_S → Prop} (h : ∀ m', FrT m m' → TM T0 m' → post m') : wX9_noDam 1 m post := by
  unfold wX9_noDam
  have i1 : ((1 : Int32)).toNatClampNeg = 1 := by decide
  have i2 : ((2 : Int32) * 1).toNatClampNeg = 2 := by decide
  have i3 : ((2 : Int32) * 1 + 1).toNatClampNeg = 3 := by decide
  have b1 : vp_in (1 : Int32) 2 := vp_in_nI (n := 1) (by decide) (by decide)
  have b2 : vp_in ((2 : Int32) * 1) 4 := vp_in_nI (n := 2) (by decide) (by decide)
  have b3 : vp_in ((2 : Int32) * 1 + 1) 4 := vp_in_nI (n := 3) (by decide) (by decide)
  rw [i1, i2, i3]
  refine ⟨b1, ?_⟩
  rintro _ rfl
  refine ⟨b2, ?_⟩
  rintro _ rfl
  refine ⟨b3, ?_⟩
  rintro _ rfl
  refine ⟨b2, ?_⟩
  rintro _ rfl
  refine ⟨b3, ?_⟩
  rintro _ rfl
  refine ⟨b1, ?_⟩
  rintro _ rfl
  refine ⟨b1, ?_⟩
  rintro _ rfl
  refine ⟨b1, ?_⟩
  rintro _ rfl
  refine ⟨b1, ?_⟩
  rintro _ rfl
  have u : ∀ {m : vv_S} {i j : Nat} {v : Int32}, 2 ≤ i → i ≤ 19 → hsz i ≤ j → FrT m (vv_up m i j v) := fun h1 h2 h3 => FrT.up h1 h2 h3
  refine h _ ((u (by decide) (by decide) (by decide)).trans ((u (by decide) (by decide) (by decide)).trans ((u (by decide) (by decide) (by decide)).trans ((u (by decide) (by decide) (by decide)).trans ((u (by decide) (by decide) (by decide)).trans ((u (by decide) (by decide) (by decide)).trans ((u (by decide) (by decide) (by decide)).trans ((u (by decide) (by decide) (by decide)).trans (u (by decide) (by decide) (by decide))))))))))
    ⟨⟨?_, fun k hk => absurd hk (Nat.not_lt_zero _), fun k hk => absurd hk (Nat.not_lt_zero _)⟩, ⟨?_, ?_, ?_, ?_⟩, ⟨?_, fun k hk => absurd hk (Nat.not_lt_zero _), fun k hk => absurd hk (Nat.not_lt_zero _)⟩, ⟨?_, fun k hk => absurd hk (Nat.not_lt_zero _), fun k hk => absurd hk (Nat.not_lt_zero _), fun k hk => absurd hk (Nat.not_lt_zero _)⟩, ⟨?_, fun i s hi => absurd hi (Nat.not_lt_zero _)⟩, ⟨?_, fun k hk => absurd hk (Nat.not_lt_zero _), fun k hk => absurd hk (Nat.not_lt_zero _)⟩⟩ <;> simp [vv_up_app] <;> rfl
theorem s_readAll {n : Nat} {TX : Nat → Int32} {m : vv_S} (hm : TXM n TX m) {post : Int32 → vv_S → Prop}
    (h0 : ∀ a, ra (ltt n TX) n 201 0 T0 = .inl a → ∀ m', FrT m m' → post (nI a) m')
    (h1 : ∀ T, ra (ltt n TX) n 201 0 T0 = .inr T → ∀ m', FrT m m' → TM T m' → post (-4) m') : wX9_readAll m post := by
  have hn200 := hm.1
  unfold wX9_readAll
  refine s_noDam ?_
  intro m1 hf1 ht1
  rintro _ rfl
  have key : ∀ (fu a : Nat) (T : vT) (m' : vv_S), a ≤ n → 201 ≤ fu + a → tOk T → ra (ltt n TX) n fu a T = ra (ltt n TX) n 201 0 T0 → FrT m m' → m' 0 29 = nI a → TM T m' → lX9_readAll_1 post (fu + 1) m' := by
    intro fu
    induction fu with
    | zero => intro a T m' h1 h2; omega
    | succ fu ih =>
      intro a T m' han hfa hT hr hf' h29 htm
      have hx := hm.frT hf'
      unfold lX9_readAll_1
      rw [hx.2.1, h29, nI_leI (by omega) (by omega)]
      refine ⟨fun y => h1 T (hr.symm.trans (ra_end y)) m' hf' htm, fun y => ?_⟩
      rintro _ rfl
      refine s_item hT (by omega) hx h29 htm (fun en m2 hf2 => ?_) (fun T' b es m2 hf2 ht2 hb => ?_)
      · exact ⟨fun z => absurd rfl z, fun _ => h0 a (hr.symm.trans (ra_n y en)) m2 (hf'.trans hf2)⟩
      · have hok := st_ok hT es
        have hlt := ltt_59 hok.2.2.2
        exact ⟨fun _ => ih b T' m2 (by omega) (by omega) hok.1 ((ra_s y es).symm.trans hr) (hf'.trans hf2) hb ht2, fun z => absurd z (by decide)⟩
  exact ⟨202, key 201 0 T0 _ (Nat.zero_le _) (by omega) T0_ok rfl (hf1.trans FrS.sp.toT) vv_up_s (ht1.frS FrS.sp)⟩

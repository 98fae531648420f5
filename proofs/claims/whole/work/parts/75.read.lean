theorem TC.frX {p : Nat} (hp1 : 4 ≤ p) {T : vT} (hT : tOk T) {c c' : vv_S} (h : TC p T c) (e : ∀ i, 4 ≤ i → c' i = c i) : TC p T c' := by
  obtain ⟨ta, tb, tf, tr, tk, tj⟩ := h
  exact ⟨ta.fr rfl (by rw [e _ (by omega)]) (e _ (by omega)) (e _ (by omega)), tb.fr ⟨rfl, rfl, rfl, rfl⟩ (fun j a b => by rw [e _ (by omega)]), tf.fr rfl (by rw [e _ (by omega)]) (e _ (by omega)) (e _ (by omega)), tr.fr rfl (by rw [e _ (by omega)]) (e _ (by omega)) (e _ (by omega)) (e _ (by omega)), tk.fr hT.2.2.2.2.1 ⟨rfl, rfl⟩ (by rw [e _ (by omega)]) (fun i hi => e _ (by omega)), tj.fr rfl (by rw [e _ (by omega)]) (e _ (by omega)) (e _ (by omega))⟩
theorem s_clear {p : Nat} {c : vv_S} {post : vv_S → Prop} (h : ∀ c', FrP p c c' → TC p T0 c' → post c') : wX4_clear p c post := by
  unfold wX4_clear wX1_clear wX2_clear
  rintro _ rfl _ rfl _ rfl _ rfl _ rfl _ rfl _ rfl _ rfl _ rfl
  refine h _ (fun i a => by rw [vv_up_r (by omega), vv_up_r (by omega), vv_up_r (by omega), vv_up_r (by omega), vv_up_r (by omega), vv_up_r (by omega), vv_up_r (by omega), vv_up_r (by omega), vv_up_r (by omega)]) ⟨⟨?_, fun k hk => absurd hk (Nat.not_lt_zero _), fun k hk => absurd hk (Nat.not_lt_zero _)⟩, ⟨?_, ?_, ?_, ?_⟩, ⟨?_, fun k hk => absurd hk (Nat.not_lt_zero _), fun k hk => absurd hk (Nat.not_lt_zero _)⟩, ⟨?_, fun k hk => absurd hk (Nat.not_lt_zero _), fun k hk => absurd hk (Nat.not_lt_zero _), fun k hk => absurd hk (Nat.not_lt_zero _)⟩, ⟨?_, fun i s hi => absurd hi (Nat.not_lt_zero _)⟩, ⟨?_, fun k hk => absurd hk (Nat.not_lt_zero _), fun k hk => absurd hk (Nat.not_lt_zero _)⟩⟩
  · rw [vv_up_r (by omega), vv_up_r (by omega), vv_up_r (by omega), vv_up_r (by omega), vv_up_i (by decide), vv_up_i (by decide), vv_up_i (by decide), vv_up_i (by decide), vv_up_s]; rfl
  · rw [vv_up_r (by omega), vv_up_r (by omega), vv_up_r (by omega), vv_up_r (by omega), vv_up_i (by decide), vv_up_i (by decide), vv_up_i (by decide), vv_up_s]; rfl
  · rw [vv_up_r (by omega), vv_up_r (by omega), vv_up_r (by omega), vv_up_r (by omega), vv_up_i (by decide), vv_up_i (by decide), vv_up_s]; rfl
  · rw [vv_up_r (by omega), vv_up_r (by omega), vv_up_r (by omega), vv_up_r (by omega), vv_up_i (by decide), vv_up_s]; rfl
  · rw [vv_up_r (by omega), vv_up_r (by omega), vv_up_r (by omega), vv_up_r (by omega), vv_up_s]; rfl
  · rw [vv_up_r (by omega), vv_up_r (by omega), vv_up_i (by decide), vv_up_s]; rfl
  · rw [vv_up_r (by omega), vv_up_r (by omega), vv_up_s]; rfl
  · rw [vv_up_i (by decide), vv_up_s]; rfl
  · rw [vv_up_s]; rfl
theorem s_flowIn {p : Nat} {T : vT} (hT : tOk T) {t : Nat} (ht : t ≤ 100) {c : vv_S} (hc : TF p T c) {post : Int32 → vv_S → Prop} (h : post (nI (flA (tF T) (tU T) t (tfc T)).2) c) : wX1_flowIn (p + 3) (nI t) c post := by
  obtain ⟨u1, u2, u3⟩ := hc
  obtain ⟨c1, c2⟩ := hT.2.2.1
  have e4 : (4 : Int32) = nI 4 := by decide
  unfold wX1_flowIn
  refine jn_of (fun f => f (nI (flA (tF T) (tU T) t (tfc T)).2)) h ?_
  intro f hf
  have key : ∀ (j i : Nat), i + j = tfc T → lX1_flowIn_1 c (p + 3) f (nI t) (j + 1) (if (flA (tF T) (tU T) t i).1 = 0 then -4 else nI ((flA (tF T) (tU T) t i).1 - 1)) (nI (flA (tF T) (tU T) t i).2) (nI i) := by
    intro j
    induction j with
    | zero =>
      intro i hi
      unfold lX1_flowIn_1
      rw [u1]
      exact ⟨fun _ => by rw [show i = tfc T by omega]; exact hf, fun y => absurd (nI_le (by omega) (by omega)) y⟩
    | succ j ih =>
      intro i hi
      have hci : (nI i).toNatClampNeg = i := nI_clamp (by omega)
      have hin : vp_in (nI i) 4 := vp_in_nI (by omega) (by decide)
      have hFU := c2 i (by omega)
      have hbd := flA_bd (t := t) (n := i) (fun k hk => c2 k (by omega))
      have ef : flA (tF T) (tU T) t (i + 1) = if tF T i ≤ t ∧ (flA (tF T) (tU T) t i).1 ≤ tF T i + 1 then (tF T i + 1, tU T i) else flA (tF T) (tU T) t i := rfl
      unfold lX1_flowIn_1
      rw [u1, hci]
      show _ ∧ (_ → (_ → _) ∧ (_ → _ ∧ vv_jn _ (fun k61 => (nI t < c (p + 4) i → _) ∧ (¬ nI t < c (p + 4) i → _ ∧ (c (p + 4) i < _ → _) ∧ (¬ c (p + 4) i < _ → _ ∧ ∀ v18, v18 = c (p + 4) i → _ ∧ ∀ v20, v20 = c (p + 5) i → _)))))
      rw [u2 i (by omega), u3 i (by omega)]
      refine ⟨fun y => absurd y (nI_ge (by omega) (by omega)), fun _ => ⟨fun y => absurd y (by rw [e4]; exact nI_ge (by omega) (by decide)), fun _ => ⟨hin, ?_⟩⟩⟩
      refine jn_of (fun k => k (if (flA (tF T) (tU T) t (i + 1)).1 = 0 then -4 else nI ((flA (tF T) (tU T) t (i + 1)).1 - 1)) (nI (flA (tF T) (tU T) t (i + 1)).2)) ?_ ?_
      · rintro _ rfl
        rw [nI_1]
        exact ih (i + 1) (by omega)
      · intro k hk
        have hlt : nI (tF T i) < (if (flA (tF T) (tU T) t i).1 = 0 then -4 else nI ((flA (tF T) (tU T) t i).1 - 1)) ↔ ¬ (flA (tF T) (tU T) t i).1 ≤ tF T i + 1 := by
          by_cases y : (flA (tF T) (tU T) t i).1 = 0
          · rw [if_pos y]
            exact ⟨fun z => absurd (Int32.lt_of_le_of_lt (nI_pos' (n := tF T i) (by omega)) z) (by decide), fun z => absurd (by omega) z⟩
          · rw [if_neg y, nI_ltI (by omega) (by omega)]
            omega
        rw [nI_ltI (by omega) (by omega), hlt]
        refine ⟨fun y => ?_, fun y => ⟨hin, fun y2 => ?_, fun y2 => ⟨hin, ?_⟩⟩⟩
        · rw [if_neg (fun z => by omega)] at ef; rw [ef] at hk; exact hk
        · rw [if_neg (fun z => y2 z.2)] at ef; rw [ef] at hk; exact hk
        · rintro _ rfl
          refine ⟨hin, ?_⟩
          rintro _ rfl
          rw [if_pos ⟨by omega, Classical.byContradiction y2⟩] at ef
          rw [ef] at hk
          dsimp only at hk
          rw [if_neg (Nat.succ_ne_zero _), Nat.add_sub_cancel] at hk
          exact hk
  exact ⟨tfc T + 1, key (tfc T) 0 (by omega)⟩
theorem s_rainIn {p : Nat} {T : vT} (hT : tOk T) {t : Nat} (ht : t ≤ 100) {c : vv_S} (hc : TR p T c) {post : Int32 → vv_S → Prop} (h : post (nI (rnA (tRF T) (tRT T) (tRU T) t (trc T))) c) : wX1_rainIn (p + 3) (nI t) c post := by
  obtain ⟨u1, u2, u3, u4⟩ := hc
  obtain ⟨c1, c2⟩ := hT.2.2.2.1
  have e4 : (4 : Int32) = nI 4 := by decide
  unfold wX1_rainIn
  refine jn_of (fun f => f (nI (rnA (tRF T) (tRT T) (tRU T) t (trc T)))) h ?_
  intro f hf
  have key : ∀ (j i : Nat), i + j = trc T → lX1_rainIn_1 c (p + 3) f (nI t) (j + 1) (nI (rnA (tRF T) (tRT T) (tRU T) t i)) (nI i) := by
    intro j
    induction j with
    | zero =>
      intro i hi
      unfold lX1_rainIn_1
      rw [u1]
      exact ⟨fun _ => by rw [show i = trc T by omega]; exact hf, fun y => absurd (nI_le (by omega) (by omega)) y⟩
    | succ j ih =>
      intro i hi
      have hci : (nI i).toNatClampNeg = i := nI_clamp (by omega)
      have hin : vp_in (nI i) 4 := vp_in_nI (by omega) (by decide)
      have hb := c2 i (by omega)
      have ef : rnA (tRF T) (tRT T) (tRU T) t (i + 1) = rnA (tRF T) (tRT T) (tRU T) t i + (if tRF T i ≤ t ∧ t ≤ tRT T i then tRU T i else 0) := rfl
      unfold lX1_rainIn_1
      rw [u1, hci]
      show _ ∧ (_ → (_ → _) ∧ (_ → _ ∧ vv_jn _ (fun k61 => (nI t < c (p + 6) i → _) ∧ (¬ nI t < c (p + 6) i → _ ∧ (c (p + 7) i < nI t → _) ∧ (¬ c (p + 7) i < nI t → _ ∧ ∀ v18, v18 = _ + c (p + 8) i → _)))))
      rw [u2 i (by omega), u3 i (by omega), u4 i (by omega)]
      refine ⟨fun y => absurd y (nI_ge (by omega) (by omega)), fun _ => ⟨fun y => absurd y (by rw [e4]; exact nI_ge (by omega) (by decide)), fun _ => ⟨hin, ?_⟩⟩⟩
      refine jn_of (fun k => k (nI (rnA (tRF T) (tRT T) (tRU T) t (i + 1)))) ?_ ?_
      · rintro _ rfl
        rw [nI_1]
        exact ih (i + 1) (by omega)
      · intro k hk
        rw [nI_ltI (by omega) (by omega), nI_ltI (by omega) (by omega)]
        refine ⟨fun y => ?_, fun y => ⟨hin, fun y2 => ?_, fun y2 => ⟨hin, ?_⟩⟩⟩
        · rw [ef, if_neg (fun z => by omega), Nat.add_zero] at hk; exact hk
        · rw [ef, if_neg (fun z => by omega), Nat.add_zero] at hk; exact hk
        · rintro _ rfl
          rw [nI_add]
          rw [ef, if_pos (by omega)] at hk
          exact hk
  exact ⟨trc T + 1, key (trc T) 0 (by omega)⟩
theorem s_settle {p : Nat} (hp1 : 4 ≤ p) {T : vT} (hT : tOk T) {c : vv_S} (hc : TC p T c) {post : vv_S → Prop} (h : ∀ c', (∀ i, i ≠ p + 9 → c' i = c i) → (∀ t, t ≤ 100 → c' (p + 9) t = nI (tC T t)) → post c') : wX1_settle (p + 3) c post := by
  have e100 : (100 : Int32) = nI 100 := by decide
  have key : ∀ (j i : Nat) (c' : vv_S), i + j = 101 → (∀ i, i ≠ p + 9 → c' i = c i) → (∀ t, t < i → c' (p + 9) t = nI (tC T t)) → lX1_settle_1 post (p + 3) (j + 1) (nI i) c' := by
    intro j
    induction j with
    | zero =>
      intro i c' hi hf hb
      unfold lX1_settle_1
      refine ⟨fun _ => h c' hf (fun t ht => hb t (by omega)), fun y => absurd (by rw [e100]; exact nI_lt (by omega) (by omega)) y⟩
    | succ j ih =>
      intro i c' hi hf hb
      have hci : (nI i).toNatClampNeg = i := nI_clamp (by omega)
      have tf : TF p T c' := hc.2.2.1.fr rfl (by rw [hf _ (by omega)]) (hf _ (by omega)) (hf _ (by omega))
      have tr : TR p T c' := hc.2.2.2.1.fr rfl (by rw [hf _ (by omega)]) (hf _ (by omega)) (hf _ (by omega)) (hf _ (by omega))
      unfold lX1_settle_1
      refine ⟨fun y => absurd y (by rw [e100]; exact nI_nlt (by omega) (by omega)), fun _ => s_flowIn hT (by omega) tf (s_rainIn hT (by omega) tr ⟨vp_in_nI (by omega) (by decide), ?_⟩)⟩
      rw [hci, nI_add]
      rintro _ rfl _ rfl
      rw [nI_1]
      refine ih (i + 1) _ (by omega) (fun i' a => by rw [vv_up_r (by omega)]; exact hf i' a) (fun t ht => ?_)
      show vv_up c' (p + 9) i _ (p + 9) t = _
      by_cases y : t = i
      · rw [y, vv_up_s]; rfl
      · rw [vv_up_i y]; exact hb t (by omega)
  exact ⟨102, key 101 0 c (by omega) (fun _ _ => rfl) (fun t ht => absurd ht (Nat.not_lt_zero _))⟩
def FrY (p : Nat) (c c' : vv_S) : Prop := (∀ i, i ≠ 1 → i ≠ 3 → ¬ (p ≤ i ∧ i ≤ p + 18) → c' i = c i) ∧ ∀ j, j ≠ 3 → c' 1 j = c 1 j
theorem FrY.trans {p : Nat} {c c' c2 : vv_S} (h : FrY p c c') (g : FrY p c' c2) : FrY p c c2 := ⟨fun i a b d => by rw [g.1 i a b d, h.1 i a b d], fun j a => by rw [g.2 j a, h.2 j a]⟩
theorem FrX.toY {p : Nat} {c c' : vv_S} (h : FrX c c') : FrY p c c' := ⟨fun i a b _ => h.1 i a b, h.2⟩
theorem FrP.toY {p : Nat} (hp1 : 4 ≤ p) {c c' : vv_S} (h : FrP p c c') : FrY p c c' := ⟨fun i _ _ d => h i d, fun j _ => by rw [h 1 (by omega)]⟩
theorem TXT.frY {p : Nat} (hp1 : 4 ≤ p) {n : Nat} {TX : Nat → Int32} {c c' : vv_S} (h : TXT n TX c) (hf : FrY p c c') : TXT n TX c' := ⟨h.1, by rw [hf.2 1 (by decide)]; exact h.2.1, by rw [hf.1 2 (by decide) (by decide) (by omega)]; exact h.2.2⟩
theorem s_readFrom {p : Nat} (hp1 : 4 ≤ p) {n : Nat} {TX : Nat → Int32} {c : vv_S} (hc : TXT n TX c) {post : Int32 → vv_S → Prop}
    (h0 : ∀ a, ra (ltt n TX) n 201 0 T0 = .inl a → ∀ c', FrY p c c' → a ≤ 200 → post (nI a) c')
    (h1 : ∀ T, ra (ltt n TX) n 201 0 T0 = .inr T → tOk T → ∀ c', FrY p c c' → TC p T c' → (∀ t, t ≤ 100 → c' (p + 9) t = nI (tC T t)) → post (-4) c') : wX4_readFrom p c post := by
  have hn200 := hc.1
  have e200 : (200 : Int32) = nI 200 := by decide
  unfold wX4_readFrom
  refine s_clear ?_
  intro c1 hf1 ht1
  refine jn_of (fun f => ∀ T, ra (ltt n TX) n 201 0 T0 = .inr T → tOk T → ∀ c', FrY p c c' → TC p T c' → f c') ?_ ?_
  · intro T hr hT c' hf' htc
    refine s_settle hp1 hT htc ?_
    intro c2 hf2 hb
    refine h1 T hr hT c2 (hf'.trans ⟨fun i a b d => hf2 i (by omega), fun j a => by rw [hf2 1 (by omega)]⟩) ?_ hb
    obtain ⟨ta, tb, tf, tr, tk, tj⟩ := htc
    have e := hf2
    exact ⟨ta.fr rfl (by rw [e _ (by omega)]) (e _ (by omega)) (e _ (by omega)), tb.fr ⟨rfl, rfl, rfl, rfl⟩ (fun j a b => by rw [e _ (by omega)]), tf.fr rfl (by rw [e _ (by omega)]) (e _ (by omega)) (e _ (by omega)), tr.fr rfl (by rw [e _ (by omega)]) (e _ (by omega)) (e _ (by omega)) (e _ (by omega)), tk.fr hT.2.2.2.2.1 ⟨rfl, rfl⟩ (by rw [e _ (by omega)]) (fun i hi => e _ (by omega)), tj.fr rfl (by rw [e _ (by omega)]) (e _ (by omega)) (e _ (by omega))⟩
  · intro f hf
    refine jn_of (fun g => ∀ a, ra (ltt n TX) n 201 0 T0 = .inl a → ∀ c', FrY p c c' → a ≤ 200 → g (nI a) c') h0 ?_
    intro g hg
    have key : ∀ (fu a t : Nat) (T : vT) (c' : vv_S), a ≤ n → t ≤ a → 201 ≤ fu + a → tOk T → ra (ltt n TX) n fu a T = ra (ltt n TX) n 201 0 T0 → FrY p c c' → TC p T c' → lX4_readFrom_1 f g p (fu + 1) (nI a) (nI t) c' := by
      intro fu
      induction fu with
      | zero => intro a t T c' h1 h2 h3; omega
      | succ fu ih =>
        intro a t T c' han hta hfa hT hr hf' htc
        have hx := hc.frY hp1 hf'
        unfold lX4_readFrom_1 wX7_size
        dsimp only
        rw [hx.2.1, nI_leI (by omega) (by omega)]
        by_cases hna : n ≤ a
        · have er : ra (ltt n TX) n (fu + 1) a T = .inr T := ra_end hna
          have := hf T (hr.symm.trans er) hT c' hf' htc
          exact ⟨fun _ => this, fun _ => ⟨fun _ => this, fun y => absurd hna y⟩⟩
        · refine ⟨fun y => absurd y (by rw [e200]; exact nI_ge (by omega) (by decide)), fun _ => ⟨fun y => absurd y hna, fun _ => s_readItem (by omega) hx ?_ ?_⟩⟩
          · intro en c2 hf2
            have er : ra (ltt n TX) n (fu + 1) a T = .inl a := ra_n hna (st_n1 en)
            exact ⟨fun _ => hg a (hr.symm.trans er) c2 (hf'.trans hf2.toY) (by omega), fun y => absurd rfl y⟩
          · intro L b es c2 hf2 g3 gn
            have hb := rdN_bd es
            refine ⟨fun y => absurd y (nI_nm4 (by omega)), fun _ => s_letterAt (by omega) (hx.fr hf2) ?_⟩
            refine s_takeItem hp1 hT (by omega) hb.2.2.1 (htc.frX hp1 hT (fun i hi => hf2.1 i (by omega) (by omega))) g3 gn ?_ ?_
            · intro en c3 hf3
              have er : ra (ltt n TX) n (fu + 1) a T = .inl a := ra_n hna (st_n2 es en)
              exact ⟨fun z => absurd rfl z, fun _ => hg a (hr.symm.trans er) c3 ((hf'.trans hf2.toY).trans (hf3.toY hp1)) (by omega)⟩
            · intro T' eT c3 hf3 ht3
              have es2 := st_s es eT
              have hok := st_ok hT es2
              have hlt := ltt_59 hok.2.2.2
              dsimp only at hok hlt
              have er : ra (ltt n TX) n (fu + 1) a T = ra (ltt n TX) n fu b T' := ra_s hna es2
              refine ⟨fun _ => ?_, fun z => absurd z (by decide)⟩
              rintro _ rfl
              rw [nI_1]
              exact ih b (t + 1) T' c3 (by omega) (by omega) (by omega) hok.1 (er.symm.trans hr) ((hf'.trans hf2.toY).trans (hf3.toY hp1)) ht3
    exact ⟨202, key 201 0 0 T0 c1 (Nat.zero_le _) (Nat.le_refl _) (by omega) T0_ok rfl (hf1.toY hp1) ht1⟩

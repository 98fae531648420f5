def sG (k mm : Nat) (E : vD) (i : Nat) : vD := if (i + 1) % mm = 0 ∧ 1 ≤ dH E k then reD E k (dH E k - 1) (dO E k) else E
def sDs (P : vP) (D : vD) (k mm : Nat) : Nat → vD
  | 0 => D
  | i + 1 => mn P (sG k mm (sDs P D k mm i) i) 0
def sMx (P : vP) (D : vD) (k mm : Nat) : Nat → Nat
  | 0 => 0
  | i + 1 => max (sMx P D k mm i) (mnV P (sG k mm (sDs P D k mm i) i) 0)
def eI (P : vP) (D : vD) (k mm : Nat) : Nat → Int32
  | 0 => -4
  | i + 1 => if 0 ≤ eI P D k mm i then eI P D k mm i else if lv (pA P) (pS P) (dW (sDs P D k mm (i + 1))) 60 = 0 then nI (i + 1) else eI P D k mm i
theorem sG_ok {P : vP} {E : vD} (hE : dOk P E) {k mm i : Nat} (hk : k < pN P) : dOk P (sG k mm E i) := by
  unfold sG
  have := hE.1 k hk
  split
  · exact reD_ok hE (by omega) (by omega)
  · exact hE
theorem sG_M {E : vD} {k mm i : Nat} : dM (sG k mm E i) = dM E := by
  unfold sG
  split <;> rfl
theorem sDs_ok {P : vP} (hp : pOk P) {D : vD} (hd : dOk P D) {k mm : Nat} (hk : k < pN P) : ∀ i, dOk P (sDs P D k mm i)
  | 0 => hd
  | i + 1 => mn_ok hp (sG_ok (sDs_ok hp hd hk i) hk)
theorem sDs_M {P : vP} {D : vD} {k mm : Nat} : ∀ i, dM (sDs P D k mm i) = dM D + i
  | 0 => rfl
  | i + 1 => by
    show dM (sG k mm (sDs P D k mm i) i) + 1 = _
    rw [sG_M, sDs_M i]
    omega
theorem sMx_bd {P : vP} (hp : pOk P) {D : vD} (hd : dOk P D) {k mm : Nat} (hk : k < pN P) : ∀ i, sMx P D k mm i ≤ 7615
  | 0 => Nat.zero_le _
  | i + 1 => by
    have h1 := sMx_bd hp hd (mm := mm) hk i
    have h2 := mnV_bd hp (sG_ok (sDs_ok hp hd (mm := mm) hk i) (mm := mm) (i := i) hk) (x := 0) (by omega)
    show max _ _ ≤ _
    omega
theorem eI_val (P : vP) (D : vD) (k mm : Nat) : ∀ i, eI P D k mm i = -4 ∨ ∃ j, j ≤ i ∧ eI P D k mm i = nI j
  | 0 => Or.inl rfl
  | i + 1 => by
    have h := eI_val P D k mm i
    unfold eI
    split
    · rcases h with h | ⟨j, h1, h2⟩
      · exact Or.inl h
      · exact Or.inr ⟨j, by omega, h2⟩
    · split
      · exact Or.inr ⟨i + 1, by omega, rfl⟩
      · rcases h with h | ⟨j, h1, h2⟩
        · exact Or.inl h
        · exact Or.inr ⟨j, by omega, h2⟩
theorem eI_stay {P : vP} {D : vD} {k mm : Nat} {i n : Nat} (hn : i ≤ n) (h : 0 ≤ eI P D k mm i) : eI P D k mm n = eI P D k mm i := by
  induction hn with
  | refl => rfl
  | step _ ih =>
    rw [eI, ih, if_pos h]
theorem md_step {mm : Nat} (h1 : 1 ≤ mm) (h9 : mm ≤ 9) (i : Nat) : (i % mm + 1 = mm ↔ (i + 1) % mm = 0) ∧ (i % mm + 1 ≠ mm → (i + 1) % mm = i % mm + 1) := by
  rcases (by omega : mm = 1 ∨ mm = 2 ∨ mm = 3 ∨ mm = 4 ∨ mm = 5 ∨ mm = 6 ∨ mm = 7 ∨ mm = 8 ∨ mm = 9) with rfl | rfl | rfl | rfl | rfl | rfl | rfl | rfl | rfl <;> omega
theorem s_letOut {P : vP} (hp : pOk P) {D : vD} (hd : dOk P D) (hm9 : dM D ≤ 999) {k mm : Nat} (hk : k < pN P) (h1 : 1 ≤ mm) (h9 : mm ≤ 9) {a3 : Int32} {c : vv_S} {post : Int32 → vv_S → Prop} (hc : PC P c) (h0 : DR P 42 D c)
    (kk : ∀ c', Fr4 46 c c' → post (if a3 = 0 then nI (sMx P D k mm 60) else eI P D k mm 60) c') : wX8_letOut (nI k) (nI mm) a3 c post := by
  have hn8 := hp.2.1
  have e60 : (60 : Int32) = nI 60 := by decide
  unfold wX8_letOut
  refine s_copyFrom hp hd hc h0 ?_
  intro c1 hf1 hd1
  refine jn_of (fun f => ∀ c', Fr4 46 c c' → (¬ a3 = 0 → eI P D k mm 60 = -4) → f (nI (sMx P D k mm 60)) c') ?_ ?_
  · intro c' hf' he
    refine jn_of (fun f => f (if a3 = 0 then nI (sMx P D k mm 60) else eI P D k mm 60)) (kk c' hf') (fun f hf => ⟨fun y => by rw [if_pos y] at hf; exact hf, fun y => by rw [if_neg y, he y] at hf; exact hf⟩)
  · intro f hf
    have key : ∀ (j i : Nat) (c' : vv_S), i + j = 60 → (¬ a3 = 0 → eI P D k mm i = -4) → Fr4 46 c c' → DP P 46 (sDs P D k mm i) c' → lX8_letOut_1 f a3 post (nI mm) (nI k) (j + 1) (nI (sMx P D k mm i)) (nI (i % mm)) (nI (i + 1)) c' := by
      intro j
      induction j with
      | zero =>
        intro i c' hi he hf' hd'
        unfold lX8_letOut_1
        refine ⟨fun _ => ?_, fun y => absurd ?_ y⟩
        · have e : i = 60 := by omega
          subst e
          exact hf c' hf' he
        · rw [e60]; exact nI_lt (by omega) (by omega)
      | succ j ih =>
        intro i c' hi he hf' hd'
        have ei := sDs_ok hp hd (mm := mm) hk i
        have eM : dM (sDs P D k mm i) = dM D + i := sDs_M i
        have hmd := md_step h1 h9 i
        have hml := Nat.mod_lt i (show 0 < mm by omega)
        unfold lX8_letOut_1
        refine ⟨fun y => absurd y ?_, fun _ => ?_⟩
        · rw [e60]; exact nI_nlt (by omega) (by omega)
        rintro _ rfl
        rw [nI_1 (i % mm), nI_eq (a := i % mm + 1) (b := mm) (by omega) (by omega)]
        refine jn_of (fun k60 => ∀ σ, Fr4 46 c σ → DP P 46 (sG k mm (sDs P D k mm i) i) σ → k60 (nI ((i + 1) % mm)) σ) ?_ ?_
        · intro σ hfσ hdσ
          have eg := sG_ok ei (mm := mm) (i := i) hk
          refine s_oneMinute hp (by decide) eg (x := 0) (by omega) (by rw [sG_M, eM]; omega) (hc.fr (by decide) hfσ) hdσ ?_
          intro c3 hf3 hd3 w1 _ _
          have hf13 := hfσ.trans hf3.to4
          have pc3 := hc.fr (d := 46) (by decide) hf13
          have hV := mnV_bd hp eg (x := 0) (by omega)
          have hX := sMx_bd hp hd (mm := mm) hk i
          have hw := (sDs_ok hp hd (mm := mm) hk (i + 1)).2.1
          unfold wX3_overInMinute
          rw [w1]
          rintro _ rfl
          have em : (if nI (sMx P D k mm i) < nI (mnV P (sG k mm (sDs P D k mm i) i) 0) then nI (mnV P (sG k mm (sDs P D k mm i) i) 0) else nI (sMx P D k mm i)) = nI (sMx P D k mm (i + 1)) := by
            show _ = nI (max _ _)
            by_cases y : sMx P D k mm i < mnV P (sG k mm (sDs P D k mm i) i) 0
            · rw [if_pos (nI_lt y (by omega)), Nat.max_eq_right (by omega)]
            · rw [if_neg (nI_nlt (by omega) (by omega)), Nat.max_eq_left (by omega)]
          rw [em]
          refine jn_of (fun g => (¬ a3 = 0 → eI P D k mm (i + 1) = -4) → g c3) ?_ ?_
          · intro he2
            rintro _ rfl
            rw [nI_1]
            exact ih (i + 1) c3 (by omega) he2 hf13 hd3
          · intro g hg
            refine ⟨fun y => hg (fun z => absurd y z), fun y => s_level hp (sDs_ok hp hd (mm := mm) hk (i + 1)) pc3 hd3.1.2.2.1 ?_⟩
            have hl := lv_le (pA P) (pS P) (dW (sDs P D k mm (i + 1))) 60
            have hz : nI (lv (pA P) (pS P) (dW (sDs P D k mm (i + 1))) 60) = 0 ↔ lv (pA P) (pS P) (dW (sDs P D k mm (i + 1))) 60 = 0 := by rw [vn0]; exact nI_eq (by omega) (by decide)
            have e4 := he y
            have es : eI P D k mm (i + 1) = if lv (pA P) (pS P) (dW (sDs P D k mm (i + 1))) 60 = 0 then nI (i + 1) else -4 := by
              rw [eI, e4, if_neg (by decide)]
            refine ⟨fun y2 => hg (fun _ => ?_), fun y2 => ?_⟩
            · rw [es, if_neg (fun w => y2 (hz.mpr w))]
            · have := kk c3 hf13
              rw [if_neg y] at this
              rw [if_pos (hz.mp y2)] at es
              rw [eI_stay (show i + 1 ≤ 60 by omega) (by rw [es]; exact nI_pos' (by omega)), es] at this
              exact this
        · intro k60 hk60
          refine ⟨fun y => ?_, fun y => s_canDig hp ei hk (a := 1) (by omega) hd'.1 ?_⟩
          · rw [← hmd.2 y]
            refine hk60 c' hf' ?_
            unfold sG
            rw [if_neg (fun w => y (hmd.1.mpr w.1))]
            exact hd'
          · rw [show (0 : Int32) = nI 0 from rfl, ← hmd.1.mp y]
            rw [show nI ((i + 1) % mm) = nI ((i + 1) % mm) from rfl]
            by_cases y2 : 1 ≤ dH (sDs P D k mm i) k
            · rw [if_pos y2]
              refine ⟨fun z => absurd z (by rw [hmd.1.mp y]; decide), fun _ => s_digAt hp (by decide) ei hk (a := 1) y2 (hc.fr (by decide) hf') hd'.1 ?_⟩
              intro c2 hf2 hd2
              refine hk60 c2 (hf'.trans hf2) ?_
              unfold sG
              rw [if_pos ⟨hmd.1.mp y, y2⟩]
              exact hd2
            · rw [if_neg y2]
              refine ⟨fun _ => hk60 c' hf' ?_, fun z => absurd (by rw [hmd.1.mp y]) z⟩
              unfold sG
              rw [if_neg (fun w => y2 w.2)]
              exact hd'
    refine ⟨61, ?_⟩
    have := key 60 0 c1 (by omega) (fun _ => rfl) hf1 hd1
    rw [show (0 % mm) = 0 from Nat.zero_mod _] at this
    exact this
theorem s_isSlow {P : vP} (hp : pOk P) {D : vD} (hd : dOk P D) (hm9 : dM D ≤ 999) {k u mm : Nat} (hk : k < pN P) (hu : u ≤ 999) (h1 : 1 ≤ mm) (h9 : mm ≤ 9) {m : vv_S} {post : Int32 → vv_S → Prop} (hm : PM P m) (h0 : DM P 0 D m)
    (kk : ∀ m', FQM m m' → m' 0 47 = eI P D k mm 60 → post (if sMx P D k mm 60 ≤ u then 1 else 0) m') : wX9_isSlow (nI k) (nI u) (nI mm) m post := by
  have hn8 := hp.2.1
  obtain ⟨-, -, -, -, -, -, hA, hS, -⟩ := id hp
  have e60 : (60 : Int32) = nI 60 := by decide
  have hcl : (nI (8 + k)).toNatClampNeg = 8 + k := nI_clamp (by omega)
  have hin : vp_in (nI (8 + k)) 16 := vp_in_nI (by omega) (by decide)
  unfold wX9_isSlow
  refine s_tryIt hp h0 ?_
  intro m1 hg1 he1
  rintro _ rfl
  have q47 : ∀ (m' : vv_S) (v : Int32), FQM m' (vv_up m' 0 47 v) := fun m' v => ⟨fun i a b => vv_up_r (by omega), fun i a => vv_up_i (by omega), fun k hk => by simp [vv_up_app], by simp [vv_up_app], by simp [vv_up_app], by simp [vv_up_app], by simp [vv_up_app]⟩
  have d47 : ∀ {m' : vv_S} {v : Int32} {E : vD}, DM P 1 E m' → DM P 1 E (vv_up m' 0 47 v) := fun {m' v E} h => by
    obtain ⟨r1, r4, r5, r6, r7⟩ := h
    refine ⟨fun k hk => ?_, by rw [vv_up_c (by decide)]; exact r4, by rw [vv_up_c (by decide)]; exact r5, by rw [vv_up_c (by decide)]; exact r6, by rw [vv_up_c (by decide)]; exact r7⟩
    rw [vv_up_c (by decide), vv_up_c (by decide), vv_up_c (by decide)]
    exact r1 k hk
  have key : ∀ (j i : Nat) (m' : vv_S), i + j = 60 → FQM m m' → DM P 1 (sDs P D k mm i) m' → m' 0 47 = eI P D k mm i → lX9_isSlow_1 post (nI k) (nI mm) (nI u) (j + 1) (if sMx P D k mm i ≤ u then 1 else 0) (nI (i + 1)) m' := by
    intro j
    induction j with
    | zero =>
      intro i m' hi hf' hd' h47
      unfold lX9_isSlow_1
      refine ⟨fun _ => ⟨by split <;> simp, ?_⟩, fun y => absurd ?_ y⟩
      · have e : i = 60 := by omega
        subst e
        exact kk m' hf' h47
      · rw [e60]; exact nI_lt (by omega) (by omega)
    | succ j ih =>
      intro i m' hi hf' hd' h47
      have ei := sDs_ok hp hd (mm := mm) hk i
      have eM : dM (sDs P D k mm i) = dM D + i := sDs_M i
      have pm' : PM P m' := hm.moved (fun i a b => hf'.1 i (by omega) (by omega))
      have eH : m' 28 (8 + k) = nI (dH (sDs P D k mm i) k) := (hd'.1 k hk).1
      have bH := (ei.1 k hk).1
      unfold lX9_isSlow_1
      rw [ix8', hcl, eH]
      refine ⟨fun y => absurd y ?_, fun _ => ⟨hin, ?_, ?_⟩⟩
      · rw [e60]; exact nI_nlt (by omega) (by omega)
      · exact nI_ne0 (by omega) (by omega)
      have ev : nI (i + 1) - nI (i + 1) / nI mm * nI mm = nI ((i + 1) % mm) := pk_rem (by omega) (by omega) (by omega)
      have hml := Nat.mod_lt (i + 1) (show 0 < mm by omega)
      have z1 : nI ((i + 1) % mm) = 0 ↔ (i + 1) % mm = 0 := by rw [vn0]; exact nI_eq (by omega) (by decide)
      have z2 : nI (dH (sDs P D k mm i) k) ≤ 0 ↔ ¬ 1 ≤ dH (sDs P D k mm i) k := by rw [vn0, nI_leI (by omega) (by decide)]; omega
      rw [ev]
      refine jn_of (fun f => f (if (i + 1) % mm = 0 ∧ 1 ≤ dH (sDs P D k mm i) k then 1 else 0)) ?_ ?_
      · refine ⟨hin, ?_⟩
        rintro _ rfl
        have hsub : nI (dH (sDs P D k mm i) k) - (if (i + 1) % mm = 0 ∧ 1 ≤ dH (sDs P D k mm i) k then 1 else 0) = nI (dH (sG k mm (sDs P D k mm i) i) k) := by
          unfold sG
          split
          · next y =>
            rw [vn1, pk_sub y.2]
            show _ = nI (uN _ _ _ _)
            rw [uN_s]
          · rw [vn0, pk_sub (by omega), Nat.sub_zero]
        rw [hsub]
        have e28 : ∀ j, (vv_up m' 28 (8 + k) (nI (dH (sG k mm (sDs P D k mm i) i) k))) 28 j = if j = 8 * 1 + k then nI (dH (sG k mm (sDs P D k mm i) i) k) else m' 28 j := fun j => by
          rw [vv_up_app]
          by_cases y : j = 8 + k
          · rw [if_pos ⟨rfl, y⟩, if_pos (by omega)]
          · rw [if_neg (fun w => y w.2), if_neg (by omega)]
        have e29 : ∀ j, (vv_up m' 28 (8 + k) (nI (dH (sG k mm (sDs P D k mm i) i) k))) 29 j = if j = 8 * 1 + k then nI (dO (sDs P D k mm i) k) else m' 29 j := fun j => by
          rw [vv_up_c (by decide)]
          by_cases y : j = 8 * 1 + k
          · rw [if_pos y, y]; exact (hd'.1 k hk).2.1
          · rw [if_neg y]
        have eo : ∀ i', i' ≠ 28 → i' ≠ 29 → (vv_up m' 28 (8 + k) (nI (dH (sG k mm (sDs P D k mm i) i) k))) i' = m' i' := fun i' a b => by rw [vv_up_r a]
        have hg2 := hf'.trans (FrW.re (b := 1) (show k < 8 by omega) e28 e29 eo).toQ
        have he2 := DM.re hp hk hd' e28 e29 eo
        have h472 : (vv_up m' 28 (8 + k) (nI (dH (sG k mm (sDs P D k mm i) i) k))) 0 47 = eI P D k mm i := by rw [vv_up_c (by decide)]; exact h47
        have eq : reD (sDs P D k mm i) k (dH (sG k mm (sDs P D k mm i) i) k) (dO (sDs P D k mm i) k) = sG k mm (sDs P D k mm i) i := by
          unfold sG
          split
          · show reD _ _ (uN _ _ _ _) _ = _
            rw [uN_s]
          · unfold reD
            rw [uN_id rfl, uN_id rfl]
        rw [eq] at he2
        revert hg2 he2 h472
        generalize vv_up m' 28 (8 + k) (nI (dH (sG k mm (sDs P D k mm i) i) k)) = m2
        intro hg2 he2 h472
        have eg := sG_ok ei (mm := mm) (i := i) hk
        refine s_go hp (b := 1) (by decide) eg (x := 0) (by omega) (by rw [sG_M, eM]; omega) (hm.moved (fun i a b => hg2.1 i (by omega) (by omega))) he2 ?_
        intro m3 hf3 hd3 w1 _ _
        have hq3 := hg2.trans hf3.toW.toQ
        have pm3 : PM P m3 := hm.moved (fun i a b => hq3.1 i (by omega) (by omega))
        have hV := mnV_bd hp eg (x := 0) (by omega)
        have hX := sMx_bd hp hd (mm := mm) hk i
        have hw := (sDs_ok hp hd (mm := mm) hk (i + 1)).2.1
        have h473 : m3 0 47 = eI P D k mm i := by rw [hf3.2.1 47 (by decide) (by decide) (by decide), h472]
        have ex : sMx P D k mm (i + 1) = max (sMx P D k mm i) (mnV P (sG k mm (sDs P D k mm i) i) 0) := rfl
        rw [w1, h473]
        refine jn_of (fun g => g (if sMx P D k mm (i + 1) ≤ u then 1 else 0)) ?_ ?_
        · refine jn_of (fun g => ∀ σ, σ = m3 → g (eI P D k mm (i + 1)) σ) ?_ ?_
          · rintro _ rfl _ rfl _ rfl
            rw [nI_1]
            exact ih (i + 1) _ (by omega) (hq3.trans (q47 _ _)) (d47 hd3) vv_up_s
          · intro g hg
            have hl := lv_le (pA P) (pS P) (dW (sDs P D k mm (i + 1))) 60
            have hz : nI (lv (pA P) (pS P) (dW (sDs P D k mm (i + 1))) 60) = 0 ↔ lv (pA P) (pS P) (dW (sDs P D k mm (i + 1))) 60 = 0 := by rw [vn0]; exact nI_eq (by omega) (by decide)
            have es : eI P D k mm (i + 1) = if 0 ≤ eI P D k mm i then eI P D k mm i else if lv (pA P) (pS P) (dW (sDs P D k mm (i + 1))) 60 = 0 then nI (i + 1) else eI P D k mm i := rfl
            refine jn_of (fun g2 => eI P D k mm (i + 1) = eI P D k mm i → g2 m3) (fun y => by rw [h473, ← y]; exact hg m3 rfl) ?_
            intro g2 hg2
            refine ⟨fun y => hg2 (by rw [es, if_pos y]), fun y => ?_⟩
            rw [hd3.2.1]
            refine s_levelOfM hA hS pm3.2.2.2.1 pm3.2.2.2.2.1 (w := dW (sDs P D k mm (i + 1))) (by omega) ⟨fun y2 => hg2 ?_, fun y2 => ?_⟩
            · rw [es, if_neg y, if_neg (fun w => y2 (hz.mpr w))]
            · have := hg m3 rfl
              rw [es, if_neg y, if_pos (hz.mp y2)] at this
              exact this
        · intro g hg
          have hu2 : nI u < nI (mnV P (sG k mm (sDs P D k mm i) i) 0) ↔ u < mnV P (sG k mm (sDs P D k mm i) i) 0 := nI_ltI (by omega) (by omega)
          refine jn_of (fun g2 => ¬ sMx P D k mm (i + 1) ≤ u → g2) (fun y => by rw [if_neg y] at hg; exact hg) ?_
          intro g2 hg2
          refine ⟨fun y => hg2 ?_, fun y => ⟨fun y2 => hg2 ?_, fun y2 => ?_⟩⟩
          · have : ¬ sMx P D k mm i ≤ u := fun w => by rw [if_pos w] at y; exact absurd y (by decide)
            omega
          · rw [hu2] at y2
            omega
          · have w1 : sMx P D k mm i ≤ u := by
              by_cases w : sMx P D k mm i ≤ u
              · exact w
              · rw [if_neg w] at y; exact absurd rfl y
            rw [hu2] at y2
            rw [if_pos (by omega)] at hg
            exact hg
      · intro f hf
        refine jn_of (fun g => ¬ ((i + 1) % mm = 0 ∧ 1 ≤ dH (sDs P D k mm i) k) → g) (fun y => by rw [if_neg y] at hf; exact hf) ?_
        intro g hg
        refine ⟨fun y => hg (fun w => y (z1.mpr w.1)), fun y => ⟨hin, fun y2 => hg (fun w => z2.mp y2 w.2), fun y2 => ?_⟩⟩
        have w2 : 1 ≤ dH (sDs P D k mm i) k := by
          by_cases w : 1 ≤ dH (sDs P D k mm i) k
          · exact w
          · exact absurd (z2.mpr w) y2
        rw [if_pos ⟨z1.mp y, w2⟩] at hf
        exact hf
  refine ⟨61, ?_⟩
  have := key 60 0 (vv_up m1 0 47 (-4)) (by omega) (hg1.toQ.trans (q47 _ _)) (d47 he1) vv_up_s
  exact this

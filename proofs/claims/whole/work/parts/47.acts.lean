theorem s_level {P : vP} (hP : pOk P) {d : Nat} {D : vD} (hD : dOk P D) {c : vv_S} {post : Int32 → vv_S → Prop} (hc : PC P c) (h4 : c d 4 = nI (dW D)) (k : post (nI (lv (pA P) (pS P) (dW D) 60)) c) : wX3_level d c post := by
  unfold wX3_level
  rw [h4]
  exact s_levelOf hP (by have := hD.2.1; omega) hc.2.2.2.1 hc.2.2.2.2.1 k
theorem s_allBreaches {P : vP} (hP : pOk P) {d : Nat} {D : vD} {c : vv_S} {post : Int32 → vv_S → Prop} (h0 : DR P d D c) (k : post (nI (sU (dB D) (pN P))) c) : wX3_allBreaches d c post := by
  obtain ⟨hn1, hn8, -⟩ := hP
  obtain ⟨r1, r2, -⟩ := h0
  have key : ∀ (j i t : Nat), i + j = 8 → t = (if i ≤ pN P then sU (dB D) i else sU (dB D) (pN P)) → lX3_allBreaches_1 post c d (j + 1) (nI t) (nI i) := by
    intro j
    induction j with
    | zero =>
      intro i t hi ht
      unfold lX3_allBreaches_1
      refine ⟨fun _ => ?_, fun q => absurd ?_ q⟩
      · have : t = sU (dB D) (pN P) := by
          rw [ht]
          split
          · rw [show i = pN P by omega]
          · rfl
        rw [this]
        exact k
      · rw [vn8]; exact nI_le (by omega) (by omega)
    | succ j ih =>
      intro i t hi ht
      have hcl : (nI i).toNatClampNeg = i := nI_clamp (by omega)
      unfold lX3_allBreaches_1
      rw [hcl]
      refine ⟨fun q => absurd q ?_, fun _ => ⟨vp_in_nI (by omega) (by decide), ?_⟩⟩
      · rw [vn8]; exact nI_ge (by omega) (by decide)
      rintro _ rfl _ rfl
      rw [nI_1]
      by_cases z : i < pN P
      · rw [(r1 i z).2.2, nI_add]
        refine ih (i + 1) _ (by omega) ?_
        rw [ht, if_pos (by omega), if_pos (by omega)]
        rfl
      · rw [r2 i (by omega) (by omega), show nI t + 0 = nI t from Int32.add_zero _]
        refine ih (i + 1) t (by omega) ?_
        rw [ht, if_neg (by omega : ¬ i + 1 ≤ pN P)]
        split
        · rw [show i = pN P by omega]
        · rfl
  exact ⟨9, key 8 0 0 (by omega) (by simp [sU])⟩
theorem s_wasBreached {P : vP} (hP : pOk P) {d : Nat} {D : vD} (hD : dOk P D) (hm : dM D ≤ 2000) {c : vv_S} {post : Int32 → vv_S → Prop} (h0 : DR P d D c) (k : post (if 0 < sU (dB D) (pN P) then 1 else 0) c) : wX3_wasBreached d c post := by
  have := hD.2.2
  unfold wX3_wasBreached
  refine s_allBreaches hP h0 ?_
  refine jn_of (fun f => f (if 0 < sU (dB D) (pN P) then 1 else 0)) ⟨by split <;> simp, k⟩ ?_
  intro f hf
  rw [vn0, nI_leI (by omega) (by decide)]
  refine ⟨fun q => ?_, fun q => ?_⟩
  · rw [if_neg (by omega)] at hf; exact hf
  · rw [if_pos (by omega)] at hf; exact hf
theorem s_firstHeight {P : vP} (hP : pOk P) {k : Nat} (hk : k < 8) {c : vv_S} {post : Int32 → vv_S → Prop} (hc : PC P c) (h : post (if k < pN P then nI (pH P k) else 0) c) : wX4_firstHeight 4 (nI k) c post := by
  obtain ⟨hn1, hn8, -⟩ := hP
  obtain ⟨c2, -, -, -, -, -, c5⟩ := hc
  have hcl : (nI k).toNatClampNeg = k := nI_clamp (by omega)
  unfold wX4_firstHeight
  rw [c2, hcl, nI_leI (by omega) (by omega)]
  refine jn_of (fun f => f (if k < pN P then nI (pH P k) else 0)) h (fun f hf => jn_of (fun f2 => ¬ k < pN P → f2) (fun q => by rw [if_neg q] at hf; exact hf) (fun f2 hf2 => ⟨fun q => absurd q (nI_pos (by omega)), fun _ => ⟨fun q => hf2 (by omega), fun q => ⟨fun q2 => absurd q2 ?_, fun _ => ⟨vp_in_nI hk (by decide), ?_⟩⟩⟩⟩))
  · rw [vn8]; exact nI_ge hk (by decide)
  · rw [if_pos (by omega), ← (c5 k (by omega)).1] at hf
    exact hf
theorem s_firstStuff {P : vP} (hP : pOk P) {k : Nat} (hk : k < 8) {c : vv_S} {post : Int32 → vv_S → Prop} (hc : PC P c) (h : post (if k < pN P then nI (pO P k) else 0) c) : wX4_firstStuff 4 (nI k) c post := by
  obtain ⟨hn1, hn8, -⟩ := hP
  obtain ⟨c2, -, -, -, -, -, c5⟩ := hc
  have hcl : (nI k).toNatClampNeg = k := nI_clamp (by omega)
  unfold wX4_firstStuff
  rw [c2, hcl, nI_leI (by omega) (by omega)]
  refine jn_of (fun f => f (if k < pN P then nI (pO P k) else 0)) h (fun f hf => jn_of (fun f2 => ¬ k < pN P → f2) (fun q => by rw [if_neg q] at hf; exact hf) (fun f2 hf2 => ⟨fun q => absurd q (nI_pos (by omega)), fun _ => ⟨fun q => hf2 (by omega), fun q => ⟨fun q2 => absurd q2 ?_, fun _ => ⟨vp_in_nI hk (by decide), ?_⟩⟩⟩⟩))
  · rw [vn8]; exact nI_ge hk (by decide)
  · rw [if_pos (by omega), ← (c5 k (by omega)).2] at hf
    exact hf
/-- the dam as the text tells it -/
def D0 (P : vP) : vD := (pH P, pO P, fun _ => 0, 0, 0, 0, 0)
theorem sU_0 : ∀ n, sU (fun _ => 0) n = 0
  | 0 => rfl
  | n + 1 => by simp [sU, sU_0 n]
theorem D0_ok {P : vP} (hP : pOk P) : dOk P (D0 P) := by
  refine ⟨hP.2.2.1, by show 0 ≤ _; omega, ?_⟩
  show sU (fun _ => 0) (pN P) ≤ 0
  rw [sU_0]
  exact Nat.le_refl _
theorem s_startAnew {P : vP} (hP : pOk P) {d : Nat} (hd : is_X3 d) {c : vv_S} {post : vv_S → Prop} (hc : PC P c)
    (kk : ∀ c', Fr4 d c c' → DP P d (D0 P) c' → post c') : wX3_startAnew d c post := by
  obtain ⟨hd1, hd2⟩ := is_X3_n hd
  obtain ⟨hn1, hn8, -⟩ := id hP
  unfold wX3_startAnew
  refine jn_of (fun f => ∀ σ : vv_S, Fr4 d c σ → (∀ j, j < pN P → σ (d + 1) j = nI (pH P j) ∧ σ (d + 2) j = nI (pO P j)) → (∀ j, j < 8 → σ (d + 3) j = 0) → f σ) ?_ ?_
  · intro c1 hf1 hh hb
    rintro _ rfl _ rfl _ rfl _ rfl
    generalize hc7 : vv_up (vv_up (vv_up (vv_up c1 d 4 0) d 5 0) d 6 0) d 7 0 = c7
    have f7 : ∀ i, i ≠ d → c7 i = c1 i := fun i i1 => by rw [← hc7, vv_up_r i1, vv_up_r i1, vv_up_r i1, vv_up_r i1]
    have hf7 : Fr4 d c c7 := hf1.trans (fun i hi => f7 i (by omega))
    have z4 : c7 d 4 = 0 := by rw [← hc7, vv_up_i (by decide), vv_up_i (by decide), vv_up_i (by decide), vv_up_s]
    have z5 : c7 d 5 = 0 := by rw [← hc7, vv_up_i (by decide), vv_up_i (by decide), vv_up_s]
    have z6 : c7 d 6 = 0 := by rw [← hc7, vv_up_i (by decide), vv_up_s]
    have z7 : c7 d 7 = 0 := by rw [← hc7, vv_up_s]
    refine s_survey hP hd (H := pH P) (O := pO P) hP.2.2.1 (hc.fr hd hf7) (fun j hj => by rw [f7 _ (by omega), f7 _ (by omega)]; exact hh j hj) ?_
    intro c' fc gc hE
    refine kk c' (hf7.trans (fun i hi => fc i (by omega))) ⟨⟨fun j hj => ?_, fun j j1 j2 => ?_, ?_, ?_, ?_, ?_⟩, hE⟩
    · rw [fc _ (by omega), fc _ (by omega), fc _ (by omega), f7 _ (by omega), f7 _ (by omega), f7 _ (by omega), hb j (by omega)]
      exact ⟨(hh j hj).1, (hh j hj).2, rfl⟩
    · rw [fc _ (by omega), f7 _ (by omega)]
      exact hb j j2
    · rw [gc 4 (by decide), z4]; rfl
    · rw [gc 5 (by decide), z5]; rfl
    · rw [gc 6 (by decide), z6]; rfl
    · rw [gc 7 (by decide), z7]; rfl
  · intro f hf
    have key : ∀ (j i : Nat) (c1 : vv_S), i + j = 8 → Fr4 d c c1 → (∀ k, k < i → c1 (d + 1) k = (if k < pN P then nI (pH P k) else 0) ∧ c1 (d + 2) k = (if k < pN P then nI (pO P k) else 0) ∧ c1 (d + 3) k = 0) → lX3_startAnew_1 f d (j + 1) (nI i) c1 := by
      intro j
      induction j with
      | zero =>
        intro i c1 hi hf1 hh
        unfold lX3_startAnew_1
        refine ⟨fun _ => hf c1 hf1 (fun j hj => ?_) (fun j hj => (hh j (by omega)).2.2), fun q => absurd ?_ q⟩
        · have := hh j (by omega)
          rw [if_pos hj, if_pos hj] at this
          exact ⟨this.1, this.2.1⟩
        · rw [vn8]; exact nI_le (by omega) (by omega)
      | succ j ih =>
        intro i c1 hi hf1 hh
        have hcl : (nI i).toNatClampNeg = i := nI_clamp (by omega)
        have hin : vp_in (nI i) 8 := vp_in_nI (by omega) (by decide)
        unfold lX3_startAnew_1
        rw [hcl]
        refine ⟨fun q => absurd q ?_, fun _ => s_firstHeight hP (by omega) (hc.fr hd hf1) ⟨hin, ?_⟩⟩
        · rw [vn8]; exact nI_ge (by omega) (by decide)
        rintro _ rfl
        have hf2 : Fr4 d c (vv_up c1 (d + 1) i (if i < pN P then nI (pH P i) else 0)) := hf1.trans (fun k hk => vv_up_r (by omega))
        refine s_firstStuff hP (by omega) (hc.fr hd hf2) ⟨hin, ?_⟩
        rintro _ rfl
        refine ⟨hin, ?_⟩
        rintro _ rfl _ rfl
        rw [nI_1]
        refine ih (i + 1) _ (by omega) (hf2.trans (fun k hk => by rw [vv_up_r (by omega), vv_up_r (by omega)])) ?_
        intro k hk
        by_cases e : k = i
        · subst e
          simp [vv_up_app]
        · simp only [vv_up_app]
          simp [e]
          exact hh k (by omega)
    exact ⟨9, key 8 0 c (by omega) Fr4.rfl' (fun k hk => by omega)⟩
/-- the trial set up anew from what is now -/
theorem s_copyFrom {P : vP} (hP : pOk P) {D : vD} (hD : dOk P D) {c : vv_S} {post : vv_S → Prop} (hc : PC P c) (h0 : DR P 42 D c)
    (kk : ∀ c', Fr4 46 c c' → DP P 46 D c' → post c') : wX3_copyFrom 46 42 c post := by
  have hd : is_X3 46 := by decide
  obtain ⟨hn1, hn8, -⟩ := id hP
  obtain ⟨r1, r2, r4, r5, r6, r7⟩ := h0
  unfold wX3_copyFrom
  refine jn_of (fun f => ∀ σ : vv_S, Fr4 46 c σ → (∀ j, j < 8 → σ 47 j = c 43 j ∧ σ 48 j = c 44 j ∧ σ 49 j = c 45 j) → f σ) ?_ ?_
  · intro c1 hf1 hh
    have e42 : c1 42 = c 42 := hf1 42 (by omega)
    rintro _ rfl _ rfl _ rfl _ rfl
    rw [vv_up_c (show (42 : Nat) ≠ 46 by decide), vv_up_c (show (42 : Nat) ≠ 46 by decide), vv_up_c (show (42 : Nat) ≠ 46 by decide), vv_up_c (show (42 : Nat) ≠ 46 by decide), vv_up_c (show (42 : Nat) ≠ 46 by decide), vv_up_c (show (42 : Nat) ≠ 46 by decide), e42, r4, r5, r6, r7]
    generalize hc7 : vv_up (vv_up (vv_up (vv_up c1 46 4 (nI (dW D))) 46 5 (nI (dM D))) 46 6 (nI (dV D))) 46 7 (nI (dS D)) = c7
    have f7 : ∀ i, i ≠ 46 → c7 i = c1 i := fun i i1 => by rw [← hc7, vv_up_r i1, vv_up_r i1, vv_up_r i1, vv_up_r i1]
    have hf7 : Fr4 46 c c7 := hf1.trans (fun i hi => f7 i (by omega))
    have z4 : c7 46 4 = nI (dW D) := by rw [← hc7, vv_up_i (by decide), vv_up_i (by decide), vv_up_i (by decide), vv_up_s]
    have z5 : c7 46 5 = nI (dM D) := by rw [← hc7, vv_up_i (by decide), vv_up_i (by decide), vv_up_s]
    have z6 : c7 46 6 = nI (dV D) := by rw [← hc7, vv_up_i (by decide), vv_up_s]
    have z7 : c7 46 7 = nI (dS D) := by rw [← hc7, vv_up_s]
    refine s_survey hP hd (H := dH D) (O := dO D) hD.1 (hc.fr hd hf7) (fun j hj => ?_) ?_
    · rw [f7 47 (by decide), f7 48 (by decide), (hh j (by omega)).1, (hh j (by omega)).2.1]
      exact ⟨(r1 j hj).1, (r1 j hj).2.1⟩
    intro c' fc gc hE
    refine kk c' (hf7.trans (fun i hi => fc i (by omega))) ⟨⟨fun j hj => ?_, fun j j1 j2 => ?_, ?_, ?_, ?_, ?_⟩, hE⟩
    · rw [fc 47 (by decide), fc 48 (by decide), fc 49 (by decide), f7 47 (by decide), f7 48 (by decide), f7 49 (by decide), (hh j (by omega)).1, (hh j (by omega)).2.1, (hh j (by omega)).2.2]
      exact r1 j hj
    · rw [fc 49 (by decide), f7 49 (by decide), (hh j j2).2.2]
      exact r2 j j1 j2
    · rw [gc 4 (by decide), z4]
    · rw [gc 5 (by decide), z5]
    · rw [gc 6 (by decide), z6]
    · rw [gc 7 (by decide), z7]
  · intro f hf
    have key : ∀ (j i : Nat) (c1 : vv_S), i + j = 8 → Fr4 46 c c1 → (∀ k, k < i → c1 47 k = c 43 k ∧ c1 48 k = c 44 k ∧ c1 49 k = c 45 k) → lX3_copyFrom_1 f 46 42 (j + 1) (nI i) c1 := by
      intro j
      induction j with
      | zero =>
        intro i c1 hi hf1 hh
        unfold lX3_copyFrom_1
        refine ⟨fun _ => hf c1 hf1 (fun j hj => hh j (by omega)), fun q => absurd ?_ q⟩
        rw [vn8]; exact nI_le (by omega) (by omega)
      | succ j ih =>
        intro i c1 hi hf1 hh
        have hcl : (nI i).toNatClampNeg = i := nI_clamp (by omega)
        have hin : vp_in (nI i) 8 := vp_in_nI (by omega) (by decide)
        unfold lX3_copyFrom_1
        rw [hcl]
        refine ⟨fun q => absurd q ?_, fun _ => ⟨hin, hin, ?_⟩⟩
        · rw [vn8]; exact nI_ge (by omega) (by decide)
        rintro _ rfl
        refine ⟨hin, hin, ?_⟩
        rintro _ rfl
        refine ⟨hin, hin, ?_⟩
        rintro _ rfl _ rfl
        rw [nI_1]
        refine ih (i + 1) _ (by omega) (hf1.trans (fun k hk => by rw [vv_up_r (by omega), vv_up_r (by omega), vv_up_r (by omega)])) ?_
        intro k hk
        have e43 : c1 43 = c 43 := hf1 43 (by omega)
        have e44 : c1 44 = c 44 := hf1 44 (by omega)
        have e45 : c1 45 = c 45 := hf1 45 (by omega)
        simp only [vv_up_app]
        by_cases e : k = i
        · subst e
          simp [e43, e44, e45]
        · simp [e]
          exact hh k (by omega)
    exact ⟨9, key 8 0 c (by omega) Fr4.rfl' (fun k hk => by omega)⟩
/-- acts: how many, kinds, cells, stuffs, amounts -/
abbrev vA : Type := Nat × (Nat → Nat) × (Nat → Nat) × (Nat → Nat) × (Nat → Nat)
abbrev aN (A : vA) : Nat := A.1
abbrev aK (A : vA) : Nat → Nat := A.2.1
abbrev aC (A : vA) : Nat → Nat := A.2.2.1
abbrev aT (A : vA) : Nat → Nat := A.2.2.2.1
abbrev aA (A : vA) : Nat → Nat := A.2.2.2.2
def aM (A : vA) (k : Nat) : Nat := if aK A k = 2 then aA A k else 0
def aOk (P : vP) (A : vA) : Prop := aN A ≤ 30 ∧ (∀ k, k < aN A → aK A k ≤ 2 ∧ aC A k < pN P ∧ aT A k ≤ 3 ∧ aA A k ≤ 60) ∧ sU (aM A) (aN A) ≤ 999
def do1 (P : vP) (kd ce st ma : Nat) (D : vD) : vD := if kd = 0 then (if dH D ce + ma ≤ 40 then reD D ce (dH D ce + ma) st else D) else if kd = 1 then (if ma ≤ dH D ce then reD D ce (dH D ce - ma) (dO D ce) else D) else m0 P D ma
/-- all acts but one, one behind the other -/
def run (P : vP) (A : vA) (but : Nat) : Nat → vD
  | 0 => D0 P
  | k + 1 => if k = but then run P A but k else do1 P (aK A k) (aC A k) (aT A k) (aA A k) (run P A but k)
theorem reD_ok {P : vP} {D : vD} (hD : dOk P D) {k h s : Nat} (hh : h ≤ 40) (hs : s ≤ 3) : dOk P (reD D k h s) := by
  refine ⟨fun j hj => ?_, hD.2.1, hD.2.2⟩
  show uN _ _ _ j ≤ 40 ∧ uN _ _ _ j ≤ 3
  unfold uN
  split
  · exact ⟨hh, hs⟩
  · exact hD.1 j hj
theorem do1_ok {P : vP} (hP : pOk P) {D : vD} (hD : dOk P D) {kd ce st ma : Nat} (hc : ce < pN P) (hs : st ≤ 3) : dOk P (do1 P kd ce st ma D) := by
  obtain ⟨b1, b2⟩ := hD.1 ce hc
  unfold do1
  split
  · split
    · next q => exact reD_ok hD q hs
    · exact hD
  · split
    · split
      · exact reD_ok hD (by omega) b2
      · exact hD
    · exact mns_ok hP hD _
theorem do1_M {P : vP} {D : vD} {kd ce st ma : Nat} (hk : kd ≤ 2) : dM (do1 P kd ce st ma D) = dM D + (if kd = 2 then ma else 0) := by
  unfold do1
  split
  · next q => subst q; split <;> rfl
  · split
    · next q => subst q; split <;> rfl
    · rw [mns_M, if_pos (by omega)]
theorem run_ok {P : vP} (hP : pOk P) {A : vA} (hA : aOk P A) (but : Nat) : ∀ k, k ≤ aN A → dOk P (run P A but k) ∧ dM (run P A but k) ≤ sU (aM A) k
  | 0, _ => ⟨D0_ok hP, Nat.le_refl 0⟩
  | k + 1, hk => by
    obtain ⟨h1, h2⟩ := run_ok hP hA but k (by omega)
    obtain ⟨g1, g2, g3, g4⟩ := hA.2.1 k (by omega)
    simp only [run, sU]
    split
    · exact ⟨h1, by omega⟩
    · refine ⟨do1_ok hP h1 g2 g3, ?_⟩
      rw [do1_M g1]
      unfold aM at *
      omega
theorem sU_mono {f : Nat → Nat} {a b : Nat} (h : a ≤ b) : sU f a ≤ sU f b := by
  induction h with
  | refl => exact Nat.le_refl _
  | step _ ih => simp only [sU]; omega
theorem run_bd {P : vP} (hP : pOk P) {A : vA} (hA : aOk P A) (but : Nat) {k : Nat} (hk : k ≤ aN A) : dM (run P A but k) ≤ 999 := by
  have h1 := (run_ok hP hA but k hk).2
  have h2 := sU_mono (f := aM A) hk
  have h3 := hA.2.2
  omega
/-- acts in the class's rows a .. a + 4 -/
def AC (a : Nat) (A : vA) (c : vv_S) : Prop := c a 4 = nI (aN A) ∧ ∀ k, k < aN A → c (a + 1) k = nI (aK A k) ∧ c (a + 2) k = nI (aC A k) ∧ c (a + 3) k = nI (aT A k) ∧ c (a + 4) k = nI (aA A k)
theorem s_doOne {P : vP} (hP : pOk P) {d : Nat} (hd : is_X3 d) {D : vD} (hD : dOk P D) {kd ce st ma : Nat} (hk : kd ≤ 2) (hc : ce < pN P) (hs : st ≤ 3) (ha : ma ≤ 60) (hm : dM D + (if kd = 2 then ma else 0) ≤ 999) {c : vv_S} {post : vv_S → Prop} (hpc : PC P c) (h0 : DP P d D c)
    (kk : ∀ c', Fr4 d c c' → DP P d (do1 P kd ce st ma D) c' → post c') : wX0_doOne (nI kd) (nI ce) (nI st) (nI ma) d c post := by
  have o0 : nI kd = 0 ↔ kd = 0 := by rw [vn0]; exact nI_eq (by omega) (by decide)
  have o1 : nI kd = (1 : Int32) ↔ kd = 1 := by rw [vn1]; exact nI_eq (by omega) (by decide)
  have o2 : nI kd = (2 : Int32) ↔ kd = 2 := by rw [vn2]; exact nI_eq (by omega) (by decide)
  unfold wX0_doOne
  rw [o0, o1, o2]
  refine jn_of (fun f => ∀ c', Fr4 d c c' → DP P d (do1 P kd ce st ma D) c' → f c') kk ?_
  intro f hf
  refine jn_of (fun f2 => (kd ≠ 0 ∨ ¬ dH D ce + ma ≤ 40) → f2 c) ?_ ?_
  · intro hz
    refine jn_of (fun f3 => (kd ≠ 1 ∨ ¬ ma ≤ dH D ce) → f3 c) ?_ ?_
    · intro hz2
      refine ⟨fun q => hf c Fr4.rfl' ?_, fun q => s_canPass (by omega) (by omega) h0.1 ⟨fun q2 => ?_, fun _ => ?_⟩⟩
      · have : do1 P kd ce st ma D = D := by
          unfold do1
          by_cases e0 : kd = 0
          · rw [if_pos e0, if_neg (by omega)]
          · rw [if_neg e0, if_pos (by omega), if_neg (by omega)]
        rw [this]
        exact h0
      · rw [if_pos q] at hm
        rw [if_pos hm] at q2
        exact absurd q2 (by decide)
      · refine s_letPass hP hd hD (x := 0) (by omega) (by omega) hpc h0 ?_
        intro c' hf' hp'
        refine hf c' hf' ?_
        have : do1 P kd ce st ma D = m0 P D ma := by
          unfold do1
          rw [if_neg (by omega), if_neg (by omega)]
        rw [this]
        exact hp'
    · intro f3 hf3
      refine ⟨fun q => hf3 (Or.inl q), fun q => s_canDig hP hD hc (by omega) h0.1 ⟨fun q2 => ?_, fun q2 => ?_⟩⟩
      · refine hf3 (Or.inr (fun z => ?_))
        rw [if_pos z] at q2
        exact absurd q2 (by decide)
      · have z : ma ≤ dH D ce := by
          by_cases z : ma ≤ dH D ce
          · exact z
          · rw [if_neg z] at q2; exact absurd rfl q2
        refine s_digAt hP hd hD hc z hpc h0.1 ?_
        intro c' hf' hp'
        refine hf c' hf' ?_
        have : do1 P kd ce st ma D = reD D ce (dH D ce - ma) (dO D ce) := by
          unfold do1
          rw [if_neg (by omega), if_pos q, if_pos z]
        rw [this]
        exact hp'
  · intro f2 hf2
    refine ⟨fun q => hf2 (Or.inl q), fun q => s_canRaise hP hD hc (by omega) h0.1 ⟨fun q2 => ?_, fun q2 => ?_⟩⟩
    · refine hf2 (Or.inr (fun z => ?_))
      rw [if_pos z] at q2
      exact absurd q2 (by decide)
    · have z : dH D ce + ma ≤ 40 := by
        by_cases z : dH D ce + ma ≤ 40
        · exact z
        · rw [if_neg z] at q2; exact absurd rfl q2
      refine s_layAt hP hd hD hc z hs hpc h0.1 ?_
      intro c' hf' hp'
      refine hf c' hf' ?_
      have : do1 P kd ce st ma D = reD D ce (dH D ce + ma) st := by
        unfold do1
        rw [if_pos q, if_pos z]
      rw [this]
      exact hp'
theorem AC.fr {a d : Nat} (ha : 50 ≤ a) (hd : is_X3 d) {A : vA} {c c' : vv_S} (h : AC a A c) (hf : Fr4 d c c') : AC a A c' := by
  obtain ⟨hd1, hd2⟩ := is_X3_n hd
  unfold AC
  rw [hf a (by omega), hf (a + 1) (by omega), hf (a + 2) (by omega), hf (a + 3) (by omega), hf (a + 4) (by omega)]
  exact h
theorem s_doAllBut {P : vP} (hP : pOk P) {d : Nat} (hd : is_X3 d) {A : vA} (hA : aOk P A) {but : Nat} {a1 : Int32} (hb : ∀ k, k < 30 → (nI k = a1 ↔ k = but)) {c : vv_S} {post : vv_S → Prop} (hpc : PC P c) (hac : AC 50 A c)
    (kk : ∀ c', Fr4 d c c' → DP P d (run P A but (aN A)) c' → post c') : wX0_doAllBut 50 a1 d c post := by
  have hn30 := hA.1
  unfold wX0_doAllBut
  refine s_startAnew hP hd hpc ?_
  intro c0 hf0 hp0
  refine jn_of (fun f => ∀ c', Fr4 d c c' → DP P d (run P A but (aN A)) c' → f c') kk ?_
  intro f hf
  have key : ∀ (j i : Nat) (c1 : vv_S), i + j = aN A → Fr4 d c c1 → DP P d (run P A but i) c1 → lX0_doAllBut_1 50 f a1 d (j + 1) (nI i) c1 := by
    intro j
    induction j with
    | zero =>
      intro i c1 hi hf1 hp1
      have hac1 := hac.fr (by decide) hd hf1
      unfold lX0_doAllBut_1
      rw [hac1.1]
      refine ⟨fun _ => hf c1 hf1 ?_, fun q => absurd (nI_le (by omega) (by omega)) q⟩
      rw [← show i = aN A by omega]
      exact hp1
    | succ j ih =>
      intro i c1 hi hf1 hp1
      have hac1 := hac.fr (by decide) hd hf1
      obtain ⟨g1, g2, g3, g4⟩ := hA.2.1 i (by omega)
      obtain ⟨u1, u2, u3, u4⟩ := hac1.2 i (by omega)
      have hcl : (nI i).toNatClampNeg = i := nI_clamp (by omega)
      have hin : vp_in (nI i) 30 := vp_in_nI (by omega) (by decide)
      unfold lX0_doAllBut_1
      rw [hac1.1, hcl, u1, u2, u3, u4, hb i (by omega)]
      refine ⟨fun q => absurd q (nI_ge (by omega) (by omega)), fun _ => ⟨fun q => absurd q ?_, fun _ => ?_⟩⟩
      · rw [show (30 : Int32) = nI 30 by decide]; exact nI_ge (by omega) (by decide)
      refine jn_of (fun f2 => ∀ c2, Fr4 d c c2 → DP P d (run P A but (i + 1)) c2 → f2 c2) ?_ ?_
      · intro c2 hf2 hp2
        rintro _ rfl
        rw [nI_1]
        exact ih (i + 1) c2 (by omega) hf2 hp2
      · intro f2 hf2
        have hr : run P A but (i + 1) = if i = but then run P A but i else do1 P (aK A i) (aC A i) (aT A i) (aA A i) (run P A but i) := rfl
        refine ⟨fun q => hf2 c1 hf1 ?_, fun q => ⟨hin, hin, hin, hin, ?_⟩⟩
        · rw [hr, if_pos q]; exact hp1
        · have hro := run_ok hP hA but i (by omega)
          have h3 := hA.2.2
          have h4 := sU_mono (f := aM A) (show i + 1 ≤ aN A by omega)
          refine s_doOne hP hd hro.1 g1 g2 g3 g4 ?_ (hpc.fr hd hf1) hp1 ?_
          · simp only [sU, aM] at h4
            have h5 := hro.2
            omega
          · intro c2 hf2' hp2
            refine hf2 c2 (hf1.trans hf2') ?_
            rw [hr, if_neg q]
            exact hp2
  exact ⟨aN A + 1, key (aN A) 0 c0 (by omega) hf0 hp0⟩

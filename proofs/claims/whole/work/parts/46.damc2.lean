theorem sU_uN {f : Nat → Nat} {k v : Nat} : ∀ n, sU (uN f k v) n = if k < n then sU f n - f k + v else sU f n
  | 0 => by simp [sU]
  | n + 1 => by
    have ih := sU_uN (f := f) (k := k) (v := v) n
    have hle : ∀ m, k < m → f k ≤ sU f m := by
      intro m
      induction m with
      | zero => intro h; omega
      | succ m ihm =>
        intro h
        simp only [sU]
        by_cases e : k = m
        · subst e; omega
        · have := ihm (by omega); omega
    simp only [sU, ih]
    by_cases e : k = n
    · subst e
      rw [if_neg (by omega), if_pos (by omega), uN_s]
      omega
    · rw [uN_n (fun h => e h.symm)]
      by_cases h : k < n
      · have := hle n h
        rw [if_pos h, if_pos (by omega)]
        omega
      · rw [if_neg h, if_neg (by omega)]
theorem mn_ok {P : vP} (hP : pOk P) {D : vD} (hD : dOk P D) {x : Nat} : dOk P (mn P D x) := by
  have hbt := edP_ta hP (dH D)
  refine ⟨fun k hk => ⟨?_, (hD.1 k hk).2⟩, ?_, ?_⟩
  · show (if _ then _ else _ : Nat → Nat) k ≤ 40
    have h1 := (hD.1 k hk).1
    split
    · simp only [uN]
      split
      · next q => subst q; omega
      · exact h1
    · exact h1
  · show mn1 P D x - mnS P D x - mnV P D x ≤ 7375
    unfold mnV
    omega
  · show sU (if _ then _ else _) (pN P) ≤ dM D + 1
    have h2 := hD.2.2
    split
    · next q =>
      rw [sU_uN]
      have hle : ∀ m, mnB P D x < m → dB D (mnB P D x) ≤ sU (dB D) m := by
        intro m
        induction m with
        | zero => intro h; omega
        | succ m ihm =>
          intro h
          simp only [sU]
          by_cases e : mnB P D x = m
          · rw [e]; omega
          · have := ihm (by omega); omega
      split
      · next q2 =>
        have := hle _ q2
        omega
      · omega
    · omega
theorem mn_M (P : vP) (D : vD) (x : Nat) : dM (mn P D x) = dM D + 1 := rfl
theorem mns_M (P : vP) (x : Nat → Nat) (D : vD) : ∀ k, dM (mns P x D k) = dM D + k
  | 0 => rfl
  | k + 1 => by
    show dM (mns P x D k) + 1 = _
    rw [mns_M P x D k]
    omega
theorem mns_ok {P : vP} (hP : pOk P) {x : Nat → Nat} {D : vD} (hD : dOk P D) : ∀ k, dOk P (mns P x D k)
  | 0 => hD
  | k + 1 => mn_ok hP (mns_ok hP hD k)
/-- rows d to d + 3 alone may change -/
def Fr4 (d : Nat) (c c' : vv_S) : Prop := ∀ i, ¬ (d ≤ i ∧ i ≤ d + 3) → c' i = c i
theorem FrD.to4 {d : Nat} {c c' : vv_S} (h : FrD d c c') : Fr4 d c c' := fun i hi => h i (by omega) (by omega) (by omega)
theorem Fr4.rfl' {d : Nat} {c : vv_S} : Fr4 d c c := fun _ _ => rfl
theorem Fr4.trans {d : Nat} {c c' c2 : vv_S} (h : Fr4 d c c') (h2 : Fr4 d c' c2) : Fr4 d c c2 := fun i hi => by rw [h2 i hi, h i hi]
theorem PC.fr {P : vP} {d : Nat} (hd : is_X3 d) {c c' : vv_S} (h : PC P c) (hf : Fr4 d c c') : PC P c' := by
  obtain ⟨hd1, hd2⟩ := is_X3_n hd
  obtain ⟨a1, a2, a3, a4, a5, a6, a7⟩ := h
  unfold PC
  rw [hf 4 (by omega), hf 13 (by omega), hf 5 (by omega), hf 6 (by omega)]
  exact ⟨a1, a2, a3, a4, a5, a6, a7⟩
theorem s_letPass {P : vP} (hP : pOk P) {d : Nat} (hd : is_X3 d) {D : vD} (hD : dOk P D) {x n : Nat} (hx : x ≤ 60) (hm : dM D + n ≤ 2000) {c : vv_S} {post : vv_S → Prop} (hc : PC P c) (h0 : DP P d D c)
    (k : ∀ c', Fr4 d c c' → DP P d (mns P (fun _ => x) D n) c' → post c') : wX3_letPass d (nI n) (nI x) c post := by
  have key : ∀ (j i : Nat) (c' : vv_S), i + j = n → Fr4 d c c' → DP P d (mns P (fun _ => x) D i) c' → lX3_letPass_1 (nI n) post d (nI x) (j + 1) (nI i) c' := by
    intro j
    induction j with
    | zero =>
      intro i c' hi hf hp
      unfold lX3_letPass_1
      refine ⟨fun _ => k c' hf ?_, fun q => absurd (nI_le (by omega) (by omega)) q⟩
      rw [← show i = n by omega]
      exact hp
    | succ j ih =>
      intro i c' hi hf hp
      unfold lX3_letPass_1
      refine ⟨fun q => absurd q (nI_ge (by omega) (by omega)), fun _ => ?_⟩
      refine s_oneMinute hP hd (mns_ok hP hD i) hx (by rw [mns_M]; omega) (hc.fr hd hf) hp ?_
      intro c2 hf2 hp2 _ _ _
      rintro _ rfl
      rw [nI_1]
      exact ih (i + 1) c2 (by omega) (hf.trans hf2.to4) hp2
  exact ⟨n + 1, key n 0 c (by omega) Fr4.rfl' h0⟩
/-- the first of i, i + 1, .. (f of them) that is so -/
def fs (p : Nat → Bool) : Nat → Nat → Nat
  | 0, i => i
  | f + 1, i => if p i then i else fs p f (i + 1)
theorem fs_le (p : Nat → Bool) : ∀ f i, fs p f i ≤ i + f
  | 0, i => Nat.le_refl _
  | f + 1, i => by
    unfold fs
    split
    · omega
    · have := fs_le p f (i + 1)
      omega
abbrev m0 (P : vP) (D : vD) (i : Nat) : vD := mns P (fun _ => 0) D i
def pOver (P : vP) (D : vD) (i : Nat) : Bool := decide (0 < mnV P (m0 P D i) 0)
def pGone (P : vP) (D : vD) (i : Nat) : Bool := decide (mnB P (m0 P D i) 0 < 8)
def minuteOf (i : Nat) : Int32 := if i < 200 then nI (i + 1) else -4
theorem s_passTillOver {P : vP} (hP : pOk P) {d : Nat} (hd : is_X3 d) {D : vD} (hD : dOk P D) (hm : dM D ≤ 1500) {c : vv_S} {post : Int32 → vv_S → Prop} (hc : PC P c) (h0 : DP P d D c)
    (k : ∀ c', Fr4 d c c' → (fs (pOver P D) 200 0 < 200 → c' d 14 = nI (mnP P (m0 P D (fs (pOver P D) 200 0)))) → post (minuteOf (fs (pOver P D) 200 0)) c') : wX3_passTillOver d c post := by
  have key : ∀ (j i : Nat) (c' : vv_S), i + j = 200 → fs (pOver P D) j i = fs (pOver P D) 200 0 → Fr4 d c c' → DP P d (m0 P D i) c' → lX3_passTillOver_1 post d (j + 1) (nI (i + 1)) c' := by
    intro j
    induction j with
    | zero =>
      intro i c' hi hfs hf hp
      unfold lX3_passTillOver_1
      refine ⟨fun _ => ?_, fun q => absurd ?_ q⟩
      · have e : fs (pOver P D) 200 0 = 200 := by rw [← hfs]; show i = 200; omega
        have := k c' hf (fun z => by omega)
        rw [e] at this
        exact this
      · rw [show (200 : Int32) = nI 200 by decide]; exact nI_lt (by omega) (by omega)
    | succ j ih =>
      intro i c' hi hfs hf hp
      unfold lX3_passTillOver_1
      refine ⟨fun q => absurd q ?_, fun _ => ?_⟩
      · rw [show (200 : Int32) = nI 200 by decide]; exact nI_nlt (by omega) (by omega)
      refine s_oneMinute hP hd (x := 0) (mns_ok hP hD i) (by omega) (by rw [mns_M]; omega) (hc.fr hd hf) hp ?_
      intro c2 hf2 hp2 w1 w2 w3
      have hV2 : mnV P (mns P (fun _ => 0) D i) 0 ≤ 7615 := by
        have hV := mn1_bd hP (mns_ok (x := fun _ => 0) hP hD i) (x := 0) (by omega)
        unfold mnV
        omega
      have e : fs (pOver P D) (j + 1) i = if pOver P D i then i else fs (pOver P D) j (i + 1) := rfl
      have hz : c2 d 13 ≤ 0 ↔ pOver P D i = false := by
        rw [w1, vn0, nI_leI (by omega) (by decide)]
        simp [pOver]
      refine ⟨fun q => ?_, fun q => ?_⟩
      · rintro _ rfl
        rw [nI_1]
        rw [hz] at q
        rw [if_neg (by simp [q])] at e
        exact ih (i + 1) c2 (by omega) (e.symm.trans hfs) (hf.trans hf2.to4) hp2
      · have q2 : pOver P D i = true := by
          cases h : pOver P D i with
          | true => rfl
          | false => exact absurd (hz.mpr h) q
        rw [if_pos q2] at e
        have e2 := e.symm.trans hfs
        have := k c2 (hf.trans hf2.to4) (fun _ => by rw [← e2]; exact w2)
        rw [← e2] at this
        unfold minuteOf at this
        rw [if_pos (by omega)] at this
        exact this
  exact ⟨201, key 200 0 c (by omega) rfl Fr4.rfl' h0⟩
theorem brk_none {b : Nat} (h : b ≤ 100) : brk b = -4 ↔ ¬ b < 8 := by
  unfold brk
  split
  · next q =>
    refine ⟨fun z => ?_, fun z => absurd q z⟩
    have e : (nI b).toInt = (-4 : Int32).toInt := by rw [z]
    rw [nI_toInt (by omega)] at e
    have : (-4 : Int32).toInt = -4 := by decide
    omega
  · next q => exact ⟨fun _ => q, fun _ => rfl⟩
theorem mnB_le {P : vP} (D : vD) (x : Nat) : mnB P D x ≤ 100 := by
  unfold mnB
  split <;> omega
theorem s_passTillBreach {P : vP} (hP : pOk P) {d : Nat} (hd : is_X3 d) {D : vD} (hD : dOk P D) (hm : dM D ≤ 1500) {c : vv_S} {post : Int32 → vv_S → Prop} (hc : PC P c) (h0 : DP P d D c)
    (k : ∀ c', Fr4 d c c' → (fs (pGone P D) 200 0 < 200 → c' d 15 = brk (mnB P (m0 P D (fs (pGone P D) 200 0)) 0)) → post (minuteOf (fs (pGone P D) 200 0)) c') : wX3_passTillBreach d c post := by
  have key : ∀ (j i : Nat) (c' : vv_S), i + j = 200 → fs (pGone P D) j i = fs (pGone P D) 200 0 → Fr4 d c c' → DP P d (m0 P D i) c' → lX3_passTillBreach_1 post d (j + 1) (nI (i + 1)) c' := by
    intro j
    induction j with
    | zero =>
      intro i c' hi hfs hf hp
      unfold lX3_passTillBreach_1
      refine ⟨fun _ => ?_, fun q => absurd ?_ q⟩
      · have e : fs (pGone P D) 200 0 = 200 := by rw [← hfs]; show i = 200; omega
        have := k c' hf (fun z => by omega)
        rw [e] at this
        exact this
      · rw [show (200 : Int32) = nI 200 by decide]; exact nI_lt (by omega) (by omega)
    | succ j ih =>
      intro i c' hi hfs hf hp
      unfold lX3_passTillBreach_1
      refine ⟨fun q => absurd q ?_, fun _ => ?_⟩
      · rw [show (200 : Int32) = nI 200 by decide]; exact nI_nlt (by omega) (by omega)
      refine s_oneMinute hP hd (x := 0) (mns_ok hP hD i) (by omega) (by rw [mns_M]; omega) (hc.fr hd hf) hp ?_
      intro c2 hf2 hp2 w1 w2 w3
      have e : fs (pGone P D) (j + 1) i = if pGone P D i then i else fs (pGone P D) j (i + 1) := rfl
      have hz : c2 d 15 = -4 ↔ pGone P D i = false := by
        rw [w3, brk_none (mnB_le _ _)]
        simp [pGone]
      refine ⟨fun q => ?_, fun q => ?_⟩
      · rintro _ rfl
        rw [nI_1]
        rw [hz] at q
        rw [if_neg (by simp [q])] at e
        exact ih (i + 1) c2 (by omega) (e.symm.trans hfs) (hf.trans hf2.to4) hp2
      · have q2 : pGone P D i = true := by
          cases h : pGone P D i with
          | true => rfl
          | false => exact absurd (hz.mpr h) q
        rw [if_pos q2] at e
        have e2 := e.symm.trans hfs
        have := k c2 (hf.trans hf2.to4) (fun _ => by rw [← e2]; exact w3)
        rw [← e2] at this
        unfold minuteOf at this
        rw [if_pos (by omega)] at this
        exact this
  exact ⟨201, key 200 0 c (by omega) rfl Fr4.rfl' h0⟩
theorem s_heightAt {d k : Nat} (hk : k < 8) {c : vv_S} {post : Int32 → vv_S → Prop} (h : post (c (d + 1) k) c) : wX3_heightAt d (nI k) c post := by
  have hc : (nI k).toNatClampNeg = k := nI_clamp (by omega)
  unfold wX3_heightAt
  rw [hc]
  refine jn_of (fun f => f (c (d + 1) k)) h (fun f hf => jn_of (fun _ => True) trivial (fun f2 _ => ⟨fun q => absurd q (nI_pos (by omega)), fun _ => ⟨fun q => absurd q ?_, fun _ => ⟨vp_in_nI hk (by decide), hf⟩⟩⟩))
  rw [vn8]; exact nI_ge hk (by decide)
theorem s_stuffAt {d k : Nat} (hk : k < 8) {c : vv_S} {post : Int32 → vv_S → Prop} (h : post (c (d + 2) k) c) : wX3_stuffAt d (nI k) c post := by
  have hc : (nI k).toNatClampNeg = k := nI_clamp (by omega)
  unfold wX3_stuffAt
  rw [hc]
  refine jn_of (fun f => f (c (d + 2) k)) h (fun f hf => jn_of (fun _ => True) trivial (fun f2 _ => ⟨fun q => absurd q (nI_pos (by omega)), fun _ => ⟨fun q => absurd q ?_, fun _ => ⟨vp_in_nI hk (by decide), hf⟩⟩⟩))
  rw [vn8]; exact nI_ge hk (by decide)
theorem s_breachesAt {d k : Nat} (hk : k < 8) {c : vv_S} {post : Int32 → vv_S → Prop} (h : post (c (d + 3) k) c) : wX3_breachesAt d (nI k) c post := by
  have hc : (nI k).toNatClampNeg = k := nI_clamp (by omega)
  unfold wX3_breachesAt
  rw [hc]
  refine jn_of (fun f => f (c (d + 3) k)) h (fun f hf => jn_of (fun _ => True) trivial (fun f2 _ => ⟨fun q => absurd q (nI_pos (by omega)), fun _ => ⟨fun q => absurd q ?_, fun _ => ⟨vp_in_nI hk (by decide), hf⟩⟩⟩))
  rw [vn8]; exact nI_ge hk (by decide)
/-- a cell of another height and stuff -/
def reD (D : vD) (k h s : Nat) : vD := (uN (dH D) k h, uN (dO D) k s, dB D, dW D, dM D, dV D, dS D)
theorem s_remake {P : vP} (hP : pOk P) {d : Nat} (hd : is_X3 d) {D : vD} (hD : dOk P D) {k h s : Nat} (hk : k < pN P) (hh : h ≤ 40) (hs : s ≤ 3) {c : vv_S} {post : vv_S → Prop} (hc : PC P c) (h0 : DR P d D c)
    (kk : ∀ c', Fr4 d c c' → DP P d (reD D k h s) c' → post c') : wX3_remake d (nI k) (nI s) (nI h) c post := by
  obtain ⟨hd1, hd2⟩ := is_X3_n hd
  obtain ⟨hn1, hn8, -⟩ := id hP
  have hcl : (nI k).toNatClampNeg = k := nI_clamp (by omega)
  have hin : vp_in (nI k) 8 := vp_in_nI (by omega) (by decide)
  obtain ⟨r1, r2, r4, r5, r6, r7⟩ := h0
  unfold wX3_remake
  rw [hcl]
  refine jn_of (fun _ => True) trivial (fun f2 _ => ⟨fun q => absurd q (nI_pos (by omega)), fun _ => ⟨fun _ => ⟨hin, ?_⟩, fun q => absurd ?_ q⟩⟩)
  · rintro _ rfl
    refine ⟨hin, ?_⟩
    rintro _ rfl
    generalize hc7 : vv_up (vv_up c (d + 1) k (nI h)) (d + 2) k (nI s) = c7
    have f7 : ∀ i, i ≠ d + 1 → i ≠ d + 2 → c7 i = c i := fun i i1 i2 => by rw [← hc7, vv_up_r i2, vv_up_r i1]
    have hH : ∀ j, j < pN P → c7 (d + 1) j = nI (uN (dH D) k h j) ∧ c7 (d + 2) j = nI (uN (dO D) k s j) := by
      intro j hj
      obtain ⟨u1, u2, -⟩ := r1 j hj
      by_cases e : j = k
      · subst e
        rw [uN_s, uN_s, ← hc7, vv_up_s, vv_up_c (by omega), vv_up_s]
        exact ⟨rfl, rfl⟩
      · rw [uN_n e, uN_n e, ← hc7, vv_up_i e, vv_up_c (by omega), vv_up_i e, vv_up_c (by omega), u1, u2]
        exact ⟨rfl, rfl⟩
    have hf7 : Fr4 d c c7 := fun i hi => f7 i (by omega) (by omega)
    refine s_survey hP hd ?_ (hc.fr hd hf7) hH ?_
    · intro j hj
      unfold uN
      split
      · exact ⟨hh, hs⟩
      · exact hD.1 j hj
    · intro c' fc gc hE
      refine kk c' (hf7.trans (fun i hi => fc i (by omega))) ⟨⟨fun j hj => ?_, fun j j1 j2 => ?_, ?_, ?_, ?_, ?_⟩, hE⟩
      · rw [fc _ (by omega), fc _ (by omega), fc _ (by omega), f7 (d + 3) (by omega) (by omega)]
        exact ⟨(hH j hj).1, (hH j hj).2, (r1 j hj).2.2⟩
      · rw [fc _ (by omega), f7 (d + 3) (by omega) (by omega)]
        exact r2 j j1 j2
      · rw [gc 4 (by decide), f7 d (by omega) (by omega), r4]; rfl
      · rw [gc 5 (by decide), f7 d (by omega) (by omega), r5]; rfl
      · rw [gc 6 (by decide), f7 d (by omega) (by omega), r6]; rfl
      · rw [gc 7 (by decide), f7 d (by omega) (by omega), r7]; rfl
  · rw [vn8]; exact nI_lt (by omega) (by decide)
theorem s_layAt {P : vP} (hP : pOk P) {d : Nat} (hd : is_X3 d) {D : vD} (hD : dOk P D) {k a s : Nat} (hk : k < pN P) (hh : dH D k + a ≤ 40) (hs : s ≤ 3) {c : vv_S} {post : vv_S → Prop} (hc : PC P c) (h0 : DR P d D c)
    (kk : ∀ c', Fr4 d c c' → DP P d (reD D k (dH D k + a) s) c' → post c') : wX3_layAt d (nI k) (nI s) (nI a) c post := by
  obtain ⟨hn1, hn8, -⟩ := id hP
  unfold wX3_layAt
  refine s_heightAt (by omega) ?_
  rw [(h0.1 k hk).1, nI_add]
  exact s_remake hP hd hD hk hh hs hc h0 kk
theorem s_digAt {P : vP} (hP : pOk P) {d : Nat} (hd : is_X3 d) {D : vD} (hD : dOk P D) {k a : Nat} (hk : k < pN P) (hh : a ≤ dH D k) {c : vv_S} {post : vv_S → Prop} (hc : PC P c) (h0 : DR P d D c)
    (kk : ∀ c', Fr4 d c c' → DP P d (reD D k (dH D k - a) (dO D k)) c' → post c') : wX3_digAt d (nI k) (nI a) c post := by
  obtain ⟨hn1, hn8, -⟩ := id hP
  obtain ⟨b1, b2⟩ := hD.1 k hk
  unfold wX3_digAt
  refine s_stuffAt (by omega) (s_heightAt (by omega) ?_)
  rw [(h0.1 k hk).1, (h0.1 k hk).2.1, pk_sub hh]
  exact s_remake hP hd hD hk (by omega) b2 hc h0 kk
theorem s_canRaise {P : vP} (hP : pOk P) {d : Nat} {D : vD} (hD : dOk P D) {k a : Nat} (hk : k < pN P) (ha : a ≤ 100) {c : vv_S} {post : Int32 → vv_S → Prop} (h0 : DR P d D c) (kk : post (if dH D k + a ≤ 40 then 1 else 0) c) : wX3_canRaise d (nI k) (nI a) c post := by
  obtain ⟨hn1, hn8, -⟩ := id hP
  obtain ⟨b1, b2⟩ := hD.1 k hk
  unfold wX3_canRaise
  refine s_heightAt (by omega) ?_
  rw [(h0.1 k hk).1, nI_add, show (40 : Int32) = nI 40 by decide]
  refine jn_of (fun f => f (if dH D k + a ≤ 40 then 1 else 0)) ⟨by split <;> simp, kk⟩ ?_
  intro f hf
  rw [nI_ltI (by decide) (by omega)]
  refine ⟨fun q => ?_, fun q => ?_⟩
  · rw [if_neg (by omega)] at hf; exact hf
  · rw [if_pos (by omega)] at hf; exact hf
theorem s_canDig {P : vP} (hP : pOk P) {d : Nat} {D : vD} (hD : dOk P D) {k a : Nat} (hk : k < pN P) (ha : a ≤ 100) {c : vv_S} {post : Int32 → vv_S → Prop} (h0 : DR P d D c) (kk : post (if a ≤ dH D k then 1 else 0) c) : wX3_canDig d (nI k) (nI a) c post := by
  obtain ⟨hn1, hn8, -⟩ := id hP
  obtain ⟨b1, b2⟩ := hD.1 k hk
  unfold wX3_canDig
  refine s_heightAt (by omega) ?_
  rw [(h0.1 k hk).1]
  refine jn_of (fun f => f (if a ≤ dH D k then 1 else 0)) ⟨by split <;> simp, kk⟩ ?_
  intro f hf
  rw [nI_ltI (by omega) (by omega)]
  refine ⟨fun q => ?_, fun q => ?_⟩
  · rw [if_neg (by omega)] at hf; exact hf
  · rw [if_pos (by omega)] at hf; exact hf
theorem s_canPass {P : vP} {d : Nat} {D : vD} (hm : dM D ≤ 2000) {a : Nat} (ha : a ≤ 100) {c : vv_S} {post : Int32 → vv_S → Prop} (h0 : DR P d D c) (kk : post (if dM D + a ≤ 999 then 1 else 0) c) : wX3_canPass d (nI a) c post := by
  unfold wX3_canPass
  rw [h0.2.2.2.1, nI_add, show (999 : Int32) = nI 999 by decide]
  refine jn_of (fun f => f (if dM D + a ≤ 999 then 1 else 0)) ⟨by split <;> simp, kk⟩ ?_
  intro f hf
  rw [nI_ltI (by decide) (by omega)]
  refine ⟨fun q => ?_, fun q => ?_⟩
  · rw [if_neg (by omega)] at hf; exact hf
  · rw [if_pos (by omega)] at hf; exact hf

theorem e10 : (10 : Int32) = nI 10 := by decide
theorem shr_val {r k : Nat} (hr : r < 2 ^ 31) (hk : k ≤ 5) : nI r >>> (nI k &&& 31) = nI (r / 2 ^ k) := by
  rcases (by omega : k = 0 ∨ k = 1 ∨ k = 2 ∨ k = 3 ∨ k = 4 ∨ k = 5) with rfl | rfl | rfl | rfl | rfl | rfl
  · exact pk_shrN hr _ 0 (by decide)
  · exact pk_shrN hr _ 1 (by decide)
  · exact pk_shrN hr _ 2 (by decide)
  · exact pk_shrN hr _ 3 (by decide)
  · exact pk_shrN hr _ 4 (by decide)
  · exact pk_shrN hr _ 5 (by decide)
theorem shl_val {k : Nat} (hk : k ≤ 5) : (1 : Int32) <<< (nI k &&& 31) = nI (2 ^ k) := by
  rcases (by omega : k = 0 ∨ k = 1 ∨ k = 2 ∨ k = 3 ∨ k = 4 ∨ k = 5) with rfl | rfl | rfl | rfl | rfl | rfl <;> decide
def bt (r k : Nat) : Bool := decide (r / 2 ^ k % 2 = 1)
theorem bit_val {r k : Nat} (hr : r < 2 ^ 31) (hk : k ≤ 5) : ((nI r >>> (nI k &&& 31)) &&& 1) = 1 ↔ bt r k = true := by
  have h1 : r / 2 ^ k < 2 ^ 32 := Nat.lt_of_le_of_lt (Nat.div_le_self _ _) (by omega)
  rw [shr_val hr hk, pk_andN h1 (m := 1) 1 (by decide), vn1, nI_eq (by omega) (by decide)]
  simp [bt]
def chn (r x : Nat) : Nat → Nat
  | 0 => 1
  | k + 1 => chn r x k * (if bt r k = true then x else 10 - x)
theorem chn_le {r x : Nat} (hx : x ≤ 10) : ∀ k, chn r x k ≤ 10 ^ k
  | 0 => Nat.le_refl 1
  | k + 1 => by
    rw [Nat.pow_succ]
    exact Nat.mul_le_mul (chn_le hx k) (by split <;> omega)
theorem s_chance {r x n : Nat} (hr : r < 2 ^ 31) (hx : x ≤ 10) (hn : n ≤ 5) {σ : vv_S} {post : Int32 → vv_S → Prop} (h : post (nI (chn r x n)) σ) : wX8_chanceOf (nI r) (nI n) (nI x) σ post := by
  have key : ∀ (j i : Nat), i + j = n → lX8_chanceOf_1 (nI n) post σ (nI r) (nI x) (j + 1) (nI (chn r x i)) (nI i) := by
    intro j
    induction j with
    | zero =>
      intro i hi
      unfold lX8_chanceOf_1
      refine ⟨fun _ => ?_, fun y => absurd (nI_le (by omega) (by omega)) y⟩
      rw [show i = n by omega]
      exact h
    | succ j ih =>
      intro i hi
      unfold lX8_chanceOf_1
      refine ⟨fun y => absurd y (nI_ge (by omega) (by omega)), fun _ => ?_⟩
      refine jn_of (fun f => f (nI (if bt r i = true then x else 10 - x))) ?_ (fun f hf => ?_)
      · rintro _ rfl _ rfl
        rw [pk_mul, nI_1]
        exact ih (i + 1) (by omega)
      · rw [bit_val hr (by omega)]
        refine ⟨fun y => ?_, fun y => ?_⟩
        · rw [if_neg y] at hf
          rw [e10, pk_sub hx]
          exact hf
        · rw [if_pos y] at hf
          exact hf
  exact ⟨n + 1, key n 0 (by omega)⟩
theorem s_chanceM {r x n : Nat} (hr : r < 2 ^ 31) (hx : x ≤ 10) (hn : n ≤ 5) {K : Int32 → Prop} (h : K (nI (chn r x n))) : ∃ f, lX9_odds_3 (nI n) K (nI r) (nI x) f 1 0 := by
  have key : ∀ (j i : Nat), i + j = n → lX9_odds_3 (nI n) K (nI r) (nI x) (j + 1) (nI (chn r x i)) (nI i) := by
    intro j
    induction j with
    | zero =>
      intro i hi
      unfold lX9_odds_3
      refine ⟨fun _ => ?_, fun y => absurd (nI_le (by omega) (by omega)) y⟩
      rw [show i = n by omega]
      exact h
    | succ j ih =>
      intro i hi
      unfold lX9_odds_3
      refine ⟨fun y => absurd y (nI_ge (by omega) (by omega)), fun _ => ?_⟩
      refine jn_of (fun f => f (nI (if bt r i = true then x else 10 - x))) ?_ (fun f hf => ?_)
      · rintro _ rfl _ rfl
        rw [pk_mul, nI_1]
        exact ih (i + 1) (by omega)
      · rw [bit_val hr (by omega)]
        refine ⟨fun y => ?_, fun y => ?_⟩
        · rw [if_neg y] at hf
          rw [e10, pk_sub hx]
          exact hf
        · rw [if_pos y] at hf
          exact hf
  exact ⟨n + 1, key n 0 (by omega)⟩
/-- ten to the n -/
theorem s_belowC {n : Nat} (hn : n ≤ 5) {K : Int32 → Prop} (h : K (nI (10 ^ n))) : ∃ f, lX8_odds_2 (nI n) K f 1 0 := by
  have key : ∀ (j i : Nat), i + j = n → lX8_odds_2 (nI n) K (j + 1) (nI (10 ^ i)) (nI i) := by
    intro j
    induction j with
    | zero =>
      intro i hi
      unfold lX8_odds_2
      refine ⟨fun _ => by rw [show i = n by omega]; exact h, fun y => absurd (nI_le (by omega) (by omega)) y⟩
    | succ j ih =>
      intro i hi
      unfold lX8_odds_2
      refine ⟨fun y => absurd y (nI_ge (by omega) (by omega)), fun _ => ?_⟩
      rintro _ rfl _ rfl
      rw [e10, pk_mul, nI_1, ← Nat.pow_succ]
      exact ih (i + 1) (by omega)
  exact ⟨n + 1, key n 0 (by omega)⟩
theorem s_belowM {n : Nat} (hn : n ≤ 5) {K : Int32 → Prop} (h : K (nI (10 ^ n))) : ∃ f, lX9_odds_4 (nI n) K f 1 0 := by
  have key : ∀ (j i : Nat), i + j = n → lX9_odds_4 (nI n) K (j + 1) (nI (10 ^ i)) (nI i) := by
    intro j
    induction j with
    | zero =>
      intro i hi
      unfold lX9_odds_4
      refine ⟨fun _ => by rw [show i = n by omega]; exact h, fun y => absurd (nI_le (by omega) (by omega)) y⟩
    | succ j ih =>
      intro i hi
      unfold lX9_odds_4
      refine ⟨fun y => absurd y (nI_ge (by omega) (by omega)), fun _ => ?_⟩
      rintro _ rfl _ rfl
      rw [e10, pk_mul, nI_1, ← Nat.pow_succ]
      exact ih (i + 1) (by omega)
  exact ⟨n + 1, key n 0 (by omega)⟩
theorem gcd_half {a b : Nat} (hb : 0 < b) (hr : 0 < a % b) : 2 * (b % (a % b)) < b := by
  have h1 := Nat.mod_lt a hb
  have h2 := Nat.mod_lt b hr
  have h3 : b % (a % b) ≤ b - a % b := by
    rw [Nat.mod_eq_sub_mod (by omega)]
    exact Nat.mod_le _ _
  omega
theorem gcd_rec' (a b : Nat) : Nat.gcd b (a % b) = Nat.gcd a b := by
  rw [Nat.gcd_comm a b, Nat.gcd_rec b a, Nat.gcd_comm]
theorem s_gcdC {K : Int32 → Prop} : ∀ (k a b t : Nat), a < 2 ^ 30 → b < 2 ^ 30 → b < 2 ^ k → t + 2 * k ≤ 100 → K (nI (Nat.gcd a b)) → ∃ f, lX8_greatestDivisor_1 K f (nI a) (nI b) (nI t)
  | 0, a, b, t, ha, hb, hk, ht, h => by
    have : b = 0 := by omega
    subst this
    rw [Nat.gcd_zero_right] at h
    refine ⟨1, ?_⟩
    unfold lX8_greatestDivisor_1
    exact ⟨fun _ => h, fun _ => ⟨fun _ => h, fun y => absurd rfl y⟩⟩
  | k + 1, a, b, t, ha, hb, hk, ht, h => by
    rcases Nat.eq_zero_or_pos b with z | z
    · subst z
      rw [Nat.gcd_zero_right] at h
      refine ⟨1, ?_⟩
      unfold lX8_greatestDivisor_1
      exact ⟨fun _ => h, fun _ => ⟨fun _ => h, fun y => absurd rfl y⟩⟩
    · have e100 : (100 : Int32) = nI 100 := by decide
      have hr := Nat.mod_lt a z
      have hnb : ¬ nI b = 0 := nI_ne0 z (by omega)
      have start : ∀ f, lX8_greatestDivisor_1 K f (nI b) (nI (a % b)) (nI (t + 1)) → ∃ f, lX8_greatestDivisor_1 K f (nI a) (nI b) (nI t) := by
        intro f hf
        refine ⟨f + 1, ?_⟩
        unfold lX8_greatestDivisor_1
        refine ⟨fun y => absurd y ?_, fun _ => ⟨fun y => absurd y hnb, fun _ => ⟨hnb, ?_⟩⟩⟩
        · rw [e100]; exact nI_ge (by omega) (by omega)
        · rintro _ rfl _ rfl
          rw [pk_rem (by omega) z (by omega), nI_1]
          exact hf
      rcases Nat.eq_zero_or_pos (a % b) with z2 | z2
      · refine start 1 ?_
        rw [← gcd_rec', z2, Nat.gcd_zero_right] at h
        rw [z2]
        unfold lX8_greatestDivisor_1
        exact ⟨fun _ => h, fun _ => ⟨fun _ => h, fun y => absurd rfl y⟩⟩
      · have hh := gcd_half z z2
        have h2 := Nat.mod_lt b z2
        rw [Nat.pow_succ] at hk
        obtain ⟨f, hf⟩ := s_gcdC (K := K) k (a % b) (b % (a % b)) (t + 2) (by omega) (by omega) (by omega) (by omega) (by rw [gcd_rec', gcd_rec']; exact h)
        have hnr : ¬ nI (a % b) = 0 := nI_ne0 z2 (by omega)
        refine start (f + 1) ?_
        unfold lX8_greatestDivisor_1
        refine ⟨fun y => absurd y ?_, fun _ => ⟨fun y => absurd y hnr, fun _ => ⟨hnr, ?_⟩⟩⟩
        · rw [e100]; exact nI_ge (by omega) (by omega)
        · rintro _ rfl _ rfl
          rw [pk_rem (by omega) z2 (by omega), nI_1]
          exact hf
theorem s_gcdM {K : Int32 → Prop} : ∀ (k a b : Nat), a < 2 ^ 30 → b < 2 ^ 30 → b < k → K (nI (Nat.gcd a b)) → ∃ f, lX9_odds_1 K f (nI a) (nI b)
  | 0, a, b, ha, hb, hk, h => absurd hk (Nat.not_lt_zero _)
  | k + 1, a, b, ha, hb, hk, h => by
    rcases Nat.eq_zero_or_pos b with z | z
    · subst z
      rw [Nat.gcd_zero_right] at h
      refine ⟨1, ?_⟩
      unfold lX9_odds_1
      exact ⟨fun _ => h, fun y => absurd rfl y⟩
    · have hr := Nat.mod_lt a z
      have hnb : ¬ nI b = 0 := nI_ne0 z (by omega)
      obtain ⟨f, hf⟩ := s_gcdM (K := K) k b (a % b) (by omega) (by omega) (by omega) (by rw [gcd_rec']; exact h)
      refine ⟨f + 1, ?_⟩
      unfold lX9_odds_1
      refine ⟨fun y => absurd y hnb, fun _ => ⟨hnb, ?_⟩⟩
      rintro _ rfl
      rw [pk_rem (by omega) z (by omega)]
      exact hf
/-- ten minutes at a time -/
def xs (r a : Nat) (i : Nat) : Nat := if bt r (i / 10) = true then a else 0
theorem mns_const {P : vP} {x : Nat → Nat} {D : vD} {v s : Nat} : ∀ j, (∀ t, t < j → x (s + t) = v) → mns P (fun _ => v) (mns P x D s) j = mns P x D (s + j)
  | 0, _ => rfl
  | j + 1, h => by
    show mn P (mns P (fun _ => v) (mns P x D s) j) v = mn P (mns P x D (s + j)) (x (s + j))
    rw [mns_const j (fun t ht => h t (by omega)), h j (by omega)]
theorem mn_B {P : vP} (hp : pOk P) (D : vD) (x : Nat) : sU (dB (mn P D x)) (pN P) = sU (dB D) (pN P) + (if mnB P D x < 8 then 1 else 0) := by
  show sU (if mnB P D x < 8 then uN (dB D) (mnB P D x) (dB D (mnB P D x) + 1) else dB D) (pN P) = _
  by_cases h : mnB P D x < 8
  · rw [if_pos h, if_pos h]
    have e : mnB P D x = mnP P D := by
      unfold mnB at h ⊢
      split
      · rfl
      · next y => rw [if_neg y] at h; omega
    have h2 := mnP_lt hp (D := D) (by rw [← e]; exact h)
    rw [e, sU_uN, if_pos h2]
    have : ∀ n, mnP P D < n → dB D (mnP P D) ≤ sU (dB D) n := by
      intro n
      induction n with
      | zero => intro y; omega
      | succ n ih =>
        intro y
        show _ ≤ sU (dB D) n + dB D n
        rcases Nat.lt_or_ge (mnP P D) n with w | w
        · have := ih w; omega
        · rw [show mnP P D = n by omega]; omega
    have := this _ h2
    omega
  · rw [if_neg h, if_neg h]
    omega
def hol (P : vP) (D : vD) (x : Nat → Nat) : Nat → Bool
  | 0 => true
  | i + 1 => hol P D x i && decide (¬ mnB P (mns P x D i) (x i) < 8)
theorem hol_B {P : vP} (hp : pOk P) (D : vD) (x : Nat → Nat) : ∀ i, sU (dB D) (pN P) ≤ sU (dB (mns P x D i)) (pN P) ∧ (hol P D x i = true ↔ sU (dB (mns P x D i)) (pN P) = sU (dB D) (pN P))
  | 0 => ⟨Nat.le_refl _, by simp [hol, mns]⟩
  | i + 1 => by
    obtain ⟨h1, h2⟩ := hol_B hp D x i
    have h3 := mn_B hp (mns P x D i) (x i)
    have e : mns P x D (i + 1) = mn P (mns P x D i) (x i) := rfl
    rw [e, h3]
    refine ⟨by omega, ?_⟩
    show (hol P D x i && decide _) = true ↔ _
    rw [Bool.and_eq_true, h2, decide_eq_true_iff]
    split <;> omega
theorem s_holdsIn {P : vP} (hp : pOk P) {D : vD} (hd : dOk P D) (hm9 : dM D ≤ 999) {r n a : Nat} (hr : r < 2 ^ 31) (hn : n ≤ 5) (ha : a ≤ 30) {c : vv_S} {post : Int32 → vv_S → Prop} (hc : PC P c) (h0 : DR P 42 D c)
    (kk : ∀ c', Fr4 46 c c' → post (if hol P D (xs r a) (10 * n) = true then 1 else 0) c') : wX8_holdsIn (nI r) (nI n) (nI a) c post := by
  unfold wX8_holdsIn
  refine s_copyFrom hp hd hc h0 ?_
  intro c1 hf1 hd1
  refine s_allBreaches hp hd1.1 ?_
  have hx : ∀ i, xs r a i ≤ 60 := fun i => by unfold xs; split <;> omega
  refine jn_of (fun f => ∀ c', Fr4 46 c c' → DP P 46 (mns P (xs r a) D (10 * n)) c' → f c') ?_ ?_
  · intro c' hf' hd'
    have hB := hol_B hp D (xs r a) (10 * n)
    have b1 := (mns_ok (x := xs r a) hp hd (10 * n)).2.2
    have b2 := hd.2.2
    rw [mns_M] at b1
    refine s_allBreaches hp hd'.1 ?_
    refine jn_of (fun g => g (if hol P D (xs r a) (10 * n) = true then 1 else 0)) ⟨by split <;> simp, kk c' hf'⟩ ?_
    intro g hg
    rw [nI_eq (by omega) (by omega), ← hB.2]
    exact ⟨fun y => by rw [if_neg y] at hg; exact hg, fun y => by rw [if_pos y] at hg; exact hg⟩
  · intro f hf
    have key : ∀ (j i : Nat) (c' : vv_S), i + j = n → Fr4 46 c c' → DP P 46 (mns P (xs r a) D (10 * i)) c' → lX8_holdsIn_1 (nI n) f (nI r) (nI a) (j + 1) (nI i) c' := by
      intro j
      induction j with
      | zero =>
        intro i c' hi hf' hd'
        unfold lX8_holdsIn_1
        refine ⟨fun _ => hf c' hf' (by rw [show n = i by omega]; exact hd'), fun y => absurd (nI_le (by omega) (by omega)) y⟩
      | succ j ih =>
        intro i c' hi hf' hd'
        unfold lX8_holdsIn_1
        refine ⟨fun y => absurd y (nI_ge (by omega) (by omega)), fun _ => ?_⟩
        refine jn_of (fun g => g (nI (if bt r i = true then a else 0))) ?_ (fun g hg => ?_)
        · rw [e10]
          refine s_letPass hp (by decide) (mns_ok hp hd (10 * i)) (n := 10) (x := if bt r i = true then a else 0) (by split <;> omega) (by rw [mns_M]; omega) (hc.fr (by decide) hf') hd' ?_
          intro c2 hf2 hd2
          rintro _ rfl
          rw [nI_1]
          rw [mns_const 10 (fun t ht => by unfold xs; rw [show (10 * i + t) / 10 = i by omega])] at hd2
          exact ih (i + 1) c2 (by omega) (hf'.trans hf2) (by rw [show 10 * (i + 1) = 10 * i + 10 by omega]; exact hd2)
        · rw [bit_val hr (by omega)]
          exact ⟨fun y => by rw [if_neg y] at hg; exact hg, fun y => by rw [if_pos y] at hg; exact hg⟩
    exact ⟨n + 1, key n 0 c1 (by omega) hf1 hd1⟩
theorem brk_neg {b : Nat} (hb : b ≤ 100) : 0 ≤ brk b ↔ b < 8 := by
  unfold brk
  by_cases h : b < 8
  · rw [if_pos h]; exact ⟨fun _ => h, fun _ => nI_pos' (by omega)⟩
  · rw [if_neg h]; exact ⟨fun y => absurd y (by decide), fun y => absurd y h⟩
theorem s_holdsM {P : vP} (hp : pOk P) {D : vD} (hd : dOk P D) (hm9 : dM D ≤ 999) {r n a : Nat} (hr : r < 2 ^ 31) (hn : n ≤ 5) (ha : a ≤ 30) {m : vv_S} {post : Int32 → vv_S → Prop} (hm : PM P m) (h0 : DM P 0 D m)
    (kk : ∀ m', FrW 1 m m' → post (if hol P D (xs r a) (10 * n) = true then 1 else 0) m') : wX9_holds (nI n) (nI a) (nI r) m post := by
  unfold wX9_holds
  refine s_tryIt hp h0 ?_
  intro m1 hg1 he1
  have hx : ∀ i, xs r a i ≤ 60 := fun i => by unfold xs; split <;> omega
  have key : ∀ (j i : Nat) (m' : vv_S), i + j = 10 * n → FrW 1 m m' → DM P 1 (mns P (xs r a) D i) m' → lX9_holds_1 (nI n) post (nI r) (nI a) (j + 1) (if hol P D (xs r a) i = true then 1 else 0) (nI i) m' := by
    intro j
    induction j with
    | zero =>
      intro i m' hi hf' hd'
      unfold lX9_holds_1
      rw [e10, pk_mul]
      refine ⟨fun _ => ⟨by split <;> simp, ?_⟩, fun y => absurd (nI_le (by omega) (by omega)) y⟩
      have := kk m' hf'
      rw [show 10 * n = i by omega] at this
      exact this
    | succ j ih =>
      intro i m' hi hf' hd'
      unfold lX9_holds_1
      rw [e10, pk_mul, pk_div (by omega) (by decide) (by decide)]
      refine ⟨fun y => absurd y (nI_ge (by omega) (by omega)), fun _ => ?_⟩
      refine jn_of (fun g => g (nI (xs r a i))) ?_ (fun g hg => ?_)
      · refine s_go hp (b := 1) (by decide) (mns_ok hp hd i) (x := xs r a i) (hx i) (by rw [mns_M]; omega) (hm.fr hf') hd' ?_
        intro m2 hf2 hd2 _ _ w3
        have eh : hol P D (xs r a) (i + 1) = (hol P D (xs r a) i && decide (¬ mnB P (mns P (xs r a) D i) (xs r a i) < 8)) := rfl
        have hb := mnB_le (P := P) (mns P (xs r a) D i) (xs r a i)
        rw [w3, brk_neg hb]
        refine jn_of (fun g => g (if hol P D (xs r a) (i + 1) = true then 1 else 0)) ?_ ?_
        · rintro _ rfl
          rw [nI_1]
          exact ih (i + 1) m2 (by omega) (hf'.trans hf2.toW) hd2
        · intro g hg
          refine jn_of (fun g2 => ¬ hol P D (xs r a) (i + 1) = true → g2) (fun y => by rw [if_neg y] at hg; exact hg) ?_
          intro g2 hg2
          refine ⟨fun y => hg2 ?_, fun y => ⟨fun y2 => hg2 ?_, fun y2 => ?_⟩⟩
          · have : ¬ hol P D (xs r a) i = true := fun w => by rw [if_pos w] at y; exact absurd y (by decide)
            rw [eh, Bool.and_eq_true]
            exact fun w => this w.1
          · rw [eh, Bool.and_eq_true, decide_eq_true_iff]
            exact fun w => w.2 y2
          · have w1 : hol P D (xs r a) i = true := by
              by_cases w : hol P D (xs r a) i = true
              · exact w
              · rw [if_neg w] at y; exact absurd rfl y
            rw [if_pos (by rw [eh, w1]; simp; omega)] at hg
            exact hg
      · rw [bit_val hr (by omega)]
        unfold xs at hg
        exact ⟨fun y => by rw [if_neg y] at hg; exact hg, fun y => by rw [if_pos y] at hg; exact hg⟩
  exact ⟨10 * n + 1, key (10 * n) 0 m1 (by omega) hg1 he1⟩

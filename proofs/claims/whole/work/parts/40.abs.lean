/-! ===== the dam as numbers: what both sides picture ===== -/
theorem vj_ite {c : Prop} [Decidable c] {β : Type} {a b : β} {k : β → Prop} : ((c → k a) ∧ (¬ c → k b)) ↔ k (if c then a else b) := by
  by_cases h : c <;> simp [h]
theorem nIlt {a b : Nat} (ha : a < 2 ^ 31) (hb : b < 2 ^ 31) : nI a < nI b ↔ a < b := nI_ltI ha hb
theorem vn0 : (0 : Int32) = nI 0 := by decide
theorem vn1 : (1 : Int32) = nI 1 := by decide
theorem vn2 : (2 : Int32) = nI 2 := by decide
theorem vn3 : (3 : Int32) = nI 3 := by decide
theorem vn8 : (8 : Int32) = nI 8 := by decide
theorem vn9 : (9 : Int32) = nI 9 := by decide
/-- an inch of water: h inches take so much -/
def ta (A S h : Nat) : Nat := A * h + S * (h * (h + 1) / 2)
theorem tri (k : Nat) : (k + 1) * (k + 1 + 1) / 2 = k * (k + 1) / 2 + (k + 1) := by
  have e : (k + 1) * (k + 1 + 1) = k * (k + 1) + (k + 1) * 2 := by
    simp only [Nat.mul_add, Nat.add_mul, Nat.mul_one, Nat.one_mul]; omega
  rw [e, Nat.add_mul_div_right _ _ (by decide)]
theorem ta_succ (A S k : Nat) : ta A S (k + 1) = ta A S k + (A + S * (k + 1)) := by
  unfold ta
  rw [tri, Nat.mul_add, Nat.mul_add]
  omega
theorem ta_0 (A S : Nat) : ta A S 0 = 0 := by simp [ta]
theorem ta_mono (A S : Nat) {a b : Nat} (h : a ≤ b) : ta A S a ≤ ta A S b := by
  induction h with
  | refl => exact Nat.le_refl _
  | step _ ih => rw [ta_succ]; omega
theorem tri_le {h N : Nat} (hh : h ≤ N) : h * (h + 1) / 2 ≤ N * (N + 1) / 2 := Nat.div_le_div_right (Nat.mul_le_mul hh (by omega))
theorem ta_bd {A S h : Nat} (hA : A ≤ 20) (hS : S ≤ 5) (hh : h ≤ 64) : ta A S h ≤ 11680 := by
  unfold ta
  have h1 := Nat.mul_le_mul hA hh
  have h2 := Nat.mul_le_mul hS (tri_le hh)
  simp at h1 h2
  omega
theorem ta_bd50 {A S h : Nat} (hA : A ≤ 20) (hS : S ≤ 5) (hh : h ≤ 50) : ta A S h ≤ 7375 := by
  unfold ta
  have h1 := Nat.mul_le_mul hA hh
  have h2 := Nat.mul_le_mul hS (tri_le hh)
  simp at h1 h2
  omega
/-- the level of w units -/
def lv (A S w : Nat) : Nat → Nat
  | 0 => 0
  | h + 1 => if ta A S (h + 1) ≤ w then h + 1 else lv A S w h
theorem lv_le (A S w : Nat) : ∀ h, lv A S w h ≤ h
  | 0 => Nat.le_refl 0
  | h + 1 => by
    unfold lv
    split
    · exact Nat.le_refl _
    · exact Nat.le_succ_of_le (lv_le A S w h)
theorem lv_is (A S w : Nat) : ∀ (N L : Nat), L ≤ N → ta A S L ≤ w → (L < N → w < ta A S (L + 1)) → lv A S w N = L
  | 0, L, h1, _, _ => by simp [lv]; omega
  | N + 1, L, h1, h2, h3 => by
    unfold lv
    by_cases e : L = N + 1
    · subst e
      rw [if_pos h2]
    · have hN : L ≤ N := by omega
      have h4 := h3 (by omega)
      have h5 := ta_mono A S (a := L + 1) (b := N + 1) (by omega)
      rw [if_neg (by omega)]
      exact lv_is A S w N L hN h2 (fun h => h4)
/-- sums over cells -/
def sU (f : Nat → Nat) : Nat → Nat
  | 0 => 0
  | k + 1 => sU f k + f k
theorem sU_congr {f g : Nat → Nat} : ∀ (n : Nat), (∀ k, k < n → f k = g k) → sU f n = sU g n
  | 0, _ => rfl
  | n + 1, h => by
    show _ + _ = _ + _
    rw [sU_congr n (fun k hk => h k (by omega)), h n (by omega)]
/-- the lowest of banks and cells, and where it is; j cells looked at, from the right -/
def eD (n l r : Nat) (H : Nat → Nat) : Nat → Nat × Nat
  | 0 => (if r < l then r else l, if r < l then 9 else 8)
  | j + 1 => if H (n - (j + 1)) ≤ (eD n l r H j).1 then (H (n - (j + 1)), n - (j + 1)) else eD n l r H j
/-- plan: cells, heights and stuffs at first, left and right bank, the inch, its growth, what comes minute by minute -/
abbrev vP : Type := Nat × (Nat → Nat) × (Nat → Nat) × Nat × Nat × Nat × Nat × (Nat → Nat)
abbrev pN (P : vP) : Nat := P.1
abbrev pH (P : vP) : Nat → Nat := P.2.1
abbrev pO (P : vP) : Nat → Nat := P.2.2.1
abbrev pL (P : vP) : Nat := P.2.2.2.1
abbrev pR (P : vP) : Nat := P.2.2.2.2.1
abbrev pA (P : vP) : Nat := P.2.2.2.2.2.1
abbrev pS (P : vP) : Nat := P.2.2.2.2.2.2.1
abbrev pC (P : vP) : Nat → Nat := P.2.2.2.2.2.2.2
def pOk (P : vP) : Prop := 1 ≤ pN P ∧ pN P ≤ 8 ∧ (∀ k, k < pN P → pH P k ≤ 40 ∧ pO P k ≤ 3) ∧ pL P ≤ 50 ∧ pR P ≤ 50 ∧ 1 ≤ pA P ∧ pA P ≤ 20 ∧ pS P ≤ 5 ∧ (∀ t, pC P t ≤ 180) ∧ ∀ t, 100 ≤ t → pC P t = pC P 100
/-- the dam and the water: heights, stuffs, breaches, units, minutes, over, seeped -/
abbrev vD : Type := (Nat → Nat) × (Nat → Nat) × (Nat → Nat) × Nat × Nat × Nat × Nat
abbrev dH (D : vD) : Nat → Nat := D.1
abbrev dO (D : vD) : Nat → Nat := D.2.1
abbrev dB (D : vD) : Nat → Nat := D.2.2.1
abbrev dW (D : vD) : Nat := D.2.2.2.1
abbrev dM (D : vD) : Nat := D.2.2.2.2.1
abbrev dV (D : vD) : Nat := D.2.2.2.2.2.1
abbrev dS (D : vD) : Nat := D.2.2.2.2.2.2
def dOk (P : vP) (D : vD) : Prop := (∀ k, k < pN P → dH D k ≤ 40 ∧ dO D k ≤ 3) ∧ dW D ≤ 7375 ∧ sU (dB D) (pN P) ≤ dM D
abbrev edP (P : vP) (H : Nat → Nat) : Nat × Nat := eD (pN P) (pL P) (pR P) H (pN P)
theorem eD_le (n l r : Nat) (H : Nat → Nat) : ∀ j, (eD n l r H j).1 ≤ l ∧ (eD n l r H j).1 ≤ r
  | 0 => by
    simp only [eD]
    split <;> omega
  | j + 1 => by
    have h := eD_le n l r H j
    simp only [eD]
    split
    · dsimp only
      omega
    · exact h
/-- what seeps by a cell -/
def sp1 (lev : Nat) (H O : Nat → Nat) (c : Nat) : Nat := if H c = 0 then 0 else if O c = 1 then lev / 8 else if O c = 3 then lev / 3 else 0
def wr (o m : Nat) : Nat := if o = 0 then 2 else if o = 1 ∧ m % 2 = 0 then 1 else 0
/-- one minute, with so much more: the dam behind it, what went over, where, which cell was breached (100: none) -/
def mn1 (P : vP) (D : vD) (x : Nat) : Nat := dW D + (pC P (dM D + 1) + x)
def mnS (P : vP) (D : vD) (x : Nat) : Nat := min (sU (sp1 (lv (pA P) (pS P) (mn1 P D x) 60) (dH D) (dO D)) (pN P)) (mn1 P D x)
def mnV (P : vP) (D : vD) (x : Nat) : Nat := (mn1 P D x - mnS P D x) - ta (pA P) (pS P) (edP P (dH D)).1
def mnP (P : vP) (D : vD) : Nat := (edP P (dH D)).2
def uN (f : Nat → Nat) (k v : Nat) : Nat → Nat := fun j => if j = k then v else f j
/-- which cell is breached: 100 for none -/
def mnB (P : vP) (D : vD) (x : Nat) : Nat := if 0 < mnV P D x ∧ mnP P D < 8 ∧ 0 < dH D (mnP P D) ∧ dH D (mnP P D) ≤ wr (dO D (mnP P D)) (dM D + 1) then mnP P D else 100
def mn (P : vP) (D : vD) (x : Nat) : vD :=
  (if 0 < mnV P D x ∧ mnP P D < 8 then uN (dH D) (mnP P D) (dH D (mnP P D) - wr (dO D (mnP P D)) (dM D + 1)) else dH D,
   dO D,
   if mnB P D x < 8 then uN (dB D) (mnB P D x) (dB D (mnB P D x) + 1) else dB D,
   mn1 P D x - mnS P D x - mnV P D x, dM D + 1, dV D + mnV P D x, dS D + mnS P D x)
theorem uN_s {f : Nat → Nat} {k v : Nat} : uN f k v k = v := by simp [uN]
theorem uN_n {f : Nat → Nat} {k v j : Nat} (h : j ≠ k) : uN f k v j = f j := by simp [uN, h]
/-- the minutes go by, one behind the other, with what more comes in each -/
def mns (P : vP) (x : Nat → Nat) (D : vD) : Nat → vD
  | 0 => D
  | k + 1 => mn P (mns P x D k) (x k)
theorem eD_place (n l r : Nat) (H : Nat → Nat) : ∀ j, j ≤ n → (eD n l r H j).2 < n ∨ (eD n l r H j).2 = 8 ∨ (eD n l r H j).2 = 9
  | 0, _ => by
    simp only [eD]
    split <;> simp
  | j + 1, h => by
    have h2 := eD_place n l r H j (by omega)
    simp only [eD]
    split
    · left
      dsimp only
      omega
    · exact h2

/-! ===== what an item tells: one picture for both sides ===== -/
abbrev vT : Type := (Nat × (Nat → Nat) × (Nat → Nat) × Nat × Nat × Nat × Nat) × (Nat × (Nat → Nat) × (Nat → Nat)) × (Nat × (Nat → Nat) × (Nat → Nat) × (Nat → Nat)) × vQ
abbrev tN (T : vT) : Nat := T.1.1
abbrev tH (T : vT) : Nat → Nat := T.1.2.1
abbrev tO (T : vT) : Nat → Nat := T.1.2.2.1
abbrev tL (T : vT) : Nat := T.1.2.2.2.1
abbrev tR (T : vT) : Nat := T.1.2.2.2.2.1
abbrev tA (T : vT) : Nat := T.1.2.2.2.2.2.1
abbrev tS (T : vT) : Nat := T.1.2.2.2.2.2.2
abbrev tfc (T : vT) : Nat := T.2.1.1
abbrev tF (T : vT) : Nat → Nat := T.2.1.2.1
abbrev tU (T : vT) : Nat → Nat := T.2.1.2.2
abbrev trc (T : vT) : Nat := T.2.2.1.1
abbrev tRF (T : vT) : Nat → Nat := T.2.2.1.2.1
abbrev tRT (T : vT) : Nat → Nat := T.2.2.1.2.2.1
abbrev tRU (T : vT) : Nat → Nat := T.2.2.1.2.2.2
abbrev tQ (T : vT) : vQ := T.2.2.2
def T0 : vT := ((0, fun _ => 0, fun _ => 0, 20, 20, 6, 1), (0, fun _ => 0, fun _ => 0), (0, fun _ => 0, fun _ => 0, fun _ => 0), (0, fun _ _ => 0, 0, fun _ => 0, fun _ => 0))
def tOk (T : vT) : Prop := (tN T ≤ 8 ∧ ∀ k, k < tN T → tH T k ≤ 40 ∧ tO T k ≤ 3) ∧ (tL T ≤ 50 ∧ tR T ≤ 50 ∧ 1 ≤ tA T ∧ tA T ≤ 20 ∧ tS T ≤ 5) ∧ (tfc T ≤ 4 ∧ ∀ k, k < tfc T → tF T k ≤ 99 ∧ tU T k ≤ 60) ∧ (trc T ≤ 4 ∧ ∀ k, k < trc T → tRF T k ≤ 99 ∧ tRT T k ≤ 99 ∧ tRU T k ≤ 30) ∧ qOk (tQ T)
def kCell (T : vT) (L : List Nat) : vT := ((tN T + 1, uN (tH T) (tN T) (L.getD 0 0), uN (tO T) (tN T) (L.getD 1 0), tL T, tR T, tA T, tS T), T.2)
def kBank (T : vT) (L : List Nat) : vT := ((tN T, tH T, tO T, L.getD 0 0, L.getD 1 0, tA T, tS T), T.2)
def kLake (T : vT) (L : List Nat) : vT := ((tN T, tH T, tO T, tL T, tR T, L.getD 0 0, L.getD 1 0), T.2)
def kFlow (T : vT) (L : List Nat) : vT := (T.1, (tfc T + 1, uN (tF T) (tfc T) (L.getD 0 0), uN (tU T) (tfc T) (L.getD 1 0)), T.2.2)
def kRain (T : vT) (L : List Nat) : vT := (T.1, T.2.1, (trc T + 1, uN (tRF T) (trc T) (L.getD 0 0), uN (tRT T) (trc T) (L.getD 1 0), uN (tRU T) (trc T) (L.getD 2 0)), tQ T)
def kKid (T : vT) (L : List Nat) : vT := (T.1, T.2.1, T.2.2.1, ((tQ T).1 + 1, fun i => if i = (tQ T).1 then fun s => L.getD s 0 else (tQ T).2.1 i, (tQ T).2.2))
def kJob (T : vT) (L : List Nat) : vT := (T.1, T.2.1, T.2.2.1, ((tQ T).1, (tQ T).2.1, (tQ T).2.2.1 + 1, uN (tQ T).2.2.2.1 (tQ T).2.2.1 (L.getD 1 0), uN (tQ T).2.2.2.2 (tQ T).2.2.1 (L.getD 2 0)))
def tk (x : Int32) (L : List Nat) (T : vT) : Option vT :=
  if x = 99 then (if L.length = 2 ∧ tN T ≠ 8 ∧ L.getD 0 0 ≤ 40 ∧ L.getD 1 0 ≤ 3 then some (kCell T L) else none)
  else if x = 98 then (if L.length = 2 ∧ L.getD 0 0 ≤ 50 ∧ L.getD 1 0 ≤ 50 then some (kBank T L) else none)
  else if x = 97 then (if L.length = 2 ∧ (1 ≤ L.getD 0 0 ∧ L.getD 0 0 ≤ 20) ∧ L.getD 1 0 ≤ 5 then some (kLake T L) else none)
  else if x = 102 then (if L.length = 2 ∧ tfc T ≠ 4 ∧ L.getD 1 0 ≤ 60 then some (kFlow T L) else none)
  else if x = 114 then (if L.length = 3 ∧ trc T ≠ 4 ∧ L.getD 0 0 ≤ L.getD 1 0 ∧ L.getD 2 0 ≤ 30 then some (kRain T L) else none)
  else if x = 112 then (if L.length = 4 ∧ (tQ T).1 ≠ 4 ∧ (L.getD 0 0 ≤ 9 ∧ L.getD 1 0 ≤ 9 ∧ L.getD 2 0 ≤ 9 ∧ L.getD 3 0 ≤ 9) then some (kKid T L) else none)
  else if x = 106 then (if L.length = 3 ∧ (tQ T).2.2.1 ≠ 5 ∧ L.getD 0 0 < tN T ∧ L.getD 1 0 ≤ 3 ∧ 1 ≤ L.getD 2 0 ∧ L.getD 2 0 ≤ 30 then some (kJob T L) else none)
  else none
theorem le9 {L : List Nat} (h : L.getD 0 0 ≤ 9 ∧ L.getD 1 0 ≤ 9 ∧ L.getD 2 0 ≤ 9 ∧ L.getD 3 0 ≤ 9) : ∀ s, s < 4 → L.getD s 0 ≤ 9 := by
  intro s hs
  rcases (by omega : s = 0 ∨ s = 1 ∨ s = 2 ∨ s = 3) with rfl | rfl | rfl | rfl
  · exact h.1
  · exact h.2.1
  · exact h.2.2.1
  · exact h.2.2.2
theorem uN_cases {f : Nat → Nat} {n v : Nat} {R : Nat → Prop} (h : ∀ k, k < n → R (f k)) (hv : R v) : ∀ k, k < n + 1 → R (uN f n v k) := by
  intro k hk
  by_cases y : k = n
  · rw [y, uN_s]; exact hv
  · rw [uN_n y]; exact h k (by omega)
theorem tk_ok {x : Int32} {L : List Nat} (hL : ∀ k, L.getD k 0 ≤ 99) {T T' : vT} (hT : tOk T) (h : tk x L T = some T') : tOk T' := by
  obtain ⟨⟨a1, a2⟩, b, ⟨c1, c2⟩, ⟨d1, d2⟩, q⟩ := id hT
  unfold tk at h
  split at h
  · split at h
    · next y =>
      injection h with h; subst h
      refine ⟨⟨show tN T + 1 ≤ 8 by omega, fun k hk => ⟨uN_cases (R := fun z => z ≤ 40) (fun k hk => (a2 k hk).1) y.2.2.1 k hk, uN_cases (R := fun z => z ≤ 3) (fun k hk => (a2 k hk).2) y.2.2.2 k hk⟩⟩, b, ⟨c1, c2⟩, ⟨d1, d2⟩, q⟩
    · exact absurd h (by simp)
  · split at h
    · split at h
      · next y =>
        injection h with h; subst h
        exact ⟨⟨a1, a2⟩, ⟨y.2.1, y.2.2, b.2.2⟩, ⟨c1, c2⟩, ⟨d1, d2⟩, q⟩
      · exact absurd h (by simp)
    · split at h
      · split at h
        · next y =>
          injection h with h; subst h
          exact ⟨⟨a1, a2⟩, ⟨b.1, b.2.1, y.2.1.1, y.2.1.2, y.2.2⟩, ⟨c1, c2⟩, ⟨d1, d2⟩, q⟩
        · exact absurd h (by simp)
      · split at h
        · split at h
          · next y =>
            injection h with h; subst h
            exact ⟨⟨a1, a2⟩, b, ⟨show tfc T + 1 ≤ 4 by omega, fun k hk => ⟨uN_cases (R := fun z => z ≤ 99) (fun k hk => (c2 k hk).1) (hL 0) k hk, uN_cases (R := fun z => z ≤ 60) (fun k hk => (c2 k hk).2) y.2.2 k hk⟩⟩, ⟨d1, d2⟩, q⟩
          · exact absurd h (by simp)
        · split at h
          · split at h
            · next y =>
              injection h with h; subst h
              exact ⟨⟨a1, a2⟩, b, ⟨c1, c2⟩, ⟨show trc T + 1 ≤ 4 by omega, fun k hk => ⟨uN_cases (R := fun z => z ≤ 99) (fun k hk => (d2 k hk).1) (hL 0) k hk, uN_cases (R := fun z => z ≤ 99) (fun k hk => (d2 k hk).2.1) (hL 1) k hk, uN_cases (R := fun z => z ≤ 30) (fun k hk => (d2 k hk).2.2) y.2.2.2 k hk⟩⟩, q⟩
            · exact absurd h (by simp)
          · split at h
            · split at h
              · next y =>
                injection h with h; subst h
                refine ⟨⟨a1, a2⟩, b, ⟨c1, c2⟩, ⟨d1, d2⟩, ⟨show (tQ T).1 + 1 ≤ 4 by have := q.1; omega, q.2.1, fun i s hi hs => ?_, q.2.2.2⟩⟩
                show (if i = (tQ T).1 then fun s => L.getD s 0 else (tQ T).2.1 i) s ≤ 9
                have hi : i < (tQ T).1 + 1 := hi
                split
                · exact le9 y.2.2 s hs
                · exact q.2.2.1 i s (by omega) hs
              · exact absurd h (by simp)
            · split at h
              · split at h
                · next y =>
                  injection h with h; subst h
                  exact ⟨⟨a1, a2⟩, b, ⟨c1, c2⟩, ⟨d1, d2⟩, ⟨q.1, show (tQ T).2.2.1 + 1 ≤ 5 by have := q.2.1; omega, q.2.2.1, fun k hk => ⟨uN_cases (R := fun z => z ≤ 3) (fun k hk => (q.2.2.2 k hk).1) y.2.2.2.1 k hk, uN_cases (R := fun z => 1 ≤ z ∧ z ≤ 30) (fun k hk => (q.2.2.2 k hk).2) y.2.2.2.2 k hk⟩⟩⟩
                · exact absurd h (by simp)
              · exact absurd h (by simp)
theorem tk_99 {L : List Nat} {T : vT} : tk 99 L T = (if L.length = 2 ∧ tN T ≠ 8 ∧ L.getD 0 0 ≤ 40 ∧ L.getD 1 0 ≤ 3 then some (kCell T L) else none) := by unfold tk; rw [if_pos rfl]
theorem tk_98 {L : List Nat} {T : vT} : tk 98 L T = (if L.length = 2 ∧ L.getD 0 0 ≤ 50 ∧ L.getD 1 0 ≤ 50 then some (kBank T L) else none) := by unfold tk; rw [if_neg (by decide), if_pos rfl]
theorem tk_97 {L : List Nat} {T : vT} : tk 97 L T = (if L.length = 2 ∧ (1 ≤ L.getD 0 0 ∧ L.getD 0 0 ≤ 20) ∧ L.getD 1 0 ≤ 5 then some (kLake T L) else none) := by unfold tk; rw [if_neg (by decide), if_neg (by decide), if_pos rfl]
theorem tk_102 {L : List Nat} {T : vT} : tk 102 L T = (if L.length = 2 ∧ tfc T ≠ 4 ∧ L.getD 1 0 ≤ 60 then some (kFlow T L) else none) := by unfold tk; rw [if_neg (by decide), if_neg (by decide), if_neg (by decide), if_pos rfl]
theorem tk_114 {L : List Nat} {T : vT} : tk 114 L T = (if L.length = 3 ∧ trc T ≠ 4 ∧ L.getD 0 0 ≤ L.getD 1 0 ∧ L.getD 2 0 ≤ 30 then some (kRain T L) else none) := by unfold tk; rw [if_neg (by decide), if_neg (by decide), if_neg (by decide), if_neg (by decide), if_pos rfl]
theorem tk_112 {L : List Nat} {T : vT} : tk 112 L T = (if L.length = 4 ∧ (tQ T).1 ≠ 4 ∧ (L.getD 0 0 ≤ 9 ∧ L.getD 1 0 ≤ 9 ∧ L.getD 2 0 ≤ 9 ∧ L.getD 3 0 ≤ 9) then some (kKid T L) else none) := by unfold tk; rw [if_neg (by decide), if_neg (by decide), if_neg (by decide), if_neg (by decide), if_neg (by decide), if_pos rfl]
theorem tk_106 {L : List Nat} {T : vT} : tk 106 L T = (if L.length = 3 ∧ (tQ T).2.2.1 ≠ 5 ∧ L.getD 0 0 < tN T ∧ L.getD 1 0 ≤ 3 ∧ 1 ≤ L.getD 2 0 ∧ L.getD 2 0 ≤ 30 then some (kJob T L) else none) := by unfold tk; rw [if_neg (by decide), if_neg (by decide), if_neg (by decide), if_neg (by decide), if_neg (by decide), if_neg (by decide), if_pos rfl]
/-- a row that grew by one -/
theorem row_up {f : Nat → Nat} {n v : Nat} {g h : Nat → Int32} (h0 : ∀ k, k < n → g k = nI (f k)) (h1 : h n = nI v) (h2 : ∀ k, k < n → h k = g k) : ∀ k, k < n + 1 → h k = nI (uN f n v k) := by
  intro k hk
  by_cases y : k = n
  · rw [y, uN_s]; exact h1
  · rw [uN_n y, h2 k (by omega)]; exact h0 k (by omega)
def TA (p : Nat) (T : vT) (c : vv_S) : Prop := c p 2 = nI (tN T) ∧ (∀ k, k < tN T → c (p + 1) k = nI (tH T k)) ∧ ∀ k, k < tN T → c (p + 2) k = nI (tO T k)
def TB (p : Nat) (T : vT) (c : vv_S) : Prop := c p 3 = nI (tL T) ∧ c p 4 = nI (tR T) ∧ c p 5 = nI (tA T) ∧ c p 6 = nI (tS T)
def TF (p : Nat) (T : vT) (c : vv_S) : Prop := c (p + 3) 2 = nI (tfc T) ∧ (∀ k, k < tfc T → c (p + 4) k = nI (tF T k)) ∧ ∀ k, k < tfc T → c (p + 5) k = nI (tU T k)
def TR (p : Nat) (T : vT) (c : vv_S) : Prop := c (p + 3) 6 = nI (trc T) ∧ (∀ k, k < trc T → c (p + 6) k = nI (tRF T k)) ∧ (∀ k, k < trc T → c (p + 7) k = nI (tRT T k)) ∧ ∀ k, k < trc T → c (p + 8) k = nI (tRU T k)
def TK (p : Nat) (T : vT) (c : vv_S) : Prop := c (p + 10) 1 = nI (tQ T).1 ∧ ∀ i s, i < (tQ T).1 → s < 4 → c (p + 12 + i) s = nI ((tQ T).2.1 i s)
def TJ (p : Nat) (T : vT) (c : vv_S) : Prop := c (p + 10) 4 = nI (tQ T).2.2.1 ∧ (∀ k, k < (tQ T).2.2.1 → c (p + 16) k = nI ((tQ T).2.2.2.1 k)) ∧ ∀ k, k < (tQ T).2.2.1 → c (p + 17) k = nI ((tQ T).2.2.2.2 k)
def TC (p : Nat) (T : vT) (c : vv_S) : Prop := TA p T c ∧ TB p T c ∧ TF p T c ∧ TR p T c ∧ TK p T c ∧ TJ p T c
def FrP (p : Nat) (c c' : vv_S) : Prop := ∀ i, ¬ (p ≤ i ∧ i ≤ p + 18) → c' i = c i
theorem FrP.rf {p : Nat} {c : vv_S} : FrP p c c := fun _ _ => rfl
theorem FrP.trans {p : Nat} {c c' c2 : vv_S} (h : FrP p c c') (g : FrP p c' c2) : FrP p c c2 := fun i a => by rw [g i a, h i a]
theorem FrP.up {p : Nat} {c : vv_S} {i j : Nat} {v : Int32} (h : p ≤ i ∧ i ≤ p + 18) : FrP p c (vv_up c i j v) := fun k a => vv_up_r (by omega)
theorem s_numberAt {L : List Nat} (hL : L.length ≤ 4) {k : Nat} (hk : k < 4) {c : vv_S} {post : Int32 → vv_S → Prop} (h3 : c 1 3 = nI L.length) (hn : ∀ i, i < L.length → c 3 i = nI (L.getD i 0)) (h : post (nI (L.getD k 0)) c) : wX7_numberAt (nI k) c post := by
  have hcl : (nI k).toNatClampNeg = k := nI_clamp (by omega)
  unfold wX7_numberAt
  rw [h3, hcl, nI_leI (by omega) (by omega)]
  refine jn_of (fun f => f (nI (L.getD k 0))) h (fun f hf => jn_of (fun g => ¬ k < L.length → g) (fun y => ?_) (fun g hg => ⟨fun y => absurd y (nI_pos (by omega)), fun _ => ⟨fun y => hg (by omega), fun y => ⟨fun z => absurd z (by rw [show (4 : Int32) = nI 4 by decide]; exact nI_ge (by omega) (by decide)), fun _ => ⟨vp_in_nI (by omega) (by decide), by rw [hn k (by omega)]; exact hf⟩⟩⟩⟩))
  rw [List.getD_eq_getElem?_getD, List.getElem?_eq_none (by omega)] at hf
  exact hf
theorem s_case {post : Int32 → vv_S → Prop} {c : vv_S} {r2 nn : Int32} (W : (Int32 → vv_S → Prop) → Prop) (hn : ¬ r2 = nn → post 0 c) (hs : r2 = nn → ∀ K : Int32 → vv_S → Prop, (∀ c', post 0 c' → K 0 c') → (∀ c', post 1 c' → K 1 c') → W K) :
    vv_jn (fun (v10 : Int32) (σ11 : vv_S) => (v10 = 0 ∨ v10 = 1) ∧ post v10 σ11) (fun k => vv_jn (fun (σ13 : vv_S) => k 0 σ13) (fun k2 => (¬ r2 = nn → k2 c) ∧ (r2 = nn → W (fun r σ => (r = 0 → k2 σ) ∧ (¬ r = 0 → k 1 σ))))) := by
  refine jn_of (fun k => (∀ c', post 0 c' → k 0 c') ∧ (∀ c', post 1 c' → k 1 c')) ⟨fun c' h => ⟨Or.inl rfl, h⟩, fun c' h => ⟨Or.inr rfl, h⟩⟩ ?_
  intro k hk
  refine jn_of (fun k2 => ∀ c', post 0 c' → k2 c') hk.1 ?_
  intro k2 hk2
  exact ⟨fun y => hk2 c (hn y), fun y => hs y _ (fun c' h => ⟨fun _ => hk2 c' h, fun z => absurd rfl z⟩) (fun c' h => ⟨fun z => absurd z (by decide), fun _ => hk.2 c' h⟩)⟩

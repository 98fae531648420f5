/-! ===== best: how some inches are shared out ===== -/
def lastNZ (l : List Nat) : Nat → Option Nat
  | 0 => none
  | j + 1 => if l.getD j 0 = 0 then lastNZ l j else some j
def nextL (n : Nat) (l : List Nat) : Option (List Nat) :=
  match lastNZ l (n - 1) with
  | none => none
  | some k => some (((l.set (n - 1) 0).set k ((l.set (n - 1) 0).getD k 0 - 1)).set (k + 1) (l.getD (n - 1) 0 + 1))
def okL (l : List Nat) : Bool := l.length == 8 && l.all (fun x => decide (x ≤ 5))
def chk (n : Nat) : Nat → List Nat → Bool
  | 0, _ => false
  | f + 1, l => okL l && (match nextL n l with
    | none => true
    | some l' => chk n f l')
set_option maxRecDepth 100000 in
theorem chk_all : ∀ n, n < 9 → ∀ m, m < 6 → chk n 900 [m, 0, 0, 0, 0, 0, 0, 0] = true := by decide +kernel
theorem okL_len {l : List Nat} (h : okL l = true) : l.length = 8 := by
  unfold okL at h
  rw [Bool.and_eq_true] at h
  simpa using h.1
theorem okL_bd {l : List Nat} (h : okL l = true) (k : Nat) : l.getD k 0 ≤ 5 := by
  unfold okL at h
  rw [Bool.and_eq_true, List.all_eq_true] at h
  rw [List.getD_eq_getElem?_getD]
  cases e : l[k]? with
  | none => exact Nat.zero_le _
  | some x => exact of_decide_eq_true (h.2 x (List.mem_of_getElem? e))
theorem getD_set' {l : List Nat} {i k v : Nat} (hi : i < l.length) : (l.set i v).getD k 0 = if k = i then v else l.getD k 0 := by
  rw [List.getD_eq_getElem?_getD, List.getD_eq_getElem?_getD, List.getElem?_set]
  by_cases h : i = k
  · subst h; rw [if_pos rfl, if_pos rfl, if_pos hi]; rfl
  · rw [if_neg h, if_neg (fun y => h y.symm)]
theorem chk_ok {n f : Nat} {l : List Nat} (h : chk n (f + 1) l = true) : okL l = true := by
  unfold chk at h
  rw [Bool.and_eq_true] at h
  exact h.1
theorem chk_next {n f : Nat} {l l' : List Nat} (h : chk n (f + 1) l = true) (e : nextL n l = some l') : chk n f l' = true := by
  unfold chk at h
  rw [Bool.and_eq_true, e] at h
  exact h.2
theorem lastNZ_lt {l : List Nat} : ∀ {j k : Nat}, lastNZ l j = some k → k < j
  | j + 1, k, h => by
    unfold lastNZ at h
    split at h
    · have := lastNZ_lt h; omega
    · injection h with h; omega
def lD (D : vD) (s : Nat) (l : List Nat) : Nat → vD
  | 0 => D
  | k + 1 => reD (lD D s l k) k (dH (lD D s l k) k + l.getD k 0) (if l.getD k 0 = 0 then dO (lD D s l k) k else s)
def cl (D : vD) (s : Nat) (l : List Nat) : Nat → Bool
  | 0 => true
  | k + 1 => cl D s l k && decide (l.getD k 0 = 0 ∨ dH (lD D s l k) k + l.getD k 0 ≤ 40)
theorem cl_mono {D : vD} {s : Nat} {l : List Nat} {i n : Nat} (hn : i ≤ n) (h : cl D s l i = false) : cl D s l n = false := by
  induction hn with
  | refl => exact h
  | step _ ih => simp [cl, ih]
theorem lD_ok {P : vP} {D : vD} (hd : dOk P D) {s : Nat} (hs : s ≤ 3) {l : List Nat} : ∀ k, k ≤ pN P → cl D s l k = true → dOk P (lD D s l k)
  | 0, _, _ => hd
  | k + 1, hk, h => by
    have e : cl D s l (k + 1) = (cl D s l k && decide (l.getD k 0 = 0 ∨ dH (lD D s l k) k + l.getD k 0 ≤ 40)) := rfl
    rw [e, Bool.and_eq_true, decide_eq_true_iff] at h
    have ih := lD_ok hd hs k (by omega) h.1
    have h2 := ih.1 k (by omega)
    refine reD_ok ih ?_ ?_
    · rcases h.2 with z | z <;> omega
    · split <;> omega
theorem lD_M {D : vD} {s : Nat} {l : List Nat} : ∀ k, dM (lD D s l k) = dM D
  | 0 => rfl
  | k + 1 => lD_M k
theorem reD_id {D : vD} {k h s : Nat} (h1 : h = dH D k) (h2 : s = dO D k) : reD D k h s = D := by
  unfold reD
  rw [uN_id h1, uN_id h2]
def wv (P : vP) (D : vD) (s t : Nat) (l : List Nat) : Nat := dW (m0 P (lD D s l (pN P)) t)
def RW (r : Nat) (l : List Nat) (c : vv_S) : Prop := ∀ k, k < 8 → c r k = nI (l.getD k 0)
theorem s_inchesAt {d k : Nat} (hk : k < 8) {c : vv_S} {post : Int32 → vv_S → Prop} (h : post (c (d + 1) k) c) : wX5_inchesAt d (nI k) c post := by
  have hcl : (nI k).toNatClampNeg = k := nI_clamp (by omega)
  unfold wX5_inchesAt
  rw [hcl]
  refine jn_of (fun f => f (c (d + 1) k)) h (fun f hf => jn_of (fun _ => True) trivial (fun g _ => ⟨fun y => absurd y (nI_pos (by omega)), fun _ => ⟨fun y => absurd y (by rw [vn8]; exact nI_ge hk (by decide)), fun _ => ⟨vp_in_nI hk (by decide), hf⟩⟩⟩))
theorem s_water {P : vP} (hp : pOk P) {D : vD} (hd : dOk P D) (hm9 : dM D ≤ 999) {l : List Nat} (hl : okL l = true) {s t : Nat} (hs : s ≤ 3) (ht : t ≤ 60) {c : vv_S} {post : Int32 → vv_S → Prop} (hc : PC P c) (h0 : DR P 42 D c) (h7 : RW 70 l c)
    (kk : ∀ c', Fr4 46 c c' → post (if cl D s l (pN P) = true then nI (wv P D s t l) else -4) c') : wX8_waterWithShares (nI s) (nI t) c post := by
  have hn8 := hp.2.1
  unfold wX8_waterWithShares
  refine s_copyFrom hp hd hc h0 ?_
  intro c1 hf1 hd1
  refine jn_of (fun f => ∀ c', Fr4 46 c c' → cl D s l (pN P) = true → DP P 46 (lD D s l (pN P)) c' → f c') ?_ ?_
  · intro c' hf' hcl hd'
    have hok := lD_ok hd hs (l := l) (pN P) (Nat.le_refl _) hcl
    refine s_letPass hp (by decide) hok (x := 0) (by omega) (by rw [lD_M]; omega) (hc.fr (by decide) hf') hd' ?_
    intro c2 hf2 hd2
    unfold wX3_units
    rw [hd2.1.2.2.1]
    have := kk c2 (hf'.trans hf2)
    rw [if_pos hcl] at this
    exact this
  · intro f hf
    have key : ∀ (j i : Nat) (c' : vv_S), i + j = pN P → cl D s l i = true → Fr4 46 c c' → DP P 46 (lD D s l i) c' → lX8_waterWithShares_1 f (nI s) post (j + 1) (nI i) c' := by
      intro j
      induction j with
      | zero =>
        intro i c' hi hcl hf' hd'
        have pc' := hc.fr (d := 46) (by decide) hf'
        unfold lX8_waterWithShares_1 wX4_cellCount
        rw [pc'.1]
        refine ⟨fun _ => ?_, fun y => absurd (nI_le (by omega) (by omega)) y⟩
        have e : i = pN P := by omega
        subst e
        exact hf c' hf' hcl hd'
      | succ j ih =>
        intro i c' hi hcl hf' hd'
        have pc' := hc.fr (d := 46) (by decide) hf'
        have hok := lD_ok hd hs (l := l) i (by omega) hcl
        have h70 : c' 70 i = nI (l.getD i 0) := by rw [hf' 70 (by omega)]; exact h7 i (by omega)
        have hb := okL_bd hl i
        have ec : cl D s l (i + 1) = (cl D s l i && decide (l.getD i 0 = 0 ∨ dH (lD D s l i) i + l.getD i 0 ≤ 40)) := rfl
        rw [hcl, Bool.true_and] at ec
        have eD : lD D s l (i + 1) = reD (lD D s l i) i (dH (lD D s l i) i + l.getD i 0) (if l.getD i 0 = 0 then dO (lD D s l i) i else s) := rfl
        unfold lX8_waterWithShares_1 wX4_cellCount
        rw [pc'.1]
        refine ⟨fun y => absurd y (nI_ge (by omega) (by omega)), fun _ => s_inchesAt (by omega) ?_⟩
        rw [h70]
        refine jn_of (fun g => cl D s l (i + 1) = true → ∀ c2, Fr4 46 c c2 → DP P 46 (lD D s l (i + 1)) c2 → g c2) ?_ ?_
        · intro hcl2 c2 hf2 hd2
          rintro _ rfl
          rw [nI_1]
          exact ih (i + 1) c2 (by omega) hcl2 hf2 hd2
        · intro g hg
          rw [vn0, nI_leI (by omega) (by decide)]
          refine ⟨fun y => ?_, fun y => ?_⟩
          · have z : l.getD i 0 = 0 := by omega
            refine hg (by rw [ec]; exact decide_eq_true (Or.inl z)) c' hf' ?_
            rw [eD, reD_id (by omega) (by rw [if_pos z])]
            exact hd'
          · refine s_canRaise hp hok (show i < pN P by omega) (a := l.getD i 0) (by omega) hd'.1 ?_
            by_cases w : dH (lD D s l i) i + l.getD i 0 ≤ 40
            · rw [if_pos w]
              refine ⟨fun _ => s_layAt hp (by decide) hok (show i < pN P by omega) (a := l.getD i 0) (s := s) w hs pc' hd'.1 ?_, fun z => absurd z (by decide)⟩
              intro c2 hf2 hd2
              refine hg (by rw [ec]; exact decide_eq_true (Or.inr w)) c2 (hf'.trans hf2) ?_
              rw [eD, if_neg (by omega)]
              exact hd2
            · rw [if_neg w]
              refine ⟨fun z => absurd rfl z, fun _ => ?_⟩
              have hF := cl_mono (D := D) (s := s) (l := l) (show i + 1 ≤ pN P by omega) (by rw [ec]; exact decide_eq_false (fun z => by omega))
              have := kk c' hf'
              rw [hF] at this
              exact this
    exact ⟨pN P + 1, key (pN P) 0 c1 (by omega) rfl hf1 hd1⟩
theorem s_layRow {P : vP} (hp : pOk P) {D : vD} (hd : dOk P D) {l : List Nat} (hl : okL l = true) {s : Nat} (hs : s ≤ 3) {m : vv_S} {post : Int32 → vv_S → Prop} (hm : PM P m) (h0 : DM P 0 D m) (h7 : RW 35 l m)
    (kk : ∀ m', FrW 1 m m' → (cl D s l (pN P) = true → DM P 1 (lD D s l (pN P)) m') → post (if cl D s l (pN P) = true then 1 else 0) m') : wX9_layRow (nI s) m post := by
  have hn8 := hp.2.1
  unfold wX9_layRow
  refine s_tryIt hp h0 ?_
  intro m1 hg1 he1
  have key : ∀ (j i : Nat) (m' : vv_S), i + j = pN P → FrW 1 m m' → (cl D s l i = true → DM P 1 (lD D s l i) m') → lX9_layRow_1 post (nI s) (j + 1) (if cl D s l i = true then 1 else 0) (nI i) m' := by
    intro j
    induction j with
    | zero =>
      intro i m' hi hf' hd'
      have pm' := hm.fr hf'
      unfold lX9_layRow_1
      rw [pm'.1]
      refine ⟨fun _ => ⟨by split <;> simp, ?_⟩, fun y => absurd (nI_le (by omega) (by omega)) y⟩
      have e : i = pN P := by omega
      subst e
      exact kk m' hf' hd'
    | succ j ih =>
      intro i m' hi hf' hd'
      have pm' := hm.fr hf'
      have hci : (nI i).toNatClampNeg = i := nI_clamp (by omega)
      have hc8 : (nI (8 + i)).toNatClampNeg = 8 + i := nI_clamp (by omega)
      have hin : vp_in (nI i) 8 := vp_in_nI (by omega) (by decide)
      have hin8 : vp_in (nI (8 + i)) 16 := vp_in_nI (by omega) (by decide)
      have h35 : m' 35 i = nI (l.getD i 0) := by rw [hf'.1 35 (by decide) (by decide) (by decide) (by decide) (by decide) (by decide) (by decide) (by decide)]; exact h7 i (by omega)
      have hb := okL_bd hl i
      have ec : cl D s l (i + 1) = (cl D s l i && decide (l.getD i 0 = 0 ∨ dH (lD D s l i) i + l.getD i 0 ≤ 40)) := rfl
      have eD : lD D s l (i + 1) = reD (lD D s l i) i (dH (lD D s l i) i + l.getD i 0) (if l.getD i 0 = 0 then dO (lD D s l i) i else s) := rfl
      unfold lX9_layRow_1
      rw [pm'.1, ix8', hci, hc8, h35]
      refine ⟨fun y => absurd y (nI_ge (by omega) (by omega)), fun _ => ?_⟩
      refine jn_of (fun g => g (if cl D s l (i + 1) = true then 1 else 0)) ?_ ?_
      · refine ⟨hin8, hin, hin8, ?_⟩
        rintro _ rfl
        refine ⟨hin, ?_⟩
        rw [vv_up_r (show (35 : Nat) ≠ 28 by decide), vv_up_r (show (29 : Nat) ≠ 28 by decide), h35]
        refine jn_of (fun g => g (if l.getD i 0 = 0 then m' 29 (8 + i) else nI s)) ?_ ?_
        · refine ⟨hin8, ?_⟩
          rintro _ rfl _ rfl
          rw [nI_1]
          have e28 : ∀ j, (vv_up (vv_up m' 28 (8 + i) (m' 28 (8 + i) + nI (l.getD i 0))) 29 (8 + i) (if l.getD i 0 = 0 then m' 29 (8 + i) else nI s)) 28 j = if j = 8 * 1 + i then m' 28 (8 + i) + nI (l.getD i 0) else m' 28 j := fun j => by
            rw [vv_up_c (by decide), vv_up_app]
            by_cases y : j = 8 + i
            · rw [if_pos ⟨rfl, y⟩, if_pos (by omega)]
            · rw [if_neg (fun w => y w.2), if_neg (by omega)]
          have e29 : ∀ j, (vv_up (vv_up m' 28 (8 + i) (m' 28 (8 + i) + nI (l.getD i 0))) 29 (8 + i) (if l.getD i 0 = 0 then m' 29 (8 + i) else nI s)) 29 j = if j = 8 * 1 + i then (if l.getD i 0 = 0 then m' 29 (8 + i) else nI s) else m' 29 j := fun j => by
            rw [vv_up_app]
            by_cases y : j = 8 + i
            · rw [if_pos ⟨rfl, y⟩, if_pos (show j = 8 * 1 + i by omega)]
            · rw [if_neg (fun w => y w.2), if_neg (show ¬ j = 8 * 1 + i by omega), vv_up_c (by decide)]
          have eo : ∀ i', i' ≠ 28 → i' ≠ 29 → (vv_up (vv_up m' 28 (8 + i) (m' 28 (8 + i) + nI (l.getD i 0))) 29 (8 + i) (if l.getD i 0 = 0 then m' 29 (8 + i) else nI s)) i' = m' i' := fun i' a b => by rw [vv_up_r b, vv_up_r a]
          refine ih (i + 1) _ (by omega) (hf'.trans (FrW.re (b := 1) (show i < 8 by omega) e28 e29 eo)) (fun hcl2 => ?_)
          rw [ec, Bool.and_eq_true] at hcl2
          have hdd := hd' hcl2.1
          obtain ⟨v1, v2, -⟩ := hdd.1 i (by omega)
          have v1' : m' 28 (8 + i) = nI (dH (lD D s l i) i) := v1
          have v2' : m' 29 (8 + i) = nI (dO (lD D s l i) i) := v2
          rw [eD]
          refine DM.re hp (show i < pN P by omega) hdd (fun j => ?_) (fun j => ?_) eo
          · rw [e28, v1', nI_add]
          · rw [e29, v2']
            by_cases z : l.getD i 0 = 0
            · rw [if_pos z, if_pos z]
            · rw [if_neg z, if_neg z]
        · intro g hg
          rw [vn0, nI_leI (by omega) (by decide)]
          refine ⟨fun y => ⟨hin8, ?_⟩, fun y => ?_⟩
          · rw [if_pos (by omega)] at hg; exact hg
          · rw [if_neg (by omega)] at hg; exact hg
      · intro g hg
        refine jn_of (fun f => cl D s l (i + 1) = false → f) (fun y => by rw [y] at hg; exact hg) ?_
        intro f hf
        refine ⟨fun y => hf ?_, fun y => ⟨hin, ?_⟩⟩
        · have : cl D s l i = false := by
            cases e : cl D s l i with
            | false => rfl
            | true => rw [e] at y; exact absurd y (by decide)
          rw [ec, this]; rfl
        · have hcl : cl D s l i = true := by
            cases e : cl D s l i with
            | true => rfl
            | false => rw [e] at y; exact absurd rfl y
          rw [hcl, Bool.true_and] at ec
          obtain ⟨v1, v2, -⟩ := (hd' hcl).1 i (by omega)
          have v1' : m' 28 (8 + i) = nI (dH (lD D s l i) i) := v1
          have hh := (lD_ok hd hs (l := l) i (by omega) hcl).1 i (by omega)
          have z0 : nI (l.getD i 0) = 0 ↔ l.getD i 0 = 0 := by rw [vn0]; exact nI_eq (by omega) (by decide)
          rw [v1', nI_add, z0, show (40 : Int32) = nI 40 by decide, nI_ltI (by decide) (by omega)]
          refine jn_of (fun f2 => cl D s l (i + 1) = true → f2) (fun y => by rw [y] at hg; exact hg) ?_
          intro f2 hf2
          exact ⟨fun z => hf2 (by rw [ec]; exact decide_eq_true (Or.inl z)), fun z => ⟨hin8, hin, fun w => hf (by rw [ec]; exact decide_eq_false (fun x => by omega)), fun w => hf2 (by rw [ec]; exact decide_eq_true (Or.inr (by omega)))⟩⟩
  exact ⟨pN P + 1, key (pN P) 0 m1 (by omega) hg1 (fun _ => he1)⟩
theorem nextL_n {n : Nat} {l : List Nat} (h : lastNZ l (n - 1) = none) : nextL n l = none := by
  unfold nextL; rw [h]
theorem nextL_s {n : Nat} {l : List Nat} {k : Nat} (h : lastNZ l (n - 1) = some k) : nextL n l = some (((l.set (n - 1) 0).set k ((l.set (n - 1) 0).getD k 0 - 1)).set (k + 1) (l.getD (n - 1) 0 + 1)) := by
  unfold nextL; rw [h]
theorem lastNZ_ne {l : List Nat} : ∀ {j k : Nat}, lastNZ l j = some k → l.getD k 0 ≠ 0
  | j + 1, k, h => by
    unfold lastNZ at h
    split at h
    · exact lastNZ_ne h
    · next y => injection h with h; rw [← h]; exact y
/-- the three writes of a step, on either side -/
theorem RW_step {r n k : Nat} {l : List Nat} (hl : okL l = true) (hn : n ≤ 8) (hk : k < n - 1) (hne : l.getD k 0 ≠ 0) {c : vv_S} (h7 : RW r l c) :
    RW r (((l.set (n - 1) 0).set k ((l.set (n - 1) 0).getD k 0 - 1)).set (k + 1) (l.getD (n - 1) 0 + 1)) (vv_up (vv_up (vv_up c r (n - 1) 0) r k ((vv_up c r (n - 1) 0) r k - 1)) r (k + 1) (c r (n - 1) + 1)) := by
  have hlen := okL_len hl
  intro e he
  rw [getD_set' (by rw [List.length_set, List.length_set]; omega)]
  by_cases y : e = k + 1
  · rw [y, vv_up_s, if_pos rfl, h7 (n - 1) (by omega), nI_1]
  · rw [if_neg y, vv_up_i y, getD_set' (by rw [List.length_set]; omega)]
    by_cases y2 : e = k
    · rw [y2, vv_up_s, if_pos rfl, vv_up_i (by omega), getD_set' (by omega), if_neg (by omega), h7 k (by omega), vn1, pk_sub (by omega)]
    · rw [if_neg y2, vv_up_i y2, getD_set' (by omega)]
      by_cases y3 : e = n - 1
      · rw [y3, vv_up_s, if_pos rfl]; rfl
      · rw [if_neg y3, vv_up_i y3]; exact h7 e he
theorem s_nextC {n : Nat} (hn1 : 1 ≤ n) (hn8 : n ≤ 8) {l : List Nat} (hl : okL l = true) {c : vv_S} {post : Int32 → vv_S → Prop} (h1 : c 69 1 = nI n) (h7 : RW 70 l c) (hn : nextL n l = none → post 0 c)
    (hs : ∀ l', nextL n l = some l' → ∀ c', (∀ i, i ≠ 70 → c' i = c i) → RW 70 l' c' → post 1 c') : wX5_next 69 c post := by
  have hlen := okL_len hl
  unfold wX5_next
  rw [h1]
  have e1 : nI n - 1 = nI (n - 1) := by rw [vn1, pk_sub hn1]
  rintro _ rfl _ rfl
  rw [e1, nI_clamp (n := n - 1) (by omega)]
  have hin : vp_in (nI (n - 1)) 8 := vp_in_nI (by omega) (by decide)
  refine jn_of (fun f => ∀ k, lastNZ l (n - 1) = some k → f (nI k)) ?_ ?_
  · intro k hk
    have hlt := lastNZ_lt hk
    have hne := lastNZ_ne hk
    have hck : (nI k).toNatClampNeg = k := nI_clamp (by omega)
    have hcl : (nI (n - 1)).toNatClampNeg = n - 1 := nI_clamp (by omega)
    have hink : vp_in (nI k) 8 := vp_in_nI (by omega) (by decide)
    rw [hck, nI_1, nI_clamp (n := k + 1) (by omega)]
    refine ⟨hin, ?_⟩
    rintro _ rfl
    refine ⟨hin, ?_⟩
    rintro _ rfl
    refine ⟨hink, hink, ?_⟩
    rintro _ rfl
    refine ⟨vp_in_nI (by omega) (by decide), ?_⟩
    rintro _ rfl
    exact hs _ (nextL_s hk) _ (fun i a => by rw [vv_up_r a, vv_up_r a, vv_up_r a]) (RW_step hl hn8 hlt hne h7)
  · intro f hf
    have key : ∀ (j : Nat), j ≤ n - 1 → lastNZ l j = lastNZ l (n - 1) → lX5_next_1 post c 69 f (j + 1) (nI j - 1) := by
      intro j
      induction j with
      | zero =>
        intro _ hj
        unfold lX5_next_1
        refine ⟨fun _ => hn (nextL_n hj.symm), fun y => absurd (by decide) y⟩
      | succ j ih =>
        intro hj hlz
        have hcj : (nI j).toNatClampNeg = j := nI_clamp (by omega)
        have hb := okL_bd hl j
        have h70 : c 70 j = nI (l.getD j 0) := h7 j (by omega)
        have ez : lastNZ l (j + 1) = if l.getD j 0 = 0 then lastNZ l j else some j := rfl
        unfold lX5_next_1
        rw [nI_pred, hcj]
        refine ⟨fun y => absurd y (nI_pos (by omega)), fun _ => ⟨vp_in_nI (by omega) (by decide), ?_⟩⟩
        show (c 70 j ≤ 0 → _) ∧ (¬ c 70 j ≤ 0 → _)
        rw [h70, vn0, nI_leI (by omega) (by decide)]
        refine ⟨fun y => ?_, fun y => hf j ?_⟩
        · rintro _ rfl
          rw [← Int32.sub_eq_add_neg]
          rw [if_pos (by omega)] at ez
          exact ih (by omega) (ez.symm.trans hlz)
        · rw [if_neg (by omega)] at ez
          rw [← hlz, ez]
    exact ⟨n - 1 + 1, key (n - 1) (Nat.le_refl _) rfl⟩
theorem s_nextM {n : Nat} (hn1 : 1 ≤ n) (hn8 : n ≤ 8) {l : List Nat} (hl : okL l = true) {m : vv_S} {post : Int32 → vv_S → Prop} (h1 : m 2 0 = nI n) (h7 : RW 35 l m) (hn : nextL n l = none → post 0 m)
    (hs : ∀ l', nextL n l = some l' → ∀ m', (∀ i, i ≠ 35 → m' i = m i) → RW 35 l' m' → post 1 m') : wX9_nextRow m post := by
  have hlen := okL_len hl
  unfold wX9_nextRow
  rw [h1]
  have e1 : nI n - 1 = nI (n - 1) := by rw [vn1, pk_sub hn1]
  rintro _ rfl _ rfl
  rw [e1, nI_clamp (n := n - 1) (by omega)]
  have hin : vp_in (nI (n - 1)) 8 := vp_in_nI (by omega) (by decide)
  refine jn_of (fun f => (∀ k, lastNZ l (n - 1) = some k → f (nI k)) ∧ (lastNZ l (n - 1) = none → f (-1))) ⟨?_, ?_⟩ ?_
  · intro k hk
    have hlt := lastNZ_lt hk
    have hne := lastNZ_ne hk
    have hck : (nI k).toNatClampNeg = k := nI_clamp (by omega)
    have hink : vp_in (nI k) 8 := vp_in_nI (by omega) (by decide)
    rw [hck, nI_1, nI_clamp (n := k + 1) (by omega)]
    refine ⟨fun _ => ⟨hin, ?_⟩, fun y => absurd (nI_pos' (by omega)) y⟩
    rintro _ rfl
    refine ⟨hin, ?_⟩
    rintro _ rfl
    refine ⟨hink, hink, ?_⟩
    rintro _ rfl
    refine ⟨vp_in_nI (by omega) (by decide), ?_⟩
    rintro _ rfl
    exact hs _ (nextL_s hk) _ (fun i a => by rw [vv_up_r a, vv_up_r a, vv_up_r a]) (RW_step hl hn8 hlt hne h7)
  · intro hk
    exact ⟨fun y => absurd y (by decide), fun _ => hn (nextL_n hk)⟩
  · intro f hf
    have key : ∀ (j : Nat), j ≤ n - 1 → lastNZ l j = lastNZ l (n - 1) → lX9_nextRow_1 f m (j + 1) (nI j - 1) := by
      intro j
      induction j with
      | zero =>
        intro _ hj
        unfold lX9_nextRow_1
        refine ⟨fun _ => hf.2 hj.symm, fun y => absurd (by decide) y⟩
      | succ j ih =>
        intro hj hlz
        have hcj : (nI j).toNatClampNeg = j := nI_clamp (by omega)
        have hb := okL_bd hl j
        have ez : lastNZ l (j + 1) = if l.getD j 0 = 0 then lastNZ l j else some j := rfl
        have z0 : nI (l.getD j 0) = 0 ↔ l.getD j 0 = 0 := by rw [vn0]; exact nI_eq (by omega) (by decide)
        unfold lX9_nextRow_1
        rw [nI_pred, hcj, h7 j (by omega), z0]
        refine ⟨fun y => absurd y (nI_pos (by omega)), fun _ => ⟨vp_in_nI (by omega) (by decide), fun y => hf.1 j ?_, fun y => ?_⟩⟩
        · rw [if_neg y] at ez
          rw [← hlz, ez]
        · rintro _ rfl
          rw [← Int32.sub_eq_add_neg]
          rw [if_pos y] at ez
          exact ih (by omega) (ez.symm.trans hlz)
    exact ⟨n - 1 + 1, key (n - 1) (Nat.le_refl _) rfl⟩

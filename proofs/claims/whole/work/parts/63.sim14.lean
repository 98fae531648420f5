def abv (P : vP) (D : vD) (n a x : Nat) : Nat → Nat
  | 0 => 0
  | r + 1 => abv P D n a x r + (if hol P D (xs r a) (10 * n) = true then chn r x n else 0)
theorem abv_le {P : vP} {D : vD} {n a x : Nat} (hx : x ≤ 10) : ∀ r, abv P D n a x r ≤ r * 10 ^ n
  | 0 => Nat.zero_le _
  | r + 1 => by
    have h1 := abv_le (P := P) (D := D) (n := n) (a := a) hx r
    have h2 := chn_le (r := r) hx n
    show abv P D n a x r + _ ≤ _
    have h3 : (r + 1) * 10 ^ n = r * 10 ^ n + 10 ^ n := by rw [Nat.add_mul, Nat.one_mul]
    rw [h3]
    split <;> omega
theorem pow_b {n : Nat} (hn : n ≤ 5) : 1 ≤ 10 ^ n ∧ 10 ^ n ≤ 100000 ∧ 2 ^ n ≤ 32 := by
  rcases (by omega : n = 0 ∨ n = 1 ∨ n = 2 ∨ n = 3 ∨ n = 4 ∨ n = 5) with rfl | rfl | rfl | rfl | rfl | rfl <;> decide
theorem sim_odds {a1 a2 a3 a4 : Int32} {c m : vv_S} (h : Rel c m) : wX8_odds a1 a2 a3 a4 c (fun x s => wX9_odds a1 a2 a3 a4 m (fun y t => x = y ∧ Rel s t)) := by
  have hR := h
  obtain ⟨P, D, A, Q, B, ho, hc, hm⟩ := h
  obtain ⟨hp, hd, -⟩ := id ho
  have hm9 := ho.m999
  have bad : ¬ (((0 : Int32) ≤ a1 ∧ a1 ≤ 5) ∧ ((0 : Int32) ≤ a2 ∧ a2 ≤ 30) ∧ ((0 : Int32) ≤ a3 ∧ a3 ≤ 10) ∧ ((0 : Int32) ≤ a4 ∧ a4 ≤ 1)) → wX9_odds a1 a2 a3 a4 m (fun y t => -1 = y ∧ Rel c t) := by
    intro hz
    unfold wX9_odds
    refine s_inM (lo := 0) (hi := 5) (by decide) (by decide) (fun q1 => jn_of (fun f => f m) ⟨rfl, hR⟩ (fun f hf => ⟨fun z => absurd z (by decide), fun _ => s_inM (lo := 0) (hi := 30) (by decide) (by decide) (fun q2 => ⟨fun z => absurd z (by decide), fun _ => s_inM (lo := 0) (hi := 10) (by decide) (by decide) (fun q3 => ⟨fun z => absurd z (by decide), fun _ => s_inM (lo := 0) (hi := 1) (by decide) (by decide) (fun q4 => absurd ⟨q1, q2, q3, q4⟩ hz) (fun _ => ⟨fun z => absurd rfl z, fun _ => hf⟩)⟩) (fun _ => ⟨fun _ => hf, fun z => absurd rfl z⟩)⟩) (fun _ => ⟨fun _ => hf, fun z => absurd rfl z⟩)⟩)) (fun _ => jn_of (fun f => f m) ⟨rfl, hR⟩ (fun f hf => ⟨fun _ => hf, fun z => absurd rfl z⟩))
  unfold wX8_odds
  refine s_within (fun q1 => ?_) (fun q1 => jn_of (fun f => f c) (bad (fun y => q1 y.1)) (fun f hf => ⟨fun _ => hf, fun z => absurd rfl z⟩))
  refine jn_of (fun f => ¬ (((0 : Int32) ≤ a2 ∧ a2 ≤ 30) ∧ ((0 : Int32) ≤ a3 ∧ a3 ≤ 10) ∧ ((0 : Int32) ≤ a4 ∧ a4 ≤ 1)) → f c) (fun z => bad (fun y => z y.2)) (fun f hf => ⟨fun z => absurd z (by decide), fun _ => s_within (fun q2 => ⟨fun z => absurd z (by decide), fun _ => s_within (fun q3 => ⟨fun z => absurd z (by decide), fun _ => s_within (fun q4 => ⟨fun _ => ?_, fun z => absurd z (by decide)⟩) (fun q4 => ⟨fun z => absurd rfl z, fun _ => hf (fun y => q4 y.2.2)⟩)⟩) (fun q3 => ⟨fun _ => hf (fun y => q3 y.2.1), fun z => absurd rfl z⟩)⟩) (fun q2 => ⟨fun _ => hf (fun y => q2 y.1), fun z => absurd rfl z⟩)⟩)
  obtain ⟨n, hn, rfl⟩ := rng (N := 5) (by decide) q1.1 q1.2
  obtain ⟨a, ha, rfl⟩ := rng (N := 30) (by decide) q2.1 q2.2
  obtain ⟨x, hx, rfl⟩ := rng (N := 10) (by decide) q3.1 q3.2
  have hpb := pow_b hn
  have hT := abv_le (P := P) (D := D) (n := n) (a := a) hx (2 ^ n)
  have hT2 : abv P D n a x (2 ^ n) ≤ 3200000 := Nat.le_trans hT (Nat.le_trans (Nat.mul_le_mul hpb.2.2 hpb.2.1) (by decide))
  have gpos : 0 < Nat.gcd (abv P D n a x (2 ^ n)) (10 ^ n) := Nat.gcd_pos_of_pos_right _ hpb.1
  have gle : Nat.gcd (abv P D n a x (2 ^ n)) (10 ^ n) ≤ 10 ^ n := Nat.gcd_le_right _ hpb.1
  have gne : ¬ nI (Nat.gcd (abv P D n a x (2 ^ n)) (10 ^ n)) = 0 := nI_ne0 gpos (by omega)
  have hmod : ∀ (c2 : vv_S), FQC c c2 → wX9_odds (nI n) (nI a) (nI x) a4 m (fun y t => (if a4 = 0 then nI (abv P D n a x (2 ^ n)) / nI (Nat.gcd (abv P D n a x (2 ^ n)) (10 ^ n)) else nI (10 ^ n) / nI (Nat.gcd (abv P D n a x (2 ^ n)) (10 ^ n))) = y ∧ Rel c2 t) := by
    intro c2 hfc
    unfold wX9_odds
    refine s_inM (lo := 0) (hi := 5) (by decide) (by decide) (fun _ => jn_of (fun _ => True) trivial (fun f _ => ⟨fun z => absurd z (by decide), fun _ => s_inM (lo := 0) (hi := 30) (by decide) (by decide) (fun _ => ⟨fun z => absurd z (by decide), fun _ => s_inM (lo := 0) (hi := 10) (by decide) (by decide) (fun _ => ⟨fun z => absurd z (by decide), fun _ => s_inM (lo := 0) (hi := 1) (by decide) (by decide) (fun _ => ⟨fun _ => ?_, fun z => absurd z (by decide)⟩) (fun z => absurd q4 z)⟩) (fun z => absurd q3 z)⟩) (fun z => absurd q2 z)⟩)) (fun z => absurd q1 z)
    refine jn_of (fun k => k (nI (10 ^ n))) ?_ (fun k hk => s_belowM hn hk)
    refine jn_of (fun k => ∀ σ, FrW 1 m σ → k (nI (abv P D n a x (2 ^ n))) σ) ?_ ?_
    · intro σ hf
      refine jn_of (fun k => k (nI (Nat.gcd (abv P D n a x (2 ^ n)) (10 ^ n)))) ?_ (fun k hk => s_gcdM (10 ^ n + 1) _ _ (by omega) (by omega) (by omega) hk)
      refine jn_of (fun k => k (if a4 = 0 then nI (abv P D n a x (2 ^ n)) / nI (Nat.gcd (abv P D n a x (2 ^ n)) (10 ^ n)) else nI (10 ^ n) / nI (Nat.gcd (abv P D n a x (2 ^ n)) (10 ^ n)))) ⟨rfl, rel_q ho hc hm hfc hf.toQ⟩ (fun k hk => ⟨fun y => ⟨gne, by rw [if_neg y] at hk; exact hk⟩, fun y => ⟨gne, by rw [if_pos y] at hk; exact hk⟩⟩)
    · intro k hk
      have key : ∀ (j i : Nat) (m' : vv_S), i + j = 2 ^ n → FrW 1 m m' → lX9_odds_2 (nI n) k (nI a) (nI x) (j + 1) (nI (abv P D n a x i)) (nI i) m' := by
        intro j
        induction j with
        | zero =>
          intro i m' hi hf'
          unfold lX9_odds_2
          rw [shl_val hn]
          refine ⟨fun _ => ?_, fun y => absurd (nI_le (by omega) (by omega)) y⟩
          rw [show i = 2 ^ n by omega]
          exact hk m' hf'
        | succ j ih =>
          intro i m' hi hf'
          unfold lX9_odds_2
          rw [shl_val hn]
          refine ⟨fun y => absurd y (nI_ge (by omega) (by omega)), fun _ => ?_⟩
          refine jn_of (fun g => g (nI (chn i x n))) ?_ (fun g hg => s_chanceM (by omega) hx hn hg)
          have ea : abv P D n a x (i + 1) = abv P D n a x i + (if hol P D (xs i a) (10 * n) = true then chn i x n else 0) := rfl
          have hch := chn_le (r := i) hx n
          refine jn_of (fun g => ∀ σ, FrW 1 m σ → g (nI (if hol P D (xs i a) (10 * n) = true then chn i x n else 0)) σ) ?_ ?_
          · intro σ hf2
            rintro _ rfl _ rfl
            rw [nI_add, nI_1, ← ea]
            exact ih (i + 1) σ (by omega) hf2
          · intro g hg
            refine jn_of (fun g2 => ∀ σ, FrW 1 m σ → (if hol P D (xs i a) (10 * n) = true then chn i x n else 0) = 0 → g2 σ) (fun σ hf2 y => by have := hg σ hf2; rw [y] at this; exact this) ?_
            intro g2 hg2
            rw [vn0, nI_leI (by omega) (by decide)]
            refine ⟨fun y => hg2 m' hf' (by split <;> omega), fun y => s_holdsM hp hd hm9 (by omega) hn ha (hm.1.fr hf') (hm.fr hp hf'.toQ).2.1 ?_⟩
            intro m2 hf2
            by_cases w : hol P D (xs i a) (10 * n) = true
            · rw [if_pos w]
              refine ⟨fun z => absurd z (by decide), fun _ => ?_⟩
              have := hg m2 (hf'.trans hf2)
              rw [if_pos w] at this
              exact this
            · rw [if_neg w]
              exact ⟨fun _ => hg2 m2 (hf'.trans hf2) (by rw [if_neg w]), fun z => absurd rfl z⟩
      exact ⟨2 ^ n + 1, key (2 ^ n) 0 m (by omega) FrW.rf⟩
  refine jn_of (fun k => k (nI (10 ^ n))) ?_ (fun k hk => s_belowC hn hk)
  refine jn_of (fun k => ∀ σ, Fr4 46 c σ → k (nI (abv P D n a x (2 ^ n))) σ) ?_ ?_
  · intro σ hf
    unfold wX8_greatestDivisor
    refine jn_of (fun k => k (nI (Nat.gcd (abv P D n a x (2 ^ n)) (10 ^ n)))) ?_ (fun k hk => s_gcdC 17 _ _ 0 (by omega) (by omega) (by omega) (by omega) hk)
    refine ⟨fun _ => ?_, fun y => absurd ?_ y⟩
    · refine jn_of (fun k => k (if a4 = 0 then nI (abv P D n a x (2 ^ n)) / nI (Nat.gcd (abv P D n a x (2 ^ n)) (10 ^ n)) else nI (10 ^ n) / nI (Nat.gcd (abv P D n a x (2 ^ n)) (10 ^ n)))) (hmod σ hf.toQ) (fun k hk => ⟨fun y => ⟨gne, by rw [if_neg y] at hk; exact hk⟩, fun y => ⟨gne, by rw [if_pos y] at hk; exact hk⟩⟩)
    · rw [vn1]; exact nI_le gpos (by omega)
  · intro k hk
    have key : ∀ (j i : Nat) (c' : vv_S), i + j = 2 ^ n → Fr4 46 c c' → lX8_odds_1 (nI n) k (nI a) (nI x) (j + 1) (nI (abv P D n a x i)) (nI i) c' := by
      intro j
      induction j with
      | zero =>
        intro i c' hi hf'
        unfold lX8_odds_1
        rw [shl_val hn]
        refine ⟨fun _ => ?_, fun y => absurd (nI_le (by omega) (by omega)) y⟩
        rw [show i = 2 ^ n by omega]
        exact hk c' hf'
      | succ j ih =>
        intro i c' hi hf'
        have rc := hc.fr ho.2.2.2.2.1 ho.2.2.2.2.2 hf'.toQ
        unfold lX8_odds_1
        rw [shl_val hn]
        refine ⟨fun y => absurd y (nI_ge (by omega) (by omega)), fun _ => ?_⟩
        have ea : abv P D n a x (i + 1) = abv P D n a x i + (if hol P D (xs i a) (10 * n) = true then chn i x n else 0) := rfl
        refine s_holdsIn hp hd hm9 (by omega) hn ha rc.1 rc.2.1.1 ?_
        intro c2 hf2
        refine jn_of (fun g => ∀ σ, Fr4 46 c σ → g (nI (abv P D n a x (i + 1))) σ) ?_ ?_
        · intro σ hf3
          rintro _ rfl
          rw [nI_1]
          exact ih (i + 1) σ (by omega) hf3
        · intro g hg
          have := hg c2 (hf'.trans hf2)
          by_cases w : hol P D (xs i a) (10 * n) = true
          · rw [if_pos w] at ea ⊢
            refine ⟨fun z => absurd z (by decide), fun _ => s_chance (by omega) hx hn ?_⟩
            rintro _ rfl
            rw [nI_add, ← ea]
            exact this
          · rw [if_neg w] at ea ⊢
            rw [ea] at this
            exact ⟨fun _ => this, fun z => absurd rfl z⟩
    exact ⟨2 ^ n + 1, key (2 ^ n) 0 c (by omega) Fr4.rfl'⟩

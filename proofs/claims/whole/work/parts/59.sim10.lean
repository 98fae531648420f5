def gfc (P : vP) (D : vD) (n h : Nat) : Nat → Nat → Option Nat
  | 0, _ => none
  | j + 1, c => if gp P (reD D c h 2) c n then some c else gfc P D n h j (c + 1)
def gfo (P : vP) (D : vD) (n : Nat) : Nat → Option (Nat × Nat)
  | 0 => none
  | h + 1 => match gfc P D n h (pN P) 0 with
    | some c => some (h, c)
    | none => gfo P D n h
theorem gfo_s {P : vP} {D : vD} {n h c : Nat} (e : gfc P D n h (pN P) 0 = some c) : gfo P D n (h + 1) = some (h, c) := by
  unfold gfo; rw [e]
theorem gfo_n {P : vP} {D : vD} {n h : Nat} (e : gfc P D n h (pN P) 0 = none) : gfo P D n (h + 1) = gfo P D n h := by
  rw [gfo]; rw [e]
theorem sim_gap {a b : Int32} {c m : vv_S} (h : Rel c m) : wX8_gap a b c (fun x s => wX9_gap a b m (fun y t => x = y ∧ Rel s t)) := by
  have hR := h
  obtain ⟨P, D, A, Q, B, ho, hc, hm⟩ := h
  obtain ⟨hp, hd, -⟩ := id ho
  have hm9 := ho.m999
  have hn8 := ho.1.2.1
  have bad : ¬ (((1 : Int32) ≤ a ∧ a ≤ 60) ∧ ((0 : Int32) ≤ b ∧ b ≤ 1)) → wX9_gap a b m (fun y t => -1 = y ∧ Rel c t) := by
    intro hz
    unfold wX9_gap
    refine s_inM (lo := 1) (hi := 60) (by decide) (by decide) (fun q1 => jn_of (fun f => f m) ⟨rfl, hR⟩ (fun f hf => ⟨fun z => absurd z (by decide), fun _ => s_inM (lo := 0) (hi := 1) (by decide) (by decide) (fun q2 => absurd ⟨q1, q2⟩ hz) (fun _ => ⟨fun z => absurd rfl z, fun _ => hf⟩)⟩)) (fun _ => jn_of (fun f => f m) ⟨rfl, hR⟩ (fun f hf => ⟨fun _ => hf, fun z => absurd rfl z⟩))
  unfold wX8_gap
  refine s_within (fun q1 => ?_) (fun q1 => jn_of (fun f => f c) (bad (fun y => q1 y.1)) (fun f hf => ⟨fun _ => hf, fun z => absurd rfl z⟩))
  refine jn_of (fun f => ¬ ((0 : Int32) ≤ b ∧ b ≤ 1) → f c) (fun z => bad (fun y => z y.2)) (fun f hf => ⟨fun z => absurd z (by decide), fun _ => s_within (fun q2 => ⟨fun _ => ?_, fun z => absurd z (by decide)⟩) (fun q2 => ⟨fun z => absurd rfl z, fun _ => hf q2⟩)⟩)
  obtain ⟨n, n1, n60, rfl⟩ := rng1 (L := 1) (N := 60) (by decide) (by decide) q1.1 q1.2
  have e40 : (40 : Int32) = nI 41 - 1 := by decide
  have neg : ∀ j, j ≤ 41 → ¬ nI j < 0 := fun j hj => nI_pos (by omega)
  have hmod : ∀ (c2 : vv_S), FQC c c2 → wX9_gap (nI n) b m (fun y t => (match gfo P D n 41 with | none => -4 | some (h, k) => if b = 0 then nI h else nI k) = y ∧ Rel c2 t) := by
    intro c2 hfc
    unfold wX9_gap
    refine s_inM (lo := 1) (hi := 60) (by decide) (by decide) (fun _ => jn_of (fun _ => True) trivial (fun f _ => ⟨fun z => absurd z (by decide), fun _ => s_inM (lo := 0) (hi := 1) (by decide) (by decide) (fun _ => ⟨fun _ => ?_, fun z => absurd z (by decide)⟩) (fun z => absurd q2 z)⟩)) (fun z => absurd q1 z)
    refine jn_of (fun k => ∀ h' k' σ, gfo P D n 41 = some (h', k') → FrW 1 m σ → k (nI h') (nI k') σ) ?_ ?_
    · intro h' k' σ e hf
      refine jn_of (fun g => g (if b = 0 then nI h' else nI k')) ?_ (fun g hg => ⟨fun y => by rw [if_neg y] at hg; exact hg, fun y => by rw [if_pos y] at hg; exact hg⟩)
      rw [e]
      exact ⟨rfl, rel_q ho hc hm hfc hf.toQ⟩
    · intro k hk
      have key : ∀ (j : Nat) (m' : vv_S), j ≤ 41 → gfo P D n j = gfo P D n 41 → FrW 1 m m' → lX9_gap_1 (fun y t => (match gfo P D n 41 with | none => -4 | some (h, k) => if b = 0 then nI h else nI k) = y ∧ Rel c2 t) (nI n) k (j + 1) (nI j - 1) m' := by
        intro j
        induction j with
        | zero =>
          intro m' _ hg hf'
          unfold lX9_gap_1
          refine ⟨fun _ => ⟨?_, rel_q ho hc hm hfc hf'.toQ⟩, fun y => absurd (by decide) y⟩
          rw [← hg]
          rfl
        | succ j ih =>
          intro m' hj hg hf'
          unfold lX9_gap_1
          rw [nI_pred]
          refine ⟨fun y => absurd y (neg j (by omega)), fun _ => ?_⟩
          refine jn_of (fun kk => ∀ σ, FrW 1 m σ → gfc P D n j (pN P) 0 = none → kk σ) ?_ ?_
          · intro σ hf2 e
            rintro _ rfl
            rw [← Int32.sub_eq_add_neg]
            exact ih σ (by omega) ((gfo_n e).symm.trans hg) hf2
          · intro kk hkk
            have key2 : ∀ (i e : Nat) (σ : vv_S), e + i = pN P → gfc P D n j i e = gfc P D n j (pN P) 0 → FrW 1 m σ → lX9_gap_2 kk (nI j) (nI n) k (i + 1) (nI e) σ := by
              intro i
              induction i with
              | zero =>
                intro e σ he hge hf2
                have pm' := hm.1.fr hf2
                unfold lX9_gap_2
                rw [pm'.1]
                exact ⟨fun _ => hkk σ hf2 hge.symm, fun y => absurd (nI_le (by omega) (by omega)) y⟩
              | succ i ih2 =>
                intro e σ he hge hf2
                have pm' := hm.1.fr hf2
                unfold lX9_gap_2
                rw [pm'.1]
                refine ⟨fun y => absurd y (nI_ge (by omega) (by omega)), fun _ => ?_⟩
                have hge' : gfc P D n j (i + 1) e = if gp P (reD D e j 2) e n then some e else gfc P D n j i (e + 1) := rfl
                refine s_isGapM hp hd hm9 (show e < pN P by omega) (show j ≤ 40 by omega) n60 pm' ((hm.fr hp hf2.toQ).2.1) ?_
                intro σ2 hf3
                cases hgp : gp P (reD D e j 2) e n with
                | true =>
                  rw [if_pos hgp] at hge'
                  refine ⟨fun y => absurd y (by decide), fun _ => hk j e σ2 ?_ (hf2.trans hf3)⟩
                  rw [← hg]
                  exact gfo_s (hge.symm.trans hge')
                | false =>
                  rw [if_neg (by rw [hgp]; decide)] at hge'
                  refine ⟨fun _ => ?_, fun y => absurd rfl y⟩
                  rintro _ rfl
                  rw [nI_1]
                  exact ih2 (e + 1) σ2 (by omega) (hge'.symm.trans hge) (hf2.trans hf3)
            exact ⟨pN P + 1, key2 (pN P) 0 m' (by omega) rfl hf'⟩
      rw [e40]
      exact ⟨42, key 41 m (by omega) rfl FrW.rf⟩
  refine jn_of (fun k => ∀ h' k' σ, gfo P D n 41 = some (h', k') → Fr4 46 c σ → k (nI h') (nI k') σ) ?_ ?_
  · intro h' k' σ e hf
    refine jn_of (fun g => g (if b = 0 then nI h' else nI k')) ?_ (fun g hg => ⟨fun y => by rw [if_neg y] at hg; exact hg, fun y => by rw [if_pos y] at hg; exact hg⟩)
    have := hmod σ hf.toQ
    rw [e] at this
    exact this
  · intro k hk
    have key : ∀ (j : Nat) (c' : vv_S), j ≤ 41 → gfo P D n j = gfo P D n 41 → Fr4 46 c c' → lX8_gap_1 (fun x s => wX9_gap (nI n) b m (fun y t => x = y ∧ Rel s t)) (nI n) k (j + 1) (nI j - 1) c' := by
      intro j
      induction j with
      | zero =>
        intro c' _ hg hf'
        unfold lX8_gap_1
        refine ⟨fun _ => ?_, fun y => absurd (by decide) y⟩
        have := hmod c' hf'.toQ
        rw [← hg] at this
        exact this
      | succ j ih =>
        intro c' hj hg hf'
        unfold lX8_gap_1
        rw [nI_pred]
        refine ⟨fun y => absurd y (neg j (by omega)), fun _ => ?_⟩
        refine jn_of (fun kk => ∀ σ, Fr4 46 c σ → gfc P D n j (pN P) 0 = none → kk σ) ?_ ?_
        · intro σ hf2 e
          rintro _ rfl
          rw [← Int32.sub_eq_add_neg]
          exact ih σ (by omega) ((gfo_n e).symm.trans hg) hf2
        · intro kk hkk
          have key2 : ∀ (i e : Nat) (σ : vv_S), e + i = pN P → gfc P D n j i e = gfc P D n j (pN P) 0 → Fr4 46 c σ → lX8_gap_2 kk (nI j) (nI n) k (i + 1) (nI e) σ := by
            intro i
            induction i with
            | zero =>
              intro e σ he hge hf2
              have pc' := hc.1.fr (d := 46) (by decide) hf2
              unfold lX8_gap_2 wX4_cellCount
              rw [pc'.1]
              exact ⟨fun _ => hkk σ hf2 hge.symm, fun y => absurd (nI_le (by omega) (by omega)) y⟩
            | succ i ih2 =>
              intro e σ he hge hf2
              have pc' := hc.1.fr (d := 46) (by decide) hf2
              unfold lX8_gap_2 wX4_cellCount
              rw [pc'.1]
              refine ⟨fun y => absurd y (nI_ge (by omega) (by omega)), fun _ => ?_⟩
              have hge' : gfc P D n j (i + 1) e = if gp P (reD D e j 2) e n then some e else gfc P D n j i (e + 1) := rfl
              refine s_isGap hp hd hm9 (show e < pN P by omega) (show j ≤ 40 by omega) n60 pc' ((hc.fr ho.2.2.2.2.1 ho.2.2.2.2.2 hf2.toQ).2.1.1) ?_
              intro σ2 hf3
              cases hgp : gp P (reD D e j 2) e n with
              | true =>
                rw [if_pos hgp] at hge'
                refine ⟨fun y => absurd y (by decide), fun _ => hk j e σ2 ?_ (hf2.trans hf3)⟩
                rw [← hg]
                exact gfo_s (hge.symm.trans hge')
              | false =>
                rw [if_neg (by rw [hgp]; decide)] at hge'
                refine ⟨fun _ => ?_, fun y => absurd rfl y⟩
                rintro _ rfl
                rw [nI_1]
                exact ih2 (e + 1) σ2 (by omega) (hge'.symm.trans hge) (hf2.trans hf3)
          exact ⟨pN P + 1, key2 (pN P) 0 c' (by omega) rfl hf'⟩
    rw [e40]
    exact ⟨42, key 41 c (by omega) rfl Fr4.rfl'⟩

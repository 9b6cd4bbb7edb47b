section COUNTS
theorem pop_orB {a : Nat} {C : List (Int × Int)} {l : List Int} : ∀ n : Nat, (∀ i, i < n → 0 ≤ cp C i ∧ cp C i < 14) → (∀ i, i < n → cp C i ∈ woN C l i) → (∀ i, i < n → a.testBit (cp C i).toNat = false) → pop (a ||| bitT C n) = pop a + n
  | 0, _, _, _ => by
    have e : a ||| bitT C 0 = a := Nat.or_zero a
    rw [e, Nat.add_zero]
  | n + 1, hC, hm, ha => by
    have ih := pop_orB n (fun i hi => hC i (by omega)) (fun i hi => hm i (by omega)) (fun i hi => ha i (by omega))
    have h1 := hC n (by omega)
    have h2 : (bitT C n).testBit (cp C n).toNat = false := bitT_out (fun i hi w => (woN_mem (hm n (by omega))).2 i hi (by have := hC i (by omega); omega))
    have h3 : (a ||| bitT C n).testBit (cp C n).toNat = false := by rw [Nat.testBit_or, ha n (by omega), h2, Bool.or_self]
    have e : a ||| bitT C (n + 1) = (a ||| bitT C n) ||| 2 ^ (cp C n).toNat := by
      rw [bitT]
      exact (Nat.or_assoc _ _ _).symm
    rw [e, pop_or (by omega) h3, ih]
    exact Nat.add_assoc _ _ _
/-- how many pages are read after an evening -/
theorem rdN_new {L : Lb} {R : Rl} {H H' : Hl} {cold : Int} (hL : WfL L) (hH : WfH L H) (hN : ∀ i : Int, 0 ≤ i → i < nR L → NewE L R H cold H' i) : rdN L H' = rdN L H + smi (nR L).toNat (fun r => rdA L R H cold r) := by
  have hP := hL.2.1
  have hR6 := hL.2.2.1
  have one : ∀ i : Nat, (i : Int) < nR L → (pop (H' 2 (i : Int)).toNat : Int) = (pop (H 2 (i : Int)).toNat : Int) + rdA L R H cold i := by
    intro i hi
    obtain ⟨n2, -, -, -, nE⟩ := hN i (by omega) hi
    have hw := hH.2.2 i (by omega) hi
    have hcr := (coN_rng (R := R) hL hH (cold := cold) (r := (i : Int)) ⟨by omega, hi⟩).2
    have hle : rdC L R H cold i ≤ (coN L R H cold i).length := rdn_le _ _
    have := pop_orB (a := (H 2 (i : Int)).toNat) (C := coN L R H cold i) (l := lsH H i) (rdC L R H cold i) (fun k hk => by have := (hcr k (by omega)).1; omega) nE.1 (fun k hk => by
      have h1 := lsH_new hw (woN_mem (nE.1 k hk)).1
      rw [Nat.testBit_or, Bool.or_eq_false_iff] at h1
      exact h1.1)
    have e : rdA L R H cold (i : Int) = ((rdC L R H cold i : Nat) : Int) := rfl
    rw [n2, Int.toNat_natCast, this, e, Int.natCast_add]
  have all : ∀ n : Nat, n ≤ (nR L).toNat → smi n (fun r => (pop (H' 2 (r : Int)).toNat : Int)) = smi n (fun r => (pop (H 2 (r : Int)).toNat : Int)) + smi n (fun r => rdA L R H cold r) := by
    intro n
    induction n with
    | zero => exact fun _ => rfl
    | succ n ih =>
      intro hn
      have h1 := ih (by omega)
      have h2 := one n (by omega)
      rw [smi, smi, smi, h1, h2]
      omega
  exact all _ (Nat.le_refl _)
end COUNTS

section HAPPENS
/-! ===== the class: one reader's pages happen ===== -/
def HpC (I I2 : Nat → Nat → Int32) (r : Int) (C : List (Int × Int)) (n : Nat) : Prop := (∀ c k, c ≠ 19 → c ≠ 20 → I2 c k = I c k) ∧ (∀ k : Nat, ¬ (6 + 14 * r ≤ (k : Int) ∧ (k : Int) < 17 + 14 * r) → k ≠ 2 → gi I2 19 k = gi I 19 k) ∧ lsC I2 r = woN C (lsC I r) n ∧ (0 ≤ cnC I2 r ∧ cnC I2 r ≤ 8) ∧ (∀ i j : Int, 0 ≤ i → i < j → j < cnC I2 r → ¬ enC I2 r i = enC I2 r j) ∧ gi I2 19 2 = gi I 19 2 + n ∧ (∀ j : Nat, (j : Int) < gi I 19 2 → gi I2 20 j = gi I 20 j) ∧ ∀ i : Nat, i < n → gi I2 20 ((gi I 19 2).toNat + i) = cdE (gi I 19 0, r, cp C i)
theorem hap_loop {k : Nat} {P : Option Nat} {I : Nat → Nat → Int32} {J : Nat → Nat → Int64} {Q : Option AV → Mem → Prop} {r : Int} {C : List (Int × Int)} {n : Nat} (hk : 3 ≤ k) (hr : 0 ≤ r ∧ r < 6) (h45 : gi I 45 (r).toNat = n) (hn8 : n ≤ 8) (h50 : ∀ i : Nat, i < n → gi I 50 ((r * 8) + i).toNat = cp C i) (hC : ∀ i, i < n → 0 ≤ cp C i ∧ cp C i < 14) (h0 : 0 ≤ gi I 19 0 ∧ gi I 19 0 ≤ 1000) (h2 : 0 ≤ gi I 19 2 ∧ gi I 19 2 + n ≤ 84) (q8 : 0 ≤ cnC I r ∧ cnC I r ≤ 8) (hd : ∀ i j : Int, 0 ≤ i → i < j → j < cnC I r → ¬ enC I r i = enC I r j)
    (hQ : ∀ I2, HpC I I2 r C n → WP k LAY m_X1_happen 44 [(0, vR (some 42)), (1, vI (r + 1))] [] (mem (rv0 P) (si (si I2 19 ((3 + (r * 14)) + 3).toNat (gi I2 48 (r).toNat)) 19 ((3 + (r * 14)) + 4).toNat (gi I2 49 (r).toNat)) J) Q) : WP k LAY m_X1_happen 87 [(0, vR (some 42)), (1, vI r), (2, vI 0)] [] (mem (rv0 P) I J) Q := by
  have loop : ∀ (d m : Nat) (x : Int) (I2 : Nat → Nat → Int32), m + d = n → x = m → HpC I I2 r C m → WP k LAY m_X1_happen 87 [(0, vR (some 42)), (1, vI r), (2, vI x)] [] (mem (P, some 5, some 22) I2 J) Q := by
    intro d
    induction d with
    | zero =>
      intro m x I2 hm hx hH
      have e45 : gi I2 45 (r).toNat = n := (gi_eq (hH.1 45 _ (by decide) (by decide))).trans h45
      refine B_X1_happen_87 (by omega) ?_
      rw [e45]
      exact ⟨⟨by omega, by omega⟩, ⟨by omega, by omega⟩, fun _ => ⟨⟨by omega, by omega⟩, ⟨by omega, by omega⟩, hQ I2 (by rw [show n = m by omega]; exact hH)⟩, fun w => absurd w (by omega)⟩
    | succ d ih =>
      intro m x I2 hm hx hH
      subst hx
      obtain ⟨a1, a2, a3, a4, a5, a6, a7, a8⟩ := hH
      have e45 : gi I2 45 (r).toNat = n := (gi_eq (a1 45 _ (by decide) (by decide))).trans h45
      have e50 : gi I2 50 ((r * 8) + (m : Int)).toNat = cp C m := (gi_eq (a1 50 _ (by decide) (by decide))).trans (h50 m (by omega))
      have hc := hC m (by omega)
      refine B_X1_happen_87 (by omega) ?_
      rw [e45, e50]
      refine ⟨⟨by omega, by omega⟩, ⟨by omega, by omega⟩, fun w => absurd w (by omega), fun _ => ⟨⟨by omega, by omega⟩, ?_⟩⟩
      refine S_X2_strike (by omega) hr ⟨by omega, by omega⟩ a4 a5 (fun I7 hS => ⟨_, _, rfl, rfl, ?_⟩)
      obtain ⟨s1, s2, s3, s4, s5, -⟩ := hS
      have g2 : gi I7 19 2 = gi I 19 2 + m := (s2 2 (by omega)).trans a6
      have g0 : gi I7 19 0 = gi I 19 0 := (s2 0 (by omega)).trans (a2 0 (by omega) (by decide))
      rw [g2, g0, cd_or h0 hr hc]
      have hcd : inR (cdE (gi I 19 0, r, cp C m)) := by
        unfold cdE
        exact ⟨by show -2147483648 ≤ 128 * gi I 19 0 + 16 * r + cp C m; omega, by show 128 * gi I 19 0 + 16 * r + cp C m < 2147483648; omega⟩
      refine ⟨fun w => absurd w (by omega), fun _ => ⟨⟨by omega, by omega⟩, ih (m + 1) _ _ (by omega) (by omega) ?_⟩⟩
      have e19 : ∀ k : Nat, k ≠ 2 → gi (si (si I7 20 (gi I 19 2 + (m : Int)).toNat (cdE (gi I 19 0, r, cp C m))) 19 2 (gi I 19 2 + (m : Int) + 1)) 19 k = gi I7 19 k := fun k hk => by
        rw [gi_idx _ _ _ hk, gi_cell _ _ _ _ (by decide)]
      have ec : cnC (si (si I7 20 (gi I 19 2 + (m : Int)).toNat (cdE (gi I 19 0, r, cp C m))) 19 2 (gi I 19 2 + (m : Int) + 1)) r = cnC I7 r := e19 _ (by omega)
      have ee : ∀ j : Int, 0 ≤ j → enC (si (si I7 20 (gi I 19 2 + (m : Int)).toNat (cdE (gi I 19 0, r, cp C m))) 19 2 (gi I 19 2 + (m : Int) + 1)) r j = enC I7 r j := fun j j0 => e19 _ (by omega)
      refine ⟨fun c k c1 c2 => ?_, fun k k1 k2 => ?_, ?_, by rw [ec]; exact s4, fun i j i0 ij j1 => ?_, ?_, fun j hj => ?_, fun i hi => ?_⟩
      · rw [si_at, if_neg (by omega), si_at, if_neg (by omega), s1 c k c1]
        exact a1 c k c1 c2
      · rw [e19 k k2, s2 k k1]
        exact a2 k k1 k2
      · have el : lsC (si (si I7 20 (gi I 19 2 + (m : Int)).toNat (cdE (gi I 19 0, r, cp C m))) 19 2 (gi I 19 2 + (m : Int) + 1)) r = lsC I7 r := by
          unfold lsC
          rw [ec]
          exact lsF_congr (fun j j0 _ => ee j j0)
        rw [el, s3, a3]
        rfl
      · rw [ee i i0, ee j (by omega)]
        rw [ec] at j1
        exact s5 i j i0 ij j1
      · rw [gi_same _ _ _ ⟨by omega, by omega⟩]
        omega
      · rw [gi_cell _ _ _ _ (by decide), gi_idx _ _ _ (by omega), gi_eq (s1 20 j (by decide))]
        exact a7 j hj
      · by_cases e : i = m
        · rw [e, gi_cell _ _ _ _ (by decide), show (gi I 19 2).toNat + m = (gi I 19 2 + (m : Int)).toNat by omega, gi_same _ _ _ hcd]
        · rw [gi_cell _ _ _ _ (by decide), gi_idx _ _ _ (by omega), gi_eq (s1 20 _ (by decide))]
          exact a8 i (by omega)
  exact loop n 0 0 I (Nat.zero_add _) rfl ⟨fun _ _ _ _ => rfl, fun _ _ _ => rfl, rfl, q8, hd, (Int.add_zero _).symm, fun _ _ => rfl, fun i hi => absurd hi (Nat.not_lt_zero _)⟩
end HAPPENS

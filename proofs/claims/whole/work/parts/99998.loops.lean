section LOOPS
/-! ===== the loops over statements ===== -/
abbrev LbR : Type := (Int × Int) ⊕ ((Lt × Nt × Rt) × Int)
def CLo (k : Nat) (I : Nat → Nat → Int32) (J : Nat → Nat → Int64) (Q : Option AV → Mem → Prop) (n : Nat) : LbR → Prop
  | .inl e => ∀ I', gi I' 3 2 = e.1 → gi I' 3 3 = e.2 → Fr CSc FLce I I' → Q (some (vI (-1))) (mem (some 22, some 5, some 22) I' J)
  | .inr c => ∀ I' q', gi I' 3 4 = 0 → SCs I' c.1.1 c.1.2.1 c.1.2.2 q' → q' ≤ n → Fr CSc FLc I I' → WPm (k - 1) LAY m_X7_gatherNeeds [vR (some 22)] (mem (some 22, some 5, some 22) I' J) (retV (fun I3 J4 => Q (some (vI c.2)) (mem (some 22, some 5, some 22) I3 J4)) (some 22, some 5, some 22))
def RLo (k b : Nat) (P : Option Nat) (I : Nat → Nat → Int32) (J : Nat → Nat → Int64) (Q : Option AV → Mem → Prop) (n : Nat) : LbR → Prop
  | .inl e => ∀ I' J', gi I' 74 8 = e.1 → gi I' 74 9 = e.2 → FrBe b I I' → FrJ b J J' → Q (some (vI (-1))) (mem (P, some 5, some 22) (si (si (si I' 74 10 (gi I' 74 8)) 74 11 (gi I' 74 9)) 107 1 ((gi (si (si I' 74 10 (gi I' 74 8)) 74 11 (gi I' 74 9)) 107 1) + 1)) J')
  | .inr c => ∀ I' J' cd', gi I' 74 8 = 0 → gi I' 74 40 = (b : Int) → SRs I' J' b c.1.1 c.1.2.1 c.1.2.2 cd' → cd' ≤ n → FrB b I I' → FrJ b J J' → WPm (k - 1) LAY m_X12_begin [vR (some 74)] (mem (P, some 5, some 22) (si (si (si I' 74 10 (gi I' 74 8)) 74 11 (gi I' 74 9)) 74 13 (gi I' 74 40)) J') (retV (fun I2 J3 => Q (some (vI c.2)) (mem (P, some 5, some 22) I2 J3)) (P, some 5, some 22))
theorem CLo.mv {k : Nat} {I I1 : Nat → Nat → Int32} {J : Nat → Nat → Int64} {Q : Option AV → Mem → Prop} {n : Nat} {r : LbR} (h : CLo k I J Q n r) (hF : Fr CSc FLc I I1) : CLo k I1 J Q n r := by
  cases r with
  | inl e => exact fun I' a b c => h I' a b (hF.ce.tr c)
  | inr c => exact fun I' q' a b d e => h I' q' a b d (hF.tr e)
theorem RLo.mv {k b : Nat} {P : Option Nat} {I I1 : Nat → Nat → Int32} {J J1 : Nat → Nat → Int64} {Q : Option AV → Mem → Prop} {n : Nat} {r : LbR} (h : RLo k b P I J Q n r) (hF : FrB b I I1) (hJ : FrJ b J J1) : RLo k b P I1 J1 Q n r := by
  cases r with
  | inl e => exact fun I' J' a c d e => h I' J' a c (hF.e.tr d) (hJ.tr e)
  | inr c => exact fun I' J' cd' a d e f g i => h I' J' cd' a d e f (hF.tr g) (hJ.tr i)
/-- a fault is told: the reference's loop ends -/
theorem R_ended {k b : Nat} {P : Option Nat} {I I1 : Nat → Nat → Int32} {J J1 : Nat → Nat → Int64} {Q : Option AV → Mem → Prop} {n : Nat} {e : Int × Int} {told : Int} (hk : 1 ≤ k) (he : 0 < e.1) (h : RLo k b P I J Q n (.inl e)) (h8 : gi I1 74 8 = e.1) (h9 : gi I1 74 9 = e.2) (hF : FrBe b I I1) (hJ : FrJ b J J1) : WP k LAY m_X12_library 140 [(0, vR (some 74)), (1, vI told)] [] (mem (P, some 5, some 22) I1 J1) Q := by
  have n8 : ¬ gi I1 74 8 = 0 := by omega
  exact B_X12_library_140 hk ⟨fun _ => ⟨fun _ => ⟨fun q => absurd q (by omega), fun _ => h I1 J1 h8 h9 hF hJ⟩, fun q => absurd q n8⟩, fun q => absurd q n8⟩
def CLc (T : Nat → Int) (n : Nat) (L : Lt) (N : Nt) (R : Rt) (p : Nat) (told : Int) (r : LbR) : Prop := ∀ (k : Nat) (I : Nat → Nat → Int32) (J : Nat → Nat → Int64) (Q : Option AV → Mem → Prop) (q : Nat), 206 ≤ k → CT I T n p → gi I 3 4 = 0 → SCs I L N R q → q ≤ p → CLo k I J Q n r → WP k LAY m_X3_parse 36 [(0, vR (some 3)), (2, vI told)] [] (mem (some 22, some 5, some 22) I J) Q
def RLc (T : Nat → Int) (n : Nat) (L : Lt) (N : Nt) (R : Rt) (p : Nat) (told : Int) (r : LbR) : Prop := ∀ (k b : Nat) (P : Option Nat) (I : Nat → Nat → Int32) (J : Nat → Nat → Int64) (Q : Option AV → Mem → Prop) (cd : Nat), 44 ≤ k → b < 2 → RT I J T n p → gi I 74 8 = 0 → gi I 74 40 = (b : Int) → SRs I J b L N R cd → cd ≤ p → RLo k b P I J Q n r → WP k LAY m_X12_library 140 [(0, vR (some 74)), (1, vI told)] [] (mem (P, some 5, some 22) I J) Q
def LbG : LbR → Prop
  | .inl e => 0 < e.1
  | .inr c => WL c.1.1 c.1.2.1 c.1.2.2 ∧ 0 ≤ c.2 ∧ c.2 ≤ 80 ∧ (c.1.1 0 2 ≤ 0 ∨ c.1.1 0 3 ≠ 0)
set_option maxHeartbeats 1000000 in
theorem LP0 {T : Nat → Int} {n p : Nat} {L : Lt} {N : Nt} {R : Rt} {told : Int} (hp : p ≤ n) (hn : n ≤ 1600) (h0 : kR T n p = 0) (hW : WL L N R) (ht : 0 ≤ told ∧ told ≤ 80) : ∃ r : LbR, LbG r ∧ CLc T n L N R p told r ∧ RLc T n L N R p told r := by
  by_cases hf : L 0 2 ≤ 0 ∨ L 0 3 ≠ 0
  · refine ⟨.inr ((L, N, R), told), ⟨hW, ht.1, ht.2, hf⟩, fun k I J Q q hk hC ho hS hq hQ => ?_, fun k b P I J Q cd hk hb hT h8 h40 hS hcd hQ => ?_⟩
    · have c2 := hS.1 2 (by decide)
      have c3 := hS.1 3 (by decide)
      have go := hQ I q ho hS (by omega) (Fr.rf _ _ _)
      exact B_X3_parse_36 (by omega) ⟨by unfold inR; omega, fun t => absurd t (by omega), fun _ => ⟨fun _ => ⟨fun _ => go, fun t2 => ⟨fun _ => go, fun t3 => absurd hf (by omega)⟩⟩, fun t => absurd (hC.k.2.2.2.2.1.mpr h0) t⟩⟩
    · have k0 : gi I 74 3 = 0 := by rw [hT.2.1, h0]; rfl
      have e83 : gi I 83 (gi I 74 40).toNat = L 0 2 := by rw [h40, Int.toNat_natCast]; exact hS.1.2.2.1
      have e86 : gi I 86 (gi I 74 40).toNat = L 0 3 := by rw [h40, Int.toNat_natCast]; exact hS.1.2.2.2.1
      have go := hQ I J cd h8 h40 hS (by omega) (FrB.rf _ _) (FrJ.rf _ _)
      exact B_X12_library_140 (by omega) ⟨fun t => absurd h8 t, fun _ => ⟨fun _ => ⟨fun t => absurd h8 t, fun _ => ⟨by omega, fun _ => ⟨fun _ => go, fun t => absurd (by omega) t⟩, fun t2 => ⟨fun _ => ⟨fun _ => go, fun t => absurd (by omega) t⟩, fun t3 => absurd hf (by omega)⟩⟩⟩, fun t => absurd k0 t⟩⟩
  · refine ⟨.inl (1, (n : Int)), by show (0 : Int) < 1; decide, fun k I J Q q hk hC ho hS hq hQ => ?_, fun k b P I J Q cd hk hb hT h8 h40 hS hcd hQ => ?_⟩
    · have c2 := hS.1 2 (by decide)
      have c3 := hS.1 3 (by decide)
      have h11 : gi I 1 1 = (n : Int) := hC.1.1
      have go : Q (some (vI (-1))) (mem (some 22, some 5, some 22) (si (si I 3 2 1) 3 3 (gi I 1 1)) J) := by
        refine hQ _ ?_ ?_ (((Fr.rf _ _ _).up 3 2 _ (Or.inr (by decide))).up 3 3 _ (Or.inr (by decide)))
        · rw [gi_idx _ _ _ (by decide), gi_si _ _ _ _ _ (by decide), if_pos ⟨rfl, rfl⟩]
        · rw [gi_si _ _ _ _ _ (gi_in _ _ _), if_pos ⟨rfl, rfl⟩]
          exact h11
      exact B_X3_parse_36 (by omega) ⟨by unfold inR; omega, fun t => absurd t (by omega), fun _ => ⟨fun _ => ⟨fun t2 => absurd (Or.inl (by omega)) hf, fun t2 => ⟨fun t3 => absurd (Or.inr (by omega)) hf, fun t3 => go⟩⟩, fun t => absurd (hC.k.2.2.2.2.1.mpr h0) t⟩⟩
    · have k0 : gi I 74 3 = 0 := by rw [hT.2.1, h0]; rfl
      have e83 : gi I 83 (gi I 74 40).toNat = L 0 2 := by rw [h40, Int.toNat_natCast]; exact hS.1.2.2.1
      have e86 : gi I 86 (gi I 74 40).toNat = L 0 3 := by rw [h40, Int.toNat_natCast]; exact hS.1.2.2.2.1
      have h2 : gi I 74 2 = (n : Int) := hT.1.1
      have hE : ER I (si (si I 74 8 1) 74 9 (gi I 74 2)) (1, gi I 74 2) := ER.of (by decide) (gi_in _ _ _)
      have go := hQ _ J hE.2.1 (hE.2.2.trans h2) (hE.b b) (FrJ.rf _ _)
      have e8 : gi (si (si I 74 8 1) 74 9 (gi I 74 2)) 74 8 = 1 := hE.2.1
      have e9 : gi (si (si I 74 8 1) 74 9 (gi I 74 2)) 74 9 = gi I 74 2 := hE.2.2
      rw [e8, e9] at go
      exact B_X12_library_140 (by omega) ⟨fun t => absurd h8 t, fun _ => ⟨fun _ => ⟨fun t => absurd h8 t, fun _ => ⟨by omega, fun t2 => absurd (Or.inl (by omega)) hf, fun t2 => ⟨fun t3 => absurd (Or.inr (by omega)) hf, fun t3 => ⟨fun _ => go, fun t => absurd (by omega) t⟩⟩⟩⟩, fun t => absurd k0 t⟩⟩
end LOOPS

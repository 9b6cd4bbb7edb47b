section FEED
/-! ===== feed: four bytes of an int, the highest first, shifted with the sign or without ===== -/
theorem bv_byte (v : BitVec 32) (s : Nat) (hs : s ≤ 24) : (v >>> s) &&& 255#32 = (v.sshiftRight s) &&& 255#32 := by
  apply BitVec.eq_of_getLsbD_eq
  intro i hi
  rw [BitVec.getLsbD_and, BitVec.getLsbD_and]
  by_cases h8 : i < 8
  · congr 1
    rw [BitVec.getLsbD_ushiftRight, BitVec.getLsbD_sshiftRight]
    have h1 : s + i < 32 := by omega
    have h2 : ¬ 32 ≤ i := by omega
    simp [h1, h2]
  · have h : (255#32).getLsbD i = false := by
      rw [BitVec.getLsbD_ofNat]
      have h3 : Nat.testBit 255 i = false := Nat.testBit_lt_two_pow (Nat.lt_of_lt_of_le (show 255 < 2 ^ 8 by decide) (Nat.pow_le_pow_right (by decide) (by omega)))
      simp [h3]
    rw [h]
    simp
theorem byte_of {x s : Int} (Y Z : Int32) (hY : ushr32 x s = Y.toInt) (hZ : shr32 x s = Z.toInt) (h : Y.toBitVec &&& 255#32 = Z.toBitVec &&& 255#32) : and32 (ushr32 x s) 255 = and32 (shr32 x s) 255 := by
  unfold and32
  rw [hY, hZ, iI_of, iI_of]
  congr 1
  apply Int32.toBitVec_inj.mp
  exact h
theorem byte_24 (x : Int) : and32 (ushr32 x 24) 255 = and32 (shr32 x 24) 255 := byte_of _ _ rfl rfl (bv_byte (iI x).toBitVec 24 (by decide))
theorem byte_16 (x : Int) : and32 (ushr32 x 16) 255 = and32 (shr32 x 16) 255 := byte_of _ _ rfl rfl (bv_byte (iI x).toBitVec 16 (by decide))
theorem byte_8 (x : Int) : and32 (ushr32 x 8) 255 = and32 (shr32 x 8) 255 := byte_of _ _ rfl rfl (bv_byte (iI x).toBitVec 8 (by decide))
theorem byte_0 (x : Int) : and32 (ushr32 x 0) 255 = and32 (shr32 x 0) 255 := byte_of _ _ rfl rfl (bv_byte (iI x).toBitVec 0 (by decide))
/-- one byte laid on both tapes -/
def p1 (I : Nat → Nat → Int32) (z : Int) : Nat → Nat → Int32 := si (si I 2 (gi I 1 1).toNat z) 1 1 (gi I 1 1 + 1)
def p2 (I : Nat → Nat → Int32) (z : Int) : Nat → Nat → Int32 := si (si I 75 (gi I 74 1).toNat z) 74 1 (gi I 74 1 + 1)
abbrev by4 (x s : Int) : Int := and32 (shr32 x s) 255
def q1 (I : Nat → Nat → Int32) (x : Int) : Nat → Nat → Int32 := p1 (p1 (p1 (p1 I (by4 x 24)) (by4 x 16)) (by4 x 8)) (by4 x 0)
def q2 (I : Nat → Nat → Int32) (x : Int) : Nat → Nat → Int32 := p2 (p2 (p2 (p2 I (by4 x 24)) (by4 x 16)) (by4 x 8)) (by4 x 0)
theorem p1_len (I : Nat → Nat → Int32) (z : Int) (h : inR (gi I 1 1 + 1)) : gi (p1 I z) 1 1 = gi I 1 1 + 1 := gi_same _ _ _ h
theorem p2_len (I : Nat → Nat → Int32) (z : Int) (h : inR (gi I 74 1 + 1)) : gi (p2 I z) 74 1 = gi I 74 1 + 1 := gi_same _ _ _ h
theorem q1_len (I : Nat → Nat → Int32) (x : Int) (h : 0 ≤ gi I 1 1 ∧ gi I 1 1 ≤ 1600) : gi (q1 I x) 1 1 = gi I 1 1 + 4 := by
  unfold q1
  have a1 := p1_len I (by4 x 24) ⟨by omega, by omega⟩
  have a2 := p1_len (p1 I (by4 x 24)) (by4 x 16) ⟨by omega, by omega⟩
  have a3 := p1_len (p1 (p1 I (by4 x 24)) (by4 x 16)) (by4 x 8) ⟨by omega, by omega⟩
  have a4 := p1_len (p1 (p1 (p1 I (by4 x 24)) (by4 x 16)) (by4 x 8)) (by4 x 0) ⟨by omega, by omega⟩
  omega
theorem q2_len (I : Nat → Nat → Int32) (x : Int) (h : 0 ≤ gi I 74 1 ∧ gi I 74 1 ≤ 1600) : gi (q2 I x) 74 1 = gi I 74 1 + 4 := by
  unfold q2
  have a1 := p2_len I (by4 x 24) ⟨by omega, by omega⟩
  have a2 := p2_len (p2 I (by4 x 24)) (by4 x 16) ⟨by omega, by omega⟩
  have a3 := p2_len (p2 (p2 I (by4 x 24)) (by4 x 16)) (by4 x 8) ⟨by omega, by omega⟩
  have a4 := p2_len (p2 (p2 (p2 I (by4 x 24)) (by4 x 16)) (by4 x 8)) (by4 x 0) ⟨by omega, by omega⟩
  omega
theorem S_X10_put {k : Nat} {P : Option Nat} {I : Nat → Nat → Int32} {J : Nat → Nat → Int64} {x : Int} {Q : Option AV → Mem → Prop} (hl : 0 ≤ gi I 1 1 ∧ gi I 1 1 + 4 ≤ 1600) (h : Q none (mem (rv0 P) (q1 I x) J)) : WPm k LAY m_X10_put [vR (some 1), vI x] (mem (rv0 P) I J) Q := by
  refine WPm.of k_X10_put.1 (Nat.le_of_ble_eq_true rfl) (B_X10_put_0 (by omega) ?_)
  have a1 := p1_len I (by4 x 24) ⟨by omega, by omega⟩
  have a2 := p1_len (p1 I (by4 x 24)) (by4 x 16) ⟨by omega, by omega⟩
  have a3 := p1_len (p1 (p1 I (by4 x 24)) (by4 x 16)) (by4 x 8) ⟨by omega, by omega⟩
  refine B_X10_put_3 (by omega) ⟨by decide, fun q => absurd q (by decide), fun _ => ⟨fun q => absurd q (by omega), fun _ => ⟨⟨by omega, by omega⟩, ?_⟩⟩⟩
  rw [byte_24]
  change WP k LAY m_X10_put 3 [(0, vR (some 1)), (1, vI x), (2, vI 16)] [] (mem (P, some 5, some 22) (p1 I (by4 x 24)) J) Q
  refine B_X10_put_3 (by omega) ⟨by decide, fun q => absurd q (by decide), fun _ => ⟨fun q => absurd q (by omega), fun _ => ⟨⟨by omega, by omega⟩, ?_⟩⟩⟩
  rw [byte_16]
  change WP k LAY m_X10_put 3 [(0, vR (some 1)), (1, vI x), (2, vI 8)] [] (mem (P, some 5, some 22) (p1 (p1 I (by4 x 24)) (by4 x 16)) J) Q
  refine B_X10_put_3 (by omega) ⟨by decide, fun q => absurd q (by decide), fun _ => ⟨fun q => absurd q (by omega), fun _ => ⟨⟨by omega, by omega⟩, ?_⟩⟩⟩
  rw [byte_8]
  change WP k LAY m_X10_put 3 [(0, vR (some 1)), (1, vI x), (2, vI 0)] [] (mem (P, some 5, some 22) (p1 (p1 (p1 I (by4 x 24)) (by4 x 16)) (by4 x 8)) J) Q
  refine B_X10_put_3 (by omega) ⟨by decide, fun q => absurd q (by decide), fun _ => ⟨fun q => absurd q (by omega), fun _ => ⟨⟨by omega, by omega⟩, ?_⟩⟩⟩
  rw [byte_0]
  change WP k LAY m_X10_put 3 [(0, vR (some 1)), (1, vI x), (2, vI (-8))] [] (mem (P, some 5, some 22) (q1 I x) J) Q
  exact B_X10_put_3 (by omega) ⟨by decide, fun _ => h, fun q => absurd (by decide) q⟩
theorem S_X12_put {k : Nat} {P : Option Nat} {I : Nat → Nat → Int32} {J : Nat → Nat → Int64} {x : Int} {Q : Option AV → Mem → Prop} (hl : 0 ≤ gi I 74 1 ∧ gi I 74 1 + 4 ≤ 1600) (h : Q none (mem (rv0 P) (q2 I x) J)) : WPm k LAY m_X12_put [vR (some 74), vI x] (mem (rv0 P) I J) Q := by
  refine WPm.of k_X12_put.1 (Nat.le_of_ble_eq_true rfl) (B_X12_put_0 (by omega) ?_)
  have a1 := p2_len I (by4 x 24) ⟨by omega, by omega⟩
  have a2 := p2_len (p2 I (by4 x 24)) (by4 x 16) ⟨by omega, by omega⟩
  have a3 := p2_len (p2 (p2 I (by4 x 24)) (by4 x 16)) (by4 x 8) ⟨by omega, by omega⟩
  refine B_X12_put_3 (by omega) ⟨by decide, fun q => absurd q (by decide), fun _ => ⟨⟨by omega, by omega⟩, ?_⟩⟩
  change WP k LAY m_X12_put 3 [(0, vR (some 74)), (1, vI x), (2, vI 16)] [] (mem (P, some 5, some 22) (p2 I (by4 x 24)) J) Q
  refine B_X12_put_3 (by omega) ⟨by decide, fun q => absurd q (by decide), fun _ => ⟨⟨by omega, by omega⟩, ?_⟩⟩
  change WP k LAY m_X12_put 3 [(0, vR (some 74)), (1, vI x), (2, vI 8)] [] (mem (P, some 5, some 22) (p2 (p2 I (by4 x 24)) (by4 x 16)) J) Q
  refine B_X12_put_3 (by omega) ⟨by decide, fun q => absurd q (by decide), fun _ => ⟨⟨by omega, by omega⟩, ?_⟩⟩
  change WP k LAY m_X12_put 3 [(0, vR (some 74)), (1, vI x), (2, vI 0)] [] (mem (P, some 5, some 22) (p2 (p2 (p2 I (by4 x 24)) (by4 x 16)) (by4 x 8)) J) Q
  refine B_X12_put_3 (by omega) ⟨by decide, fun q => absurd q (by decide), fun _ => ⟨⟨by omega, by omega⟩, ?_⟩⟩
  change WP k LAY m_X12_put 3 [(0, vR (some 74)), (1, vI x), (2, vI (-8))] [] (mem (P, some 5, some 22) (q2 I x) J) Q
  exact B_X12_put_3 (by omega) ⟨by decide, fun _ => h, fun q => absurd (by decide) q⟩
end FEED

section FEED
/-! ===== feed: four bytes of an int, the highest first, shifted with the sign or without ===== -/
theorem bv_byte (v : BitVec 32) (s : Nat) (hs : s ≤ 24) : (v >>> s) &&& 255#32 = (v.sshiftRight s) &&& 255#32 := by
  apply BitVec.eq_of_getLsbD_eq
  intro i hi
  rw [BitVec.getLsbD_and, BitVec.getLsbD_and]
  by_cases h8 : i < 8
  · congr 1
    rw [BitVec.getLsbD_ushiftRight, BitVec.getLsbD_sshiftRight]
    have h1 : s + i < 32 := by omega
    have h2 : ¬ 32 ≤ i := by omega
    simp [h1, h2]
  · have h : (255#32).getLsbD i = false := by
      rw [BitVec.getLsbD_ofNat]
      have h3 : Nat.testBit 255 i = false := Nat.testBit_lt_two_pow (Nat.lt_of_lt_of_le (show 255 < 2 ^ 8 by decide) (Nat.pow_le_pow_right (by decide) (by omega)))
      simp [h3]
    rw [h]
    simp
theorem byte_of {x s : Int} (Y Z : Int32) (hY : ushr32 x s = Y.toInt) (hZ : shr32 x s = Z.toInt) (h : Y.toBitVec &&& 255#32 = Z.toBitVec &&& 255#32) : and32 (ushr32 x s) 255 = and32 (shr32 x s) 255 := by
  unfold and32
  rw [hY, hZ, iI_of, iI_of]
  congr 1
  apply Int32.toBitVec_inj.mp
  exact h
theorem byte_24 (x : Int) : and32 (ushr32 x 24) 255 = and32 (shr32 x 24) 255 := byte_of _ _ rfl rfl (bv_byte (iI x).toBitVec 24 (by decide))
theorem byte_16 (x : Int) : and32 (ushr32 x 16) 255 = and32 (shr32 x 16) 255 := byte_of _ _ rfl rfl (bv_byte (iI x).toBitVec 16 (by decide))
theorem byte_8 (x : Int) : and32 (ushr32 x 8) 255 = and32 (shr32 x 8) 255 := byte_of _ _ rfl rfl (bv_byte (iI x).toBitVec 8 (by decide))
theorem byte_0 (x : Int) : and32 (ushr32 x 0) 255 = and32 (shr32 x 0) 255 := byte_of _ _ rfl rfl (bv_byte (iI x).toBitVec 0 (by decide))
/-- one byte laid on both tapes -/
def p1 (I : Nat → Nat → Int32) (z : Int) : Nat → Nat → Int32 := si (si I 2 (gi I 1 1).toNat z) 1 1 (gi I 1 1 + 1)
def p2 (I : Nat → Nat → Int32) (z : Int) : Nat → Nat → Int32 := si (si I 75 (gi I 74 1).toNat z) 74 1 (gi I 74 1 + 1)
abbrev by4 (x s : Int) : Int := and32 (shr32 x s) 255
def q1 (I : Nat → Nat → Int32) (x : Int) : Nat → Nat → Int32 := p1 (p1 (p1 (p1 I (by4 x 24)) (by4 x 16)) (by4 x 8)) (by4 x 0)
def q2 (I : Nat → Nat → Int32) (x : Int) : Nat → Nat → Int32 := p2 (p2 (p2 (p2 I (by4 x 24)) (by4 x 16)) (by4 x 8)) (by4 x 0)
theorem p1_len (I : Nat → Nat → Int32) (z : Int) (h : inR (gi I 1 1 + 1)) : gi (p1 I z) 1 1 = gi I 1 1 + 1 := gi_same _ _ _ h
theorem p2_len (I : Nat → Nat → Int32) (z : Int) (h : inR (gi I 74 1 + 1)) : gi (p2 I z) 74 1 = gi I 74 1 + 1 := gi_same _ _ _ h
theorem q1_len (I : Nat → Nat → Int32) (x : Int) (h : 0 ≤ gi I 1 1 ∧ gi I 1 1 ≤ 1600) : gi (q1 I x) 1 1 = gi I 1 1 + 4 := by
  unfold q1
  have a1 := p1_len I (by4 x 24) ⟨by omega, by omega⟩
  have a2 := p1_len (p1 I (by4 x 24)) (by4 x 16) ⟨by omega, by omega⟩
  have a3 := p1_len (p1 (p1 I (by4 x 24)) (by4 x 16)) (by4 x 8) ⟨by omega, by omega⟩
  have a4 := p1_len (p1 (p1 (p1 I (by4 x 24)) (by4 x 16)) (by4 x 8)) (by4 x 0) ⟨by omega, by omega⟩
  omega
theorem q2_len (I : Nat → Nat → Int32) (x : Int) (h : 0 ≤ gi I 74 1 ∧ gi I 74 1 ≤ 1600) : gi (q2 I x) 74 1 = gi I 74 1 + 4 := by
  unfold q2
  have a1 := p2_len I (by4 x 24) ⟨by omega, by omega⟩
  have a2 := p2_len (p2 I (by4 x 24)) (by4 x 16) ⟨by omega, by omega⟩
  have a3 := p2_len (p2 (p2 I (by4 x 24)) (by4 x 16)) (by4 x 8) ⟨by omega, by omega⟩
  have a4 := p2_len (p2 (p2 (p2 I (by4 x 24)) (by4 x 16)) (by4 x 8)) (by4 x 0) ⟨by omega, by omega⟩
  omega
theorem S_X10_put {k : Nat} {P : Option Nat} {I : Nat → Nat → Int32} {J : Nat → Nat → Int64} {x : Int} {Q : Option AV → Mem → Prop} (hl : 0 ≤ gi I 1 1 ∧ gi I 1 1 + 4 ≤ 1600) (h : Q none (mem (rv0 P) (q1 I x) J)) : WPm k LAY m_X10_put [vR (some 1), vI x] (mem (rv0 P) I J) Q := by
  refine WPm.of k_X10_put.1 (Nat.le_of_ble_eq_true rfl) (B_X10_put_0 (by omega) ?_)
  have a1 := p1_len I (by4 x 24) ⟨by omega, by omega⟩
  have a2 := p1_len (p1 I (by4 x 24)) (by4 x 16) ⟨by omega, by omega⟩
  have a3 := p1_len (p1 (p1 I (by4 x 24)) (by4 x 16)) (by4 x 8) ⟨by omega, by omega⟩
  refine B_X10_put_3 (by omega) ⟨by decide, fun q => absurd q (by decide), fun _ => ⟨fun q => absurd q (by omega), fun _ => ⟨⟨by omega, by omega⟩, ?_⟩⟩⟩
  rw [byte_24]
  change WP k LAY m_X10_put 3 [(0, vR (some 1)), (1, vI x), (2, vI 16)] [] (mem (P, some 5, some 22) (p1 I (by4 x 24)) J) Q
  refine B_X10_put_3 (by omega) ⟨by decide, fun q => absurd q (by decide), fun _ => ⟨fun q => absurd q (by omega), fun _ => ⟨⟨by omega, by omega⟩, ?_⟩⟩⟩
  rw [byte_16]
  change WP k LAY m_X10_put 3 [(0, vR (some 1)), (1, vI x), (2, vI 8)] [] (mem (P, some 5, some 22) (p1 (p1 I (by4 x 24)) (by4 x 16)) J) Q
  refine B_X10_put_3 (by omega) ⟨by decide, fun q => absurd q (by decide), fun _ => ⟨fun q => absurd q (by omega), fun _ => ⟨⟨by omega, by omega⟩, ?_⟩⟩⟩
  rw [byte_8]
  change WP k LAY m_X10_put 3 [(0, vR (some 1)), (1, vI x), (2, vI 0)] [] (mem (P, some 5, some 22) (p1 (p1 (p1 I (by4 x 24)) (by4 x 16)) (by4 x 8)) J) Q
  refine B_X10_put_3 (by omega) ⟨by decide, fun q => absurd q (by decide), fun _ => ⟨fun q => absurd q (by omega), fun _ => ⟨⟨by omega, by omega⟩, ?_⟩⟩⟩
  rw [byte_0]
  change WP k LAY m_X10_put 3 [(0, vR (some 1)), (1, vI x), (2, vI (-8))] [] (mem (P, some 5, some 22) (q1 I x) J) Q
  exact B_X10_put_3 (by omega) ⟨by decide, fun _ => h, fun q => absurd (by decide) q⟩
theorem S_X12_put {k : Nat} {P : Option Nat} {I : Nat → Nat → Int32} {J : Nat → Nat → Int64} {x : Int} {Q : Option AV → Mem → Prop} (hl : 0 ≤ gi I 74 1 ∧ gi I 74 1 + 4 ≤ 1600) (h : Q none (mem (rv0 P) (q2 I x) J)) : WPm k LAY m_X12_put [vR (some 74), vI x] (mem (rv0 P) I J) Q := by
  refine WPm.of k_X12_put.1 (Nat.le_of_ble_eq_true rfl) (B_X12_put_0 (by omega) ?_)
  have a1 := p2_len I (by4 x 24) ⟨by omega, by omega⟩
  have a2 := p2_len (p2 I (by4 x 24)) (by4 x 16) ⟨by omega, by omega⟩
  have a3 := p2_len (p2 (p2 I (by4 x 24)) (by4 x 16)) (by4 x 8) ⟨by omega, by omega⟩
  refine B_X12_put_3 (by omega) ⟨by decide, fun q => absurd q (by decide), fun _ => ⟨⟨by omega, by omega⟩, ?_⟩⟩
  change WP k LAY m_X12_put 3 [(0, vR (some 74)), (1, vI x), (2, vI 16)] [] (mem (P, some 5, some 22) (p2 I (by4 x 24)) J) Q
  refine B_X12_put_3 (by omega) ⟨by decide, fun q => absurd q (by decide), fun _ => ⟨⟨by omega, by omega⟩, ?_⟩⟩
  change WP k LAY m_X12_put 3 [(0, vR (some 74)), (1, vI x), (2, vI 8)] [] (mem (P, some 5, some 22) (p2 (p2 I (by4 x 24)) (by4 x 16)) J) Q
  refine B_X12_put_3 (by omega) ⟨by decide, fun q => absurd q (by decide), fun _ => ⟨⟨by omega, by omega⟩, ?_⟩⟩
  change WP k LAY m_X12_put 3 [(0, vR (some 74)), (1, vI x), (2, vI 0)] [] (mem (P, some 5, some 22) (p2 (p2 (p2 I (by4 x 24)) (by4 x 16)) (by4 x 8)) J) Q
  refine B_X12_put_3 (by omega) ⟨by decide, fun q => absurd q (by decide), fun _ => ⟨⟨by omega, by omega⟩, ?_⟩⟩
  change WP k LAY m_X12_put 3 [(0, vR (some 74)), (1, vI x), (2, vI (-8))] [] (mem (P, some 5, some 22) (q2 I x) J) Q
  exact B_X12_put_3 (by omega) ⟨by decide, fun _ => h, fun q => absurd (by decide) q⟩
theorem p1_cell (I : Nat → Nat → Int32) (z : Int) {c : Nat} (k : Nat) (h1 : c ≠ 1) (h2 : c ≠ 2) : gi (p1 I z) c k = gi I c k := by
  unfold p1
  rw [gi_cell _ _ _ _ h1, gi_cell _ _ _ _ h2]
theorem p2_cell (I : Nat → Nat → Int32) (z : Int) {c : Nat} (k : Nat) (h1 : c ≠ 74) (h2 : c ≠ 75) : gi (p2 I z) c k = gi I c k := by
  unfold p2
  rw [gi_cell _ _ _ _ h1, gi_cell _ _ _ _ h2]
theorem q1_cell (I : Nat → Nat → Int32) (x : Int) {c : Nat} (k : Nat) (h1 : c ≠ 1) (h2 : c ≠ 2) : gi (q1 I x) c k = gi I c k := by
  unfold q1
  rw [p1_cell _ _ _ h1 h2, p1_cell _ _ _ h1 h2, p1_cell _ _ _ h1 h2, p1_cell _ _ _ h1 h2]
theorem q2_cell (I : Nat → Nat → Int32) (x : Int) {c : Nat} (k : Nat) (h1 : c ≠ 74) (h2 : c ≠ 75) : gi (q2 I x) c k = gi I c k := by
  unfold q2
  rw [p2_cell _ _ _ h1 h2, p2_cell _ _ _ h1 h2, p2_cell _ _ _ h1 h2, p2_cell _ _ _ h1 h2]
def fe1 (I : Nat → Nat → Int32) (x1 x2 x3 x4 x5 : Int) : Nat → Nat → Int32 := q1 (q1 (q1 (q1 (q1 I x1) x2) x3) x4) x5
def fe2 (I : Nat → Nat → Int32) (x1 x2 x3 x4 x5 : Int) : Nat → Nat → Int32 := q2 (q2 (q2 (q2 (q2 I x1) x2) x3) x4) x5
theorem step_feed {V V' : Cpl} (hT : ∀ I J, V I J → gi I 1 1 = gi I 74 1 ∧ 0 ≤ gi I 1 1 ∧ gi I 1 1 ≤ 1600) (hput : ∀ I J x1 x2 x3 x4 x5, V I J → gi I 1 1 + 20 ≤ 1600 → V' (fe2 (fe1 I x1 x2 x3 x4 x5) x1 x2 x3 x4 x5) J) (hno : ∀ I J j, V I J → j < 6 → V' (refI I j) J) (x1 x2 x3 x4 x5 : Int) : Step V V' m_X11_feed m_X12_feed [x1, x2, x3, x4, x5] := by
  intro P I J h
  obtain ⟨ht, hl0, hl1⟩ := hT I J h
  refine WPm.of k_X11_feed.1 (Nat.le_of_ble_eq_true rfl) (B_X11_feed_0 (by omega) ⟨⟨by omega, by omega⟩, fun q => ?_, fun q => ?_⟩)
  · have a1 := q1_len I x1 ⟨by omega, by omega⟩
    have a2 := q1_len (q1 I x1) x2 ⟨by omega, by omega⟩
    have a3 := q1_len (q1 (q1 I x1) x2) x3 ⟨by omega, by omega⟩
    have a4 := q1_len (q1 (q1 (q1 I x1) x2) x3) x4 ⟨by omega, by omega⟩
    have a5 := q1_len (q1 (q1 (q1 (q1 I x1) x2) x3) x4) x5 ⟨by omega, by omega⟩
    refine S_X10_put ⟨by omega, by omega⟩ ⟨_, _, rfl, rfl, ?_⟩
    refine S_X10_put ⟨by omega, by omega⟩ ⟨_, _, rfl, rfl, ?_⟩
    refine S_X10_put ⟨by omega, by omega⟩ ⟨_, _, rfl, rfl, ?_⟩
    refine S_X10_put ⟨by omega, by omega⟩ ⟨_, _, rfl, rfl, ?_⟩
    refine S_X10_put ⟨by omega, by omega⟩ ⟨_, _, rfl, rfl, ?_⟩
    refine Step.put (gi_in _ _ _) rfl ?_
    have e0 : gi (q1 (q1 (q1 (q1 (q1 I x1) x2) x3) x4) x5) 74 1 = gi I 74 1 := by
      rw [q1_cell _ _ _ (by decide) (by decide), q1_cell _ _ _ (by decide) (by decide), q1_cell _ _ _ (by decide) (by decide), q1_cell _ _ _ (by decide) (by decide), q1_cell _ _ _ (by decide) (by decide)]
    have hI := hput I J x1 x2 x3 x4 x5 h q
    unfold fe1 fe2 at hI
    generalize hK : q1 (q1 (q1 (q1 (q1 I x1) x2) x3) x4) x5 = K at *
    have b1 := q2_len K x1 ⟨by omega, by omega⟩
    have b2 := q2_len (q2 K x1) x2 ⟨by omega, by omega⟩
    have b3 := q2_len (q2 (q2 K x1) x2) x3 ⟨by omega, by omega⟩
    have b4 := q2_len (q2 (q2 (q2 K x1) x2) x3) x4 ⟨by omega, by omega⟩
    have b5 := q2_len (q2 (q2 (q2 (q2 K x1) x2) x3) x4) x5 ⟨by omega, by omega⟩
    refine WPm.of k_X12_feed.1 (Nat.le_of_ble_eq_true rfl) (B_X12_feed_0 (by omega) ⟨⟨by omega, by omega⟩, fun qq => ?_, fun qq => absurd qq (by omega)⟩)
    refine S_X12_put ⟨by omega, by omega⟩ ⟨_, _, rfl, rfl, ?_⟩
    refine S_X12_put ⟨by omega, by omega⟩ ⟨_, _, rfl, rfl, ?_⟩
    refine S_X12_put ⟨by omega, by omega⟩ ⟨_, _, rfl, rfl, ?_⟩
    refine S_X12_put ⟨by omega, by omega⟩ ⟨_, _, rfl, rfl, ?_⟩
    refine S_X12_put ⟨by omega, by omega⟩ ⟨_, _, rfl, rfl, ?_⟩
    have eZ : gi (q2 (q2 (q2 (q2 (q2 K x1) x2) x3) x4) x5) 74 1 = gi K 1 1 := by omega
    exact ⟨congrArg (fun z : Int => some (vI z)) eZ, Cpl2.here hI⟩
  · refine Step.put (by decide) rfl ?_
    have e1 : gi (si I 73 0 (gi I 73 0 + 1)) 74 1 = gi I 74 1 := gi_cell _ _ _ _ (by decide)
    have e2 : gi (si I 73 0 (gi I 73 0 + 1)) 107 0 = gi I 107 0 := gi_cell _ _ _ _ (by decide)
    refine WPm.of k_X12_feed.1 (Nat.le_of_ble_eq_true rfl) (B_X12_feed_0 (by omega) ?_)
    rw [e1, e2]
    exact ⟨⟨by omega, by omega⟩, fun q2 => absurd q2 (by omega), fun q2 => ⟨rfl, Cpl2.here (hno I J 0 h (by decide))⟩⟩
end FEED

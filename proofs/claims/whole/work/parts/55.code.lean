section CODES
/-! ===== how a page stands in the log ===== -/
theorem shl_c {n c : Nat} (hc : c = 7 ∨ c = 4) (hn : n < 4096) : shl32 (n : Int) (c : Int) = ((2 ^ c * n : Nat) : Int) := by
  show (iI (n : Int) <<< (iI (c : Int) &&& 31)).toBitVec.toInt = _
  rw [Int32.toBitVec_shiftLeft, iI_bv]
  have hlt : 2 ^ c * n < 2147483648 := by
    rcases hc with rfl | rfl
    · show 128 * n < 2147483648
      omega
    · show 16 * n < 2147483648
      omega
  have e : ((iI (c : Int) &&& 31).toBitVec.smod 32).toNat = c := by
    rcases hc with rfl | rfl <;> decide
  refine bv_int ?_ hlt
  rw [BitVec.shiftLeft_eq', e, BitVec.toNat_shiftLeft, bv_nat (by omega), Nat.shiftLeft_eq, Nat.mul_comm, Nat.mod_eq_of_lt (by omega)]
theorem cd_or {night r p : Int} (hn : 0 ≤ night ∧ night ≤ 1000) (hr : 0 ≤ r ∧ r < 6) (hp : 0 ≤ p ∧ p < 14) : or32 (or32 (shl32 night 7) (shl32 r 4)) p = cdE (night, r, p) := by
  have e1 : shl32 night 7 = ((2 ^ 7 * night.toNat : Nat) : Int) := by
    have := shl_c (n := night.toNat) (c := 7) (Or.inl rfl) (by omega)
    rwa [Int.toNat_of_nonneg hn.1] at this
  have e2 : shl32 r 4 = ((2 ^ 4 * r.toNat : Nat) : Int) := by
    have := shl_c (n := r.toNat) (c := 4) (Or.inr rfl) (by omega)
    rwa [Int.toNat_of_nonneg hr.1] at this
  have e3 : p = ((p.toNat : Nat) : Int) := by omega
  have a1 : 2 ^ 7 * night.toNat ||| 2 ^ 4 * r.toNat = 2 ^ 7 * night.toNat + 2 ^ 4 * r.toNat := (Nat.two_pow_add_eq_or_of_lt (i := 7) (by omega) _).symm
  have a2 : 2 ^ 4 * (8 * night.toNat + r.toNat) ||| p.toNat = 2 ^ 4 * (8 * night.toNat + r.toNat) + p.toNat := (Nat.two_pow_add_eq_or_of_lt (i := 4) (by omega) _).symm
  have a3 : 2 ^ 7 * night.toNat + 2 ^ 4 * r.toNat = 2 ^ 4 * (8 * night.toNat + r.toNat) := by omega
  rw [e1, e2, or32_nat (by omega) (by omega), a1, a3]
  have e4 : or32 ((2 ^ 4 * (8 * night.toNat + r.toNat) : Nat) : Int) p = ((2 ^ 4 * (8 * night.toNat + r.toNat) ||| p.toNat : Nat) : Int) := by
    rw [e3, or32_nat (by omega) (by omega), ← e3]
  rw [e4, a2]
  unfold cdE
  show (((2 ^ 4 * (8 * night.toNat + r.toNat) + p.toNat : Nat)) : Int) = 128 * night + 16 * r + p
  omega
end CODES

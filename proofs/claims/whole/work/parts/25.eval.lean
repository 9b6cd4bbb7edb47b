section EVALS
/-! ===== the rules: one code for both, and what it comes to ===== -/
def bnd (v : Int) : Int := if v ≤ 1000000 then (if -1000000 ≤ v then v else -1000000) else 1000000
theorem bnd_in (v : Int) : -1000000 ≤ bnd v ∧ bnd v ≤ 1000000 := by
  unfold bnd
  split
  · split <;> omega
  · omega
def fq (a b : Int) : Int := if a.tdiv b * b = a then a.tdiv b else if (0 ≤ a ↔ 0 ≤ b) then a.tdiv b else a.tdiv b - 1
def opv (c a b : Int) : Int :=
  if c = 10100 then bnd (a + b) else if c = 10101 then bnd (a - b) else if c = 10102 then bnd (a * b) else if c = 10103 then (if b = 0 then 0 else bnd (fq a b)) else if c = 10104 then (if b = 0 then 0 else bnd (a - b * fq a b)) else if c = 10105 then min a b else if c = 10106 then max a b else if c = 10107 then b2i (a < b) else if c = 10108 then b2i (b < a) else if c = 10109 then b2i (a = b) else if c = 10110 then min a b else max a b
abbrev mil (v : Int) : Prop := -1000000 ≤ v ∧ v ≤ 1000000
abbrev o1 (v : Int) : Prop := v = 0 ∨ v = 1
theorem mul_mil {a b : Int} (ha : mil a) (hb : mil b) : -1000000000000 ≤ a * b ∧ a * b ≤ 1000000000000 := by
  have h1 : (a * b).natAbs ≤ 1000000 * 1000000 := by
    rw [Int.natAbs_mul]
    exact Nat.mul_le_mul (by omega) (by omega)
  omega
theorem tdiv_mil {a : Int} (ha : mil a) (b : Int) : mil (a.tdiv b) := by
  have h := Int.natAbs_tdiv_le_natAbs a b
  omega
theorem fq_mil {a : Int} (ha : mil a) (b : Int) : -1000001 ≤ fq a b ∧ fq a b ≤ 1000000 := by
  have h := tdiv_mil ha b
  unfold fq
  split
  · omega
  · split <;> omega
theorem div64_t {a b : Int} (ha : mil a) (hb : mil b) : div64 a b = a.tdiv b := by
  unfold div64
  rw [Int64.toInt_div_of_ne_left _ _ (by
    intro e
    have e2 := congrArg Int64.toInt e
    rw [iL_to ⟨by omega, by omega⟩] at e2
    have e3 : (Int64.minValue).toInt = -9223372036854775808 := by decide
    omega), iL_to ⟨by omega, by omega⟩, iL_to ⟨by omega, by omega⟩]
theorem rem64_t {a b : Int} (ha : mil a) (hb : mil b) : rem64 a b = a - a.tdiv b * b := by
  have h1 := mul_mil (tdiv_mil ha b) hb
  unfold rem64
  have e : iL a / iL b = iL (a.tdiv b) := by
    rw [← div64_t ha hb]
    exact (iL_of _).symm
  rw [e, iL_mul, iL_sub, iL_to ⟨by omega, by omega⟩]
theorem xor64_sg {a b : Int} (ha : inL a) (hb : inL b) : 0 ≤ xor64 a b ↔ (0 ≤ a ↔ 0 ≤ b) := by
  unfold xor64
  have h : ∀ x : Int64, (0 ≤ x.toInt ↔ x.toBitVec.msb = false) := by
    intro x
    rw [BitVec.msb_eq_toInt]
    show 0 ≤ x.toBitVec.toInt ↔ _
    simp
  rw [h, Int64.toBitVec_xor, BitVec.msb_xor]
  have h1 := h (iL a)
  have h2 := h (iL b)
  rw [iL_to ha] at h1
  rw [iL_to hb] at h2
  rw [h1, h2]
  cases (iL a).toBitVec.msb <;> cases (iL b).toBitVec.msb <;> simp
theorem S_floorDiv {k : Nat} {rv : RV} {I : Nat → Nat → Int32} {J : Nat → Nat → Int64} {a b : Int} {Q : Option AV → Mem → Prop} (ha : mil a) (hb : mil b) (h0 : ¬ b = 0) (h : Q (some (vL (fq a b))) (mem rv I J)) : WPm k LAY m_J9_floorDiv_f86c9 [vL a, vL b] (mem rv I J) Q := by
  refine WPm.of k_J9_floorDiv_f86c9.1 (Nat.le_of_ble_eq_true rfl) (B_J9_floorDiv_f86c9_0 (by omega) ?_)
  have h1 := mul_mil (tdiv_mil ha b) hb
  rw [xor64_sg ⟨by omega, by omega⟩ ⟨by omega, by omega⟩, div64_t ha hb]
  unfold fq at h
  refine ⟨⟨by omega, by omega⟩, h0, fun q => ?_, fun q => ⟨⟨by omega, by omega⟩, ⟨by omega, by omega⟩, fun e => ?_, fun e => ?_⟩⟩
  · rw [if_pos q] at h
    split at h <;> exact h
  · rw [if_pos e] at h
    exact h
  · rw [if_neg e, if_neg q] at h
    exact h
theorem S_floorMod {k : Nat} {rv : RV} {I : Nat → Nat → Int32} {J : Nat → Nat → Int64} {a b : Int} {Q : Option AV → Mem → Prop} (ha : mil a) (hb : mil b) (h0 : ¬ b = 0) (h : Q (some (vL (a - b * fq a b))) (mem rv I J)) : WPm k LAY m_J9_floorMod_f86c9 [vL a, vL b] (mem rv I J) Q := by
  refine WPm.of k_J9_floorMod_f86c9.1 (Nat.le_of_ble_eq_true rfl) (B_J9_floorMod_f86c9_0 (by omega) ?_)
  have h1 := mul_mil (tdiv_mil ha b) hb
  have hc : a.tdiv b * b = b * a.tdiv b := Int.mul_comm _ _
  have hd : b * (a.tdiv b - 1) = b * a.tdiv b - b := by rw [Int.mul_sub, Int.mul_one]
  rw [xor64_sg ⟨by omega, by omega⟩ ⟨by omega, by omega⟩, rem64_t ha hb]
  unfold fq at h
  refine ⟨⟨by omega, by omega⟩, h0, fun q => ?_, fun q => ⟨fun e => ?_, fun e => ?_⟩⟩
  · rw [if_pos q] at h
    split at h <;> exact QatL h (by omega)
  · rw [if_pos (show a.tdiv b * b = a by omega)] at h
    exact QatL h (by omega)
  · rw [if_neg (show ¬ a.tdiv b * b = a by omega), if_neg q, hd] at h
    exact QatL h (by omega)
theorem S_X12_floor {k : Nat} {P : Option Nat} {I : Nat → Nat → Int32} {J : Nat → Nat → Int64} {a b : Int} {Q : Option AV → Mem → Prop} (ha : mil a) (hb : mil b) (h : Q (some (vL (if b = 0 then 0 else fq a b))) (mem (rv0 P) I J)) : WPm k LAY m_X12_floor [vL a, vL b] (mem (rv0 P) I J) Q := by
  refine WPm.of k_X12_floor.1 (Nat.le_of_ble_eq_true rfl) (B_X12_floor_0 (by omega) ?_)
  rw [rem64_t ha hb, div64_t ha hb]
  refine ⟨⟨by omega, by omega⟩, fun q => ⟨q, q, fun e => ?_, fun e => ⟨⟨by omega, by omega⟩, fun s => ⟨fun t => ?_, fun t => ?_⟩, fun s => ⟨fun t => ?_, fun t => ?_⟩⟩⟩, fun q => ?_⟩
  · rw [if_neg q] at h
    unfold fq at h
    rw [if_pos (show a.tdiv b * b = a by omega)] at h
    exact h
  · rw [if_neg q] at h
    unfold fq at h
    rw [if_neg (show ¬ a.tdiv b * b = a by omega), if_pos (show (0 ≤ a ↔ 0 ≤ b) from ⟨fun _ => t, fun _ => s⟩)] at h
    exact h
  · rw [if_neg q] at h
    unfold fq at h
    rw [if_neg (show ¬ a.tdiv b * b = a by omega), if_neg (show ¬ (0 ≤ a ↔ 0 ≤ b) from fun z => t (z.mp s))] at h
    exact h
  · rw [if_neg q] at h
    unfold fq at h
    rw [if_neg (show ¬ a.tdiv b * b = a by omega), if_neg (show ¬ (0 ≤ a ↔ 0 ≤ b) from fun z => s (z.mpr t))] at h
    exact h
  · rw [if_neg q] at h
    unfold fq at h
    rw [if_neg (show ¬ a.tdiv b * b = a by omega), if_pos (show (0 ≤ a ↔ 0 ≤ b) from ⟨fun z => absurd z s, fun z => absurd z t⟩)] at h
    exact h
  · rw [if_pos q] at h
    exact h
theorem bndQ {R : Int → Prop} {v : Int} (hv : inL v) (h : R (bnd v)) : inL v ∧ ((v ≤ 1000000 → (((-1000000) ≤ v → R v) ∧ (¬ (-1000000) ≤ v → R (-1000000)))) ∧ (¬ v ≤ 1000000 → R 1000000)) := by
  unfold bnd at h
  refine ⟨hv, fun q => ⟨fun q2 => ?_, fun q2 => ?_⟩, fun q => ?_⟩
  · rw [if_pos q, if_pos q2] at h; exact h
  · rw [if_pos q, if_neg q2] at h; exact h
  · rw [if_neg q] at h; exact h
theorem bndI {R : Int → Prop} {v : Int} (hv : mil v) (h : R v) : (v ≤ 1000000 → (((-1000000) ≤ v → R v) ∧ (¬ (-1000000) ≤ v → R (-1000000)))) ∧ (¬ v ≤ 1000000 → R 1000000) := ⟨fun _ => ⟨fun _ => h, fun q => absurd hv.1 q⟩, fun q => absurd hv.2 q⟩
theorem and64_01 {a b : Int} (ha : o1 a) (hb : o1 b) : and64 a b = min a b := by
  rcases ha with rfl | rfl <;> rcases hb with rfl | rfl <;> decide
theorem or64_01 {a b : Int} (ha : o1 a) (hb : o1 b) : or64 a b = max a b := by
  rcases ha with rfl | rfl <;> rcases hb with rfl | rfl <;> decide
theorem S_X9_join {k : Nat} {P : Option Nat} {I : Nat → Nat → Int32} {J : Nat → Nat → Int64} {c a b : Int} {Q : Option AV → Mem → Prop} (hk : 1 ≤ k) (hc : 10100 ≤ c ∧ c ≤ 10111) (ha : mil a) (hb : mil b) (h01 : 10110 ≤ c → o1 a ∧ o1 b) (h : Q (some (vI (opv c a b))) (mem (rv0 P) I J)) : WPm k LAY m_X9_join [vI c, vL a, vL b] (mem (rv0 P) I J) Q := by
  refine WPm.of k_X9_join.1 (Nat.le_of_ble_eq_true rfl) (B_X9_join_0 (by omega) ?_)
  have hm := mul_mil ha hb
  have hq := fq_mil ha b
  refine ⟨⟨by omega, by omega⟩, fun e => ?_, fun e0 => ⟨fun e => ?_, fun e1 => ⟨fun e => ?_, fun e2 => ⟨fun e => ?_, fun e3 => ⟨fun e => ?_, fun e4 => ⟨fun e => ?_, fun e5 => ⟨fun e => ?_, fun e6 => ⟨fun e => ?_, fun e7 => ⟨fun e => ?_, fun e8 => ⟨fun e => ?_, fun e9 => ⟨fun e => ?_, fun e10 => ?_⟩⟩⟩⟩⟩⟩⟩⟩⟩⟩⟩
  · subst e
    exact bndQ (R := fun z => Q (some (vI z)) (mem (rv0 P) I J)) ⟨by omega, by omega⟩ h
  · subst e
    exact bndQ (R := fun z => Q (some (vI z)) (mem (rv0 P) I J)) ⟨by omega, by omega⟩ h
  · subst e
    exact bndQ (R := fun z => Q (some (vI z)) (mem (rv0 P) I J)) ⟨by omega, by omega⟩ h
  · subst e
    refine ⟨⟨by omega, by omega⟩, fun q => ?_, fun q => ?_⟩
    · refine S_floorDiv ha hb q ⟨_, _, _, rfl, rfl, ?_⟩
      have h' : Q (some (vI (if b = 0 then 0 else bnd (fq a b)))) (mem (rv0 P) I J) := h
      rw [if_neg q] at h'
      exact bndQ (R := fun z => Q (some (vI z)) (mem (rv0 P) I J)) ⟨by omega, by omega⟩ h'
    · have h' : Q (some (vI (if b = 0 then 0 else bnd (fq a b)))) (mem (rv0 P) I J) := h
      rw [if_pos q] at h'
      exact h'
  · subst e
    refine ⟨⟨by omega, by omega⟩, fun q => ?_, fun q => ?_⟩
    · refine S_floorMod ha hb q ⟨_, _, _, rfl, rfl, ?_⟩
      have h' : Q (some (vI (if b = 0 then 0 else bnd (a - b * fq a b)))) (mem (rv0 P) I J) := h
      rw [if_neg q] at h'
      have hm2 : (b * fq a b).natAbs ≤ 1000000 * 1000001 := by
        rw [Int.natAbs_mul]
        exact Nat.mul_le_mul (by omega) (by omega)
      exact bndQ (R := fun z => Q (some (vI z)) (mem (rv0 P) I J)) ⟨by omega, by omega⟩ h'
    · have h' : Q (some (vI (if b = 0 then 0 else bnd (a - b * fq a b)))) (mem (rv0 P) I J) := h
      rw [if_pos q] at h'
      exact h'
  · subst e
    have h' : Q (some (vI (min a b))) (mem (rv0 P) I J) := h
    refine ⟨⟨by omega, by omega⟩, ⟨by omega, by omega⟩, fun q => ?_, fun q => ?_⟩
    · exact bndI (R := fun z => Q (some (vI z)) (mem (rv0 P) I J)) hb (Qat h' (by omega))
    · exact bndI (R := fun z => Q (some (vI z)) (mem (rv0 P) I J)) ha (Qat h' (by omega))
  · subst e
    have h' : Q (some (vI (max a b))) (mem (rv0 P) I J) := h
    refine ⟨⟨by omega, by omega⟩, ⟨by omega, by omega⟩, fun q => ?_, fun q => ?_⟩
    · exact bndI (R := fun z => Q (some (vI z)) (mem (rv0 P) I J)) hb (Qat h' (by omega))
    · exact bndI (R := fun z => Q (some (vI z)) (mem (rv0 P) I J)) ha (Qat h' (by omega))
  · subst e
    have h' : Q (some (vI (b2i (a < b)))) (mem (rv0 P) I J) := h
    exact ⟨⟨by omega, by omega⟩, ⟨by omega, by omega⟩, fun q => Qat h' (b2i_0 (by omega)), fun q => Qat h' (b2i_1 (by omega))⟩
  · subst e
    have h' : Q (some (vI (b2i (b < a)))) (mem (rv0 P) I J) := h
    exact ⟨⟨by omega, by omega⟩, ⟨by omega, by omega⟩, fun q => Qat h' (b2i_0 (by omega)), fun q => Qat h' (b2i_1 (by omega))⟩
  · subst e
    have h' : Q (some (vI (b2i (a = b)))) (mem (rv0 P) I J) := h
    exact ⟨⟨by omega, by omega⟩, ⟨by omega, by omega⟩, fun q => Qat h' (b2i_0 (by omega)), fun q => Qat h' (b2i_1 (by omega))⟩
  · subst e
    obtain ⟨x1, x2⟩ := h01 (by omega)
    have h' : Q (some (vI (min a b))) (mem (rv0 P) I J) := h
    rw [and64_01 x1 x2]
    exact bndI (R := fun z => Q (some (vI z)) (mem (rv0 P) I J)) ⟨by omega, by omega⟩ h'
  · have e : c = 10111 := by omega
    subst e
    obtain ⟨x1, x2⟩ := h01 (by omega)
    have h' : Q (some (vI (max a b))) (mem (rv0 P) I J) := h
    rw [or64_01 x1 x2]
    exact bndI (R := fun z => Q (some (vI z)) (mem (rv0 P) I J)) ⟨by omega, by omega⟩ h'
/-! the reference's operators by their numbers -/
def enc (s v : Int) : Int :=
  if s = 0 then (if 0 ≤ v ∧ v < 10000 then v else -1) else if s = 1 then 10003 else if s = 2 then 10015 else if s = 3 then 10007 else if s = 4 then 10008 else if s = 5 then 10016 else if s = 6 then 10010 else if s = 7 then 10017 else if s = 8 then 10011 else if s = 9 then 10018 else if s = 30 then 1 else if 10 ≤ s ∧ s ≤ 22 then 10090 + s else -1
theorem S_X12_two {k : Nat} {P : Option Nat} {I : Nat → Nat → Int32} {J : Nat → Nat → Int64} {s a b : Int} {Q : Option AV → Mem → Prop} (hk : 1 ≤ k) (hc : 10 ≤ s ∧ s ≤ 21) (ha : mil a) (hb : mil b) (h01 : 20 ≤ s → o1 a ∧ o1 b) (h : Q (some (vL (opv (10090 + s) a b))) (mem (rv0 P) I J)) : WPm k LAY m_X12_two [vI s, vL a, vL b] (mem (rv0 P) I J) Q := by
  refine WPm.of k_X12_two.1 (Nat.le_of_ble_eq_true rfl) (B_X12_two_0 (by omega) ?_)
  have hm := mul_mil ha hb
  have hq := fq_mil ha b
  refine ⟨⟨by omega, by omega⟩, fun e => ?_, fun e0 => ⟨fun e => ?_, fun e1 => ⟨fun e => ?_, fun e2 => ⟨fun e => ?_, fun e3 => ⟨fun e => ?_, fun e4 => ⟨fun e => ?_, fun e5 => ⟨fun e => ?_, fun e6 => ⟨fun e => ?_, fun e7 => ⟨fun e => ?_, fun e8 => ⟨fun e => ?_, fun e9 => ⟨fun e => ?_, fun e10 => ?_⟩⟩⟩⟩⟩⟩⟩⟩⟩⟩⟩
  · subst e
    exact bndQ (R := fun z => Q (some (vL z)) (mem (rv0 P) I J)) ⟨by omega, by omega⟩ h
  · subst e
    exact bndQ (R := fun z => Q (some (vL z)) (mem (rv0 P) I J)) ⟨by omega, by omega⟩ h
  · subst e
    exact bndQ (R := fun z => Q (some (vL z)) (mem (rv0 P) I J)) ⟨by omega, by omega⟩ h
  · subst e
    have h' : Q (some (vL (if b = 0 then 0 else bnd (fq a b)))) (mem (rv0 P) I J) := h
    refine S_X12_floor ha hb ⟨_, _, _, rfl, rfl, ?_⟩
    by_cases q : b = 0
    · rw [if_pos q] at h' ⊢
      exact bndQ (R := fun z => Q (some (vL z)) (mem (rv0 P) I J)) (by decide) h'
    · rw [if_neg q] at h' ⊢
      exact bndQ (R := fun z => Q (some (vL z)) (mem (rv0 P) I J)) ⟨by omega, by omega⟩ h'
  · subst e
    have h' : Q (some (vL (if b = 0 then 0 else bnd (a - b * fq a b)))) (mem (rv0 P) I J) := h
    refine ⟨⟨by omega, by omega⟩, fun q => ?_, fun q => ?_⟩
    · refine S_X12_floor ha hb ⟨_, _, _, rfl, rfl, ?_⟩
      rw [if_neg q] at h' ⊢
      have hm2 : (b * fq a b).natAbs ≤ 1000000 * 1000001 := by
        rw [Int.natAbs_mul]
        exact Nat.mul_le_mul (by omega) (by omega)
      exact bndQ (R := fun z => Q (some (vL z)) (mem (rv0 P) I J)) ⟨by omega, by omega⟩ h'
    · rw [if_pos q] at h'
      exact h'
  · subst e
    have h' : Q (some (vL (min a b))) (mem (rv0 P) I J) := h
    exact ⟨⟨by omega, by omega⟩, ⟨by omega, by omega⟩, fun q => QatL h' (by omega), fun q => QatL h' (by omega)⟩
  · subst e
    have h' : Q (some (vL (max a b))) (mem (rv0 P) I J) := h
    exact ⟨⟨by omega, by omega⟩, ⟨by omega, by omega⟩, fun q => QatL h' (by omega), fun q => QatL h' (by omega)⟩
  · subst e
    have h' : Q (some (vL (b2i (a < b)))) (mem (rv0 P) I J) := h
    exact ⟨⟨by omega, by omega⟩, ⟨by omega, by omega⟩, fun q => QatL h' (b2i_0 (by omega)), fun q => QatL h' (b2i_1 (by omega))⟩
  · subst e
    have h' : Q (some (vL (b2i (b < a)))) (mem (rv0 P) I J) := h
    exact ⟨⟨by omega, by omega⟩, ⟨by omega, by omega⟩, fun q => QatL h' (b2i_0 (by omega)), fun q => QatL h' (b2i_1 (by omega))⟩
  · subst e
    have h' : Q (some (vL (b2i (a = b)))) (mem (rv0 P) I J) := h
    exact ⟨⟨by omega, by omega⟩, ⟨by omega, by omega⟩, fun q => QatL h' (b2i_0 (by omega)), fun q => QatL h' (b2i_1 (by omega))⟩
  · subst e
    obtain ⟨x1, x2⟩ := h01 (by omega)
    have h' : Q (some (vL (min a b))) (mem (rv0 P) I J) := h
    rw [and64_01 x1 x2]
    exact h'
  · have e : s = 21 := by omega
    subst e
    obtain ⟨x1, x2⟩ := h01 (by omega)
    have h' : Q (some (vL (max a b))) (mem (rv0 P) I J) := h
    rw [or64_01 x1 x2]
    exact h'
/-! ===== codes and stacks ===== -/
def isV (c : Int) : Prop := c = 10003 ∨ c = 10007 ∨ c = 10008 ∨ c = 10010 ∨ c = 10011 ∨ c = 10015 ∨ c = 10016 ∨ c = 10017 ∨ c = 10018
def tok (g : Bool) : List Int → List Bool → Prop
  | [], ts => ts = [g]
  | c :: cs, ts => ((0 ≤ c ∧ c < 10000) ∧ ts.length < 60 ∧ (tok g cs (false :: ts) ∨ (c = 1 ∧ tok g cs (true :: ts)))) ∨ (isV c ∧ ts.length < 60 ∧ tok g cs (false :: ts)) ∨ ((10100 ≤ c ∧ c ≤ 10106) ∧ ∃ r, ts = false :: false :: r ∧ tok g cs (false :: r)) ∨ ((10107 ≤ c ∧ c ≤ 10109) ∧ ∃ r, ts = false :: false :: r ∧ tok g cs (true :: r)) ∨ ((10110 ≤ c ∧ c ≤ 10111) ∧ ∃ r, ts = true :: true :: r ∧ tok g cs (true :: r)) ∨ (c = 10112 ∧ ∃ r, ts = true :: r ∧ tok g cs (true :: r))
def evs (env : Int → Int) : List Int → List Int → List Int
  | [], st => st
  | c :: cs, st => evs env cs (if c < 10100 then (if c < 10000 then c else env (c - 10000)) :: st else if c = 10112 then (match st with | a :: s => (1 - a) :: s | [] => []) else (match st with | b :: a :: s => opv c a b :: s | s => s))
def tyS : List Bool → List Int → Prop
  | [], [] => True
  | t :: ts, v :: vs => mil v ∧ (t = true → o1 v) ∧ tyS ts vs
  | _, _ => False
theorem tyS_len : ∀ {ts : List Bool} {st : List Int}, tyS ts st → ts.length = st.length
  | [], [], _ => rfl
  | _ :: _, _ :: _, h => by simp [tyS_len h.2.2]
  | [], _ :: _, h => h.elim
  | _ :: _, [], h => h.elim
theorem opv_mil {c a b : Int} (ha : mil a) (hb : mil b) : mil (opv c a b) := by
  unfold opv
  have b1 := bnd_in (a + b)
  have b2 := bnd_in (a - b)
  have b3 := bnd_in (a * b)
  have b4 := bnd_in (fq a b)
  have b5 := bnd_in (a - b * fq a b)
  have c1 := b2i_01 (a < b)
  have c2 := b2i_01 (b < a)
  have c3 := b2i_01 (a = b)
  repeat' split
  all_goals omega
theorem opv_cmp {c a b : Int} (hc : 10107 ≤ c ∧ c ≤ 10109) : o1 (opv c a b) := by
  have h : c = 10107 ∨ c = 10108 ∨ c = 10109 := by omega
  rcases h with rfl | rfl | rfl
  · exact b2i_01 _
  · exact b2i_01 _
  · exact b2i_01 _
theorem opv_and {c a b : Int} (hc : 10110 ≤ c ∧ c ≤ 10111) (ha : o1 a) (hb : o1 b) : o1 (opv c a b) := by
  have h : c = 10110 ∨ c = 10111 := by omega
  rcases h with rfl | rfl
  · show o1 (min a b); omega
  · show o1 (max a b); omega
def envOk (env : Int → Int) : Prop := ∀ c, isV c → mil (env (c - 10000))
theorem isV_rng {c : Int} (h : isV c) : 10003 ≤ c ∧ c ≤ 10018 := by unfold isV at h; omega
/-- one code more: what stands on the stack keeps its kind -/
theorem tok_step {g : Bool} {c : Int} {cs : List Int} {ts : List Bool} {st : List Int} {env : Int → Int} (hE : envOk env) (h : tok g (c :: cs) ts) (hS : tyS ts st) :
    (c < 10100 ∧ 0 ≤ c ∧ st.length < 60 ∧ (10000 ≤ c → isV c) ∧ ∃ ts', tok g cs ts' ∧ tyS ts' ((if c < 10000 then c else env (c - 10000)) :: st)) ∨
    ((10100 ≤ c ∧ c ≤ 10111) ∧ ∃ a b s ts', st = b :: a :: s ∧ mil a ∧ mil b ∧ (10110 ≤ c → o1 a ∧ o1 b) ∧ tok g cs ts' ∧ tyS ts' (opv c a b :: s)) ∨
    (c = 10112 ∧ ∃ a s ts', st = a :: s ∧ o1 a ∧ tok g cs ts' ∧ tyS ts' ((1 - a) :: s)) := by
  have hl := tyS_len hS
  have two : ∀ {t u : Bool} {r : List Bool}, tyS (t :: u :: r) st → ∃ a b s, st = b :: a :: s ∧ mil a ∧ mil b ∧ (t = true → o1 b) ∧ (u = true → o1 a) ∧ tyS r s := by
    intro t u r hS
    match st, hS with
    | b :: a :: s, hS => exact ⟨a, b, s, rfl, hS.2.2.1, hS.1, hS.2.1, hS.2.2.2.1, hS.2.2.2.2⟩
    | [_], hS => exact hS.2.2.elim
    | [], hS => exact hS.elim
  rcases h with ⟨h1, h2, h3⟩ | ⟨h1, h2, h3⟩ | ⟨h1, r, rfl, h3⟩ | ⟨h1, r, rfl, h3⟩ | ⟨h1, r, rfl, h3⟩ | ⟨h1, r, rfl, h3⟩
  · refine Or.inl ⟨by omega, by omega, by omega, fun q => absurd q (by omega), ?_⟩
    rw [if_pos (show c < 10000 by omega)]
    rcases h3 with h3 | ⟨h4, h3⟩
    · exact ⟨_, h3, ⟨by omega, by omega⟩, fun q => absurd q (by decide), hS⟩
    · exact ⟨_, h3, ⟨by omega, by omega⟩, fun _ => Or.inr h4, hS⟩
  · have hv := isV_rng h1
    refine Or.inl ⟨by omega, by omega, by omega, fun _ => h1, ?_⟩
    rw [if_neg (show ¬ c < 10000 by omega)]
    exact ⟨_, h3, hE c h1, fun q => absurd q (by decide), hS⟩
  · obtain ⟨a, b, s, rfl, ha, hb, -, -, hs⟩ := two hS
    exact Or.inr (Or.inl ⟨by omega, a, b, s, _, rfl, ha, hb, fun q => absurd q (by omega), h3, opv_mil ha hb, fun q => absurd q (by decide), hs⟩)
  · obtain ⟨a, b, s, rfl, ha, hb, -, -, hs⟩ := two hS
    exact Or.inr (Or.inl ⟨by omega, a, b, s, _, rfl, ha, hb, fun q => absurd q (by omega), h3, opv_mil ha hb, fun _ => opv_cmp h1, hs⟩)
  · obtain ⟨a, b, s, rfl, ha, hb, hb1, ha1, hs⟩ := two hS
    exact Or.inr (Or.inl ⟨by omega, a, b, s, _, rfl, ha, hb, fun _ => ⟨ha1 rfl, hb1 rfl⟩, h3, opv_mil ha hb, fun _ => opv_and h1 (ha1 rfl) (hb1 rfl), hs⟩)
  · match st, hS with
    | a :: s, hS =>
      have ha := hS.2.1 rfl
      exact Or.inr (Or.inr ⟨h1, a, s, _, rfl, ha, h3, ⟨by omega, by omega⟩, fun _ => by omega, hS.2.2⟩)
theorem evs_ty {g : Bool} {env : Int → Int} (hE : envOk env) : ∀ (cs : List Int) (ts : List Bool) (st : List Int), tok g cs ts → tyS ts st → mil ((evs env cs st).headD 0) ∧ (g = true → o1 ((evs env cs st).headD 0)) := by
  intro cs
  induction cs with
  | nil =>
    intro ts st ht hS
    have hg : ts = [g] := ht
    subst hg
    match st, hS with
    | [v], hS => exact ⟨hS.1, hS.2.1⟩
    | [], hS => exact hS.elim
    | _ :: _ :: _, hS => exact hS.2.2.elim
  | cons c cs ih =>
    intro ts st ht hS
    rcases tok_step hE ht hS with ⟨h1, h2, h3, h4, ts', h5, h6⟩ | ⟨h1, a, b, s, ts', rfl, ha, hb, h01, h5, h6⟩ | ⟨rfl, a, s, ts', rfl, ha, h5, h6⟩
    · have := ih ts' _ h5 h6
      unfold evs
      rw [if_pos h1]
      exact this
    · have := ih ts' _ h5 h6
      unfold evs
      rw [if_neg (show ¬ c < 10100 by omega), if_neg (show ¬ c = 10112 by omega)]
      exact this
    · exact ih ts' _ h5 h6
/-- what a rule comes to -/
def ev (env : Int → Int) (cs : List Int) : Int := (evs env cs []).headD 0
def cds (f : Nat → Int) : Nat → List Int → Prop
  | _, [] => True
  | n, c :: cs => f n = c ∧ cds f (n + 1) cs
theorem cds_map (f : Nat → Int) : ∀ (m n : Nat), cds f n ((List.range' n m).map f)
  | 0, _ => trivial
  | m + 1, n => ⟨rfl, cds_map f m (n + 1)⟩
def stk (f : Nat → Int) : List Int → Prop
  | [] => True
  | v :: s => f s.length = v ∧ stk f s
theorem stk_congr {f g : Nat → Int} : ∀ {s : List Int}, (∀ i, i < s.length → f i = g i) → stk f s → stk g s
  | [], _, _ => trivial
  | v :: s, h, hs => ⟨(h s.length (by simp)) ▸ hs.1, stk_congr (fun i hi => h i (by simp; omega)) hs.2⟩
theorem stk_put {I : Nat → Nat → Int32} {c : Nat} {s : List Int} {z : Int} {i : Nat} (hz : inR z) (hi : i = s.length) (h : stk (gi I c) s) : stk (gi (si I c i z) c) (z :: s) := by
  subst hi
  refine ⟨gi_same _ _ _ hz, stk_congr (fun i hi => (gi_idx _ _ _ (by omega)).symm) h⟩
theorem stk_putL {J : Nat → Nat → Int64} {c : Nat} {s : List Int} {z : Int} {i : Nat} (hz : inL z) (hi : i = s.length) (h : stk (gl J c) s) : stk (gl (sl J c i z) c) (z :: s) := by
  subst hi
  refine ⟨gl_same _ _ _ hz, stk_congr (fun i hi => (gl_idx _ _ _ (by omega)).symm) h⟩
theorem gi_row {I I' : Nat → Nat → Int32} {c : Nat} (h : I' c = I c) : gi I' c = gi I c := by
  funext k
  unfold gi
  rw [h]
theorem run_loop {k : Nat} {P : Option Nat} {J : Nat → Nat → Int64} {Q : Option AV → Mem → Prop} {g : Bool} {env : Int → Int} (hk : 2 ≤ k) (hE : envOk env) (tO : Int) (hT : tO ≤ 1600) : ∀ (cs : List Int) (ts : List Bool) (st : List Int) (n : Nat) (x y : Int) (I : Nat → Nat → Int32), tok g cs ts → tyS ts st → st.length ≤ 60 → stk (gi I 37) st → cds (gi I 16) n cs → x = n → y = st.length → x + cs.length = tO → (∀ c, isV c → gi I 38 (c - 10000).toNat = env (c - 10000)) → (∀ I', Fr [37] [] I I' → Q (some (vI ((evs env cs st).headD 0))) (mem (rv0 P) I' J)) → WP k LAY m_X9_run 53 [(0, vR (some 36)), (2, vR (some 16)), (3, vI tO), (4, vI y), (5, vI x)] [] (mem (rv0 P) I J) Q := by
  intro cs
  induction cs with
  | nil =>
    intro ts st n x y I ht hS hd hK hC hx hy hl hv hQ
    have e : x = tO := by simp at hl; omega
    refine B_X9_run_53 (by omega) ⟨⟨by omega, by omega⟩, ⟨by omega, by omega⟩, fun _ => ?_, fun q => absurd q (by omega)⟩
    have hg : ts = [g] := ht
    subst hg
    match st, hS, hK with
    | [v], _, hK => exact Qat (hQ I (Fr.rf _ _ _)) hK.1.symm
    | [], hS, _ => exact hS.elim
    | _ :: _ :: _, hS, _ => exact hS.2.2.elim
  | cons c cs ih =>
    intro ts st n x y I ht hS hd hK hC hx hy hl hv hQ
    have hlc : x + cs.length + 1 = tO := by simp at hl; omega
    have hc : gi I 16 (x).toNat = c := by
      rw [hx, Int.toNat_natCast]
      exact hC.1
    have hst := tyS_len hS
    have nx : ∀ (st' : List Int) (ts' : List Bool) (y' : Int) (i : Nat) (z : Int) (s : List Int), st' = z :: s → inR z → i = s.length → stk (gi I 37) s → tok g cs ts' → tyS ts' st' → st'.length ≤ 60 → y' = st'.length → evs env (c :: cs) st = evs env cs st' → WP k LAY m_X9_run 53 [(0, vR (some 36)), (2, vR (some 16)), (3, vI tO), (4, vI y'), (5, vI (x + 1))] [] (mem (rv0 P) (si I 37 i z) J) Q := by
      intro st' ts' y' i z s e hz hi hs ht' hS' hd' hy' he
      subst e
      refine ih ts' (z :: s) (n + 1) (x + 1) y' _ ht' hS' hd' (stk_put hz hi hs) ?_ (by omega) hy' (by omega) ?_ ?_
      · rw [gi_row (show (si I 37 i z) 16 = I 16 from funext fun j => by simp [si, up2])]
        exact hC.2
      · intro c' h'
        rw [gi_cell _ _ _ _ (by decide)]
        exact hv c' h'
      · intro I' hF
        have := hQ I' (((Fr.rf [37] [] I).up 37 i z (Or.inl (by decide))).tr hF)
        rw [he] at this
        exact this
    refine B_X9_run_53 (by omega) ?_
    rw [hc]
    rcases tok_step hE ht hS with ⟨h1, h2, h3, h4, ts', h5, h6⟩ | ⟨h1, a, b, s, ts', rfl, ha, hb, h01, h5, h6⟩ | ⟨rfl, a, s, ts', rfl, ha, h5, h6⟩
    · refine ⟨⟨by omega, by omega⟩, ⟨by omega, by omega⟩, fun q => absurd q (by omega), fun _ => ⟨⟨by omega, by omega⟩, fun q => absurd q (by omega), fun _ => ⟨⟨by omega, by omega⟩, fun q => absurd q (by omega), fun _ => ⟨fun q => ?_, fun q => ?_⟩⟩⟩⟩
      · have hV := h4 q
        have hr := isV_rng hV
        rw [hv c hV]
        have hb := hE c hV
        rw [if_neg (show ¬ c < 10000 by omega)] at h6
        refine ⟨⟨by omega, by omega⟩, ⟨by omega, by omega⟩, nx _ ts' _ _ _ st rfl ⟨by omega, by omega⟩ (by omega) hK h5 h6 (by simp; omega) (by simp; omega) ?_⟩
        show evs env cs _ = _
        rw [if_pos h1, if_neg (show ¬ c < 10000 by omega)]
      · rw [if_pos (show c < 10000 by omega)] at h6
        refine ⟨⟨by omega, by omega⟩, nx _ ts' _ _ _ st rfl ⟨by omega, by omega⟩ (by omega) hK h5 h6 (by simp; omega) (by simp; omega) ?_⟩
        show evs env cs _ = _
        rw [if_pos h1, if_pos (show c < 10000 by omega)]
    · have hyl : y = s.length + 2 := by rw [hy]; simp; omega
      have k1 : gi I 37 (y + (-1)).toNat = b := by
        rw [show (y + (-1)).toNat = (a :: s).length by simp; omega]
        exact hK.1
      have k2 : gi I 37 ((y + (-1)) - 1).toNat = a := by
        rw [show ((y + (-1)) - 1).toNat = s.length by omega]
        exact hK.2.1
      rw [k1, k2]
      refine ⟨⟨by omega, by omega⟩, ⟨by omega, by omega⟩, fun q => absurd q (by omega), fun _ => ⟨⟨by omega, by omega⟩, fun _ => ⟨fun _ => ⟨⟨by omega, by omega⟩, fun q => absurd q (by omega), fun _ => ⟨⟨by omega, by omega⟩, ⟨by omega, by omega⟩, ?_⟩⟩, fun q => absurd q (by omega)⟩, fun q => absurd h1.1 q⟩⟩
      · refine S_X9_join (by omega) h1 ha hb h01 ⟨_, _, _, rfl, rfl, ?_⟩
        have hm := opv_mil (c := c) ha hb
        refine nx _ ts' _ _ _ s rfl ⟨by omega, by omega⟩ (by omega) hK.2.2 h5 h6 (by simp at hd ⊢; omega) (by simp; omega) ?_
        show evs env cs _ = _
        rw [if_neg (show ¬ c < 10100 by omega), if_neg (show ¬ c = 10112 by omega)]
    · have hyl : y = s.length + 1 := by rw [hy]; simp
      have k2 : gi I 37 (y - 1).toNat = a := by
        rw [show (y - 1).toNat = s.length by omega]
        exact hK.1
      rw [k2]
      refine ⟨⟨by omega, by omega⟩, ⟨by omega, by omega⟩, fun q => absurd q (by omega), fun _ => ⟨⟨by omega, by omega⟩, fun _ => ⟨fun q => absurd rfl q, fun _ => ⟨⟨by omega, by omega⟩, fun q => absurd q (by omega), fun _ => ⟨⟨by omega, by omega⟩, ?_⟩⟩⟩, fun q => absurd (show (10100 : Int) ≤ 10112 by decide) q⟩⟩
      · refine nx _ ts' _ _ _ s rfl ⟨by omega, by omega⟩ (by omega) hK.2 h5 h6 (by simp at hd ⊢; omega) (by simp; omega) rfl
end EVALS

section LETTERS
/-! ===== letters: a name as six letters, and as one number ===== -/
def pkN : List Nat → Nat
  | [] => 0
  | c :: r => pkN r * 256 + c
def nmOk (r : List Nat) : Prop := (1 ≤ r.length ∧ r.length ≤ 6) ∧ ∀ c ∈ r, 97 ≤ c ∧ c ≤ 122
theorem pkN_lt : ∀ r : List Nat, (∀ c ∈ r, c < 256) → pkN r < 256 ^ r.length
  | [], _ => by decide
  | c :: r, h => by
    have h1 := pkN_lt r (fun d hd => h d (List.mem_cons_of_mem _ hd))
    have h2 := h c List.mem_cons_self
    have e : 256 ^ (c :: r).length = 256 ^ r.length * 256 := by rw [List.length_cons, Nat.pow_succ]
    rw [e]
    show pkN r * 256 + c < 256 ^ r.length * 256
    omega
theorem pkN_div : ∀ (j : Nat) (r : List Nat), (∀ c ∈ r, c < 256) → pkN r / 256 ^ j = pkN (r.drop j)
  | 0, r, _ => by rw [Nat.pow_zero, Nat.div_one, List.drop_zero]
  | j + 1, [], _ => by
    rw [List.drop_nil]
    exact Nat.zero_div _
  | j + 1, c :: r, h => by
    have h2 := h c List.mem_cons_self
    have ih := pkN_div j r (fun d hd => h d (List.mem_cons_of_mem _ hd))
    rw [Nat.pow_succ, Nat.mul_comm, ← Nat.div_div_eq_div_mul, List.drop_succ_cons, ← ih]
    congr 1
    show (pkN r * 256 + c) / 256 = pkN r
    omega
theorem pkN_lt63 {r : List Nat} (h : ∀ c ∈ r, c < 256) (hl : r.length ≤ 7) : pkN r < 9223372036854775808 := by
  have h1 := pkN_lt r h
  have h2 : 256 ^ r.length ≤ 256 ^ 7 := Nat.pow_le_pow_right (by decide) hl
  have h3 : 256 ^ 7 < 9223372036854775808 := by decide
  omega
theorem iL_bv (a : Nat) : (iL (a : Int)).toBitVec = BitVec.ofNat 64 a := by
  unfold iL
  rw [Int64.toBitVec_ofInt, BitVec.ofInt_natCast]
theorem bv_int64 {v : BitVec 64} {n : Nat} (h : v.toNat = n) (hn : n < 9223372036854775808) : v.toInt = (n : Int) := by
  rw [BitVec.toInt_eq_toNat_of_lt (by omega), h]
theorem bv_nat64 {a : Nat} (ha : a < 9223372036854775808) : (BitVec.ofNat 64 a).toNat = a := by
  rw [BitVec.toNat_ofNat]
  exact Nat.mod_eq_of_lt (by omega)
theorem and64_nat {a b : Nat} (ha : a < 9223372036854775808) (hb : b < 9223372036854775808) : and64 (a : Int) (b : Int) = ((a &&& b : Nat) : Int) := by
  show (iL (a : Int) &&& iL (b : Int)).toBitVec.toInt = _
  rw [Int64.toBitVec_and, iL_bv, iL_bv]
  refine bv_int64 ?_ (Nat.lt_of_le_of_lt Nat.and_le_left ha)
  rw [BitVec.toNat_and, bv_nat64 ha, bv_nat64 hb]
theorem shr64_nat {a k : Nat} (ha : a < 9223372036854775808) (hk : k < 63) : shr64 (a : Int) (k : Int) = ((a >>> k : Nat) : Int) := by
  have h1 : ∀ q : Nat, q < 63 → (((iI (q : Int)).toInt64 &&& 63).toBitVec.smod 64#64).toNat = q := by decide +kernel
  unfold shr64
  show (iL (a : Int) >>> ((iI (k : Int)).toInt64 &&& 63)).toBitVec.toInt = _
  rw [Int64.toBitVec_shiftRight, iL_bv a]
  show (BitVec.sshiftRight (BitVec.ofNat 64 a) (((iI (k : Int)).toInt64 &&& 63).toBitVec.smod 64#64).toNat).toInt = _
  rw [h1 k hk]
  have hm : (BitVec.ofNat 64 a).msb = false := by
    rw [BitVec.msb_eq_false_iff_two_mul_lt, bv_nat64 ha]
    omega
  rw [BitVec.sshiftRight_eq_of_msb_false hm]
  exact bv_int64 (by rw [BitVec.toNat_ushiftRight, bv_nat64 ha]) (Nat.lt_of_le_of_lt (by rw [Nat.shiftRight_eq_div_pow]; exact Nat.div_le_self _ _) ha)
theorem pkN_sh {r : List Nat} (h : ∀ c ∈ r, c < 256) (hl : r.length ≤ 7) {j : Nat} (hj : j < 7) : shr64 ((pkN r : Nat) : Int) (8 * (j : Int)) = ((pkN (r.drop j) : Nat) : Int) := by
  have e : (8 * (j : Int)) = ((8 * j : Nat) : Int) := by omega
  have e2 : (256 : Nat) ^ j = 2 ^ (8 * j) := by
    rw [Nat.pow_mul]
  rw [e, shr64_nat (pkN_lt63 h hl) (by omega), Nat.shiftRight_eq_div_pow, ← e2, pkN_div j r h]
theorem pkN_lo {r : List Nat} (h : ∀ c ∈ r, c < 256) (hl : r.length ≤ 7) : and64 ((pkN r : Nat) : Int) 255 = ((r.getD 0 0 : Nat) : Int) := by
  have := and64_nat (a := pkN r) (b := 255) (pkN_lt63 h hl) (by decide)
  refine this.trans ?_
  have e : (255 : Nat) = 2 ^ 8 - 1 := by decide
  rw [e, Nat.and_two_pow_sub_one_eq_mod]
  cases r with
  | nil => rfl
  | cons c r =>
    have h2 := h c List.mem_cons_self
    show (((pkN r * 256 + c) % 2 ^ 8 : Nat) : Int) = (c : Int)
    omega
theorem getD_drop {r : List Nat} {j : Nat} : (r.drop j).getD 0 0 = r.getD j 0 := by
  rw [List.getD_eq_getElem?_getD, List.getD_eq_getElem?_getD, List.getElem?_drop, Nat.add_zero]
theorem S_X12_many {k : Nat} {P : Option Nat} {I : Nat → Nat → Int32} {J : Nat → Nat → Int64} {Q : Option AV → Mem → Prop} {b x n : Int} (hb : 0 ≤ b ∧ b < 2) (hx : inR x) (h0 : x = 0 → gi I 76 b.toNat = n) (h1 : x = 1 → gi I 77 b.toNat = n) (h2 : x = 2 → gi I 83 b.toNat = n) (h3 : ¬ x = 0 → ¬ x = 1 → ¬ x = 2 → gi I 86 b.toNat = n) (hQ : Q (some (vI n)) (mem (rv0 P) I J)) : WPm k LAY m_X12_manyOf [vR (some 74), vI b, vI x] (mem (rv0 P) I J) Q := by
  refine WPm.of k_X12_manyOf.1 (Nat.le_of_ble_eq_true rfl) (B_X12_manyOf_0 (by omega) ⟨hx, fun q => ⟨fun q1 => ⟨fun q2 => ⟨hb, Qat hQ (h3 q q1 q2).symm⟩, fun q2 => ⟨hb, Qat hQ (h2 q2).symm⟩⟩, fun q1 => ⟨hb, Qat hQ (h1 q1).symm⟩⟩, fun q => ⟨hb, Qat hQ (h0 q).symm⟩⟩)
theorem S_X12_name {k : Nat} {P : Option Nat} {I : Nat → Nat → Int32} {J : Nat → Nat → Int64} {Q : Option AV → Mem → Prop} {b x w n : Int} (hb : 0 ≤ b ∧ b < 2) (hx : inR x) (hw : 0 ≤ w) (h0 : x = 0 → w < 5 ∧ gl J 97 ((5 * b) + w).toNat = n) (h1 : x = 1 → w < 14 ∧ gl J 98 ((14 * b) + w).toNat = n) (h2 : x = 2 → w < 6 ∧ gl J 99 ((6 * b) + w).toNat = n) (h3 : ¬ x = 0 → ¬ x = 1 → ¬ x = 2 → w < 5 ∧ gl J 100 ((5 * b) + w).toNat = n) (hQ : Q (some (vL n)) (mem (rv0 P) I J)) : WPm k LAY m_X12_nameOf [vR (some 74), vI b, vI x, vI w] (mem (rv0 P) I J) Q := by
  refine WPm.of k_X12_nameOf.1 (Nat.le_of_ble_eq_true rfl) (B_X12_nameOf_0 (by omega) ⟨hx, fun q => ⟨fun q1 => ⟨fun q2 => ?_, fun q2 => ?_⟩, fun q1 => ?_⟩, fun q => ?_⟩)
  · have := h3 q q1 q2
    exact ⟨⟨by omega, by omega⟩, QatL hQ this.2.symm⟩
  · have := h2 q2
    exact ⟨⟨by omega, by omega⟩, QatL hQ this.2.symm⟩
  · have := h1 q1
    exact ⟨⟨by omega, by omega⟩, QatL hQ this.2.symm⟩
  · have := h0 q
    exact ⟨⟨by omega, by omega⟩, QatL hQ this.2.symm⟩
/-- the names as both objects hold them -/
def nmR (I : Nat → Nat → Int32) (J : Nat → Nat → Int64) (x w : Int) : Int := if x = 0 then gl J 97 ((5 * gi I 74 13) + w).toNat else if x = 1 then gl J 98 ((14 * gi I 74 13) + w).toNat else if x = 2 then gl J 99 ((6 * gi I 74 13) + w).toNat else gl J 100 ((5 * gi I 74 13) + w).toNat
def nmC (I : Nat → Nat → Int32) (x w : Int) (r : List Nat) : Prop := ∀ k : Nat, k < 6 → gi I 7 ((((firstN.getD (x).toNat 0) + w) * 6) + (k : Int)).toNat = if k < r.length then ((r.getD (r.length - 1 - k) 0 : Nat) : Int) - 96 else 0
def V_nm (I : Nat → Nat → Int32) (J : Nat → Nat → Int64) : Prop := ∀ x w : Int, 0 ≤ x → x ≤ 3 → 0 ≤ w → w < gi I 6 x.toNat → ∃ r, nmOk r ∧ nmC I x w r ∧ nmR I J x w = ((pkN r : Nat) : Int)
theorem step_letter {V V' : Cpl} (hS : Vsc V V') (hA : ∀ I J, V I J → VA I) (hN : ∀ I J, V I J → V_nm I J) (x w y : Int) (hx : inR x) (hw : inR w) (hy : inR y) : Step V V' m_X11_letter m_X12_letter [x, w, y] := by
  refine Step.rd hS (fun I J hV => ?_)
  obtain ⟨hC, hR, -, -⟩ := hA I J hV
  have hNm := hN I J hV
  have hL := hC.1.2.2.2.1
  have c0 : gi I 6 0 = LC I 20 0 := by rfl
  have c1 : gi I 6 1 = nP (LC I) := cx_p hC
  have c2 : gi I 6 2 = nR (LC I) := cx_n hC
  have c3 : gi I 6 3 = nT (LC I) := cx_t hC
  by_cases hv : (0 ≤ x ∧ x ≤ 3) ∧ (0 ≤ w ∧ w < gi I 6 x.toNat) ∧ (0 ≤ y ∧ y ≤ 5)
  · obtain ⟨hx3, hw3, hy5⟩ := hv
    obtain ⟨r, ⟨⟨r1, r6⟩, rc⟩, rC, rR⟩ := hNm x w hx3.1 hx3.2 hw3.1 hw3.2
    have r256 : ∀ c ∈ r, c < 256 := fun c hc => by have := rc c hc; omega
    have hcl := rC y.toNat (by omega)
    rw [Int.toNat_of_nonneg hy5.1] at hcl
    have hgd : ∀ j, j < r.length → 97 ≤ r.getD j 0 ∧ r.getD j 0 ≤ 122 := fun j hj => by
      rw [List.getD_eq_getElem?_getD, List.getElem?_eq_getElem hj]
      exact rc _ (List.getElem_mem hj)
    have hbd : (x = 0 → w < 5) ∧ (x = 1 → w < 14) ∧ (x = 2 → w < 6) ∧ (x = 3 → w < 5) := by
      refine ⟨fun e => ?_, fun e => ?_, fun e => ?_, fun e => ?_⟩ <;> subst e
      · have q : w < gi I 6 0 := hw3.2
        have := hL.1
        omega
      · have q : w < gi I 6 1 := hw3.2
        have := hL.2.1
        omega
      · have q : w < gi I 6 2 := hw3.2
        have := hL.2.2.1
        omega
      · have q : w < gi I 6 3 := hw3.2
        have := hL.2.2.2.1
        omega
    refine ⟨if y.toNat < r.length then ((r.getD (r.length - 1 - y.toNat) 0 : Nat) : Int) - 96 else 0, ?_, fun P Q hQ => ?_, fun P I1 J1 h1 k1 Q hQ => ?_⟩
    · split
      · have := hgd (r.length - 1 - y.toNat) (by omega)
        exact ⟨by omega, by omega⟩
      · decide
    · have hq := hQ I (scrS.rf I) J (scrJ.rf J)
      have hidx : (0 ≤ ((((firstN.getD (x).toNat 0) + w) * 6) + y) ∧ ((((firstN.getD (x).toNat 0) + w) * 6) + y) < 180) := by
        have hcs : x = 0 ∨ x = 1 ∨ x = 2 ∨ x = 3 := by omega
        rcases hcs with e | e | e | e <;> subst e
        · show 0 ≤ ((0 + w) * 6 + y) ∧ ((0 + w) * 6 + y) < 180
          have := hbd.1 rfl
          omega
        · show 0 ≤ ((5 + w) * 6 + y) ∧ ((5 + w) * 6 + y) < 180
          have := hbd.2.1 rfl
          omega
        · show 0 ≤ ((19 + w) * 6 + y) ∧ ((19 + w) * 6 + y) < 180
          have := hbd.2.2.1 rfl
          omega
        · show 0 ≤ ((25 + w) * 6 + y) ∧ ((25 + w) * 6 + y) < 180
          have := hbd.2.2.2 rfl
          omega
      refine WPm.of k_X11_letter.1 (Nat.le_of_ble_eq_true rfl) (B_X11_letter_0 (by omega) ⟨hx, fun q => absurd q (by omega), fun _ => ⟨fun q => absurd q (by omega), fun _ => ⟨hy, fun q => absurd q (by omega), fun _ => ⟨fun q => absurd q (by omega), fun _ => ⟨⟨by omega, by omega⟩, hw, fun _ => ⟨hidx, Qat hq hcl.symm⟩, fun q => absurd hw3 q⟩⟩⟩⟩⟩)
    · have hR1 := hR.fr0 h1
      have hb := rx_b hR1
      have e13 : gi I1 74 13 = gi I 74 13 := h1.gv 74 13 (by decide) (by decide)
      have hq := hQ I1 (scrS.rf I1) J1 (scrJ.rf J1)
      have m0 : gi I1 76 (gi I1 74 13).toNat = LC I 20 0 := by rw [← hR1.1.1]; rfl
      have eJ : ∀ c k, ¬ (c = 121 ∨ c = 68 ∨ c = 69) → gl J1 c k = gl J c k := fun c k n => congrArg Int64.toInt (k1 c k n)
      refine WPm.of k_X12_letter.1 (Nat.le_of_ble_eq_true rfl) (B_X12_letter_0 (by omega) ⟨hx, fun q => absurd hx3 q, fun _ => ?_⟩)
      refine S_X12_many (n := gi I 6 x.toNat) hb hx (fun e => by subst e; exact m0) (fun e => by subst e; exact (rx_p hR1).trans c1.symm) (fun e => by subst e; exact (rx_n hR1).trans c2.symm) (fun a b c => by rw [show x = 3 by omega]; exact (rx_t hR1).trans c3.symm) ⟨_, _, _, rfl, rfl, hw, ?_, fun q => absurd ⟨hw3.1, by omega⟩ q, fun _ => ⟨hy, fun _ => ?_, fun q => absurd hy5 q⟩⟩
      · have := gi_in I 6 x.toNat
        exact ⟨by omega, by omega⟩
      · have enm : nmR I J x w = ((pkN r : Nat) : Int) := rR
        unfold nmR at enm
        refine S_X12_name (n := ((pkN r : Nat) : Int)) hb hx hw3.1 (fun e => ⟨hbd.1 e, ?_⟩) (fun e => ⟨hbd.2.1 e, ?_⟩) (fun e => ⟨hbd.2.2.1 e, ?_⟩) (fun a b c => ⟨hbd.2.2.2 (by omega), ?_⟩) ⟨_, _, _, rfl, rfl, ?_⟩
        · rw [if_pos e] at enm
          rw [e13, eJ 97 _ (by decide)]
          exact enm
        · rw [if_neg (by omega), if_pos e] at enm
          rw [e13, eJ 98 _ (by decide)]
          exact enm
        · rw [if_neg (by omega), if_neg (by omega), if_pos e] at enm
          rw [e13, eJ 99 _ (by decide)]
          exact enm
        · rw [if_neg (by omega), if_neg (by omega), if_neg (by omega)] at enm
          rw [e13, eJ 100 _ (by decide)]
          exact enm
        · have loop : ∀ (r' : List Nat) (j : Nat) (n m : Int), (∀ c ∈ r', 97 ≤ c ∧ c ≤ 122) → j + r'.length = r.length → n = j → m = ((pkN r' : Nat) : Int) → WP 900 LAY m_X12_letter 58 [(3, vI y), (4, vL ((pkN r : Nat) : Int)), (6, vI n), (7, vL m)] [] (mem (P, some 5, some 22) I1 J1) Q := by
            intro r'
            induction r' with
            | nil =>
              intro j n m _ hj hn hm
              subst hm
              refine B_X12_letter_58 (by omega) ⟨by decide, fun _ => ⟨hy, ⟨by omega, by omega⟩, fun q => ?_, fun q => ?_⟩, fun q => absurd (by decide) q⟩
              · have hlen : j = r.length := by simpa using hj
                have ej : (8 * ((n - 1) - y)) = 8 * ((r.length - 1 - y.toNat : Nat) : Int) := by omega
                have e7 := pkN_sh r256 (by omega) (j := r.length - 1 - y.toNat) (by omega)
                have hdr : ∀ c ∈ r.drop (r.length - 1 - y.toNat), c < 256 := fun c hc => r256 c (List.mem_of_mem_drop hc)
                have e8 := pkN_lo hdr (by rw [List.length_drop]; omega)
                refine Qat hq ?_
                rw [if_pos (by omega), ej, e7, e8, getD_drop]
                omega
              · have hlen : j = r.length := by simpa using hj
                refine Qat hq ?_
                rw [if_neg (by omega)]
            | cons c r' ih =>
              intro j n m hc hj hn hm
              subst hm
              have hc0 := hc c List.mem_cons_self
              rw [List.length_cons] at hj
              have h256 : ∀ d ∈ c :: r', d < 256 := fun d hd => by have := hc d hd; omega
              have hlt := pkN_lt63 h256 (by rw [List.length_cons]; omega)
              have hpos : 0 < pkN (c :: r') := by
                show 0 < pkN r' * 256 + c
                omega
              have e8 := pkN_sh h256 (by rw [List.length_cons]; omega) (j := 1) (by decide)
              refine B_X12_letter_58 (by omega) ⟨⟨by omega, by omega⟩, fun q => absurd q (by omega), fun _ => ?_⟩
              exact ih (j + 1) _ _ (fun d hd => hc d (List.mem_cons_of_mem _ hd)) (by omega) (by omega) e8
          exact loop r 0 0 _ rc (Nat.zero_add _) rfl rfl
  · refine ⟨-1, by decide, fun P Q hQ => ?_, fun P I1 J1 h1 k1 Q hQ => ?_⟩
    · have hq := hQ I (scrS.rf I) J (scrJ.rf J)
      exact WPm.of k_X11_letter.1 (Nat.le_of_ble_eq_true rfl) (B_X11_letter_0 (by omega) ⟨hx, fun _ => hq, fun a => ⟨fun _ => hq, fun b => ⟨hy, fun _ => hq, fun c => ⟨fun _ => hq, fun d => ⟨⟨by omega, by omega⟩, hw, fun e => absurd ⟨⟨by omega, by omega⟩, e, by omega, by omega⟩ hv, fun _ => hq⟩⟩⟩⟩⟩)
    · have hR1 := hR.fr0 h1
      have hb := rx_b hR1
      have m0 : gi I1 76 (gi I1 74 13).toNat = LC I 20 0 := by rw [← hR1.1.1]; rfl
      have hq := hQ I1 (scrS.rf I1) J1 (scrJ.rf J1)
      refine WPm.of k_X12_letter.1 (Nat.le_of_ble_eq_true rfl) (B_X12_letter_0 (by omega) ⟨hx, fun _ => hq, fun a => ?_⟩)
      have c6 : -2147483648 ≤ gi I 6 x.toNat - 1 := by
        have hcs : x = 0 ∨ x = 1 ∨ x = 2 ∨ x = 3 := by omega
        rcases hcs with e | e | e | e <;> subst e
        · show -2147483648 ≤ gi I 6 0 - 1
          have := hL.1
          omega
        · show -2147483648 ≤ gi I 6 1 - 1
          have := hL.2.1
          omega
        · show -2147483648 ≤ gi I 6 2 - 1
          have := hL.2.2.1
          omega
        · show -2147483648 ≤ gi I 6 3 - 1
          have := hL.2.2.2.1
          omega
      refine S_X12_many (n := gi I 6 x.toNat) hb hx (fun e => by subst e; exact m0) (fun e => by subst e; exact (rx_p hR1).trans c1.symm) (fun e => by subst e; exact (rx_n hR1).trans c2.symm) (fun a' b c => by rw [show x = 3 by omega]; exact (rx_t hR1).trans c3.symm) ⟨_, _, _, rfl, rfl, hw, ⟨c6, by have := gi_in I 6 x.toNat; omega⟩, fun _ => hq, fun q => ⟨hy, fun q2 => absurd ⟨a, ⟨q.1, by omega⟩, q2⟩ hv, fun _ => hq⟩⟩
end LETTERS

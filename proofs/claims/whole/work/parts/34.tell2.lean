section TELL2
/-- all that a page needs, and these need, and so on -/
def nal (L : Lb) (p : Nat) : Nat := dif (clo L 0 0 (2 ^ p)) (2 ^ p)
def knb (L : Lb) (H : Hl) (p : Nat) : Int := smi (nR L).toNat (fun r => if (kn H r).testBit p = true then (1 : Int) else 0)
theorem knb_bd {L : Lb} (H : Hl) (hL : WfL L) (p : Nat) : 0 ≤ knb L H p ∧ knb L H p ≤ 6 := by
  have h := smi_bd (n := (nR L).toNat) (f := fun r => if (kn H r).testBit p = true then (1 : Int) else 0) (b := 1) (by decide) (fun i hi => by
    show 0 ≤ (if (kn H i).testBit p = true then (1 : Int) else 0) ∧ (if (kn H i).testBit p = true then (1 : Int) else 0) ≤ 1
    split <;> decide)
  have := hL.2.2.1
  unfold knb
  omega
theorem S_X2_knb {k : Nat} {P : Option Nat} {I : Nat → Nat → Int32} {J : Nat → Nat → Int64} {Q : Option AV → Mem → Prop} {L : Lb} {R : Rl} {H : Hl} {p : Nat} (hk : 2 ≤ k) (hX : CX I L R H) (hp : p < 14) (hQ : Q (some (vI (knb L H p))) (mem (rv0 P) I J)) : WPm k LAY m_X2_knownBy [vR (some 4), vI (p : Int)] (mem (rv0 P) I J) Q := by
  have hL := hX.1.2.2.2.1
  have hR6 := hL.2.2.1
  refine WPm.of k_X2_knownBy.1 (Nat.le_of_ble_eq_true rfl) (B_X2_knownBy_0 (by omega) ?_)
  have loop : ∀ (d n : Nat) (x y : Int), n + d = (nR L).toNat → x = n → y = smi n (fun r => if (kn H r).testBit p = true then (1 : Int) else 0) → WP k LAY m_X2_knownBy 4 [(0, vR (some 4)), (1, vI (p : Int)), (2, vI y), (3, vI x)] [] (mem (rv0 P) I J) Q := by
    intro d
    induction d with
    | zero =>
      intro n x y hn hx hy
      refine B_X2_knownBy_4 (by omega) ?_
      rw [cx_n hX]
      refine ⟨⟨by omega, by omega⟩, fun _ => ?_, fun q => absurd q (by omega)⟩
      exact Qat hQ (by rw [hy]; unfold knb; rw [show (nR L).toNat = n by omega])
    | succ d ih =>
      intro n x y hn hx hy
      have hrr : (0 : Int) ≤ n ∧ (n : Int) < nR L := ⟨by omega, by omega⟩
      have hkl := (kn_lt hL hX.2.2 hrr).2
      refine B_X2_knownBy_4 (by omega) ?_
      subst hx
      rw [cx_n hX, cx_kn hX hrr, has_bit (by omega) (by omega)]
      exact ⟨⟨by omega, by omega⟩, fun q => absurd q (by omega), fun _ => ⟨⟨by omega, by omega⟩, ⟨by omega, by omega⟩, fun y4 h => ih (n + 1) _ _ (by omega) (by omega) (by rw [h, hy]; rfl)⟩⟩
  exact loop _ 0 _ _ (Nat.zero_add _) rfl rfl
theorem S_X12_knb {k : Nat} {P : Option Nat} {I : Nat → Nat → Int32} {J : Nat → Nat → Int64} {Q : Option AV → Mem → Prop} {L : Lb} {R : Rl} {H : Hl} {p : Nat} (hk : 2 ≤ k) (hX : RX I 0 L R H) (hp : p < 14) (hQ : Q (some (vI (knb L H p))) (mem (rv0 P) I J)) : WP k LAY m_X12_page 122 [(0, vR (some 74)), (1, vI (p : Int)), (3, vI 0), (4, vI 0)] [] (mem (rv0 P) I J) Q := by
  have hL := hX.1.2.2.2.2.1
  have hR6 := hL.2.2.1
  have loop : ∀ (d n : Nat) (x y : Int), n + d = (nR L).toNat → x = n → y = smi n (fun r => if (kn H r).testBit p = true then (1 : Int) else 0) → WP k LAY m_X12_page 122 [(0, vR (some 74)), (1, vI (p : Int)), (3, vI y), (4, vI x)] [] (mem (rv0 P) I J) Q := by
    intro d
    induction d with
    | zero =>
      intro n x y hn hx hy
      refine B_X12_page_122 (by omega) ?_
      rw [rx_n hX]
      refine ⟨rx_b hX, ⟨by omega, by omega⟩, fun _ => ?_, fun q => absurd q (by omega)⟩
      exact Qat hQ (by rw [hy]; unfold knb; rw [show (nR L).toNat = n by omega])
    | succ d ih =>
      intro n x y hn hx hy
      have hrr : (0 : Int) ≤ n ∧ (n : Int) < nR L := ⟨by omega, by omega⟩
      have hkl := (kn_lt hL hX.2.2.1 hrr).2
      refine B_X12_page_122 (by omega) ?_
      subst hx
      have es : smi (n + 1) (fun r => if (kn H r).testBit p = true then (1 : Int) else 0) = smi n (fun r => if (kn H r).testBit p = true then (1 : Int) else 0) + (if (kn H n).testBit p = true then (1 : Int) else 0) := rfl
      rw [rx_n hX, rx_kn hX hrr, has_iff (by omega) (by omega)]
      refine ⟨rx_b hX, ⟨by omega, by omega⟩, fun q => absurd q (by omega), fun _ => ⟨⟨by omega, by omega⟩, fun q => ih (n + 1) _ _ (by omega) (by omega) ?_, fun q => ih (n + 1) _ _ (by omega) (by omega) ?_⟩⟩
      · rw [es, if_neg q, hy]
      · rw [es, if_pos q, hy]
  exact loop _ 0 _ _ (Nat.zero_add _) rfl rfl
def pagV (L : Lb) (H : Hl) (x y : Int) : Int := if y = 0 then L 1 x else if y = 1 then L 2 x else if y = 2 then L 3 x else if y = 3 then L 4 x else if y = 4 then ((nal L x.toNat : Nat) : Int) else if y = 5 then knb L H x.toNat else -1
theorem nal_lt {L : Lb} (hL : WfL L) {p : Nat} (hp : p < 14) : nal L p < 16384 := dif_lt (clo_lt hL 0 0 (Nat.lt_of_lt_of_le (Nat.pow_lt_pow_right (by decide) hp) (pow_le14 (Nat.le_refl _))))
theorem step_page {V V' : Cpl} (hS : Vsc V V') (hA : ∀ I J, V I J → VA I) (hN : ∀ I J, V I J → ∀ p : Nat, (p : Int) < nP (LC I) → gi I 12 p = ((nal (LC I) p : Nat) : Int)) (x y : Int) (hx : inR x) (hy : inR y) : Step V V' m_X11_page m_X12_page [x, y] := by
  refine Step.rd hS (fun I J hV => ?_)
  obtain ⟨hC, hR, h72, h73⟩ := hA I J hV
  have hN0 := hN I J hV
  generalize LC I = L at hC hR hN0
  generalize RC I = R at hC hR
  generalize HC I = H at hC hR
  have hL := hC.1.2.2.2.1
  have hP := hL.2.1
  refine ⟨if 0 ≤ x ∧ x < nP L then pagV L H x y else -1, ?_, fun P Q hQ => ?_, fun P I1 J1 h1 j1 Q hQ => ?_⟩
  · by_cases q : 0 ≤ x ∧ x < nP L
    · rw [if_pos q]
      have b1 := (cx_L1 hC q) ▸ gi_in I 8 _
      have b2 := (cx_L2 hC q) ▸ gi_in I 9 _
      have b3 := (cx_L3 hC q) ▸ gi_in I 10 _
      have b4 := (cx_L4 hC q) ▸ gi_in I 11 _
      have b5 := nal_lt hL (p := x.toNat) (by omega)
      have b6 := knb_bd H hL x.toNat
      exact ite_R b1 (ite_R b2 (ite_R b3 (ite_R b4 (ite_R ⟨by omega, by omega⟩ (ite_R ⟨by omega, by omega⟩ (by decide))))))
    · rw [if_neg q]
      decide
  · have e1 : gi I 6 (1 : Int).toNat = nP L := cx_p hC
    have hq := hQ I (scrS.rf I) J (scrJ.rf J)
    refine WPm.of k_X11_page.1 (Nat.le_of_ble_eq_true rfl) (B_X11_page_0 (by omega) ?_)
    rw [e1]
    refine ⟨hx, fun q => ?_, fun q => ?_⟩
    · rw [if_pos q] at hq
      unfold pagV at hq
      rw [cx_L1 hC q, cx_L2 hC q, cx_L3 hC q, cx_L4 hC q, hN0 x.toNat (by omega)]
      refine ⟨hy, fun z => ⟨⟨by omega, by omega⟩, ?_⟩, fun n0 => ⟨fun z => ⟨⟨by omega, by omega⟩, ?_⟩, fun n1 => ⟨fun z => ⟨⟨by omega, by omega⟩, ?_⟩, fun n2 => ⟨fun z => ⟨⟨by omega, by omega⟩, ?_⟩, fun n3 => ⟨fun z => ⟨⟨by omega, by omega⟩, ?_⟩, fun n4 => ⟨fun z => ?_, fun n5 => ?_⟩⟩⟩⟩⟩⟩
      · rw [if_pos z] at hq; exact hq
      · rw [if_neg n0, if_pos z] at hq; exact hq
      · rw [if_neg n0, if_neg n1, if_pos z] at hq; exact hq
      · rw [if_neg n0, if_neg n1, if_neg n2, if_pos z] at hq; exact hq
      · rw [if_neg n0, if_neg n1, if_neg n2, if_neg n3, if_pos z] at hq; exact hq
      · rw [if_neg n0, if_neg n1, if_neg n2, if_neg n3, if_neg n4, if_pos z] at hq
        have hh := S_X2_knb (k := 900 - 1) (P := P) (J := J) (Q := retI (fun v8 I9 J10 => Q (some (vI v8)) (mem (P, some 5, some 22) I9 J10)) (P, some 5, some 22)) (p := x.toNat) (by omega) hC (by omega) ⟨_, _, _, rfl, rfl, hq⟩
        rw [Int.toNat_of_nonneg q.1] at hh
        exact hh
      · rw [if_neg n0, if_neg n1, if_neg n2, if_neg n3, if_neg n4, if_neg n5] at hq; exact hq
    · rw [if_neg q] at hq
      exact hq
  · have hR1 := hR.fr0 h1
    have hb := rx_b hR1
    have hq := hQ I1 (scrS.rf I1) J1 (scrJ.rf J1)
    refine WPm.of k_X12_page.1 (Nat.le_of_ble_eq_true rfl) (B_X12_page_0 (by omega) ?_)
    rw [rx_p hR1]
    refine ⟨hb, hx, fun q => ?_, fun q => ?_⟩
    · rw [if_pos q] at hq
      unfold pagV at hq
      have hxn : x = ((x.toNat : Nat) : Int) := (Int.toNat_of_nonneg q.1).symm
      have hp2 := Nat.lt_of_lt_of_le (Nat.pow_lt_pow_right (a := 2) (by decide) (show x.toNat < 14 by omega)) (pow_le14 (Nat.le_refl _))
      have es : shl32 1 x = ((2 ^ x.toNat : Nat) : Int) := by
        have := shl1 (p := x.toNat) (by omega)
        rwa [← hxn] at this
      rw [rx_L1 hR1 q, rx_L2 hR1 q, rx_L3 hR1 q, rx_L4 hR1 q, es]
      refine ⟨hy, fun z => ⟨⟨by omega, by omega⟩, ?_⟩, fun n0 => ⟨fun z => ⟨⟨by omega, by omega⟩, ?_⟩, fun n1 => ⟨fun z => ⟨⟨by omega, by omega⟩, ?_⟩, fun n2 => ⟨fun z => ⟨⟨by omega, by omega⟩, ?_⟩, fun n3 => ⟨fun z => ?_, fun n4 => ⟨fun z => ?_, fun n5 => ?_⟩⟩⟩⟩⟩⟩
      · rw [if_pos z] at hq; exact hq
      · rw [if_neg n0, if_pos z] at hq; exact hq
      · rw [if_neg n0, if_neg n1, if_pos z] at hq; exact hq
      · rw [if_neg n0, if_neg n1, if_neg n2, if_pos z] at hq; exact hq
      · rw [if_neg n0, if_neg n1, if_neg n2, if_neg n3, if_pos z] at hq
        refine S_X12_closed (kk := 0) (ix := 0) (by omega) hR1 hp2 (by decide) (Or.inl ⟨rfl, rfl⟩) ⟨_, _, _, rfl, rfl, ?_⟩
        have hc := clo_lt hL 0 0 hp2
        show Q (some (vI (and32 ((clo L 0 0 (2 ^ x.toNat) : Nat) : Int) (xor32 ((2 ^ x.toNat : Nat) : Int) (-1))))) (mem (rv0 P) I1 J1)
        rw [andn32_nat (Nat.lt_trans hc (by decide)) (Nat.lt_trans hp2 (by decide))]
        exact hq
      · rw [if_neg n0, if_neg n1, if_neg n2, if_neg n3, if_neg n4, if_pos z] at hq
        have hh := S_X12_knb (k := 900) (P := P) (J := J1) (Q := Q) (p := x.toNat) (by omega) hR1 (by omega) hq
        rw [← hxn] at hh
        exact hh
      · rw [if_neg n0, if_neg n1, if_neg n2, if_neg n3, if_neg n4, if_neg n5] at hq; exact hq
    · rw [if_neg q] at hq
      exact hq
/-! kept -/
theorem shr_nat {a k : Nat} (ha : a < 2147483648) (hk : k < 31) : shr32 (a : Int) (k : Int) = ((a >>> k : Nat) : Int) := by
  have h1 : ∀ q : Nat, q < 31 → ((iI (q : Int) &&& 31).toBitVec.smod 32#32).toNat = q := by decide +kernel
  unfold shr32
  show (iI (a : Int) >>> (iI (k : Int) &&& 31)).toBitVec.toInt = _
  rw [Int32.toBitVec_shiftRight, iI_bv a]
  show (BitVec.sshiftRight (BitVec.ofNat 32 a) ((iI (k : Int) &&& 31).toBitVec.smod 32#32).toNat).toInt = _
  rw [h1 k hk]
  have hm : (BitVec.ofNat 32 a).msb = false := by
    rw [BitVec.msb_eq_false_iff_two_mul_lt, bv_nat ha]
    omega
  rw [BitVec.sshiftRight_eq_of_msb_false hm]
  exact bv_int (by rw [BitVec.toNat_ushiftRight, bv_nat ha]) (Nat.lt_of_le_of_lt (by rw [Nat.shiftRight_eq_div_pow]; exact Nat.div_le_self _ _) ha)
theorem dec_7 {n r p : Int} (hn : 0 ≤ n ∧ n ≤ 1000) (hr : 0 ≤ r ∧ r < 8) (hp : 0 ≤ p ∧ p < 16) : shr32 (128 * n + 16 * r + p) 7 = n ∧ and32 (shr32 (128 * n + 16 * r + p) 4) 7 = r ∧ and32 (128 * n + 16 * r + p) 15 = p := by
  have e : (128 * n + 16 * r + p) = (((128 * n + 16 * r + p).toNat : Nat) : Int) := (Int.toNat_of_nonneg (by omega)).symm
  have hw : (128 * n + 16 * r + p).toNat < 2147483648 := by omega
  have h4 : (128 * n + 16 * r + p).toNat >>> 4 < 2147483648 := by rw [Nat.shiftRight_eq_div_pow]; omega
  refine ⟨?_, ?_, ?_⟩
  · rw [e, show (7 : Int) = ((7 : Nat) : Int) from rfl, shr_nat hw (by decide), Nat.shiftRight_eq_div_pow]
    omega
  · rw [e, show (4 : Int) = ((4 : Nat) : Int) from rfl, shr_nat hw (by decide), show (7 : Int) = ((7 : Nat) : Int) from rfl, and32_nat h4 (by decide), show (7 : Nat) = 2 ^ 3 - 1 from rfl, Nat.and_two_pow_sub_one_eq_mod, Nat.shiftRight_eq_div_pow]
    omega
  · rw [e, show (15 : Int) = ((15 : Nat) : Int) from rfl, and32_nat hw (by decide), show (15 : Nat) = 2 ^ 4 - 1 from rfl, Nat.and_two_pow_sub_one_eq_mod]
    omega
/-- what the class's log holds behind a row with kc pages kept, and what the reference's layer v holds -/
def KP (I : Nat → Nat → Int32) (kc v : Int) : Prop := (0 ≤ kc ∧ kc ≤ 84) ∧ gi I 117 v.toNat = min 60 kc ∧ ∀ k : Int, 0 ≤ k → k < min 60 kc → (0 ≤ gi I 118 ((60 * v) + k).toNat ∧ gi I 118 ((60 * v) + k).toNat ≤ 1000) ∧ (0 ≤ gi I 119 ((60 * v) + k).toNat ∧ gi I 119 ((60 * v) + k).toNat < 6) ∧ (0 ≤ gi I 120 ((60 * v) + k).toNat ∧ gi I 120 ((60 * v) + k).toNat < 14) ∧ gi I 20 ((kc - min 60 kc) + k).toNat = 128 * gi I 118 ((60 * v) + k).toNat + 16 * gi I 119 ((60 * v) + k).toNat + gi I 120 ((60 * v) + k).toNat
theorem step_kept {V V' : Cpl} (hS : Vsc V V') (hK : ∀ I J, V I J → KP I (gi I 19 2) 0) (x y : Int) (hx : inR x) (hy : inR y) : Step V V' m_X11_kept m_X12_kept [x, y] := by
  refine Step.rd hS (fun I J hV => ?_)
  obtain ⟨k1, k2, k3⟩ := hK I J hV
  generalize hkc : gi I 19 2 = kc at k1 k2 k3
  have k2' : gi I 117 0 = min 60 kc := k2
  refine ⟨if (0 ≤ x ∧ x < min 60 kc) then (if y = 0 then gi I 118 (x).toNat else if y = 1 then gi I 119 (x).toNat else if y = 2 then gi I 120 (x).toNat else -1) else -1, ?_, fun P Q hQ => ?_, fun P I1 J1 h1 j1 Q hQ => ?_⟩
  · exact ite_R (ite_R (gi_in _ _ _) (ite_R (gi_in _ _ _) (ite_R (gi_in _ _ _) (by decide)))) (by decide)
  · have hq := hQ I (scrS.rf I) J (scrJ.rf J)
    refine WPm.of k_X11_kept.1 (Nat.le_of_ble_eq_true rfl) (B_X11_kept_0 (by omega) ?_)
    rw [hkc]
    refine ⟨hx, fun q => ?_, fun q => ⟨⟨by omega, by omega⟩, fun q2 => ?_, fun q2 => ?_⟩⟩
    · rw [if_neg (by omega)] at hq
      exact hq
    · rw [if_pos ⟨by omega, q2⟩] at hq
      obtain ⟨a1, a2, a3, a4⟩ := k3 x (by omega) q2
      rw [show ((60 : Int) * 0 + x) = x by omega] at a1 a2 a3 a4
      obtain ⟨d1, d2, d3⟩ := dec_7 a1 (r := gi I 119 (x).toNat) ⟨by omega, by omega⟩ (p := gi I 120 (x).toNat) ⟨by omega, by omega⟩
      rw [a4, d1, d2, d3]
      refine ⟨⟨by omega, by omega⟩, hy, fun z => ?_, fun n0 => ⟨fun z => ?_, fun n1 => ⟨fun z => ?_, fun n2 => ?_⟩⟩⟩
      · rw [if_pos z] at hq; exact hq
      · rw [if_neg n0, if_pos z] at hq; exact hq
      · rw [if_neg n0, if_neg n1, if_pos z] at hq; exact hq
      · rw [if_neg n0, if_neg n1, if_neg n2] at hq; exact hq
    · rw [if_neg (by omega)] at hq
      exact hq
  · have hq := hQ I1 (scrS.rf I1) J1 (scrJ.rf J1)
    have e117 : gi I1 117 0 = min 60 kc := (h1.gv 117 0 (by decide) (by decide)).trans k2'
    refine WPm.of k_X12_kept.1 (Nat.le_of_ble_eq_true rfl) (B_X12_kept_0 (by omega) ?_)
    rw [e117]
    refine ⟨hx, ⟨by omega, by omega⟩, fun q => ?_, fun q => ⟨hy, fun q2 => ?_, fun q2 => ?_⟩⟩
    · rw [if_neg (by omega)] at hq
      exact hq
    · rw [if_pos ⟨q.1, by omega⟩] at hq
      have hn : ∀ c, 118 ≤ c ∧ c ≤ 120 → gi I1 c (x).toNat = gi I c (x).toNat := by
        intro c hc
        refine h1.gv c _ ?_ ?_
        · unfold scrC
          simp
          omega
        · unfold scrF
          simp
          omega
      rw [hn 118 (by decide), hn 119 (by decide), hn 120 (by decide)]
      refine ⟨fun n0 => ⟨fun n1 => ⟨⟨by omega, by omega⟩, ?_⟩, fun z => ⟨⟨by omega, by omega⟩, ?_⟩⟩, fun z => ⟨⟨by omega, by omega⟩, ?_⟩⟩
      · rw [if_neg n0, if_neg n1, if_pos (by omega)] at hq; exact hq
      · rw [if_neg n0, if_pos z] at hq; exact hq
      · rw [if_pos z] at hq; exact hq
    · rw [if_pos ⟨q.1, by omega⟩, if_neg (by omega), if_neg (by omega), if_neg (by omega)] at hq
      exact hq
/-! seed -/
theorem step_seed {V V' : Cpl} (hput : ∀ I J x, V I J → inR x → 0 ≤ x → V' (si I 0 11 x) (sl J 74 67 x)) (hno : ∀ I J j, V I J → j < 6 → V' (refI I j) J) (x : Int) (hx : inR x) : Step V V' m_X11_seed m_X12_seed [x] := by
  intro P I J h
  refine WPm.of k_X11_seed.1 (Nat.le_of_ble_eq_true rfl) (B_X11_seed_0 (by omega) ⟨hx, fun q => ?_, fun q => ?_⟩)
  · refine Step.put (by decide) rfl ?_
    exact WPm.of k_X12_seed.1 (Nat.le_of_ble_eq_true rfl) (B_X12_seed_0 (by omega) ⟨hx, fun _ => ⟨rfl, Cpl2.here (hput I J x h hx q)⟩, fun q2 => absurd q q2⟩)
  · refine Step.put (by decide) rfl ?_
    have e2 : gi (si I 73 5 (gi I 73 5 + 1)) 107 5 = gi I 107 5 := gi_cell _ _ _ _ (by decide)
    refine WPm.of k_X12_seed.1 (Nat.le_of_ble_eq_true rfl) (B_X12_seed_0 (by omega) ?_)
    rw [e2]
    exact ⟨hx, fun q2 => absurd q2 q, fun _ => ⟨rfl, Cpl2.here (hno I J 5 h (by decide))⟩⟩
end TELL2

section TELLS
/-! ===== what is told: has, reader, page, kept, letter, seed ===== -/
def allK (L : Lb) (H : Hl) : Int := smi (nR L).toNat (fun r => (pop (kn H r) : Int))
theorem allK_bd {L : Lb} (H : Hl) (hL : WfL L) : 0 ≤ allK L H ∧ allK L H ≤ 84 := by
  have h := smi_bd (n := (nR L).toNat) (f := fun r => (pop (kn H r) : Int)) (b := 14) (by decide) (fun i hi => by
    have := pop_le (kn H i)
    show 0 ≤ (pop (kn H i) : Int) ∧ (pop (kn H i) : Int) ≤ 14
    omega)
  have := hL.2.2.1
  unfold allK
  omega
theorem S_X2_all {k : Nat} {P : Option Nat} {I : Nat → Nat → Int32} {J : Nat → Nat → Int64} {Q : Option AV → Mem → Prop} {L : Lb} {R : Rl} {H : Hl} (hk : 2 ≤ k) (hX : CX I L R H) (hQ : Q (some (vI (allK L H))) (mem (rv0 P) I J)) : WPm k LAY m_X2_knownByAll [vR (some 4)] (mem (rv0 P) I J) Q := by
  have hL := hX.1.2.2.2.1
  have hR6 := hL.2.2.1
  refine WPm.of k_X2_knownByAll.1 (Nat.le_of_ble_eq_true rfl) (B_X2_knownByAll_0 (by omega) ?_)
  have loop : ∀ (d n : Nat) (x y : Int), n + d = (nR L).toNat → x = n → y = smi n (fun r => (pop (kn H r) : Int)) → WP k LAY m_X2_knownByAll 4 [(0, vR (some 4)), (1, vI y), (2, vI x)] [] (mem (rv0 P) I J) Q := by
    intro d
    induction d with
    | zero =>
      intro n x y hn hx hy
      refine B_X2_knownByAll_4 (by omega) ?_
      rw [cx_n hX]
      refine ⟨⟨by omega, by omega⟩, fun _ => ?_, fun q => absurd q (by omega)⟩
      exact Qat hQ (by rw [hy]; unfold allK; rw [show (nR L).toNat = n by omega])
    | succ d ih =>
      intro n x y hn hx hy
      have hrr : (0 : Int) ≤ n ∧ (n : Int) < nR L := ⟨by omega, by omega⟩
      refine B_X2_knownByAll_4 (by omega) ?_
      subst hx
      rw [cx_n hX, cx_kn hX hrr, bc_pop (kn_lt hL hX.2.2 hrr).2]
      exact ⟨⟨by omega, by omega⟩, fun q => absurd q (by omega), fun _ => ⟨⟨by omega, by omega⟩, ⟨by omega, by omega⟩, fun y4 h => ih (n + 1) _ _ (by omega) (by omega) (by rw [h, hy]; rfl)⟩⟩
  exact loop _ 0 _ _ (Nat.zero_add _) rfl rfl
theorem S_X12_all9 {k : Nat} {P : Option Nat} {I : Nat → Nat → Int32} {J : Nat → Nat → Int64} {Q : Option AV → Mem → Prop} {L : Lb} {R : Rl} {H : Hl} (hk : 2 ≤ k) (hX : RX I 0 L R H) (hQ : Q (some (vI (allK L H))) (mem (rv0 P) I J)) : WP k LAY m_X12_has_ 147 [(0, vR (some 74)), (2, vI 0), (3, vI 0)] [] (mem (rv0 P) I J) Q := by
  have hL := hX.1.2.2.2.2.1
  have hR6 := hL.2.2.1
  have loop : ∀ (d n : Nat) (x y : Int), n + d = (nR L).toNat → x = n → y = smi n (fun r => (pop (kn H r) : Int)) → WP k LAY m_X12_has_ 147 [(0, vR (some 74)), (2, vI y), (3, vI x)] [] (mem (rv0 P) I J) Q := by
    intro d
    induction d with
    | zero =>
      intro n x y hn hx hy
      refine B_X12_has__147 (by omega) ?_
      rw [rx_n hX]
      refine ⟨rx_b hX, ⟨by omega, by omega⟩, fun _ => ?_, fun q => absurd q (by omega)⟩
      exact Qat hQ (by rw [hy]; unfold allK; rw [show (nR L).toNat = n by omega])
    | succ d ih =>
      intro n x y hn hx hy
      have hrr : (0 : Int) ≤ n ∧ (n : Int) < nR L := ⟨by omega, by omega⟩
      refine B_X12_has__147 (by omega) ?_
      subst hx
      rw [rx_n hX, rx_kn hX hrr]
      refine ⟨rx_b hX, ⟨by omega, by omega⟩, fun q => absurd q (by omega), fun _ => ⟨⟨by omega, by omega⟩, ?_⟩⟩
      exact S_X12_bits (kn_lt hL hX.2.2.1 hrr).2 ⟨_, _, _, rfl, rfl, ih (n + 1) _ _ (by omega) (by omega) (by rw [hy]; rfl)⟩
  exact loop _ 0 _ _ (Nat.zero_add _) rfl rfl
theorem ite_R {c : Prop} [Decidable c] {a b : Int} (ha : inR a) (hb : inR b) : inR (if c then a else b) := by
  split
  · exact ha
  · exact hb
def hasV (I : Nat → Nat → Int32) (L : Lb) (H : Hl) (x : Int) : Int := if x = 0 then L 20 0 else if x = 1 then L 21 0 else if x = 2 then L 24 0 else if x = 3 then L 22 0 else if x = 4 then L 23 0 else if x = 5 then L 25 0 else if x = 6 then H 8 0 else if x = 7 then H 9 0 else if x = 8 then min 60 (gi I 19 2) else if x = 9 then allK L H else if x = 10 then gi I 4 5 else if x = 11 then gi I 0 11 else -1
theorem step_has {V V' : Cpl} (hS : Vsc V V') (hA : ∀ I J, V I J → VA I) (hK : ∀ I J, V I J → gi I 117 0 = min 60 (gi I 19 2) ∧ gi I 74 66 = gi I 4 5 ∧ gl J 74 67 = gi I 0 11) (x : Int) (hx : inR x) : Step V V' m_X11_has m_X12_has_ [x] := by
  refine Step.rd hS (fun I J hV => ?_)
  obtain ⟨hC, hR, h72, h73⟩ := hA I J hV
  obtain ⟨k1, k2, k3⟩ := hK I J hV
  generalize LC I = L at hC hR
  generalize RC I = R at hC hR
  generalize HC I = H at hC hR
  have hL := hC.1.2.2.2.1
  have hH := hC.2.2
  have bA := allK_bd H hL
  have e20 : gi I 6 0 = L 20 0 := by rw [← hC.1.1]; rfl
  have e21 : gi I 6 1 = L 21 0 := by rw [← hC.1.1]; rfl
  have e22 : gi I 6 2 = L 22 0 := by rw [← hC.1.1]; rfl
  have e23 : gi I 6 3 = L 23 0 := by rw [← hC.1.1]; rfl
  have e24 : gi I 5 14 = L 24 0 := by rw [← hC.1.1]; rfl
  have e25 : gi I 5 15 = L 25 0 := by rw [← hC.1.1]; rfl
  have b1 := hL.1
  have b2 : 0 ≤ L 21 0 ∧ L 21 0 ≤ 14 := hL.2.1
  have b3 : 0 ≤ L 22 0 ∧ L 22 0 ≤ 6 := hL.2.2.1
  have b4 : 0 ≤ L 23 0 ∧ L 23 0 ≤ 5 := hL.2.2.2.1
  have b5 := hL.2.2.2.2.1
  have b6 := hL.2.2.2.2.2.1
  have b7 := hH.1
  have b8 := hH.2.1
  have b9 := gi_in I 19 2
  have b10 := gi_in I 4 5
  have b11 := gi_in I 0 11
  refine ⟨hasV I L H x, ?_, fun P Q hQ => ?_, fun P I1 J1 h1 j1 Q hQ => ?_⟩
  · exact ite_R ⟨by omega, by omega⟩ (ite_R ⟨by omega, by omega⟩ (ite_R ⟨by omega, by omega⟩ (ite_R ⟨by omega, by omega⟩ (ite_R ⟨by omega, by omega⟩ (ite_R ⟨by omega, by omega⟩ (ite_R ⟨by omega, by omega⟩ (ite_R ⟨by omega, by omega⟩ (ite_R ⟨by omega, by omega⟩ (ite_R ⟨by omega, by omega⟩ (ite_R b10 (ite_R b11 (by decide))))))))))))
  · have hq := hQ I (scrS.rf I) J (scrJ.rf J)
    unfold hasV at hq
    refine WPm.of k_X11_has.1 (Nat.le_of_ble_eq_true rfl) (B_X11_has_0 (by omega) ?_)
    rw [e20, e21, e22, e23, e24, e25, cx_8 hC, cx_9 hC]
    refine ⟨hx, fun q => ?_, fun n0 => ⟨fun q => ?_, fun n1 => ⟨fun q => ?_, fun n2 => ⟨fun q => ?_, fun n3 => ⟨fun q => ?_, fun n4 => ⟨fun q => ?_, fun n5 => ⟨fun q => ?_, fun n6 => ⟨fun q => ?_, fun n7 => ⟨fun q => ?_, fun n8 => ⟨fun q => ?_, fun n9 => ⟨fun q => ?_, fun n10 => ⟨fun q => ?_, fun n11 => ?_⟩⟩⟩⟩⟩⟩⟩⟩⟩⟩⟩⟩
    · rw [if_pos q] at hq; exact hq
    · rw [if_neg n0, if_pos q] at hq; exact hq
    · rw [if_neg n0, if_neg n1, if_pos q] at hq; exact hq
    · rw [if_neg n0, if_neg n1, if_neg n2, if_pos q] at hq; exact hq
    · rw [if_neg n0, if_neg n1, if_neg n2, if_neg n3, if_pos q] at hq; exact hq
    · rw [if_neg n0, if_neg n1, if_neg n2, if_neg n3, if_neg n4, if_pos q] at hq; exact hq
    · rw [if_neg n0, if_neg n1, if_neg n2, if_neg n3, if_neg n4, if_neg n5, if_pos q] at hq; exact hq
    · rw [if_neg n0, if_neg n1, if_neg n2, if_neg n3, if_neg n4, if_neg n5, if_neg n6, if_pos q] at hq; exact hq
    · rw [if_neg n0, if_neg n1, if_neg n2, if_neg n3, if_neg n4, if_neg n5, if_neg n6, if_neg n7, if_pos q] at hq; exact hq
    · rw [if_neg n0, if_neg n1, if_neg n2, if_neg n3, if_neg n4, if_neg n5, if_neg n6, if_neg n7, if_neg n8, if_pos q] at hq
      exact S_X2_all (by omega) hC ⟨_, _, _, rfl, rfl, hq⟩
    · rw [if_neg n0, if_neg n1, if_neg n2, if_neg n3, if_neg n4, if_neg n5, if_neg n6, if_neg n7, if_neg n8, if_neg n9, if_pos q] at hq; exact hq
    · rw [if_neg n0, if_neg n1, if_neg n2, if_neg n3, if_neg n4, if_neg n5, if_neg n6, if_neg n7, if_neg n8, if_neg n9, if_neg n10, if_pos q] at hq; exact hq
    · rw [if_neg n0, if_neg n1, if_neg n2, if_neg n3, if_neg n4, if_neg n5, if_neg n6, if_neg n7, if_neg n8, if_neg n9, if_neg n10, if_neg n11] at hq; exact hq
  · have hR1 := hR.fr0 h1
    have hb := rx_b hR1
    have hq := hQ I1 (scrS.rf I1) J1 (scrJ.rf J1)
    unfold hasV at hq
    have f20 : gi I1 76 (gi I1 74 13).toNat = L 20 0 := by rw [← hR1.1.1]; rfl
    have f24 : gi I1 82 (gi I1 74 13).toNat = L 24 0 := by rw [← hR1.1.1]; rfl
    have f8 : gi I1 108 0 = H 8 0 := rx_8 hR1
    have f9 : gi I1 109 0 = H 9 0 := rx_9 hR1
    have f117 : gi I1 117 0 = min 60 (gi I 19 2) := (h1.gv 117 0 (by decide) (by decide)).trans k1
    have f66 : gi I1 74 66 = gi I 4 5 := (h1.gv 74 66 (by decide) (by decide)).trans k2
    have f67 : gl J1 74 67 = gi I 0 11 := (congrArg Int64.toInt (j1 74 67 (by decide))).trans k3
    refine WPm.of k_X12_has_.1 (Nat.le_of_ble_eq_true rfl) (B_X12_has__0 (by omega) ?_)
    rw [f20, rx_p hR1, f24, rx_n hR1, rx_t hR1, rx_inch hR1, f8, f9, f117, f66, f67]
    refine ⟨hx, fun q => ⟨hb, ?_⟩, fun n0 => ⟨fun q => ⟨hb, ?_⟩, fun n1 => ⟨fun q => ⟨hb, ?_⟩, fun n2 => ⟨fun q => ⟨hb, ?_⟩, fun n3 => ⟨fun q => ⟨hb, ?_⟩, fun n4 => ⟨fun q => ⟨hb, ?_⟩, fun n5 => ⟨fun q => ?_, fun n6 => ⟨fun q => ?_, fun n7 => ⟨fun q => ?_, fun n8 => ⟨fun q => ?_, fun n9 => ⟨fun q => ?_, fun n10 => ⟨fun q => ?_, fun n11 => ?_⟩⟩⟩⟩⟩⟩⟩⟩⟩⟩⟩⟩
    · rw [if_pos q] at hq; exact hq
    · rw [if_neg n0, if_pos q] at hq; exact hq
    · rw [if_neg n0, if_neg n1, if_pos q] at hq; exact hq
    · rw [if_neg n0, if_neg n1, if_neg n2, if_pos q] at hq; exact hq
    · rw [if_neg n0, if_neg n1, if_neg n2, if_neg n3, if_pos q] at hq; exact hq
    · rw [if_neg n0, if_neg n1, if_neg n2, if_neg n3, if_neg n4, if_pos q] at hq; exact hq
    · rw [if_neg n0, if_neg n1, if_neg n2, if_neg n3, if_neg n4, if_neg n5, if_pos q] at hq; exact hq
    · rw [if_neg n0, if_neg n1, if_neg n2, if_neg n3, if_neg n4, if_neg n5, if_neg n6, if_pos q] at hq; exact hq
    · rw [if_neg n0, if_neg n1, if_neg n2, if_neg n3, if_neg n4, if_neg n5, if_neg n6, if_neg n7, if_pos q] at hq; exact hq
    · rw [if_neg n0, if_neg n1, if_neg n2, if_neg n3, if_neg n4, if_neg n5, if_neg n6, if_neg n7, if_neg n8, if_pos q] at hq
      exact S_X12_all9 (by omega) hR1 hq
    · rw [if_neg n0, if_neg n1, if_neg n2, if_neg n3, if_neg n4, if_neg n5, if_neg n6, if_neg n7, if_neg n8, if_neg n9, if_pos q] at hq; exact hq
    · rw [if_neg n0, if_neg n1, if_neg n2, if_neg n3, if_neg n4, if_neg n5, if_neg n6, if_neg n7, if_neg n8, if_neg n9, if_neg n10, if_pos q] at hq; exact hq
    · rw [if_neg n0, if_neg n1, if_neg n2, if_neg n3, if_neg n4, if_neg n5, if_neg n6, if_neg n7, if_neg n8, if_neg n9, if_neg n10, if_neg n11] at hq; exact hq
def rdrV (L : Lb) (H : Hl) (x y : Int) : Int := if y = 0 then H 1 x else if y = 1 then L 5 x else if y = 2 then L 6 x else if y = 3 then H 2 x else if y = 4 then H 3 x else if y = 5 then H 4 x else if y = 6 then H 5 x else if y = 7 then H 6 x else if 10 ≤ y ∧ y ≤ 9 + H 6 x then H 7 (8 * x + (y - 10)) else -1
theorem step_reader {V V' : Cpl} (hS : Vsc V V') (hA : ∀ I J, V I J → VA I) (x y : Int) (hx : inR x) (hy : inR y) : Step V V' m_X11_reader m_X12_reader [x, y] := by
  refine Step.rd hS (fun I J hV => ?_)
  obtain ⟨hC, hR, h72, h73⟩ := hA I J hV
  generalize LC I = L at hC hR
  generalize RC I = R at hC hR
  generalize HC I = H at hC hR
  have hL := hC.1.2.2.2.1
  have hR6 := hL.2.2.1
  refine ⟨if 0 ≤ x ∧ x < nR L then rdrV L H x y else -1, ?_, fun P Q hQ => ?_, fun P I1 J1 h1 j1 Q hQ => ?_⟩
  · by_cases q : 0 ≤ x ∧ x < nR L
    · rw [if_pos q]
      have b1 := (cx_1 hC q) ▸ gi_in I 19 _
      have b2 := (cx_2 hC q) ▸ gi_in I 19 _
      have b3 := (cx_3 hC q) ▸ gi_in I 19 _
      have b4 := (cx_4 hC q) ▸ gi_in I 19 _
      have b5 := (cx_5 hC q) ▸ gi_in I 19 _
      have b6 := (cx_6 hC q) ▸ gi_in I 19 _
      have b8 := (cx_L5 hC q) ▸ gi_in I 13 _
      have b9 := (cx_L6 hC q) ▸ gi_in I 14 _
      have b7 : 10 ≤ y ∧ y ≤ 9 + H 6 x → inR (H 7 (8 * x + (y - 10))) := fun z => (cx_7 hC q (k := y - 10) ⟨by omega, by omega⟩) ▸ gi_in I 19 _
      refine ite_R b1 (ite_R b8 (ite_R b9 (ite_R b2 (ite_R b3 (ite_R b4 (ite_R b5 (ite_R b6 ?_)))))))
      split
      · exact b7 ‹_›
      · decide
    · rw [if_neg q]
      decide
  · have e2 : gi I 6 (2 : Int).toNat = nR L := cx_n hC
    have hq := hQ I (scrS.rf I) J (scrJ.rf J)
    refine WPm.of k_X11_reader.1 (Nat.le_of_ble_eq_true rfl) (B_X11_reader_0 (by omega) ?_)
    rw [e2]
    refine ⟨hx, fun q => ?_, fun q => ?_⟩
    · rw [if_pos q] at hq
      unfold rdrV at hq
      rw [cx_1 hC q, cx_2 hC q, cx_3 hC q, cx_4 hC q, cx_5 hC q, cx_6 hC q, cx_L5 hC q, cx_L6 hC q]
      have b6 := (hC.2.2.2.2 x q.1 q.2).2.2.2.2.1
      refine ⟨hy, fun z => ⟨⟨by omega, by omega⟩, ?_⟩, fun n0 => ⟨fun z => ⟨⟨by omega, by omega⟩, ?_⟩, fun n1 => ⟨fun z => ⟨⟨by omega, by omega⟩, ?_⟩, fun n2 => ⟨fun z => ⟨⟨by omega, by omega⟩, ?_⟩, fun n3 => ⟨fun z => ⟨⟨by omega, by omega⟩, ?_⟩, fun n4 => ⟨fun z => ⟨⟨by omega, by omega⟩, ?_⟩, fun n5 => ⟨fun z => ⟨⟨by omega, by omega⟩, ?_⟩, fun n6 => ⟨fun z => ⟨⟨by omega, by omega⟩, ?_⟩, fun n7 => ⟨fun z => ⟨⟨by omega, by omega⟩, fun w => absurd w (by omega), fun w => ⟨⟨by omega, by omega⟩, fun w2 => ?_, fun w2 => ⟨⟨by omega, by omega⟩, ?_⟩⟩⟩, fun z => ?_⟩⟩⟩⟩⟩⟩⟩⟩⟩
      · rw [if_pos z] at hq; exact hq
      · rw [if_neg n0, if_pos z] at hq; exact hq
      · rw [if_neg n0, if_neg n1, if_pos z] at hq; exact hq
      · rw [if_neg n0, if_neg n1, if_neg n2, if_pos z] at hq; exact hq
      · rw [if_neg n0, if_neg n1, if_neg n2, if_neg n3, if_pos z] at hq; exact hq
      · rw [if_neg n0, if_neg n1, if_neg n2, if_neg n3, if_neg n4, if_pos z] at hq; exact hq
      · rw [if_neg n0, if_neg n1, if_neg n2, if_neg n3, if_neg n4, if_neg n5, if_pos z] at hq; exact hq
      · rw [if_neg n0, if_neg n1, if_neg n2, if_neg n3, if_neg n4, if_neg n5, if_neg n6, if_pos z] at hq; exact hq
      · rw [if_neg n0, if_neg n1, if_neg n2, if_neg n3, if_neg n4, if_neg n5, if_neg n6, if_neg n7, if_neg (by omega)] at hq; exact hq
      · rw [if_neg n0, if_neg n1, if_neg n2, if_neg n3, if_neg n4, if_neg n5, if_neg n6, if_neg n7, if_pos (by omega)] at hq
        rw [cx_7 hC q ⟨by omega, by omega⟩]
        exact hq
      · rw [if_neg n0, if_neg n1, if_neg n2, if_neg n3, if_neg n4, if_neg n5, if_neg n6, if_neg n7, if_neg (by omega)] at hq; exact hq
    · rw [if_neg q] at hq
      exact hq
  · have hR1 := hR.fr0 h1
    have hb := rx_b hR1
    have hq := hQ I1 (scrS.rf I1) J1 (scrJ.rf J1)
    refine WPm.of k_X12_reader.1 (Nat.le_of_ble_eq_true rfl) (B_X12_reader_0 (by omega) ?_)
    rw [rx_n hR1]
    refine ⟨hb, hx, fun q => ?_, fun q => ?_⟩
    · rw [if_pos q] at hq
      unfold rdrV at hq
      rw [rx_1' hR1 q, rx_2' hR1 q, rx_3' hR1 q, rx_4' hR1 q, rx_5' hR1 q, rx_6' hR1 q, rx_L5 hR1 q, rx_L6 hR1 q]
      have b6 := (hC.2.2.2.2 x q.1 q.2).2.2.2.2.1
      refine ⟨hy, fun z => ⟨⟨by omega, by omega⟩, ?_⟩, fun n0 => ⟨fun z => ⟨⟨by omega, by omega⟩, ?_⟩, fun n1 => ⟨fun z => ⟨⟨by omega, by omega⟩, ?_⟩, fun n2 => ⟨fun z => ⟨⟨by omega, by omega⟩, ?_⟩, fun n3 => ⟨fun z => ⟨⟨by omega, by omega⟩, ?_⟩, fun n4 => ⟨fun z => ⟨⟨by omega, by omega⟩, ?_⟩, fun n5 => ⟨fun z => ⟨⟨by omega, by omega⟩, ?_⟩, fun n6 => ⟨fun z => ⟨⟨by omega, by omega⟩, ?_⟩, fun n7 => ⟨⟨by omega, by omega⟩, ⟨by omega, by omega⟩, fun z => ?_, fun z => ⟨⟨by omega, by omega⟩, ?_⟩⟩⟩⟩⟩⟩⟩⟩⟩⟩
      · rw [if_pos z] at hq; exact hq
      · rw [if_neg n0, if_pos z] at hq; exact hq
      · rw [if_neg n0, if_neg n1, if_pos z] at hq; exact hq
      · rw [if_neg n0, if_neg n1, if_neg n2, if_pos z] at hq; exact hq
      · rw [if_neg n0, if_neg n1, if_neg n2, if_neg n3, if_pos z] at hq; exact hq
      · rw [if_neg n0, if_neg n1, if_neg n2, if_neg n3, if_neg n4, if_pos z] at hq; exact hq
      · rw [if_neg n0, if_neg n1, if_neg n2, if_neg n3, if_neg n4, if_neg n5, if_pos z] at hq; exact hq
      · rw [if_neg n0, if_neg n1, if_neg n2, if_neg n3, if_neg n4, if_neg n5, if_neg n6, if_pos z] at hq; exact hq
      · rw [if_neg n0, if_neg n1, if_neg n2, if_neg n3, if_neg n4, if_neg n5, if_neg n6, if_neg n7, if_neg z] at hq; exact hq
      · rw [if_neg n0, if_neg n1, if_neg n2, if_neg n3, if_neg n4, if_neg n5, if_neg n6, if_neg n7, if_pos z] at hq
        have e7 := rx_7' hR1 q (k := y - 10) ⟨by omega, by omega⟩
        rw [show (8 * x + y - 10).toNat = (8 * x + (y - 10)).toNat by omega, e7]
        exact hq
    · rw [if_neg q] at hq
      exact hq
end TELLS

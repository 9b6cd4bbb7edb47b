section LISTS
theorem step_drop {V V' : Cpl} (hA : Vact V V') (x : Int) (hx : inR x) : Step V V' m_X11_drop m_X12_drop [x] := by
  intro P I J hV
  obtain ⟨hH, hst⟩ := hA.1 I J hV
  have hH0 := hH
  obtain ⟨⟨hC, hR, h72, h73⟩, hVP, hK, hrn⟩ := hH
  have hL := hC.1.2.2.2.1
  have hR6 := hL.2.2.1
  obtain ⟨p1, p2, p3, p4, -, -⟩ := hVP
  have e2 : gi I 6 (2 : Int).toNat = nR (LC I) := cx_n hC
  have no : ¬ (0 ≤ x ∧ x < nR (LC I)) → WPm 900 LAY m_X12_drop (vR (some 74) :: [x].map vI) (mem (rv0 P) (si I 73 2 (gi I 73 2 + 1)) J) (fun r2 M2 => r2 = some (vI (-1)) ∧ Cpl2 V' M2) := by
    intro hn
    refine ref_R 2 (by decide) (hA.2.2 I J 2 hV (by decide)) (fun Q hQ => ?_)
    have hR1 := rx_73 hR 2 (gi I 73 2 + 1)
    refine WPm.of k_X12_drop.1 (Nat.le_of_ble_eq_true rfl) (B_X12_drop_0 (by omega) ?_)
    rw [rx_n hR1]
    exact ⟨rx_b hR1, hx, fun q => absurd q hn, fun q => hQ⟩
  refine WPm.of k_X11_drop.1 (Nat.le_of_ble_eq_true rfl) (B_X11_drop_0 (by omega) ?_)
  rw [e2]
  refine ⟨hx, fun q => ⟨⟨by omega, by omega⟩, ⟨by omega, by omega⟩, ⟨by omega, by omega⟩, fun y5 hy5 => ⟨⟨by omega, by omega⟩, ⟨by omega, by omega⟩, ?_⟩⟩, fun q => Step.put (by decide) rfl (no q)⟩
  have hw := hC.2.2.2.2 x q.1 q.2
  have q8 := hw.2.2.2.2.1
  have m6 := cx_6 hC q
  have hy : y5 = HC I 6 x := by
    rw [hy5, ← m6]
    exact gi_eq (rem_at I (by decide) (by omega))
  refine Step.put (by rw [hy]; exact ⟨by omega, by omega⟩) rfl ?_
  rw [hy]
  change WPm 900 LAY m_X12_drop (vR (some 74) :: [x].map vI) (mem (rv0 P) (si (si (si (remI I) 19 ((3 + (x * 14)) + 5).toNat 0) 19 ((3 + (x * 14)) + 3).toNat (-1)) 19 ((3 + (x * 14)) + 4).toNat 0) J) (fun r2 M2 => r2 = some (vI (HC I 6 x)) ∧ Cpl2 V' M2)
  have h1 : ∀ c k, c ≠ 19 → si (si (si (remI I) 19 ((3 + (x * 14)) + 5).toNat 0) 19 ((3 + (x * 14)) + 3).toNat (-1)) 19 ((3 + (x * 14)) + 4).toNat 0 c k = remI I c k := fun c k p => by rw [si_at, if_neg (fun w => p w.1), si_at, if_neg (fun w => p w.1), si_at, if_neg (fun w => p w.1)]
  have g19 : ∀ k : Nat, k ≠ ((3 + (x * 14)) + 5).toNat → k ≠ ((3 + (x * 14)) + 3).toNat → k ≠ ((3 + (x * 14)) + 4).toNat → gi (si (si (si (remI I) 19 ((3 + (x * 14)) + 5).toNat 0) 19 ((3 + (x * 14)) + 3).toNat (-1)) 19 ((3 + (x * 14)) + 4).toNat 0) 19 k = gi I 19 k := fun k a b c => by
    rw [gi_idx _ _ _ c, gi_idx _ _ _ b, gi_idx _ _ _ a]
    exact gi_eq (rem_at I (by decide) (by omega))
  have s5 : gi (si (si (si (remI I) 19 ((3 + (x * 14)) + 5).toNat 0) 19 ((3 + (x * 14)) + 3).toNat (-1)) 19 ((3 + (x * 14)) + 4).toNat 0) 19 ((3 + (x * 14)) + 5).toNat = 0 := by
    rw [gi_idx _ _ _ (by omega), gi_idx _ _ _ (by omega)]
    exact gi_same _ _ _ (by decide)
  have s3 : gi (si (si (si (remI I) 19 ((3 + (x * 14)) + 5).toNat 0) 19 ((3 + (x * 14)) + 3).toNat (-1)) 19 ((3 + (x * 14)) + 4).toNat 0) 19 ((3 + (x * 14)) + 3).toNat = -1 := by
    rw [gi_idx _ _ _ (by omega)]
    exact gi_same _ _ _ (by decide)
  have s4 : gi (si (si (si (remI I) 19 ((3 + (x * 14)) + 5).toNat 0) 19 ((3 + (x * 14)) + 3).toNat (-1)) 19 ((3 + (x * 14)) + 4).toNat 0) 19 ((3 + (x * 14)) + 4).toNat = 0 := gi_same _ _ _ (by decide)
  generalize si (si (si (remI I) 19 ((3 + (x * 14)) + 5).toNat 0) 19 ((3 + (x * 14)) + 3).toNat (-1)) 19 ((3 + (x * 14)) + 4).toNat 0 = I1 at h1 g19 s3 s4 s5 ⊢
  have hR1 := rx_rem hR h1
  have f65 : gi I1 74 65 = gi I 74 65 := rem_lay0 h1 (by decide)
  have f66 : gi I1 74 66 = gi I 74 66 := rem_lay0 h1 (by decide)
  refine WPm.of k_X12_drop.1 (Nat.le_of_ble_eq_true rfl) (B_X12_drop_0 (by omega) ?_)
  rw [rx_n hR1]
  refine ⟨rx_b hR1, hx, fun _ => ?_, fun w => absurd q w⟩
  refine S_X12_keeps (by omega) (by omega) (by omega) ⟨_, _, rfl, rfl, ⟨by omega, by omega⟩, ?_⟩
  have l0 : ∀ c k, 110 ≤ c ∧ c ≤ 115 → k < 6 → gi (keeI I1) c k = gi I c k := fun c k hc hk => (gi_eq (kee_0 I1 hc hk)).trans (rem_lay0 h1 ⟨by omega, by omega, by omega⟩)
  have a6 : gi (keeI I1) 115 (x).toNat = HC I 6 x := (l0 115 _ (by decide) (by omega)).trans (rx_6' hR q)
  have fin : VH (si (si (si (keeI I1) 115 (x).toNat 0) 113 (x).toNat (-1)) 114 (x).toNat 0) ∧ LC (si (si (si (keeI I1) 115 (x).toNat 0) 113 (x).toNat (-1)) 114 (x).toNat 0) = LC I ∧ RC (si (si (si (keeI I1) 115 (x).toNat 0) 113 (x).toNat (-1)) 114 (x).toNat 0) = RC I ∧ actS I (si (si (si (keeI I1) 115 (x).toNat 0) 113 (x).toNat (-1)) 114 (x).toNat 0) := by
    have u : ∀ c k, ¬ (c = 113 ∧ k = (x).toNat) → ¬ (c = 114 ∧ k = (x).toNat) → ¬ (c = 115 ∧ k = (x).toNat) → si (si (si (keeI I1) 115 (x).toNat 0) 113 (x).toNat (-1)) 114 (x).toNat 0 c k = keeI I1 c k := fun c k a b d => by rw [si_at, if_neg b, si_at, if_neg a, si_at, if_neg d]
    refine VH.act (I1 := I1) (l := fun k => HC I 7 (8 * x + k)) hH0 hst q h1 (fun k hk => g19 k (by omega) (by omega) (by omega)) (fun c k hck => u c k (by omega) (by omega) (by omega)) (fun c k hc hk kx => ?_) (fun k hk kx => ?_) ?_ (fun k k0 k1 => ?_) ?_ (g19 _ (by omega) (by omega) (by omega))
    · rw [gi_eq (u c k (by omega) (by omega) (by omega))]
      exact l0 c k hc hk
    · rw [gi_eq (u 116 k (by omega) (by omega) (by omega)), gi_eq (kee_1 I1 hk)]
      exact rem_lay0 h1 ⟨by omega, by omega, by omega⟩
    · rw [s3, s4, s5, g19 _ (by omega) (by omega) (by omega), g19 _ (by omega) (by omega) (by omega), g19 _ (by omega) (by omega) (by omega), cx_1 hC q, cx_2 hC q, cx_3 hC q]
      exact ⟨hw.1, hw.2.1, hw.2.2.1, hw.2.2.2.1, by decide, fun k k0 k1 => absurd k0 (by omega), Or.inl ⟨rfl, rfl⟩⟩
    · rw [s5] at k1
      exact absurd k0 (by omega)
    · have k19 : gi (si (si (si (keeI I1) 115 (x).toNat 0) 113 (x).toNat (-1)) 114 (x).toNat 0) 19 = gi I1 19 := gi_row (funext fun k => by rw [u 19 k (by omega) (by omega) (by omega), kee_at I1 (by decide) (by omega)])
      obtain ⟨w1, w2, w3, w4, w5, w6, w7⟩ := Rec1.of hC hR q
      unfold Rec1
      rw [k19, s3, s4, s5, g19 _ (by omega) (by omega) (by omega), g19 _ (by omega) (by omega) (by omega), g19 _ (by omega) (by omega) (by omega)]
      refine ⟨?_, ?_, ?_, ?_, gi_same _ _ _ (by decide), ?_, fun k k0 k1 => absurd k0 (by omega)⟩
      · rw [gi_eq (u 110 _ (by omega) (by omega) (by omega)), l0 110 _ (by decide) (by omega)]
        exact w1
      · rw [gi_eq (u 111 _ (by omega) (by omega) (by omega)), l0 111 _ (by decide) (by omega)]
        exact w2
      · rw [gi_eq (u 112 _ (by omega) (by omega) (by omega)), l0 112 _ (by decide) (by omega)]
        exact w3
      · rw [gi_cell _ _ _ _ (by decide)]
        exact gi_same _ _ _ (by decide)
      · rw [gi_cell _ _ _ _ (by decide), gi_cell _ _ _ _ (by decide)]
        exact gi_same _ _ _ (by decide)
  exact ⟨by rw [a6], Cpl2.here (hA.2.1 I J _ J hV fin.1 fin.2.1 fin.2.2.1 fin.2.2.2 (scrJ.rf J))⟩
/-! a page put behind a list -/
theorem S_X2_place {k : Nat} {P : Option Nat} {I : Nat → Nat → Int32} {J : Nat → Nat → Int64} {Q : Option AV → Mem → Prop} {L : Lb} {R : Rl} {H : Hl} {r p : Int} (hk : 1 ≤ k) (hX : CX I L R H) (hr : 0 ≤ r ∧ r < nR L) (hp : inR p) (hQ : ∀ z, 0 ≤ z → z ≤ H 6 r → (∀ j, 0 ≤ j → j < z → ¬ H 7 (8 * r + j) = p) → (z < H 6 r → H 7 (8 * r + z) = p) → Q (some (vI z)) (mem (rv0 P) I J)) : WPm k LAY m_X2_placeOf [vR (some 4), vI r, vI p] (mem (rv0 P) I J) Q := by
  have hR6 := hX.1.2.2.2.1.2.2.1
  have q8 := (hX.2.2.2.2 r hr.1 hr.2).2.2.2.2.1
  refine WPm.of k_X2_placeOf.1 (Nat.le_of_ble_eq_true rfl) (B_X2_placeOf_0 (by omega) ?_)
  rw [cx_6 hX hr]
  have loop : ∀ (d n : Nat) (x : Int), n + d = (H 6 r).toNat → x = n → (∀ j, 0 ≤ j → j < x → ¬ H 7 (8 * r + j) = p) → WP k LAY m_X2_placeOf 10 [(0, vR (some 4)), (1, vI r), (2, vI p), (3, vI (H 6 r)), (4, vI x)] [] (mem (rv0 P) I J) Q := by
    intro d
    induction d with
    | zero =>
      intro n x hn hx hj
      refine B_X2_placeOf_10 (by omega) ⟨⟨by omega, by omega⟩, ⟨by omega, by omega⟩, fun _ => hQ x (by omega) (by omega) hj (fun q => absurd q (by omega)), fun q => absurd q (by omega)⟩
    | succ d ih =>
      intro n x hn hx hj
      refine B_X2_placeOf_10 (by omega) ?_
      rw [cx_7 hX hr (k := x) ⟨by omega, by omega⟩]
      refine ⟨⟨by omega, by omega⟩, ⟨by omega, by omega⟩, fun q => absurd q (by omega), fun _ => ⟨⟨by omega, by omega⟩, hp, fun q => hQ x (by omega) (by omega) hj (fun _ => q), fun q => ?_⟩⟩
      refine ih (n + 1) _ (by omega) (by omega) (fun j j0 j1 => ?_)
      by_cases e : j = x
      · rw [e]
        exact q
      · exact hj j j0 (by omega)
  exact ⟨⟨by omega, by omega⟩, loop _ 0 _ (Nat.zero_add _) rfl (fun j j0 j1 => absurd j0 (by omega))⟩
theorem S_X12_listed {k : Nat} {P : Option Nat} {I : Nat → Nat → Int32} {J : Nat → Nat → Int64} {Q : Option AV → Mem → Prop} {L : Lb} {R : Rl} {H : Hl} {r p : Int} (hk : 1 ≤ k) (hX : RX I 0 L R H) (hr : 0 ≤ r ∧ r < nR L) (hp : inR p) (h1 : (∃ j, 0 ≤ j ∧ j < H 6 r ∧ H 7 (8 * r + j) = p) → Q (some (vI 1)) (mem (rv0 P) I J)) (h0 : (∀ j, 0 ≤ j → j < H 6 r → ¬ H 7 (8 * r + j) = p) → Q (some (vI 0)) (mem (rv0 P) I J)) : WPm k LAY m_X12_isListed [vR (some 74), vI 0, vI r, vI p] (mem (rv0 P) I J) Q := by
  have hR6 := hX.1.2.2.2.2.1.2.2.1
  have q8 := (hX.2.2.1.2.2 r hr.1 hr.2).2.2.2.2.1
  refine WPm.of k_X12_isListed.1 (Nat.le_of_ble_eq_true rfl) (B_X12_isListed_0 (by omega) ?_)
  rw [show (6 * 0 + r) = r by omega]
  have loop : ∀ (d n : Nat) (x : Int), n + d = (H 6 r).toNat → x = n → (∀ j, 0 ≤ j → j < x → ¬ H 7 (8 * r + j) = p) → WP k LAY m_X12_isListed 11 [(0, vR (some 74)), (3, vI p), (4, vI r), (5, vI x)] [] (mem (rv0 P) I J) Q := by
    intro d
    induction d with
    | zero =>
      intro n x hn hx hj
      refine B_X12_isListed_11 (by omega) ?_
      rw [rx_6' hX hr]
      exact ⟨⟨by omega, by omega⟩, ⟨by omega, by omega⟩, fun _ => h0 (fun j j0 j1 => hj j j0 (by omega)), fun q => absurd q (by omega)⟩
    | succ d ih =>
      intro n x hn hx hj
      refine B_X12_isListed_11 (by omega) ?_
      rw [rx_6' hX hr, rx_7' hX hr (k := x) ⟨by omega, by omega⟩]
      refine ⟨⟨by omega, by omega⟩, ⟨by omega, by omega⟩, fun q => absurd q (by omega), fun _ => ⟨⟨by omega, by omega⟩, hp, fun q => ?_, fun q => h1 ⟨x, by omega, by omega, q⟩⟩⟩
      refine ih (n + 1) _ (by omega) (by omega) (fun j j0 j1 => ?_)
      by_cases e : j = x
      · rw [e]
        exact q
      · exact hj j j0 (by omega)
  exact loop _ 0 _ (Nat.zero_add _) rfl (fun j j0 j1 => absurd j0 (by omega))
/-- whether a page may be put behind a list -/
def canL (L : Lb) (H : Hl) (x y : Int) : Prop := (0 ≤ x ∧ x < nR L) ∧ (0 ≤ y ∧ y < nP L) ∧ H 6 x < 8 ∧ (kn H x).testBit y.toNat = false ∧ ∀ j, 0 ≤ j → j < H 6 x → ¬ H 7 (8 * x + j) = y
theorem S_X2_mayL {k : Nat} {P : Option Nat} {I : Nat → Nat → Int32} {J : Nat → Nat → Int64} {Q : Option AV → Mem → Prop} {L : Lb} {R : Rl} {H : Hl} {x y : Int} (hk : 2 ≤ k) (hX : CX I L R H) (hx : 0 ≤ x ∧ x < nR L) (hy : 0 ≤ y ∧ y < nP L) (h1 : canL L H x y → Q (some (vI 1)) (mem (rv0 P) I J)) (h0 : ¬ canL L H x y → Q (some (vI 0)) (mem (rv0 P) I J)) : WPm k LAY m_X2_mayList [vR (some 4), vI x, vI y] (mem (rv0 P) I J) Q := by
  have hL := hX.1.2.2.2.1
  have hR6 := hL.2.2.1
  have hP := hL.2.1
  have hkl := (kn_lt hL hX.2.2 hx).2
  have hyn : y = ((y.toNat : Nat) : Int) := (Int.toNat_of_nonneg hy.1).symm
  have ht : and32 ((kn H x : Nat) : Int) (shl32 1 y) = 0 ↔ (kn H x).testBit y.toNat = false := by
    have := andp_iff (x := kn H x) (by omega) (k := y.toNat) (by omega)
    rwa [← hyn] at this
  refine WPm.of k_X2_mayList.1 (Nat.le_of_ble_eq_true rfl) (B_X2_mayList_0 (by omega) ?_)
  rw [cx_6 hX hx, cx_kn hX hx, ht]
  refine ⟨⟨by omega, by omega⟩, fun q => h0 (fun w => absurd w.2.2.1 (by omega)), fun q => ⟨⟨by omega, by omega⟩, ⟨by omega, by omega⟩, fun q2 => h0 (fun w => q2 w.2.2.2.1), fun q2 => ?_⟩⟩
  refine S_X2_place (by omega) hX hx ⟨by omega, by omega⟩ (fun z z0 z1 z2 z3 => ⟨_, _, _, rfl, rfl, ⟨by omega, by omega⟩, fun q3 => ?_, fun q3 => ?_⟩)
  · exact h0 (fun w => w.2.2.2.2 z z0 (by omega) (z3 (by omega)))
  · exact h1 ⟨hx, hy, by omega, q2, fun j j0 j1 => z2 j j0 (by omega)⟩
theorem step_list {V V' : Cpl} (hA : Vact V V') (x y : Int) (hx : inR x) (hy : inR y) : Step V V' m_X11_list m_X12_list [x, y] := by
  intro P I J hV
  obtain ⟨hH, hst⟩ := hA.1 I J hV
  have hH0 := hH
  obtain ⟨⟨hC, hR, h72, h73⟩, hVP, hK, hrn⟩ := hH
  have hL := hC.1.2.2.2.1
  have hR6 := hL.2.2.1
  have hP := hL.2.1
  obtain ⟨p1, p2, p3, p4, -, -⟩ := hVP
  have e2 : gi I 6 (2 : Int).toNat = nR (LC I) := cx_n hC
  have e1 : gi I 6 (1 : Int).toNat = nP (LC I) := cx_p hC
  have hbt : ∀ X, RX X 0 (LC I) (RC I) (HC I) → (0 ≤ x ∧ x < nR (LC I)) → (0 ≤ y ∧ y < nP (LC I)) → (and32 (shr32 (or32 (gi X 111 ((6 * 0) + x).toNat) (gi X 112 ((6 * 0) + x).toNat)) y) 1 = 1 ↔ (kn (HC I) x).testBit y.toNat = true) := by
    intro X hX q q2
    have hyn : y = ((y.toNat : Nat) : Int) := (Int.toNat_of_nonneg q2.1).symm
    have hkl := (kn_lt hL hC.2.2 q).2
    have := has_iff (x := kn (HC I) x) (by omega) (k := y.toNat) (by omega)
    rw [rx_kn hX q]
    rwa [← hyn] at this
  have no : ¬ canL (LC I) (HC I) x y → WPm 900 LAY m_X12_list (vR (some 74) :: [x, y].map vI) (mem (rv0 P) (si I 73 2 (gi I 73 2 + 1)) J) (fun r2 M2 => r2 = some (vI 0) ∧ Cpl2 V' M2) := by
    intro hn
    refine ref_R 2 (by decide) (hA.2.2 I J 2 hV (by decide)) (fun Q hQ => ?_)
    have hR1 := rx_73 hR 2 (gi I 73 2 + 1)
    refine WPm.of k_X12_list.1 (Nat.le_of_ble_eq_true rfl) (B_X12_list_0 (by omega) ?_)
    rw [rx_n hR1, rx_p hR1]
    refine ⟨rx_b hR1, hx, fun q => hQ, fun q => ⟨hy, fun q2 => hQ, fun q2 => ⟨⟨by omega, by omega⟩, fun q3 => hQ, fun q3 => ?_⟩⟩⟩
    rw [hbt _ hR1 q q2] at q3
    refine S_X12_listed (by omega) hR1 q hy (fun w => ⟨_, _, _, rfl, rfl, by decide, fun _ => hQ, fun w => absurd w (by decide)⟩) (fun w => ⟨_, _, _, rfl, rfl, by decide, fun w => absurd rfl w, fun _ => ⟨⟨by omega, by omega⟩, fun _ => hQ, fun q4 => absurd ⟨q, q2, ?_, ?_, w⟩ hn⟩⟩)
    · rw [rx_6' hR1 q] at q4
      omega
    · cases h : (kn (HC I) x).testBit y.toNat
      · rfl
      · exact absurd h q3
  refine WPm.of k_X11_list.1 (Nat.le_of_ble_eq_true rfl) (B_X11_list_0 (by omega) ?_)
  rw [e2, e1]
  refine ⟨hx, fun q => Step.put (by decide) rfl (no (fun w => q w.1)), fun q => ⟨hy, fun q2 => Step.put (by decide) rfl (no (fun w => q2 w.2.1)), fun q2 => ?_⟩⟩
  refine S_X2_mayL (by omega) hC q q2 (fun hcan => ⟨_, _, _, rfl, rfl, by decide, fun _ => ?_, fun w => absurd w (by decide)⟩) (fun hcan => ⟨_, _, _, rfl, rfl, by decide, fun w => absurd rfl w, fun _ => Step.put (by decide) rfl (no hcan)⟩)
  obtain ⟨-, -, c8, cb, cl⟩ := hcan
  have hw := hC.2.2.2.2 x q.1 q.2
  have q8 := hw.2.2.2.2.1
  have m6 : gi (remI I) 19 ((3 + (x * 14)) + 5).toNat = HC I 6 x := (gi_eq (rem_at I (by decide) (by omega))).trans (cx_6 hC q)
  change ((0 : Int) ≤ gi I 4 4 * 87 ∧ gi I 4 4 * 87 + 87 ≤ 1740) ∧ inR (gi I 4 5 + 1) ∧ (0 ≤ (3 + x * 14) + 5 ∧ (3 + x * 14) + 5 < 87) ∧ ((8 ≤ gi (remI I) 19 ((3 + (x * 14)) + 5).toNat → _) ∧ (¬ 8 ≤ gi (remI I) 19 ((3 + (x * 14)) + 5).toNat → (0 ≤ (3 + x * 14) + (6 + gi (remI I) 19 ((3 + (x * 14)) + 5).toNat) ∧ (3 + x * 14) + (6 + gi (remI I) 19 ((3 + (x * 14)) + 5).toNat) < 87) ∧ (∃ z, some (vI 1) = some (vI z) ∧ inR z ∧ (mem (rv0 P) (si (si (remI I) 19 ((3 + (x * 14)) + (6 + gi (remI I) 19 ((3 + (x * 14)) + 5).toNat)).toNat y) 19 ((3 + (x * 14)) + 5).toNat (gi (remI I) 19 ((3 + (x * 14)) + 5).toNat + 1)) J).1 = LAY ∧ WPm 900 LAY m_X12_list (vR (some 74) :: [x, y].map vI) (mem (rv0 P) (si (si (remI I) 19 ((3 + (x * 14)) + (6 + gi (remI I) 19 ((3 + (x * 14)) + 5).toNat)).toNat y) 19 ((3 + (x * 14)) + 5).toNat (gi (remI I) 19 ((3 + (x * 14)) + 5).toNat + 1)) J) (fun r2 M2 => r2 = some (vI z) ∧ Cpl2 V' M2))))
  rw [m6]
  refine ⟨⟨by omega, by omega⟩, ⟨by omega, by omega⟩, ⟨by omega, by omega⟩, fun w => absurd w (by omega), fun _ => ⟨⟨by omega, by omega⟩, Step.put (by decide) rfl ?_⟩⟩
  generalize hn6 : HC I 6 x = n at *
  have h1 : ∀ c k, c ≠ 19 → si (si (remI I) 19 ((3 + (x * 14)) + (6 + n)).toNat y) 19 ((3 + (x * 14)) + 5).toNat (n + 1) c k = remI I c k := fun c k p => by rw [si_at, if_neg (fun w => p w.1), si_at, if_neg (fun w => p w.1)]
  have g19 : ∀ k : Nat, k ≠ ((3 + (x * 14)) + (6 + n)).toNat → k ≠ ((3 + (x * 14)) + 5).toNat → gi (si (si (remI I) 19 ((3 + (x * 14)) + (6 + n)).toNat y) 19 ((3 + (x * 14)) + 5).toNat (n + 1)) 19 k = gi I 19 k := fun k a b => by
    rw [gi_idx _ _ _ b, gi_idx _ _ _ a]
    exact gi_eq (rem_at I (by decide) (by omega))
  have s5 : gi (si (si (remI I) 19 ((3 + (x * 14)) + (6 + n)).toNat y) 19 ((3 + (x * 14)) + 5).toNat (n + 1)) 19 ((3 + (x * 14)) + 5).toNat = n + 1 := gi_same _ _ _ ⟨by omega, by omega⟩
  have s6 : gi (si (si (remI I) 19 ((3 + (x * 14)) + (6 + n)).toNat y) 19 ((3 + (x * 14)) + 5).toNat (n + 1)) 19 ((3 + (x * 14)) + (6 + n)).toNat = y := by
    rw [gi_idx _ _ _ (by omega)]
    exact gi_same _ _ _ hy
  generalize si (si (remI I) 19 ((3 + (x * 14)) + (6 + n)).toNat y) 19 ((3 + (x * 14)) + 5).toNat (n + 1) = I1 at h1 g19 s5 s6 ⊢
  have hR1 := rx_rem hR h1
  have f65 : gi I1 74 65 = gi I 74 65 := rem_lay0 h1 (by decide)
  have f66 : gi I1 74 66 = gi I 74 66 := rem_lay0 h1 (by decide)
  have l0 : ∀ c k, 110 ≤ c ∧ c ≤ 115 → k < 6 → gi (keeI I1) c k = gi I c k := fun c k hc hk => (gi_eq (kee_0 I1 hc hk)).trans (rem_lay0 h1 ⟨by omega, by omega, by omega⟩)
  have a6 : gi (keeI I1) 115 (x).toNat = n := (l0 115 _ (by decide) (by omega)).trans ((rx_6' hR q).trans hn6)
  refine WPm.of k_X12_list.1 (Nat.le_of_ble_eq_true rfl) (B_X12_list_0 (by omega) ?_)
  rw [rx_n hR1, rx_p hR1, hbt _ hR1 q q2]
  refine ⟨rx_b hR1, hx, fun w => absurd q w, fun _ => ⟨hy, fun w => absurd q2 w, fun _ => ⟨⟨by omega, by omega⟩, fun w => absurd w (by rw [cb]; decide), fun _ => ?_⟩⟩⟩
  refine S_X12_listed (by omega) hR1 q hy (fun ⟨j, j0, j1, j2⟩ => absurd j2 (cl j j0 (by omega))) (fun _ => ⟨_, _, _, rfl, rfl, by decide, fun w => absurd rfl w, fun _ => ⟨⟨by omega, by omega⟩, fun w => absurd w (by rw [rx_6' hR1 q]; omega), fun _ => ?_⟩⟩)
  refine S_X12_keeps (by omega) (by omega) (by omega) ⟨_, _, rfl, rfl, ?_⟩
  show (0 ≤ 8 * x + gi (keeI I1) 115 (x).toNat ∧ 8 * x + gi (keeI I1) 115 (x).toNat < 1056) ∧ some (vI 1) = some (vI 1) ∧ Cpl2 V' (mem (rv0 P) (si (si (keeI I1) 116 ((8 * x) + gi (keeI I1) 115 (x).toNat).toNat y) 115 (x).toNat (gi (keeI I1) 115 (x).toNat + 1)) J)
  rw [a6]
  refine ⟨⟨by omega, by omega⟩, rfl, ?_⟩
  have fin : VH (si (si (keeI I1) 116 ((8 * x) + n).toNat y) 115 (x).toNat (n + 1)) ∧ LC (si (si (keeI I1) 116 ((8 * x) + n).toNat y) 115 (x).toNat (n + 1)) = LC I ∧ RC (si (si (keeI I1) 116 ((8 * x) + n).toNat y) 115 (x).toNat (n + 1)) = RC I ∧ actS I (si (si (keeI I1) 116 ((8 * x) + n).toNat y) 115 (x).toNat (n + 1)) := by
    have u : ∀ c k, ¬ (c = 116 ∧ k = ((8 * x) + n).toNat) → ¬ (c = 115 ∧ k = (x).toNat) → si (si (keeI I1) 116 ((8 * x) + n).toNat y) 115 (x).toNat (n + 1) c k = keeI I1 c k := fun c k a b => by rw [si_at, if_neg b, si_at, if_neg a]
    obtain ⟨l, hl1, hl2⟩ : ∃ l : Int → Int, l n = y ∧ ∀ k, k ≠ n → l k = HC I 7 (8 * x + k) := ⟨fun k => if k = n then y else HC I 7 (8 * x + k), if_pos rfl, fun k hk => if_neg hk⟩
    refine VH.act (I1 := I1) (l := l) hH0 hst q h1 (fun k hk => g19 k (by omega) (by omega)) (fun c k hck => u c k (by omega) (by omega)) (fun c k hc hk kx => ?_) (fun k hk kx => ?_) ?_ (fun k k0 k1 => ?_) ?_ (g19 _ (by omega) (by omega))
    · rw [gi_eq (u c k (by omega) (by omega))]
      exact l0 c k hc hk
    · rw [gi_eq (u 116 k (by omega) (by omega)), gi_eq (kee_1 I1 hk)]
      exact rem_lay0 h1 ⟨by omega, by omega, by omega⟩
    · rw [s5, g19 _ (by omega) (by omega), g19 _ (by omega) (by omega), g19 _ (by omega) (by omega), g19 _ (by omega) (by omega), g19 _ (by omega) (by omega), cx_1 hC q, cx_2 hC q, cx_3 hC q, cx_4 hC q, cx_5 hC q]
      obtain ⟨w1, w2, w3, w4, w5, w6, w7⟩ := hw
      refine ⟨w1, w2, w3, w4, ⟨by omega, by omega⟩, fun k k0 k1 => ?_, ?_⟩
      · by_cases e : k = n
        · rw [e, hl1]
          refine ⟨q2, cb, fun j j0 j1 => ?_⟩
          rw [hl2 j (by omega)]
          exact cl j j0 (by omega)
        · rw [hl2 k e]
          obtain ⟨t1, t2, t3⟩ := w6 k k0 (by omega)
          refine ⟨t1, t2, fun j j0 j1 => ?_⟩
          rw [hl2 j (by omega)]
          exact t3 j j0 j1
      · rcases w7 with w7 | ⟨w7, k, k0, k1, k2⟩
        · exact Or.inl w7
        · refine Or.inr ⟨w7, k, k0, by omega, ?_⟩
          rw [hl2 k (by omega)]
          exact k2
    · rw [s5] at k1
      by_cases e : k = n
      · rw [e, hl1]
        exact s6
      · rw [hl2 k e, g19 _ (by omega) (by omega), cx_7 hC q ⟨k0, by omega⟩]
    · have k19 : gi (si (si (keeI I1) 116 ((8 * x) + n).toNat y) 115 (x).toNat (n + 1)) 19 = gi I1 19 := gi_row (funext fun k => by rw [u 19 k (by omega) (by omega), kee_at I1 (by decide) (by omega)])
      obtain ⟨w1, w2, w3, w4, w5, w6, w7⟩ := Rec1.of hC hR q
      unfold Rec1
      rw [k19, s5, g19 _ (by omega) (by omega), g19 _ (by omega) (by omega), g19 _ (by omega) (by omega), g19 _ (by omega) (by omega), g19 _ (by omega) (by omega)]
      refine ⟨?_, ?_, ?_, ?_, ?_, gi_same _ _ _ ⟨by omega, by omega⟩, fun k k0 k1 => ?_⟩
      · rw [gi_eq (u 110 _ (by omega) (by omega)), l0 110 _ (by decide) (by omega)]
        exact w1
      · rw [gi_eq (u 111 _ (by omega) (by omega)), l0 111 _ (by decide) (by omega)]
        exact w2
      · rw [gi_eq (u 112 _ (by omega) (by omega)), l0 112 _ (by decide) (by omega)]
        exact w3
      · rw [gi_eq (u 113 _ (by omega) (by omega)), l0 113 _ (by decide) (by omega)]
        exact w4
      · rw [gi_eq (u 114 _ (by omega) (by omega)), l0 114 _ (by decide) (by omega)]
        exact w5
      · by_cases e : k = n
        · rw [e, s6, gi_cell _ _ _ _ (by decide)]
          exact gi_same _ _ _ hy
        · rw [cx_6 hC q, hn6] at w7
          rw [gi_eq (u 116 _ (by omega) (by omega)), gi_eq (kee_1 I1 (by omega)), g19 _ (by omega) (by omega), ← w7 k k0 (by omega)]
          exact rem_lay0 h1 ⟨by omega, by omega, by omega⟩
  exact Cpl2.here (hA.2.1 I J _ J hV fin.1 fin.2.1 fin.2.2.1 fin.2.2.2 (scrJ.rf J))
end LISTS

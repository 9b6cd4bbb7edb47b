section SEATS
theorem kee_0 (I : Nat → Nat → Int32) {c k : Nat} (hc : 110 ≤ c ∧ c ≤ 115) (hk : k < 6) : keeI I c k = I c k := by
  have := ((kee_lay I).2 0 (by omega)).2.1 c k hc hk
  rwa [show 6 * 0 + k = k by omega] at this
theorem kee_1 (I : Nat → Nat → Int32) {k : Nat} (hk : k < 48) : keeI I 116 k = I 116 k := by
  have := ((kee_lay I).2 0 (by omega)).2.2.1 k hk
  rwa [show 48 * 0 + k = k by omega] at this
theorem kee_8 (I : Nat → Nat → Int32) {c : Nat} (hc : c = 108 ∨ c = 109 ∨ c = 117) : keeI I c 0 = I c 0 := ((kee_lay I).2 0 (by omega)).1 c hc
theorem kee_k (I : Nat → Nat → Int32) {c k : Nat} (hc : 118 ≤ c ∧ c ≤ 120) (hk : k < 60) : keeI I c k = I c k := by
  have := ((kee_lay I).2 0 (by omega)).2.2.2 c k hc hk
  rwa [show 60 * 0 + k = k by omega] at this
theorem KP0_fr {I I' : Nat → Nat → Int32} {kc : Int} (h : KP I kc 0) (h7 : gi I' 117 0 = gi I 117 0) (h8 : ∀ c k : Nat, 118 ≤ c ∧ c ≤ 120 → k < 60 → gi I' c k = gi I c k) (hg : ∀ j : Nat, (j : Int) < kc → gi I' 20 j = gi I 20 j) : KP I' kc 0 := by
  obtain ⟨h1, h2, h3⟩ := h
  have h2' : gi I 117 0 = min 60 kc := h2
  refine ⟨h1, h7.trans h2', fun k k0 k1 => ?_⟩
  rw [h8 118 _ (by decide) (by omega), h8 119 _ (by decide) (by omega), h8 120 _ (by decide) (by omega), hg _ (by omega)]
  exact h3 k k0 k1
/-- an act on one reader's record, all that it wants -/
theorem VH.act {I I1 I' : Nat → Nat → Int32} {x : Int} {l : Int → Int} (hV : VH I) (hst : 0 ≤ gi I 4 6 ∧ gi I 4 6 < 1000000) (hx : 0 ≤ x ∧ x < nR (LC I)) (h1 : ∀ c k, c ≠ 19 → I1 c k = remI I c k) (c19 : ∀ k : Nat, ¬ (3 + 14 * x ≤ (k : Int) ∧ (k : Int) < 3 + 14 * x + 14) → gi I1 19 k = gi I 19 k) (h2 : ∀ c k, ¬ (110 ≤ c ∧ c ≤ 116 ∧ k < 48 ∧ (c ≠ 116 → k < 6)) → I' c k = keeI I1 c k) (r110 : ∀ c k : Nat, 110 ≤ c ∧ c ≤ 115 → k < 6 → (k : Int) ≠ x → gi I' c k = gi I c k) (r116 : ∀ k : Nat, k < 48 → ¬ (8 * x ≤ (k : Int) ∧ (k : Int) < 8 * x + 8) → gi I' 116 k = gi I 116 k)
    (hw : WfRec (LC I) (gi I1 19 ((3 + (x * 14)) + 0).toNat) (gi I1 19 ((3 + (x * 14)) + 1).toNat) (gi I1 19 ((3 + (x * 14)) + 2).toNat) (gi I1 19 ((3 + (x * 14)) + 3).toNat) (gi I1 19 ((3 + (x * 14)) + 4).toNat) (gi I1 19 ((3 + (x * 14)) + 5).toNat) l) (hl7 : ∀ k, 0 ≤ k → k < gi I1 19 ((3 + (x * 14)) + 5).toNat → gi I1 19 ((3 + (x * 14)) + (6 + k)).toNat = l k) (hrec : Rec1 I' x) (hrd : gi I1 19 ((3 + (x * 14)) + 1).toNat = gi I 19 ((3 + (x * 14)) + 1).toNat) : VH I' ∧ LC I' = LC I ∧ RC I' = RC I ∧ actS I I' := by
  have hnow := hV.now
  obtain ⟨⟨hC, hR, h72, h73⟩, hVP, hK, hrn⟩ := hV
  have hL := hC.1.2.2.2.1
  have hR6 := hL.2.2.1
  have i1 : ∀ c k, ¬ c = 19 → ¬ c = 21 → ¬ (c = 4 ∧ (k = 4 ∨ k = 5 ∨ k = 6)) → I1 c k = I c k := fun c k p q r => (h1 c k p).trans (rem_at I q r)
  have k1 : ∀ c k, ¬ (108 ≤ c ∧ c ≤ 120) → ¬ (c = 74 ∧ (k = 65 ∨ k = 66)) → I' c k = I1 c k := fun c k p q => (h2 c k (by omega)).trans (kee_at I1 p q)
  have i2 : ∀ c k, ¬ (108 ≤ c ∧ c ≤ 120) → ¬ (c = 74 ∧ (k = 65 ∨ k = 66)) → ¬ c = 19 → ¬ c = 21 → ¬ (c = 4 ∧ (k = 4 ∨ k = 5 ∨ k = 6)) → I' c k = I c k := fun c k p q r s t => (k1 c k p q).trans (i1 c k r s t)
  have e19 : gi I' 19 = gi I1 19 := gi_row (funext fun k => k1 19 k (by decide) (by omega))
  have hl : sameL I I' := fun c a b => funext fun k => i2 c k (by omega) (by omega) (by omega) (by omega) (by omega)
  have hrl : sameRL I I' := ⟨fun c a b => funext fun k => i2 c k (by omega) (by omega) (by omega) (by omega) (by omega), gi_eq (i2 74 13 (by decide) (by decide) (by decide) (by decide) (by decide))⟩
  have k8 : ∀ c, c = 108 ∨ c = 109 ∨ c = 117 → gi I' c 0 = gi I c 0 := fun c hc => gi_eq ((h2 c 0 (by omega)).trans ((kee_8 I1 hc).trans (i1 c 0 (by omega) (by omega) (by omega))))
  obtain ⟨hC', hR', oC⟩ := act_one (l := l) hC hR hx hl hrl (by rw [e19]; exact c19) r110 r116 (k8 108 (Or.inl rfl)) (k8 109 (Or.inr (Or.inl rfl))) (by rw [e19]; exact hw) (by rw [e19]; exact hl7) hrec
  have eL : LC I' = LC I := hC'.1.1
  have eR : RC I' = RC I := hC'.1.2.1
  have hkc : gi I' 19 2 = gi I 19 2 := by rw [e19]; exact c19 2 (by omega)
  have hr2 : rdN (LC I) (HC I') = rdN (LC I) (HC I) := by
    unfold rdN
    refine smi_congr (fun i hi => ?_)
    by_cases ix : (i : Int) = x
    · have v2 := (hc_f I' (i := (i : Int)) (by rw [cx_n hC']; exact ⟨by omega, by omega⟩)).2.1
      have m2 := cx_2 hC hx
      rw [v2, e19, ix, hrd, m2]
    · rw [oC i (by omega) (by omega) ix 2 (by decide) (by decide)]
  refine ⟨⟨⟨by rw [eL, eR]; exact hC', by rw [eL, eR]; exact hR', ?_, ?_⟩, ?_, ?_, ?_⟩, eL, eR, ?_, ?_⟩
  · exact (gi_eq (i2 74 72 (by decide) (by decide) (by decide) (by decide) (by decide))).trans h72
  · exact (gi_eq (i2 74 73 (by decide) (by decide) (by decide) (by decide) (by decide))).trans h73
  · rw [eL]
    exact act_VP hL (rx_n hR) hVP hnow h1 (c19 2 (by omega)) h2
  · rw [hkc]
    exact KP0_fr hK (k8 117 (Or.inr (Or.inr rfl))) (fun c k hc hk => gi_eq ((h2 c k (by omega)).trans ((kee_k I1 hc hk).trans (i1 c k (by omega) (by omega) (by omega))))) (fun j _ => gi_eq (i2 20 j (by decide) (by omega) (by decide) (by decide) (by omega)))
  · rw [eL, hr2, hkc]
    exact hrn
  · intro c k s1 s2 n1 n2 n3
    exact i2 c k (by omega) n3 (by omega) (by omega) n2
  · rw [gi_eq (k1 4 6 (by decide) (by decide)), gi_eq (h1 4 6 (by decide))]
    unfold remI
    rw [gi_same _ _ _ ⟨by omega, by omega⟩]
/-- what acts want of a coupling -/
def Vact (V V' : Cpl) : Prop := (∀ I J, V I J → VH I ∧ 0 ≤ gi I 4 6 ∧ gi I 4 6 < 1000000) ∧ (∀ I J I' J', V I J → VH I' → LC I' = LC I → RC I' = RC I → actS I I' → scrJ J J' → V' I' J') ∧ ∀ I J j, V I J → j < 6 → V' (refI I j) J
theorem rem_lay0 {I I1 : Nat → Nat → Int32} (h1 : ∀ c k, c ≠ 19 → I1 c k = remI I c k) {c k : Nat} (hc : ¬ c = 19 ∧ ¬ c = 21 ∧ ¬ c = 4) : gi I1 c k = gi I c k := gi_eq ((h1 c k hc.1).trans (rem_at I hc.2.1 (by omega)))
theorem rx_rem {I I1 : Nat → Nat → Int32} {L : Lb} {R : Rl} {H : Hl} (hR : RX I 0 L R H) (h1 : ∀ c k, c ≠ 19 → I1 c k = remI I c k) : RX I1 0 L R H := by
  have e : ∀ c k, ¬ c = 19 → ¬ c = 21 → ¬ c = 4 → I1 c k = I c k := fun c k p q r => (h1 c k p).trans (rem_at I q (by omega))
  exact hR.fr ⟨⟨fun c a b => funext fun k => e c k (by omega) (by omega) (by omega), gi_eq (e 74 13 (by decide) (by decide) (by decide))⟩, fun c a b => funext fun k => e c k (by omega) (by omega) (by omega)⟩
/-- refused on both sides -/
theorem ref_R {V' : Cpl} {mR : MD} {as : List Int} {P : Option Nat} {I : Nat → Nat → Int32} {J : Nat → Nat → Int64} {z : Int} (j : Nat) (hj : j < 6) (hV : V' (refI I j) J) (h : ∀ Q : Option AV → Mem → Prop, Q (some (vI z)) (mem (rv0 P) (si (si I 73 j (gi I 73 j + 1)) 107 j (gi (si I 73 j (gi I 73 j + 1)) 107 j + 1)) J) → WPm 900 LAY mR (vR (some 74) :: as.map vI) (mem (rv0 P) (si I 73 j (gi I 73 j + 1)) J) Q) : WPm 900 LAY mR (vR (some 74) :: as.map vI) (mem (rv0 P) (si I 73 j (gi I 73 j + 1)) J) (fun r2 M2 => r2 = some (vI z) ∧ Cpl2 V' M2) := by
  refine h _ ⟨rfl, ?_⟩
  have e2 : gi (si I 73 j (gi I 73 j + 1)) 107 j = gi I 107 j := gi_cell _ _ _ _ (by decide)
  rw [e2]
  exact Cpl2.here hV
theorem rx_73 {I : Nat → Nat → Int32} {v : Int} {L : Lb} {R : Rl} {H : Hl} (hR : RX I v L R H) (j : Nat) (z : Int) : RX (si I 73 j z) v L R H := by
  have e : ∀ c k, ¬ c = 73 → si I 73 j z c k = I c k := fun c k p => by rw [si_at, if_neg (fun q => p q.1)]
  exact hR.fr ⟨⟨fun c a b => funext fun k => e c k (by omega), gi_eq (e 74 13 (by decide))⟩, fun c a b => funext fun k => e c k (by omega)⟩
theorem step_seat {V V' : Cpl} (hA : Vact V V') (x y : Int) (hx : inR x) (hy : inR y) : Step V V' m_X11_seat m_X12_seat [x, y] := by
  intro P I J hV
  obtain ⟨hH, hst⟩ := hA.1 I J hV
  have hH0 := hH
  obtain ⟨⟨hC, hR, h72, h73⟩, hVP, hK, hrn⟩ := hH
  have hL := hC.1.2.2.2.1
  have hR6 := hL.2.2.1
  have hT := hL.2.2.2.1
  obtain ⟨p1, p2, p3, p4, -, -⟩ := hVP
  have e2 : gi I 6 (2 : Int).toNat = nR (LC I) := cx_n hC
  have e3 : gi I 6 (3 : Int).toNat = nT (LC I) := cx_t hC
  have no : ¬ ((0 ≤ x ∧ x < nR (LC I)) ∧ (0 ≤ y ∧ y < nT (LC I)) ∧ ¬ HC I 1 x = y) → WPm 900 LAY m_X12_seat (vR (some 74) :: [x, y].map vI) (mem (rv0 P) (si I 73 2 (gi I 73 2 + 1)) J) (fun r2 M2 => r2 = some (vI 0) ∧ Cpl2 V' M2) := by
    intro hn
    refine ref_R 2 (by decide) (hA.2.2 I J 2 hV (by decide)) (fun Q hQ => ?_)
    have hR1 := rx_73 hR 2 (gi I 73 2 + 1)
    refine WPm.of k_X12_seat.1 (Nat.le_of_ble_eq_true rfl) (B_X12_seat_0 (by omega) ?_)
    rw [rx_n hR1, rx_t hR1]
    refine ⟨rx_b hR1, hx, fun q => hQ, fun q => ⟨hy, fun q2 => hQ, fun q2 => ⟨⟨by omega, by omega⟩, fun q3 => hQ, fun q3 => absurd ⟨q, q2, ?_⟩ hn⟩⟩⟩
    rw [rx_1' hR1 q] at q3
    exact q3
  refine WPm.of k_X11_seat.1 (Nat.le_of_ble_eq_true rfl) (B_X11_seat_0 (by omega) ?_)
  rw [e2, e3]
  refine ⟨hx, fun q => Step.put (by decide) rfl (no (fun w => q w.1)), fun q => ⟨hy, fun q2 => Step.put (by decide) rfl (no (fun w => q2 w.2.1)), fun q2 => ?_⟩⟩
  rw [cx_1 hC q]
  refine ⟨⟨by omega, by omega⟩, fun q3 => ⟨⟨by omega, by omega⟩, ⟨by omega, by omega⟩, Step.put (by decide) rfl ?_⟩, fun q3 => Step.put (by decide) rfl (no (fun w => w.2.2 q3))⟩
  change WPm 900 LAY m_X12_seat (vR (some 74) :: [x, y].map vI) (mem (rv0 P) (si (remI I) 19 ((3 + (x * 14)) + 0).toNat y) J) (fun r2 M2 => r2 = some (vI 1) ∧ Cpl2 V' M2)
  have h1 : ∀ c k, c ≠ 19 → si (remI I) 19 ((3 + (x * 14)) + 0).toNat y c k = remI I c k := fun c k p => by rw [si_at, if_neg (fun w => p w.1)]
  have g19 : ∀ k : Nat, k ≠ ((3 + (x * 14)) + 0).toNat → gi (si (remI I) 19 ((3 + (x * 14)) + 0).toNat y) 19 k = gi I 19 k := fun k p => by
    rw [gi_idx _ _ _ p]
    exact gi_eq (rem_at I (by decide) (by omega))
  have s19 : gi (si (remI I) 19 ((3 + (x * 14)) + 0).toNat y) 19 ((3 + (x * 14)) + 0).toNat = y := gi_same _ _ _ hy
  generalize si (remI I) 19 ((3 + (x * 14)) + 0).toNat y = I1 at h1 g19 s19 ⊢
  have hR1 := rx_rem hR h1
  have f65 : gi I1 74 65 = gi I 74 65 := rem_lay0 h1 (by decide)
  have f66 : gi I1 74 66 = gi I 74 66 := rem_lay0 h1 (by decide)
  refine WPm.of k_X12_seat.1 (Nat.le_of_ble_eq_true rfl) (B_X12_seat_0 (by omega) ?_)
  rw [rx_n hR1, rx_t hR1]
  refine ⟨rx_b hR1, hx, fun w => absurd q w, fun _ => ⟨hy, fun w => absurd q2 w, fun _ => ⟨⟨by omega, by omega⟩, fun w => absurd (by rw [rx_1' hR1 q] at w; exact w) q3, fun _ => ?_⟩⟩⟩
  refine S_X12_keeps (by omega) (by omega) (by omega) ⟨_, _, rfl, rfl, rfl, ?_⟩
  have fin : VH (si (keeI I1) 110 (x).toNat y) ∧ LC (si (keeI I1) 110 (x).toNat y) = LC I ∧ RC (si (keeI I1) 110 (x).toNat y) = RC I ∧ actS I (si (keeI I1) 110 (x).toNat y) := by
    refine VH.act (I' := si (keeI I1) 110 (x).toNat y) (l := fun k => HC I 7 (8 * x + k)) hH0 hst q h1 (fun k hk => g19 k (by omega)) (fun c k hck => by rw [si_at, if_neg (by omega)]) (fun c k hc hk kx => ?_) (fun k hk kx => ?_) ?_ (fun k k0 k1 => ?_) ?_ (g19 _ (by omega))
    · have e : si (keeI I1) 110 (x).toNat y c k = keeI I1 c k := by rw [si_at, if_neg (by omega)]
      rw [gi_eq e, gi_eq (kee_0 I1 hc hk)]
      exact rem_lay0 h1 ⟨by omega, by omega, by omega⟩
    · have e : si (keeI I1) 110 (x).toNat y 116 k = keeI I1 116 k := by rw [si_at, if_neg (by omega)]
      rw [gi_eq e, gi_eq (kee_1 I1 hk)]
      exact rem_lay0 h1 ⟨by omega, by omega, by omega⟩
    · rw [s19, g19 _ (by omega), g19 _ (by omega), g19 _ (by omega), g19 _ (by omega), g19 _ (by omega), cx_2 hC q, cx_3 hC q, cx_4 hC q, cx_5 hC q, cx_6 hC q]
      exact ⟨q2, (hC.2.2.2.2 x q.1 q.2).rc.2⟩
    · rw [g19 _ (by omega), cx_6 hC q] at k1
      rw [g19 _ (by omega), cx_7 hC q ⟨k0, k1⟩]
    · have k19 : gi (si (keeI I1) 110 (x).toNat y) 19 = gi I1 19 := gi_row (funext fun k => by rw [si_at, if_neg (by omega), kee_at I1 (by decide) (by omega)])
      have k11 : ∀ c, 111 ≤ c ∧ c ≤ 115 → gi (si (keeI I1) 110 (x).toNat y) c (x).toNat = gi I c (x).toNat := fun c hc => by
        have e : si (keeI I1) 110 (x).toNat y c (x).toNat = keeI I1 c (x).toNat := by rw [si_at, if_neg (by omega)]
        rw [gi_eq e, gi_eq (kee_0 I1 (by omega) (by omega))]
        exact rem_lay0 h1 ⟨by omega, by omega, by omega⟩
      obtain ⟨w1, w2, w3, w4, w5, w6, w7⟩ := Rec1.of hC hR q
      unfold Rec1
      rw [k19, s19, k11 111 (by decide), k11 112 (by decide), k11 113 (by decide), k11 114 (by decide), k11 115 (by decide), g19 _ (by omega), g19 _ (by omega), g19 _ (by omega), g19 _ (by omega), g19 _ (by omega)]
      refine ⟨gi_same _ _ _ hy, w2, w3, w4, w5, w6, fun k k0 k1 => ?_⟩
      have q8 := (hC.2.2.2.2 x q.1 q.2).2.2.2.2.1
      have m6 := cx_6 hC q
      have e : si (keeI I1) 110 (x).toNat y 116 ((8 * x) + k).toNat = keeI I1 116 ((8 * x) + k).toNat := by rw [si_at, if_neg (by omega)]
      rw [gi_eq e, gi_eq (kee_1 I1 (by omega)), g19 _ (by omega), ← w7 k k0 k1]
      exact rem_lay0 h1 ⟨by omega, by omega, by omega⟩
  exact Cpl2.here (hA.2.1 I J _ J hV fin.1 fin.2.1 fin.2.2.1 fin.2.2.2 (scrJ.rf J))
end SEATS

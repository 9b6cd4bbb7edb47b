section GOESR
/-! ===== the reference: a night goes; what an evening leaves of both ===== -/
theorem RX.l0 {I I' : Nat → Nat → Int32} {L : Lb} {R : Rl} {H : Hl} (hX : RX I 0 L R H) (hrl : sameRL I I') (hly : LayEq I 0 I' 0) : RX I' 0 L R H := by
  have hR6 := hX.1.2.2.2.2.1.2.2.1
  have hb2 : gi I' 83 (gi I' 74 13).toNat = gi I 83 (gi I 74 13).toNat := by rw [hrl.2, gi_row (hrl.1 83 (by decide) (by decide))]
  have e := HR_lay (v := 0) (v' := 0) hly hb2 (by rw [rx_n hX]; exact hR6.2) (fun r r0 r1 => by
    have r1' : r < nR L := by rw [← rx_n hX]; exact r1
    have := (hX.2.2.1.2.2 r r0 r1').2.2.2.2.1
    rw [show ((6 * ((0 : Nat) : Int)) + r) = r by omega, rx_6' hX ⟨r0, r1'⟩]
    omega)
  exact ⟨hX.1.fr hrl, e.trans hX.2.1, hX.2.2⟩
theorem kpL_lay {I I' : Nat → Nat → Int32} (hly : LayEq I 0 I' 0) (h : 0 ≤ gi I 117 0 ∧ gi I 117 0 ≤ 60) : kpL I' 0 = kpL I 0 := by
  have e7 : gi I' 117 0 = gi I 117 0 := gi_eq (hly.1 117 (Or.inr (Or.inr rfl)))
  have e7' : gi I' 117 (0 : Int).toNat = gi I 117 (0 : Int).toNat := e7
  unfold kpL
  rw [e7']
  refine lsG_congr (fun k k0 k1 => ?_)
  have k1' : k < ((gi I 117 0).toNat : Int) := k1
  have key : ∀ c, 118 ≤ c ∧ c ≤ 120 → gi I' c ((60 * 0) + k).toNat = gi I c ((60 * 0) + k).toNat := fun c hc => by
    have := hly.2.2.2 c k.toNat hc (by omega)
    have e : ((60 * 0) + k).toNat = 60 * 0 + k.toNat := by omega
    rw [e]
    exact gi_eq this
  show (gi I' 118 ((60 * 0) + k).toNat, gi I' 119 ((60 * 0) + k).toNat, gi I' 120 ((60 * 0) + k).toNat) = (gi I 118 ((60 * 0) + k).toNat, gi I 119 ((60 * 0) + k).toNat, gi I 120 ((60 * 0) + k).toNat)
  rw [key 118 (by decide), key 119 (by decide), key 120 (by decide)]
def PasR (I I' : Nat → Nat → Int32) (L : Lb) (R : Rl) (H : Hl) (cold : Int) : Prop := (∀ c k : Nat, ¬ tchA 0 c k → ¬ ((c = 108 ∨ c = 109) ∧ k = 0) → I' c k = I c k) ∧ RX I' 0 L R (nitH L R H cold) ∧ kpL I' 0 = kpN L R H cold (kpL I 0) (nR L).toNat ∧ (0 ≤ gi I' 117 0 ∧ gi I' 117 0 ≤ 60)
theorem S_X12_nightGoes {k : Nat} {P : Option Nat} {I : Nat → Nat → Int32} {J : Nat → Nat → Int64} {Q : Option AV → Mem → Prop} {L : Lb} {R : Rl} {H : Hl} {cold : Int} (hk : 8 ≤ k) (hX : RX I 0 L R H) (h72 : gi I 74 72 = -1) (h73 : gi I 74 73 = cold) (h8 : H 8 0 ≤ 998) (h117 : 0 ≤ gi I 117 0 ∧ gi I 117 0 ≤ 60)
    (hQ : ∀ I' J', PasR I I' L R H cold → Fr [121] [] J J' → Q (some (vI (allR L R H cold))) (mem (rv0 P) I' J')) : WPm k LAY m_X12_nightGoes [vR (some 74)] (mem (rv0 P) I J) Q := by
  have hL := hX.1.2.2.2.2.1
  have hH := hX.2.2.1
  have hR6 := hL.2.2.1
  have wx := waA_bd (R := R) hL hH (cold := cold)
  have e9 : gi I 109 0 = H 9 0 := rx_9 hX
  refine WPm.of k_X12_nightGoes.1 (Nat.le_of_ble_eq_true rfl) (B_X12_nightGoes_0 (by omega) ?_)
  rw [e9]
  refine S_X12_goes (v := 0) (by omega) hX h72 h73 h117 (fun I2 J2 hN hJ => ⟨_, _, _, rfl, rfl, ?_⟩)
  obtain ⟨n1, n2, n3, n4, -, n6, n7, n8, n9, -⟩ := hN
  have m8 : gi I2 108 0 = H 8 0 := (rx_8 n2).trans n4.1
  have hh0 := hH.1
  have hh9 := hH.2.1
  rw [n7, m8]
  have key : ∀ z, z = min 9999 (H 9 0 + waA L R H cold) → Q (some (vI (allR L R H cold))) (mem (rv0 P) (si (si I2 109 0 z) 108 0 (H 8 0 + 1)) J2) := by
    intro z hz
    have hzr : inR z := ⟨by omega, by omega⟩
    have c3 : ∀ c k, ¬ ((c = 108 ∨ c = 109) ∧ k = 0) → si (si I2 109 0 z) 108 0 (H 8 0 + 1) c k = I2 c k := fun c k hc => by rw [si_at, if_neg (by omega), si_at, if_neg (by omega)]
    have v8 : gi (si (si I2 109 0 z) 108 0 (H 8 0 + 1)) 108 0 = H 8 0 + 1 := gi_same _ _ _ ⟨by omega, by omega⟩
    have v9 : gi (si (si I2 109 0 z) 108 0 (H 8 0 + 1)) 109 0 = z := by rw [gi_cell _ _ _ _ (by decide), gi_same _ _ _ hzr]
    generalize si (si I2 109 0 z) 108 0 (H 8 0 + 1) = I3 at c3 v8 v9 ⊢
    have r3 : ∀ c, c ≠ 108 → c ≠ 109 → gi I3 c = gi I2 c := fun c p q => gi_row (funext fun k => c3 c k (by omega))
    have hrl : sameRL I2 I3 := ⟨fun c a b => funext fun k => c3 c k (by omega), gi_eq (c3 74 13 (by decide))⟩
    have hn3 : gi I3 83 (gi I3 74 13).toNat = nR L := by rw [r3 83 (by decide) (by decide), r3 74 (by decide) (by decide)]; exact rx_n n2
    have f1 : ∀ (c : Nat) (i : Int), c ≠ 108 → c ≠ 109 → tr (gi I3 83 (gi I3 74 13).toNat) (gi I3 c ((6 * 0) + i).toNat) i = tr (gi I2 83 (gi I2 74 13).toNat) (gi I2 c ((6 * 0) + i).toNat) i := fun c i p q => by rw [r3 83 (by decide) (by decide), r3 74 (by decide) (by decide), r3 c p q]
    have g1 : ∀ i, HR I3 0 1 i = HR I2 0 1 i := fun i => f1 110 i (by decide) (by decide)
    have g2 : ∀ i, HR I3 0 2 i = HR I2 0 2 i := fun i => f1 111 i (by decide) (by decide)
    have g3 : ∀ i, HR I3 0 3 i = HR I2 0 3 i := fun i => f1 112 i (by decide) (by decide)
    have g4 : ∀ i, HR I3 0 4 i = HR I2 0 4 i := fun i => f1 113 i (by decide) (by decide)
    have g5 : ∀ i, HR I3 0 5 i = HR I2 0 5 i := fun i => f1 114 i (by decide) (by decide)
    have g6 : ∀ i, HR I3 0 6 i = HR I2 0 6 i := fun i => f1 115 i (by decide) (by decide)
    have g7 : ∀ i, HR I3 0 7 i = HR I2 0 7 i := by
      intro i
      show tr (gi I3 83 (gi I3 74 13).toNat) (tr (gi I3 115 ((6 * 0) + (i / 8)).toNat) (gi I3 116 ((8 * ((6 * 0) + (i / 8))) + i % 8).toNat) (i % 8)) (i / 8) = tr (gi I2 83 (gi I2 74 13).toNat) (tr (gi I2 115 ((6 * 0) + (i / 8)).toNat) (gi I2 116 ((8 * ((6 * 0) + (i / 8))) + i % 8).toNat) (i % 8)) (i / 8)
      rw [r3 83 (by decide) (by decide), r3 74 (by decide) (by decide), r3 115 (by decide) (by decide), r3 116 (by decide) (by decide)]
    have hlsq : ∀ i, lsH (HR I3 0) i = lsH (HR I2 0) i := by
      intro i
      unfold lsH
      rw [g6]
      exact lsF_congr (fun k _ _ => g7 _)
    have hHR : HR I3 0 = nitH L R H cold := by
      have hcan := cano_HR I3 0
      rw [hn3] at hcan
      refine cano_ext hcan (cano_nit L R H cold) (fun i i0 i1 => ?_) v8 (v9.trans hz)
      obtain ⟨⟨q2, q4, q5, q7, -⟩, -⟩ := n6 i i0 (by omega)
      obtain ⟨p1, p3⟩ := n3 i i0 i1
      have w8 := wlN_len (R := R) hH (cold := cold) (i := i) ⟨i0, i1⟩
      have w6 : nitH L R H cold 6 i = ((wlN L R H cold i).length : Int) := tr_in ⟨i0, i1⟩
      have o6 := (n2.2.2.1.2.2 i i0 i1).2.2.2.2.1
      refine ⟨(g1 i).trans (p1.trans (tr_in ⟨i0, i1⟩).symm), (g2 i).trans (q2.trans (tr_in ⟨i0, i1⟩).symm), (g3 i).trans (p3.trans (tr_in ⟨i0, i1⟩).symm), (g4 i).trans (q4.trans (tr_in ⟨i0, i1⟩).symm), (g5 i).trans (q5.trans (tr_in ⟨i0, i1⟩).symm), ?_, by rw [g6]; exact o6, by rw [w6]; omega⟩
      rw [hlsq, q7, lsH_nit hH ⟨i0, i1⟩]
    have e117 : gi I3 117 0 = gi I2 117 0 := gi_eq (c3 117 0 (by decide))
    refine hQ I3 J2 ⟨fun c k t1 t2 => (c3 c k t2).trans (n1 c k t1), ⟨n2.1.fr hrl, hHR, nit_wf hL hH h8 cold, by decide, by decide⟩, ?_, by rw [e117]; exact n9⟩ hJ
    rw [kpL_eq (fun c k a b => c3 c k (by omega)), n8]
  refine ⟨⟨by omega, by omega⟩, fun w => key _ (by omega), fun w => key _ (by omega)⟩
/-! the places of the layer that is now -/
def lay0 (c k : Nat) : Prop := ((c = 108 ∨ c = 109 ∨ c = 117) ∧ k = 0) ∨ (110 ≤ c ∧ c ≤ 115 ∧ k < 6) ∨ (c = 116 ∧ k < 48) ∨ (118 ≤ c ∧ c ≤ 120 ∧ k < 60)
theorem scr_hi {c : Nat} (hc : 108 ≤ c ∧ c ≤ 120) : scrC c = false := by
  unfold scrC
  simp
  omega
theorem ns_1 {c v : Nat} (hc : c = 108 ∨ c = 109 ∨ c = 117) (hv : 2 ≤ v) : scrF c v = false ∧ ¬ lay0 c v := by
  constructor
  · unfold scrF
    simp
    omega
  · unfold lay0
    omega
theorem ns_2 {c v i : Nat} (hc : 110 ≤ c ∧ c ≤ 115) (hv : 2 ≤ v) (hi : i < 6) : scrF c (6 * v + i) = false ∧ ¬ lay0 c (6 * v + i) := by
  constructor
  · unfold scrF
    simp
    omega
  · unfold lay0
    omega
theorem ns_3 {v i : Nat} (hv : 2 ≤ v) (hi : i < 48) : scrF 116 (48 * v + i) = false ∧ ¬ lay0 116 (48 * v + i) := by
  constructor
  · unfold scrF
    simp
    omega
  · unfold lay0
    omega
theorem ns_4 {c v i : Nat} (hc : 118 ≤ c ∧ c ≤ 120) (hv : 2 ≤ v) (hi : i < 60) : scrF c (60 * v + i) = false ∧ ¬ lay0 c (60 * v + i) := by
  constructor
  · unfold scrF
    simp
    omega
  · unfold lay0
    omega
theorem lay_ns {I I' : Nat → Nat → Int32} (h : ∀ c k : Nat, 108 ≤ c ∧ c ≤ 120 → scrF c k = false → ¬ lay0 c k → I' c k = I c k) {v : Nat} (hv : 2 ≤ v) : LayEq I v I' v := ⟨fun c hc => h c v (by omega) (ns_1 hc hv).1 (ns_1 hc hv).2, fun c i hc hi => h c _ (by omega) (ns_2 hc hv hi).1 (ns_2 hc hv hi).2, fun i hi => h 116 _ (by decide) (ns_3 hv hi).1 (ns_3 hv hi).2, fun c i hc hi => h c _ (by omega) (ns_4 hc hv hi).1 (ns_4 hc hv hi).2⟩
theorem kee_cg {X Y : Nat → Nat → Int32} (h65 : gi X 74 65 = gi Y 74 65) (h66 : gi X 74 66 = gi Y 74 66) {c : Nat} (hc : 108 ≤ c ∧ c ≤ 120) (h : ∀ k, X c k = Y c k) (k : Nat) : keeI X c k = keeI Y c k := by
  have cg : ∀ (X Y : Nat → Nat → Int32) (to : Nat), (∀ k, X c k = Y c k) → cpL X to 0 c k = cpL Y to 0 c k := by
    intro X Y to h
    unfold cpL cpS
    simp only [h]
  unfold keeI
  rw [h65, h66]
  split
  · rw [si_at, if_neg (by omega), si_at, if_neg (by omega)]
    refine cg _ _ _ (fun k => ?_)
    rw [si_at, if_neg (by omega), si_at, if_neg (by omega), si_at, if_neg (by omega), si_at, if_neg (by omega)]
    exact h k
  · rw [si_at, if_neg (by omega), si_at, if_neg (by omega)]
    exact cg _ _ _ h
theorem kee_56 {X Y : Nat → Nat → Int32} (h65 : gi X 74 65 = gi Y 74 65) (h66 : gi X 74 66 = gi Y 74 66) {k : Nat} (hk : k = 65 ∨ k = 66) : keeI X 74 k = keeI Y 74 k := by
  have x65 : X 74 65 = Y 74 65 := Int32.toInt_inj.mp h65
  unfold keeI
  rw [h65, h66]
  split
  · rcases hk with rfl | rfl
    · rw [si_at, if_neg (by decide), si_at, if_neg (by decide), cpL_cell (by decide), cpL_cell (by decide), si_at, if_neg (by decide), si_at, if_pos (by decide), si_at, if_neg (by decide), si_at, if_pos (by decide)]
    · rw [si_at, if_pos (by decide), si_at, if_pos (by decide)]
  · rcases hk with rfl | rfl
    · rw [si_at, if_neg (by decide), si_at, if_neg (by decide), cpL_cell (by decide), cpL_cell (by decide)]
      exact x65
    · rw [si_at, if_pos (by decide), si_at, if_pos (by decide)]
theorem rem_cg {X Y : Nat → Nat → Int32} (h4 : ∀ k, X 4 k = Y 4 k) (h19 : X 19 = Y 19) (h21 : X 21 = Y 21) {c k : Nat} (h : X c k = Y c k) : remI X c k = remI Y c k := by
  have e4 : gi X 4 4 = gi Y 4 4 := gi_eq (h4 4)
  have e5 : gi X 4 5 = gi Y 4 5 := gi_eq (h4 5)
  have e6 : gi X 4 6 = gi Y 4 6 := gi_eq (h4 6)
  unfold remI
  rw [e4, e5, e6, si_at, si_at, si_at, si_at (si (si _ _ _ _) _ _ _), si_at (si _ _ _ _), si_at (fc Y _ _ _ _ _)]
  by_cases q1 : c = 4 ∧ k = 6
  · rw [if_pos q1, if_pos q1]
  · rw [if_neg q1, if_neg q1]
    by_cases q2 : c = 4 ∧ k = 5
    · rw [if_pos q2, if_pos q2]
    · rw [if_neg q2, if_neg q2]
      by_cases q3 : c = 4 ∧ k = 4
      · rw [if_pos q3, if_pos q3]
      · rw [if_neg q3, if_neg q3]
        unfold fc
        by_cases q4 : c = 21
        · rw [if_pos q4, if_pos q4, h19, h21]
        · rw [if_neg q4, if_neg q4]
          exact h
theorem VH.nights {I I1 I' : Nat → Nat → Int32} {H' : Hl} {l' : List (Int × Int × Int)} (hV : VH I) (hst : 0 ≤ gi I 4 6 ∧ gi I 4 6 < 1000000)
    (A1 : ∀ c k, scrC c = false → scrF c k = false → c ≠ 19 → c ≠ 20 → I1 c k = remI I c k) (A1' : ∀ c k, 74 ≤ c → I1 c k = remI I c k) (A2 : CX I1 (LC I) (RC I) H') (A3 : gi I 19 2 ≤ gi I1 19 2 ∧ gi I1 19 2 ≤ rdN (LC I) H') (A4 : ∀ j : Nat, (j : Int) < gi I 19 2 → gi I1 20 j = gi I 20 j) (A5 : KPl l' (gi I1 20) (gi I1 19 2).toNat)
    (B1 : ∀ c k : Nat, scrC c = false → scrF c k = false → ¬ lay0 c k → I' c k = keeI I1 c k) (B2 : RX I' 0 (LC I) (RC I) H') (B3 : kpL I' 0 = l' ∧ 0 ≤ gi I' 117 0) (B4 : gi I' 74 72 = -1 ∧ gi I' 74 73 = -1) : VH I' ∧ LC I' = LC I ∧ RC I' = RC I ∧ actS I I' := by
  have hnow := hV.now
  obtain ⟨⟨hC, hR, h72, h73⟩, hVP, hK, hrn⟩ := hV
  have hL := hC.1.2.2.2.1
  have hR6 := hL.2.2.1
  have lo : ∀ c k, scrC c = false → scrF c k = false → ¬ (108 ≤ c ∧ c ≤ 120) → ¬ (c = 74 ∧ (k = 65 ∨ k = 66)) → I' c k = I1 c k := fun c k s1 s2 p q => (B1 c k s1 s2 (by unfold lay0; omega)).trans (kee_at I1 p q)
  have lo2 : ∀ c k, scrC c = false → scrF c k = false → ¬ (108 ≤ c ∧ c ≤ 120) → ¬ (c = 74 ∧ (k = 65 ∨ k = 66)) → c ≠ 19 → c ≠ 20 → I' c k = remI I c k := fun c k s1 s2 p q r s => (lo c k s1 s2 p q).trans (A1 c k s1 s2 r s)
  have f19 : ∀ k : Nat, gi I' 19 k = gi I1 19 k := fun k => gi_eq (lo 19 k (by decide) (by simp [scrF]) (by decide) (by omega))
  have f20 : ∀ k : Nat, gi I' 20 k = gi I1 20 k := fun k => gi_eq (lo 20 k (by decide) (by simp [scrF]) (by decide) (by omega))
  have sc : sameC I1 I' := fun c a b => funext fun k => lo c k (scrC_lo (Or.inl ⟨a, b⟩)).1 ((scrC_lo (Or.inl ⟨a, b⟩)).2 k) (by omega) (by omega)
  have hC' : CX I' (LC I) (RC I) H' := A2.fr sc
  have eL : LC I' = LC I := hC'.1.1
  have eR : RC I' = RC I := hC'.1.2.1
  have eH : HC I' = H' := hC'.2.1
  -- the rings
  have h65 : gi I1 74 65 = gi (remI I) 74 65 := gi_eq (A1' 74 65 (by decide))
  have h66 : gi I1 74 66 = gi (remI I) 74 66 := gi_eq (A1' 74 66 (by decide))
  have hVP0 : VP (keeI (remI I)) (LC I) := act_VP hL (rx_n hR) hVP hnow (fun _ _ _ => rfl) (gi_eq (rem_at I (by decide) (by decide))) (fun _ _ _ => rfl)
  have hVP' : VP I' (LC I) := by
    have k0 : ∀ c k, ¬ (108 ≤ c ∧ c ≤ 120) → ¬ (c = 74 ∧ (k = 65 ∨ k = 66)) → keeI (remI I) c k = remI I c k := fun c k p q => kee_at _ p q
    have k4 : ∀ k, k = 4 ∨ k = 5 → gi I' 4 k = gi (keeI (remI I)) 4 k := fun k hk => gi_eq ((lo2 4 k (by decide) (by simp [scrF]) (by decide) (by omega) (by decide) (by decide)).trans (k0 4 k (by decide) (by omega)).symm)
    have k74 : ∀ k, k = 65 ∨ k = 66 → gi I' 74 k = gi (keeI (remI I)) 74 k := fun k hk => gi_eq ((B1 74 k (by decide) (by rcases hk with rfl | rfl <;> decide) (by unfold lay0; omega)).trans (kee_56 h65 h66 hk))
    have e13 : gi (keeI (remI I)) 74 13 = gi I 74 13 := gi_eq ((k0 74 13 (by decide) (by decide)).trans (rem_at I (by decide) (by decide)))
    have e13' : gi I' 74 13 = gi I 74 13 := gi_eq ((lo2 74 13 (by decide) (by decide) (by decide) (by decide) (by decide) (by decide)).trans (rem_at I (by decide) (by decide)))
    have e83 : ∀ k, gi (keeI (remI I)) 83 k = gi I 83 k := fun k => gi_eq ((k0 83 k (by decide) (by omega)).trans (rem_at I (by decide) (by omega)))
    have e83' : ∀ k, gi I' 83 k = gi I 83 k := fun k => gi_eq ((lo2 83 k (by decide) ((scrC_lo (Or.inr (by decide))).2 k) (by decide) (by omega) (by decide) (by decide)).trans (rem_at I (by decide) (by omega)))
    have e192 : gi (keeI (remI I)) 19 2 = gi I 19 2 := gi_eq ((k0 19 2 (by decide) (by decide)).trans (rem_at I (by decide) (by decide)))
    refine VP.fr hL (by rw [e13, e83]; exact rx_n hR) hVP0 (k4 4 (Or.inl rfl)) (k4 5 (Or.inr rfl)) (k74 65 (Or.inl rfl)) (k74 66 (Or.inr rfl)) ?_ (by rw [e13, e13', e83, e83']) (fun v v2 v22 => lay_ns (fun c k hc s2 l2 => ?_) v2) (fun j hj => ?_) ?_
    · exact funext fun k => (lo2 21 k (by decide) (by simp [scrF]) (by decide) (by omega) (by decide) (by decide)).trans (k0 21 k (by decide) (by omega)).symm
    · exact (B1 c k (scr_hi hc) s2 l2).trans (kee_cg h65 h66 hc (fun k => A1' c k (by omega)) k)
    · rw [e192] at hj
      rw [f20, A4 j hj]
      exact (gi_eq ((k0 20 j (by decide) (by omega)).trans (rem_at I (by decide) (by omega)))).symm
    · rw [e192, f19]
      exact A3.1
  refine ⟨⟨⟨by rw [eL, eR, eH]; exact hC', by rw [eL, eR, eH]; exact B2, B4.1, B4.2⟩, by rw [eL]; exact hVP', ?_, by rw [eL, eH, f19]; exact A3.2⟩, eL, eR, fun c k s1 s2 n1 n2 n3 => ?_, ?_⟩
  · have h84 := rdN_le (H := H') hL
    refine KP_l.mpr ⟨⟨by rw [f19]; have := hK.1; omega, by rw [f19]; omega⟩, B3.2, ?_⟩
    rw [B3.1, f19]
    exact KPl_mv A5 (fun j _ => f20 j)
  · exact (lo2 c k s1 s2 (by omega) n3 (by omega) (by omega)).trans (rem_at I (by omega) n2)
  · rw [gi_eq (lo2 4 6 (by decide) (by decide) (by decide) (by decide) (by decide) (by decide))]
    unfold remI
    rw [gi_same _ _ _ ⟨by omega, by omega⟩]
end GOESR

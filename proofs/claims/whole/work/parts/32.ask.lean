section ASKS
theorem shl_p {n : Int} (h : 0 ≤ n ∧ n ≤ 14) : shl32 1 n = ((2 ^ n.toNat : Nat) : Int) := by
  have e := shl1 (p := n.toNat) (by omega)
  rwa [Int.toNat_of_nonneg h.1] at e
/-- a question: pages as bits -/
abbrev isQ (L : Lb) (q : Int) : Prop := 0 ≤ q ∧ q < ((2 ^ (nP L).toNat : Nat) : Int)
theorem isQ_nat {L : Lb} (hL : WfL L) {q : Int} (h : isQ L q) : q = ((q.toNat : Nat) : Int) ∧ q.toNat < 16384 := by
  have h1 := pow_le14 (p := (nP L).toNat) (by have := hL.2.1; omega)
  have h2 := h.1
  have h3 := h.2
  exact ⟨by omega, by omega⟩
theorem cx_L1 {I : Nat → Nat → Int32} {L : Lb} {R : Rl} {H : Hl} (hX : CX I L R H) {p : Int} (hp : 0 ≤ p ∧ p < nP L) : gi I 8 (p).toNat = L 1 p := by
  have e := cx_p hX
  rw [← hX.1.1]
  exact (tr_in (by rw [e]; exact hp)).symm
theorem cx_L3 {I : Nat → Nat → Int32} {L : Lb} {R : Rl} {H : Hl} (hX : CX I L R H) {p : Int} (hp : 0 ≤ p ∧ p < nP L) : gi I 10 (p).toNat = L 3 p := by
  have e := cx_p hX
  rw [← hX.1.1]
  exact (tr_in (by rw [e]; exact hp)).symm
theorem rx_L1 {I : Nat → Nat → Int32} {v : Int} {L : Lb} {R : Rl} {H : Hl} (hX : RX I v L R H) {p : Int} (hp : 0 ≤ p ∧ p < nP L) : gi I 78 ((14 * (gi I 74 13)) + p).toNat = L 1 p := by
  have e := rx_p hX
  rw [← hX.1.1]
  exact (tr_in (by rw [e]; exact hp)).symm
theorem rx_2' {I : Nat → Nat → Int32} {L : Lb} {R : Rl} {H : Hl} (hX : RX I 0 L R H) {r : Int} (hr : 0 ≤ r ∧ r < nR L) : gi I 111 (r).toNat = H 2 r := by
  have := rx_2 hX hr
  rwa [show (6 * 0 + r) = r by omega] at this
theorem rx_3' {I : Nat → Nat → Int32} {L : Lb} {R : Rl} {H : Hl} (hX : RX I 0 L R H) {r : Int} (hr : 0 ≤ r ∧ r < nR L) : gi I 112 (r).toNat = H 3 r := by
  have := rx_3 hX hr
  rwa [show (6 * 0 + r) = r by omega] at this
theorem rx_4' {I : Nat → Nat → Int32} {L : Lb} {R : Rl} {H : Hl} (hX : RX I 0 L R H) {r : Int} (hr : 0 ≤ r ∧ r < nR L) : gi I 113 (r).toNat = H 4 r := by
  have := rx_4 hX hr
  rwa [show (6 * 0 + r) = r by omega] at this
theorem rx_5' {I : Nat → Nat → Int32} {L : Lb} {R : Rl} {H : Hl} (hX : RX I 0 L R H) {r : Int} (hr : 0 ≤ r ∧ r < nR L) : gi I 114 (r).toNat = H 5 r := by
  have := rx_5 hX hr
  rwa [show (6 * 0 + r) = r by omega] at this
theorem rx_6' {I : Nat → Nat → Int32} {L : Lb} {R : Rl} {H : Hl} (hX : RX I 0 L R H) {r : Int} (hr : 0 ≤ r ∧ r < nR L) : gi I 115 (r).toNat = H 6 r := by
  have := rx_6 hX hr
  rwa [show (6 * 0 + r) = r by omega] at this
theorem rx_7' {I : Nat → Nat → Int32} {L : Lb} {R : Rl} {H : Hl} (hX : RX I 0 L R H) {r k : Int} (hr : 0 ≤ r ∧ r < nR L) (hk : 0 ≤ k ∧ k < H 6 r) : gi I 116 ((8 * r) + k).toNat = H 7 (8 * r + k) := by
  have := rx_7 hX hr hk
  rwa [show (6 * 0 + r) = r by omega] at this
theorem step_work {V V' : Cpl} (hS : Vsc V V') (hA : ∀ I J, V I J → VA I) (x y z : Int) (hx : inR x) (hy : inR y) (hz : inR z) : Step V V' m_X11_work m_X12_work [x, y, z] := by
  refine Step.rd hS (fun I J hV => ?_)
  obtain ⟨hC, hR, h72, h73⟩ := hA I J hV
  generalize LC I = L at hC hR
  generalize RC I = R at hC hR
  generalize HC I = H at hC hR
  have hL := hC.1.2.2.2.1
  have hP := hL.2.1
  have hR6 := hL.2.2.1
  have hp14 := pow_le14 (p := (nP L).toNat) (by omega)
  have hp1 := Nat.two_pow_pos (nP L).toNat
  have b1 := wrk_bd R H hL x (clo L (kn H x) 0 y.toNat)
  have b2 := lig_bd (R := R) H hL (H 1 x) (L 7 (H 1 x))
  change 0 ≤ wko L R H x y.toNat 0 ∧ wko L R H x y.toNat 0 ≤ 7000 at b1
  change 0 ≤ lno L R H x ∧ lno L R H x ≤ 3000 at b2
  have b3 := ngt_bd b1 b2
  refine ⟨if (0 ≤ x ∧ x < nR L) ∧ isQ L y then (if z = 0 then wko L R H x y.toNat 0 else if z = 1 then ngt (wko L R H x y.toNat 0) (lno L R H x) else if z = 2 then ((clo L (kn H x) 0 y.toNat : Nat) : Int) else -1) else -1, ?_, fun P Q hQ => ?_, fun P I1 J1 h1 k1 Q hQ => ?_⟩
  · by_cases q : (0 ≤ x ∧ x < nR L) ∧ isQ L y
    · rw [if_pos q]
      have b4 := clo_lt hL (kn H x) 0 (isQ_nat hL q.2).2
      split
      · exact ⟨by omega, by omega⟩
      · split
        · exact ⟨by omega, by omega⟩
        · split
          · exact ⟨by omega, by omega⟩
          · decide
    · rw [if_neg q]
      decide
  · have e2 : gi I 6 (2 : Int).toNat = nR L := cx_n hC
    have e1 : gi I 6 1 = nP L := cx_p hC
    refine WPm.of k_X11_work.1 (Nat.le_of_ble_eq_true rfl) (B_X11_work_0 (by omega) ?_)
    rw [e2, e1, shl_p hP]
    refine ⟨hx, fun q => ?_, fun q => ⟨hy, fun q2 => ⟨hz, fun q3 => ?_, fun q3 => ⟨fun q4 => ?_, fun q4 => ⟨fun q5 => ?_, fun q5 => ?_⟩⟩⟩, fun q2 => ?_⟩⟩
    · rw [if_neg (fun w => q w.1)] at hQ
      exact hQ I (scrS.rf I) J (scrJ.rf J)
    · obtain ⟨n1, n2⟩ := isQ_nat hL q2
      rw [if_pos ⟨q, q2⟩, if_pos q3] at hQ
      rw [n1]
      exact S_X8_work (by omega) hC q n2 (Or.inl ⟨rfl, rfl⟩) (fun I3 hF3 => ⟨_, _, _, rfl, rfl, hQ I3 (S3_scr hF3) J (scrJ.rf J)⟩)
    · obtain ⟨n1, n2⟩ := isQ_nat hL q2
      rw [if_pos ⟨q, q2⟩, if_neg q3, if_pos q4] at hQ
      rw [n1]
      exact S_X8_nights (by omega) hC q n2 (fun I3 hF3 => ⟨_, _, _, rfl, rfl, hQ I3 (S3_scr hF3) J (scrJ.rf J)⟩)
    · obtain ⟨n1, n2⟩ := isQ_nat hL q2
      rw [if_pos ⟨q, q2⟩, if_neg q3, if_neg q4, if_pos q5] at hQ
      rw [n1]
      exact S_X8_pages (by omega) hC q n2 (Or.inl ⟨rfl, rfl⟩) ⟨_, _, _, rfl, rfl, hQ I (scrS.rf I) J (scrJ.rf J)⟩
    · rw [if_pos ⟨q, q2⟩, if_neg q3, if_neg q4, if_neg q5] at hQ
      exact hQ I (scrS.rf I) J (scrJ.rf J)
    · rw [if_neg (fun w => q2 w.2)] at hQ
      exact hQ I (scrS.rf I) J (scrJ.rf J)
  · have hR1 := hR.fr0 h1
    have c72 : gi I1 74 72 = -1 := (h1.gv 74 72 (by decide) (by decide)).trans h72
    have c73 : gi I1 74 73 = -1 := (h1.gv 74 73 (by decide) (by decide)).trans h73
    refine WPm.of k_X12_work.1 (Nat.le_of_ble_eq_true rfl) (B_X12_work_0 (by omega) ?_)
    rw [rx_n hR1, rx_p hR1, shl_p hP]
    refine ⟨rx_b hR1, hx, fun q => ?_, fun q => ⟨hy, ⟨by omega, by omega⟩, fun q2 => ?_, fun q2 => ⟨hz, fun q3 => ?_, fun q3 => ?_⟩⟩⟩
    · rw [if_neg (fun w => q w.1)] at hQ
      exact hQ I1 (scrS.rf I1) J1 (scrJ.rf J1)
    · rw [if_neg (fun w => q2 ⟨w.2.1, by have := w.2.2; omega⟩)] at hQ
      exact hQ I1 (scrS.rf I1) J1 (scrJ.rf J1)
    · have q2' : isQ L y := ⟨q2.1, by have := q2.2; omega⟩
      obtain ⟨n1, n2⟩ := isQ_nat hL q2'
      rw [if_pos ⟨q, q2'⟩] at hQ
      rw [n1]
      refine S_X12_work (by omega) hR1 q n2 (Or.inl ⟨rfl, rfl⟩) c72 c73 (fun I2 J2 hF2 hJ2 => ⟨_, _, _, rfl, rfl, ?_⟩)
      have hR2 := hR1.fr (hF2.rx (by decide) (by decide))
      refine S_X12_nights (by omega) hR2 q b1 ((hF2.gv 74 72 (by decide) (by decide)).trans c72) ((hF2.gv 74 73 (by decide) (by decide)).trans c73) (fun I3 J3 hF3 hJ3 => ⟨_, _, _, rfl, rfl, ?_⟩)
      have hR3 := hR2.fr (hF3.rx (by decide) (by decide))
      have hq := hQ I3 (SA_scr (hF2.tr hF3)) J3 (J1_scr (hJ2.tr hJ3))
      refine ⟨fun q4 => ⟨fun q5 => ⟨⟨by omega, by omega⟩, ?_⟩, fun q5 => ?_⟩, fun q4 => ?_⟩
      · rw [if_neg q4, if_neg q5, if_pos (by omega)] at hq
        rw [rx_kn hR3 q]
        exact S_X12_closed (by omega) hR3 n2 (kn_lt hL hC.2.2 q).2 (Or.inl ⟨rfl, rfl⟩) ⟨_, _, _, rfl, rfl, hq⟩
      · rw [if_neg q4, if_pos q5] at hq
        exact hq
      · rw [if_pos q4] at hq
        exact hq
    · have hq := hQ I1 (scrS.rf I1) J1 (scrJ.rf J1)
      refine Qat hq ?_
      split
      · rw [if_neg (by omega), if_neg (by omega), if_neg (by omega)]
      · rfl
/-! scholar -/
def schl (L : Lb) (R : Rl) (H : Hl) (s : Nat) : Nat → Int × Int
  | 0 => (-1, 0)
  | n + 1 => if ngt (wko L R H n s 0) (lno L R H n) = -1 then schl L R H s n else if (schl L R H s n).1 = -1 ∨ ngt (wko L R H n s 0) (lno L R H n) < (schl L R H s n).2 then ((n : Int), ngt (wko L R H n s 0) (lno L R H n)) else schl L R H s n
theorem schl_bd {L : Lb} {R : Rl} {H : Hl} (hL : WfL L) (s : Nat) : ∀ n : Nat, (-1 ≤ (schl L R H s n).1 ∧ (schl L R H s n).1 < n) ∧ (0 ≤ (schl L R H s n).2 ∧ (schl L R H s n).2 ≤ 7000)
  | 0 => ⟨by show (-1 : Int) ≤ -1 ∧ (-1 : Int) < ((0 : Nat) : Int); decide, by show (0 : Int) ≤ 0 ∧ (0 : Int) ≤ 7000; decide⟩
  | n + 1 => by
    have h := schl_bd (R := R) (H := H) hL s n
    have b1 := wrk_bd R H hL n (clo L (kn H n) 0 s)
    have b2 := lig_bd (R := R) H hL (H 1 n) (L 7 (H 1 n))
    change 0 ≤ wko L R H n s 0 ∧ wko L R H n s 0 ≤ 7000 at b1
    change 0 ≤ lno L R H n ∧ lno L R H n ≤ 3000 at b2
    have b3 := ngt_bd b1 b2
    unfold schl
    split
    · omega
    · split
      · exact ⟨⟨by show -1 ≤ (n : Int); omega, by show (n : Int) < ((n + 1 : Nat) : Int); omega⟩, by show 0 ≤ ngt _ _; omega, b3.2⟩
      · omega
theorem step_scholar {V V' : Cpl} (hS : Vsc V V') (hA : ∀ I J, V I J → VA I) (y : Int) (hy : inR y) : Step V V' m_X11_scholar m_X12_scholar [y] := by
  refine Step.rd hS (fun I J hV => ?_)
  obtain ⟨hC, hR, h72, h73⟩ := hA I J hV
  generalize LC I = L at hC hR
  generalize RC I = R at hC hR
  generalize HC I = H at hC hR
  have hL := hC.1.2.2.2.1
  have hP := hL.2.1
  have hR6 := hL.2.2.1
  have hp14 := pow_le14 (p := (nP L).toNat) (by omega)
  have hp1 := Nat.two_pow_pos (nP L).toNat
  refine ⟨if isQ L y then (schl L R H y.toNat (nR L).toNat).1 else -1, ?_, fun P Q hQ => ?_, fun P I1 J1 h1 k1 Q hQ => ?_⟩
  · have b := schl_bd (R := R) (H := H) hL y.toNat (nR L).toNat
    split
    · exact ⟨by omega, by omega⟩
    · decide
  · have e1 : gi I 6 1 = nP L := cx_p hC
    refine WPm.of k_X11_scholar.1 (Nat.le_of_ble_eq_true rfl) (B_X11_scholar_0 (by omega) ?_)
    rw [e1, shl_p hP]
    refine ⟨hy, fun q2 => ?_, fun q2 => ?_⟩
    · obtain ⟨n1, n2⟩ := isQ_nat hL q2
      rw [if_pos q2] at hQ
      have loop : ∀ (d n : Nat) (x b f : Int) (I' : Nat → Nat → Int32), n + d = (nR L).toNat → x = n → b = (schl L R H y.toNat n).1 → f = (schl L R H y.toNat n).2 → Fr [37, 38] [] I I' → WP 900 LAY m_X11_scholar 23 [(0, vR (some 0)), (1, vI ((y.toNat : Nat) : Int)), (2, vI b), (3, vI f), (4, vI x)] [] (mem (rv0 P) I' J) Q := by
        intro d
        induction d with
        | zero =>
          intro n x b f I' hn hx hb hf hF
          have hX' := hC.fr (hF.cx (by decide) (by decide))
          refine B_X11_scholar_23 (by omega) ?_
          rw [cx_n hX']
          refine ⟨⟨by omega, by omega⟩, fun _ => ?_, fun q => absurd q (by omega)⟩
          exact Qat (hQ I' (S3_scr hF) J (scrJ.rf J)) (by rw [hb, show (nR L).toNat = n by omega])
        | succ d ih =>
          intro n x b f I' hn hx hb hf hF
          have hX' := hC.fr (hF.cx (by decide) (by decide))
          have hb2 := schl_bd (R := R) (H := H) hL y.toNat n
          have b1 := wrk_bd R H hL n (clo L (kn H n) 0 y.toNat)
          have b2 := lig_bd (R := R) H hL (H 1 n) (L 7 (H 1 n))
          change 0 ≤ wko L R H n y.toNat 0 ∧ wko L R H n y.toNat 0 ≤ 7000 at b1
          change 0 ≤ lno L R H n ∧ lno L R H n ≤ 3000 at b2
          have b3 := ngt_bd b1 b2
          refine B_X11_scholar_23 (by omega) ?_
          subst hx
          rw [cx_n hX']
          refine ⟨⟨by omega, by omega⟩, fun q => absurd q (by omega), fun _ => ?_⟩
          refine S_X8_nights (by omega) hX' ⟨by omega, by omega⟩ n2 (fun I3 hF3 => ⟨_, _, _, rfl, rfl, ?_⟩)
          have nx : ∀ b' f' : Int, (b', f') = schl L R H y.toNat (n + 1) → WP 900 LAY m_X11_scholar 23 [(0, vR (some 0)), (1, vI ((y.toNat : Nat) : Int)), (2, vI b'), (3, vI f'), (4, vI ((n : Int) + 1))] [] (mem (rv0 P) I3 J) Q := fun b' f' e => ih (n + 1) _ _ _ I3 (by omega) (by omega) (by rw [← e]) (by rw [← e]) (hF.tr hF3)
          refine ⟨⟨by omega, by omega⟩, fun q3 => nx _ _ ?_, fun q3 => ⟨⟨by omega, by omega⟩, fun q4 => nx _ _ ?_, fun q4 => ⟨⟨by omega, by omega⟩, fun q5 => nx _ _ ?_, fun q5 => nx _ _ ?_⟩⟩⟩
          · rw [schl, if_pos q3, hb, hf]
          · rw [schl, if_neg q3, if_pos (Or.inl (by omega))]
          · rw [schl, if_neg q3, if_neg (by omega), hb, hf]
          · rw [schl, if_neg q3, if_pos (Or.inr (by omega))]
      rw [n1]
      exact loop _ 0 _ _ _ I (Nat.zero_add _) rfl rfl rfl (Fr.rf _ _ _)
    · rw [if_neg q2] at hQ
      exact hQ I (scrS.rf I) J (scrJ.rf J)
  · have hR1 := hR.fr0 h1
    have c72 : gi I1 74 72 = -1 := (h1.gv 74 72 (by decide) (by decide)).trans h72
    have c73 : gi I1 74 73 = -1 := (h1.gv 74 73 (by decide) (by decide)).trans h73
    refine WPm.of k_X12_scholar.1 (Nat.le_of_ble_eq_true rfl) (B_X12_scholar_0 (by omega) ?_)
    rw [rx_p hR1, shl_p hP]
    refine ⟨rx_b hR1, hy, ⟨by omega, by omega⟩, fun q2 => ?_, fun q2 => ?_⟩
    · have q2' : isQ L y := ⟨q2.1, by have := q2.2; omega⟩
      obtain ⟨n1, n2⟩ := isQ_nat hL q2'
      rw [if_pos q2'] at hQ
      have loop : ∀ (d n : Nat) (x b f : Int) (I' : Nat → Nat → Int32) (J' : Nat → Nat → Int64), n + d = (nR L).toNat → x = n → b = (schl L R H y.toNat n).1 → (b = -1 ∧ f = 100000000 ∨ ¬ b = -1 ∧ f = (schl L R H y.toNat n).2) → Fr [] SA I1 I' → Fr [121] [] J1 J' → WP 900 LAY m_X12_scholar 19 [(0, vR (some 74)), (1, vI ((y.toNat : Nat) : Int)), (2, vI b), (3, vI f), (4, vI x)] [] (mem (rv0 P) I' J') Q := by
        intro d
        induction d with
        | zero =>
          intro n x b f I' J' hn hx hb hf hF hJ
          have hX' := hR1.fr (hF.rx (by decide) (by decide))
          refine B_X12_scholar_19 (by omega) ?_
          rw [rx_n hX']
          refine ⟨rx_b hX', ⟨by omega, by omega⟩, fun _ => ?_, fun q => absurd q (by omega)⟩
          exact Qat (hQ I' (SA_scr hF) J' (J1_scr hJ)) (by rw [hb, show (nR L).toNat = n by omega])
        | succ d ih =>
          intro n x b f I' J' hn hx hb hf hF hJ
          have hX' := hR1.fr (hF.rx (by decide) (by decide))
          have d72 := (hF.gv 74 72 (by decide) (by decide)).trans c72
          have d73 := (hF.gv 74 73 (by decide) (by decide)).trans c73
          have hb2 := schl_bd (R := R) (H := H) hL y.toNat n
          have b1 := wrk_bd R H hL n (clo L (kn H n) 0 y.toNat)
          have b2 := lig_bd (R := R) H hL (H 1 n) (L 7 (H 1 n))
          change 0 ≤ wko L R H n y.toNat 0 ∧ wko L R H n y.toNat 0 ≤ 7000 at b1
          change 0 ≤ lno L R H n ∧ lno L R H n ≤ 3000 at b2
          have b3 := ngt_bd b1 b2
          refine B_X12_scholar_19 (by omega) ?_
          subst hx
          rw [rx_n hX']
          refine ⟨rx_b hX', ⟨by omega, by omega⟩, fun q => absurd q (by omega), fun _ => ?_⟩
          refine S_X12_work (by omega) hX' ⟨by omega, by omega⟩ n2 (Or.inl ⟨rfl, rfl⟩) d72 d73 (fun I2 J2 hF2 hJ2 => ⟨_, _, _, rfl, rfl, ?_⟩)
          refine S_X12_nights (by omega) (hX'.fr (hF2.rx (by decide) (by decide))) ⟨by omega, by omega⟩ b1 ((hF2.gv 74 72 (by decide) (by decide)).trans d72) ((hF2.gv 74 73 (by decide) (by decide)).trans d73) (fun I3 J3 hF3 hJ3 => ⟨_, _, _, rfl, rfl, ?_⟩)
          have nx : ∀ b' f' : Int, b' = (schl L R H y.toNat (n + 1)).1 → (b' = -1 ∧ f' = 100000000 ∨ ¬ b' = -1 ∧ f' = (schl L R H y.toNat (n + 1)).2) → WP 900 LAY m_X12_scholar 19 [(0, vR (some 74)), (1, vI ((y.toNat : Nat) : Int)), (2, vI b'), (3, vI f'), (4, vI ((n : Int) + 1))] [] (mem (rv0 P) I3 J3) Q := fun b' f' e1 e2 => ih (n + 1) _ _ _ I3 J3 (by omega) (by omega) e1 e2 ((hF.tr hF2).tr hF3) ((hJ.tr hJ2).tr hJ3)
          refine ⟨⟨by omega, by omega⟩, fun q3 => nx _ _ ?_ ?_, fun q3 => ⟨⟨by omega, by omega⟩, fun q4 => nx _ _ ?_ ?_, fun q4 => nx _ _ ?_ ?_⟩⟩
          · rw [schl, if_pos q3, hb]
          · rw [schl, if_pos q3]; exact hf
          · rw [schl, if_neg q3, if_pos (by omega)]
          · rw [schl, if_neg q3, if_pos (by omega)]
            exact Or.inr ⟨by omega, rfl⟩
          · rw [schl, if_neg q3, if_neg (by omega), hb]
          · rw [schl, if_neg q3, if_neg (by omega)]; exact hf
      rw [n1]
      exact loop _ 0 _ _ _ I1 J1 (Nat.zero_add _) rfl rfl (Or.inl ⟨rfl, rfl⟩) (Fr.rf _ _ _) (Fr.rf _ _ _)
    · rw [if_neg (fun w => q2 ⟨w.1, by have := w.2; omega⟩)] at hQ
      exact hQ I1 (scrS.rf I1) J1 (scrJ.rf J1)
/-! index -/
def allW (L : Lb) (R : Rl) (H : Hl) (s ix : Nat) : Int := smi (nR L).toNat (fun r => wko L R H r s ix)
theorem allW_bd {L : Lb} (R : Rl) (H : Hl) (hL : WfL L) (s ix : Nat) : 0 ≤ allW L R H s ix ∧ allW L R H s ix ≤ 42000 := by
  have h := smi_bd (n := (nR L).toNat) (f := fun r => wko L R H r s ix) (b := 7000) (by decide) (fun i hi => wrk_bd R H hL i _)
  have := hL.2.2.1
  unfold allW
  omega
theorem S_X8_all {k : Nat} {P : Option Nat} {I : Nat → Nat → Int32} {J : Nat → Nat → Int64} {Q : Option AV → Mem → Prop} {L : Lb} {R : Rl} {H : Hl} {s ix : Nat} {x3 : Int} (hk : 7 ≤ k) (hX : CX I L R H) (hs : s < 16384) (hix : ixOf x3 ix) (hQ : ∀ I', Fr [37, 38] [] I I' → Q (some (vI (allW L R H s ix))) (mem (rv0 P) I' J)) : WPm k LAY m_X8_workOfAll [vR (some 51), vI (s : Int), vI x3] (mem (rv0 P) I J) Q := by
  have hR6 := hX.1.2.2.2.1.2.2.1
  refine WPm.of k_X8_workOfAll.1 (Nat.le_of_ble_eq_true rfl) (B_X8_workOfAll_0 (by omega) ?_)
  have loop : ∀ (d n : Nat) (x y : Int) (I' : Nat → Nat → Int32), n + d = (nR L).toNat → x = n → y = smi n (fun r => wko L R H r s ix) → Fr [37, 38] [] I I' → WP k LAY m_X8_workOfAll 5 [(0, vR (some 51)), (1, vI (s : Int)), (2, vI x3), (3, vI y), (4, vI x)] [] (mem (rv0 P) I' J) Q := by
    intro d
    induction d with
    | zero =>
      intro n x y I' hn hx hy hF
      have hX' := hX.fr (hF.cx (by decide) (by decide))
      refine B_X8_workOfAll_5 (by omega) ?_
      rw [cx_n hX']
      refine ⟨⟨by omega, by omega⟩, fun _ => ?_, fun q => absurd q (by omega)⟩
      exact Qat (hQ I' hF) (by rw [hy]; unfold allW; rw [show (nR L).toNat = n by omega])
    | succ d ih =>
      intro n x y I' hn hx hy hF
      have hX' := hX.fr (hF.cx (by decide) (by decide))
      refine B_X8_workOfAll_5 (by omega) ?_
      subst hx
      rw [cx_n hX']
      refine ⟨⟨by omega, by omega⟩, fun q => absurd q (by omega), fun _ => ?_⟩
      refine S_X8_work (by omega) hX' ⟨by omega, by omega⟩ hs hix (fun I3 hF3 => ⟨_, _, _, rfl, rfl, ?_⟩)
      exact ih (n + 1) _ _ I3 (by omega) (by omega) (by rw [hy]; rfl) (hF.tr hF3)
  exact loop _ 0 _ _ I (Nat.zero_add _) rfl rfl (Fr.rf _ _ _)
theorem S_X12_all {k : Nat} {P : Option Nat} {I : Nat → Nat → Int32} {J : Nat → Nat → Int64} {Q : Option AV → Mem → Prop} {L : Lb} {R : Rl} {H : Hl} {s ix : Nat} {x3 : Int} (hk : 8 ≤ k) (hX : RX I 0 L R H) (hs : s < 16384) (hix : ixOf x3 ix) (h72 : gi I 74 72 = -1) (h73 : gi I 74 73 = -1) (hQ : ∀ I' J', Fr [] SA I I' → Fr [121] [] J J' → Q (some (vI (allW L R H s ix))) (mem (rv0 P) I' J')) : WPm k LAY m_X12_allWork [vR (some 74), vI (s : Int), vI x3] (mem (rv0 P) I J) Q := by
  have hR6 := hX.1.2.2.2.2.1.2.2.1
  refine WPm.of k_X12_allWork.1 (Nat.le_of_ble_eq_true rfl) (B_X12_allWork_0 (by omega) ?_)
  have loop : ∀ (d n : Nat) (x y : Int) (I' : Nat → Nat → Int32) (J' : Nat → Nat → Int64), n + d = (nR L).toNat → x = n → y = smi n (fun r => wko L R H r s ix) → Fr [] SA I I' → Fr [121] [] J J' → WP k LAY m_X12_allWork 5 [(0, vR (some 74)), (1, vI (s : Int)), (2, vI x3), (3, vI y), (4, vI x)] [] (mem (rv0 P) I' J') Q := by
    intro d
    induction d with
    | zero =>
      intro n x y I' J' hn hx hy hF hJ
      have hX' := hX.fr (hF.rx (by decide) (by decide))
      refine B_X12_allWork_5 (by omega) ?_
      rw [rx_n hX']
      refine ⟨rx_b hX', ⟨by omega, by omega⟩, fun _ => ?_, fun q => absurd q (by omega)⟩
      exact Qat (hQ I' J' hF hJ) (by rw [hy]; unfold allW; rw [show (nR L).toNat = n by omega])
    | succ d ih =>
      intro n x y I' J' hn hx hy hF hJ
      have hX' := hX.fr (hF.rx (by decide) (by decide))
      refine B_X12_allWork_5 (by omega) ?_
      subst hx
      rw [rx_n hX']
      refine ⟨rx_b hX', ⟨by omega, by omega⟩, fun q => absurd q (by omega), fun _ => ?_⟩
      refine S_X12_work (by omega) hX' ⟨by omega, by omega⟩ hs hix ((hF.gv 74 72 (by decide) (by decide)).trans h72) ((hF.gv 74 73 (by decide) (by decide)).trans h73) (fun I3 J3 hF3 hJ3 => ⟨_, _, _, rfl, rfl, ?_⟩)
      exact ih (n + 1) _ _ I3 J3 (by omega) (by omega) (by rw [hy]; rfl) (hF.tr hF3) (hJ.tr hJ3)
  exact loop _ 0 _ _ I J (Nat.zero_add _) rfl rfl (Fr.rf _ _ _) (Fr.rf _ _ _)
def idx (L : Lb) (R : Rl) (H : Hl) (s : Nat) : Nat → Int × Int
  | 0 => (-1, allW L R H s 0)
  | n + 1 => if s.testBit n = true then idx L R H s n else if allW L R H s (2 ^ n) < (idx L R H s n).2 then ((n : Int), allW L R H s (2 ^ n)) else idx L R H s n
theorem idx_bd {L : Lb} {R : Rl} {H : Hl} (hL : WfL L) (s : Nat) : ∀ n : Nat, (-1 ≤ (idx L R H s n).1 ∧ (idx L R H s n).1 < n) ∧ (0 ≤ (idx L R H s n).2 ∧ (idx L R H s n).2 ≤ allW L R H s 0)
  | 0 => by
    have h := allW_bd R H hL s 0
    exact ⟨by show (-1 : Int) ≤ -1 ∧ (-1 : Int) < ((0 : Nat) : Int); decide, h.1, Int.le_refl _⟩
  | n + 1 => by
    have h := idx_bd (R := R) (H := H) hL s n
    have b := allW_bd R H hL s (2 ^ n)
    unfold idx
    split
    · omega
    · split
      · exact ⟨⟨by show -1 ≤ (n : Int); omega, by show (n : Int) < ((n + 1 : Nat) : Int); omega⟩, b.1, by show allW _ _ _ _ _ ≤ _; omega⟩
      · omega
theorem step_index {V V' : Cpl} (hS : Vsc V V') (hA : ∀ I J, V I J → VA I) (y z : Int) (hy : inR y) (hz : inR z) : Step V V' m_X11_index m_X12_index [y, z] := by
  refine Step.rd hS (fun I J hV => ?_)
  obtain ⟨hC, hR, h72, h73⟩ := hA I J hV
  generalize LC I = L at hC hR
  generalize RC I = R at hC hR
  generalize HC I = H at hC hR
  have hL := hC.1.2.2.2.1
  have hP := hL.2.1
  have hR6 := hL.2.2.1
  have hp14 := pow_le14 (p := (nP L).toNat) (by omega)
  have hp1 := Nat.two_pow_pos (nP L).toNat
  have bA := allW_bd R H hL y.toNat 0
  have bZ := idx_bd (R := R) (H := H) hL y.toNat (nP L).toNat
  refine ⟨if isQ L y ∧ (0 ≤ z ∧ z ≤ 1) then (if (idx L R H y.toNat (nP L).toNat).1 = -1 ∨ z = 0 then (idx L R H y.toNat (nP L).toNat).1 else allW L R H y.toNat 0 - (idx L R H y.toNat (nP L).toNat).2) else -1, ?_, fun P Q hQ => ?_, fun P I1 J1 h1 k1 Q hQ => ?_⟩
  · split
    · split
      · exact ⟨by omega, by omega⟩
      · exact ⟨by omega, by omega⟩
    · decide
  · have e1 : gi I 6 1 = nP L := cx_p hC
    refine WPm.of k_X11_index.1 (Nat.le_of_ble_eq_true rfl) (B_X11_index_0 (by omega) ?_)
    rw [e1, shl_p hP]
    refine ⟨hy, fun q2 => ?_, fun q2 => ⟨hz, fun q3 => ?_, fun q3 => ⟨fun q4 => ?_, fun q4 => ?_⟩⟩⟩
    · rw [if_neg (fun w => q2 w.1)] at hQ
      exact hQ I (scrS.rf I) J (scrJ.rf J)
    · rw [if_neg (fun w => absurd w.2.1 (by omega))] at hQ
      exact hQ I (scrS.rf I) J (scrJ.rf J)
    · obtain ⟨n1, n2⟩ := isQ_nat hL q2
      rw [if_pos ⟨q2, by omega, q4⟩] at hQ
      have loop : ∀ (d n : Nat) (x b f : Int) (I' : Nat → Nat → Int32), n + d = (nP L).toNat → x = n → b = (idx L R H y.toNat n).1 → f = (idx L R H y.toNat n).2 → Fr [37, 38] [] I I' → WP 900 LAY m_X11_index 44 [(0, vR (some 0)), (1, vI ((y.toNat : Nat) : Int)), (2, vI z), (3, vI (allW L R H y.toNat 0)), (4, vI f), (5, vI b), (6, vI x)] [] (mem (rv0 P) I' J) Q := by
        intro d
        induction d with
        | zero =>
          intro n x b f I' hn hx hb hf hF
          have hX' := hC.fr (hF.cx (by decide) (by decide))
          have e : (nP L).toNat = n := by omega
          rw [e] at bZ hQ
          rw [← hb, ← hf] at bZ hQ
          refine B_X11_index_44 (by omega) ?_
          rw [cx_p hX']
          refine ⟨⟨by omega, by omega⟩, fun _ => ⟨⟨by omega, by omega⟩, fun q5 => ?_, fun q5 => ⟨hz, fun q6 => ?_, fun q6 => ?_⟩⟩, fun q => absurd q (by omega)⟩
          · rw [if_pos (Or.inl q5)] at hQ
            exact hQ I' (S3_scr hF) J (scrJ.rf J)
          · rw [if_neg (fun w => w.elim q5 q6)] at hQ
            exact hQ I' (S3_scr hF) J (scrJ.rf J)
          · rw [if_pos (Or.inr q6)] at hQ
            exact hQ I' (S3_scr hF) J (scrJ.rf J)
        | succ d ih =>
          intro n x b f I' hn hx hb hf hF
          have hX' := hC.fr (hF.cx (by decide) (by decide))
          have hb2 := idx_bd (R := R) (H := H) hL y.toNat n
          have b1 := allW_bd R H hL y.toNat (2 ^ n)
          refine B_X11_index_44 (by omega) ?_
          subst hx
          rw [cx_p hX', andp_iff (by omega) (by omega)]
          refine ⟨⟨by omega, by omega⟩, fun q => absurd q (by omega), fun _ => ⟨fun q5 => ?_, fun q5 => ⟨⟨by omega, by omega⟩, ⟨by omega, by omega⟩, fun q6 => ?_, fun q6 => absurd q6 (by omega)⟩⟩⟩
          · refine S_X8_all (ix := 2 ^ n) (by omega) hX' n2 (Or.inr ⟨n, by omega, rfl, rfl⟩) (fun I3 hF3 => ⟨_, _, _, rfl, rfl, ⟨by omega, by omega⟩, ⟨by omega, by omega⟩, fun q6 => ?_, fun q6 => ?_⟩)
            · refine ih (n + 1) _ _ _ I3 (by omega) (by omega) ?_ ?_ (hF.tr hF3)
              · rw [idx, if_neg (by rw [q5]; decide), if_neg (by omega), hb]
              · rw [idx, if_neg (by rw [q5]; decide), if_neg (by omega), hf]
            · refine ih (n + 1) _ _ _ I3 (by omega) (by omega) ?_ ?_ (hF.tr hF3)
              · rw [idx, if_neg (by rw [q5]; decide), if_pos (by omega)]
              · rw [idx, if_neg (by rw [q5]; decide), if_pos (by omega)]
          · have t : y.toNat.testBit n = true := by
              cases h : y.toNat.testBit n
              · exact absurd h q5
              · rfl
            refine ih (n + 1) _ _ _ I' (by omega) (by omega) ?_ ?_ hF
            · rw [idx, if_pos t, hb]
            · rw [idx, if_pos t, hf]
      rw [n1]
      refine S_X8_all (ix := 0) (by omega) hC n2 (Or.inl ⟨rfl, rfl⟩) (fun I3 hF3 => ⟨_, _, _, rfl, rfl, ?_⟩)
      exact loop _ 0 _ _ _ I3 (Nat.zero_add _) rfl rfl rfl hF3
    · rw [if_neg (fun w => q4 w.2.2)] at hQ
      exact hQ I (scrS.rf I) J (scrJ.rf J)
  · have hR1 := hR.fr0 h1
    have c72 : gi I1 74 72 = -1 := (h1.gv 74 72 (by decide) (by decide)).trans h72
    have c73 : gi I1 74 73 = -1 := (h1.gv 74 73 (by decide) (by decide)).trans h73
    refine WPm.of k_X12_index.1 (Nat.le_of_ble_eq_true rfl) (B_X12_index_0 (by omega) ?_)
    rw [rx_p hR1, shl_p hP]
    refine ⟨rx_b hR1, hy, ⟨by omega, by omega⟩, fun q2 => ?_, fun q2 => ⟨hz, fun q3 => ?_, fun q3 => ?_⟩⟩
    · rw [if_neg (fun w => q2 ⟨w.1.1, by have := w.1.2; omega⟩)] at hQ
      exact hQ I1 (scrS.rf I1) J1 (scrJ.rf J1)
    · have q2' : isQ L y := ⟨q2.1, by have := q2.2; omega⟩
      obtain ⟨n1, n2⟩ := isQ_nat hL q2'
      rw [if_pos ⟨q2', q3⟩] at hQ
      have loop : ∀ (d n : Nat) (x b f : Int) (I' : Nat → Nat → Int32) (J' : Nat → Nat → Int64), n + d = (nP L).toNat → x = n → b = (idx L R H y.toNat n).1 → f = (idx L R H y.toNat n).2 → Fr [] SA I1 I' → Fr [121] [] J1 J' → WP 900 LAY m_X12_index 35 [(0, vR (some 74)), (1, vI ((y.toNat : Nat) : Int)), (2, vI z), (3, vI (allW L R H y.toNat 0)), (4, vI b), (5, vI f), (6, vI x)] [] (mem (rv0 P) I' J') Q := by
        intro d
        induction d with
        | zero =>
          intro n x b f I' J' hn hx hb hf hF hJ
          have hX' := hR1.fr (hF.rx (by decide) (by decide))
          have e : (nP L).toNat = n := by omega
          rw [e] at bZ hQ
          rw [← hb, ← hf] at bZ hQ
          refine B_X12_index_35 (by omega) ?_
          rw [rx_p hX']
          refine ⟨rx_b hX', ⟨by omega, by omega⟩, fun _ => ⟨⟨by omega, by omega⟩, fun q5 => ?_, fun q5 => ⟨hz, fun q6 => ?_, fun q6 => ?_⟩⟩, fun q => absurd q (by omega)⟩
          · rw [if_pos (Or.inl q5)] at hQ
            exact hQ I' (SA_scr hF) J' (J1_scr hJ)
          · rw [if_neg (fun w => w.elim q5 q6)] at hQ
            exact hQ I' (SA_scr hF) J' (J1_scr hJ)
          · rw [if_pos (Or.inr q6)] at hQ
            exact hQ I' (SA_scr hF) J' (J1_scr hJ)
        | succ d ih =>
          intro n x b f I' J' hn hx hb hf hF hJ
          have hX' := hR1.fr (hF.rx (by decide) (by decide))
          have hb2 := idx_bd (R := R) (H := H) hL y.toNat n
          have b1 := allW_bd R H hL y.toNat (2 ^ n)
          refine B_X12_index_35 (by omega) ?_
          subst hx
          rw [rx_p hX', has_iff (by omega) (by omega)]
          refine ⟨rx_b hX', ⟨by omega, by omega⟩, fun q => absurd q (by omega), fun _ => ⟨fun q5 => ?_, fun q5 => ?_⟩⟩
          · refine S_X12_all (ix := 2 ^ n) (by omega) hX' n2 (Or.inr ⟨n, by omega, rfl, rfl⟩) ((hF.gv 74 72 (by decide) (by decide)).trans c72) ((hF.gv 74 73 (by decide) (by decide)).trans c73) (fun I3 J3 hF3 hJ3 => ⟨_, _, _, rfl, rfl, ⟨by omega, by omega⟩, ⟨by omega, by omega⟩, fun q6 => ?_, fun q6 => ?_⟩)
            · refine ih (n + 1) _ _ _ I3 J3 (by omega) (by omega) ?_ ?_ (hF.tr hF3) (hJ.tr hJ3)
              · rw [idx, if_neg q5, if_pos (by omega)]
              · rw [idx, if_neg q5, if_pos (by omega)]
            · refine ih (n + 1) _ _ _ I3 J3 (by omega) (by omega) ?_ ?_ (hF.tr hF3) (hJ.tr hJ3)
              · rw [idx, if_neg q5, if_neg (by omega), hb]
              · rw [idx, if_neg q5, if_neg (by omega), hf]
          · refine ih (n + 1) _ _ _ I' J' (by omega) (by omega) ?_ ?_ hF hJ
            · rw [idx, if_pos q5, hb]
            · rw [idx, if_pos q5, hf]
      rw [n1]
      refine S_X12_all (ix := 0) (by omega) hR1 n2 (Or.inl ⟨rfl, rfl⟩) c72 c73 (fun I3 J3 hF3 hJ3 => ⟨_, _, _, rfl, rfl, ?_⟩)
      exact loop _ 0 _ _ _ I3 J3 (Nat.zero_add _) rfl rfl rfl hF3 hJ3
    · rw [if_neg (fun w => q3 w.2)] at hQ
      exact hQ I1 (scrS.rf I1) J1 (scrJ.rf J1)
end ASKS

section TRIES
/-! ===== tonight, whole: an evening that is only asked for ===== -/
theorem pop_bitT {C : List (Int × Int)} {l : List Int} (hC : ∀ k, k < C.length → 0 ≤ cp C k ∧ cp C k < 14) : ∀ n, n ≤ C.length → (∀ i, i < n → cp C i ∈ woN C l i) → pop (bitT C n) = n
  | 0, _, _ => by
    show pop 0 = 0
    decide
  | n + 1, hn, h => by
    have ih := pop_bitT hC n (by omega) (fun i hi => h i (by omega))
    have h1 := hC n (by omega)
    unfold bitT
    rw [pop_or (by omega) (bitT_out (fun i hi w => (woN_mem (h n (by omega))).2 i hi (by have := hC i (by omega); omega))), ih]
theorem scr_cp (I : Nat → Nat → Int32) : scrS I (cpL I 1 0) := by
  intro c k h1 h2
  by_cases hc : 108 ≤ c ∧ c ≤ 120
  · have hcc : (c = 108 ∨ c = 109 ∨ c = 117) ∨ (110 ≤ c ∧ c ≤ 115) ∨ c = 116 ∨ (118 ≤ c ∧ c ≤ 120) := by omega
    rcases hcc with e | e | e | e
    · have hk : k ≠ 1 := by
        intro w
        subst w
        rcases e with rfl | rfl | rfl <;> exact absurd h2 (by decide)
      exact (cpL_oth (I := I) (to := 1) (fr := 0) (v := k) hk).1 c e
    · have hk : ¬ (6 ≤ k ∧ k < 12) := by
        intro w
        simp [scrF] at h2
        omega
      have := (cpL_oth (I := I) (to := 1) (fr := 0) (v := k / 6) (by omega)).2.1 c (k % 6) e (by omega)
      rwa [show 6 * (k / 6) + k % 6 = k by omega] at this
    · subst e
      have hk : ¬ (48 ≤ k ∧ k < 96) := by
        intro w
        simp [scrF] at h2
        omega
      have := (cpL_oth (I := I) (to := 1) (fr := 0) (v := k / 48) (by omega)).2.2.1 (k % 48) (by omega)
      rwa [show 48 * (k / 48) + k % 48 = k by omega] at this
    · have hk : ¬ (60 ≤ k ∧ k < 120) := by
        intro w
        simp [scrF] at h2
        omega
      have := (cpL_oth (I := I) (to := 1) (fr := 0) (v := k / 60) (by omega)).2.2.2 c (k % 60) e (by omega)
      rwa [show 60 * (k / 60) + k % 60 = k by omega] at this
  · exact congrFun (cpL_cell hc) k
theorem scr_tch {I I' : Nat → Nat → Int32} (h : ∀ c k : Nat, ¬ tchA 1 c k → I' c k = I c k) : scrS I I' := by
  intro c k h1 h2
  refine h c k (fun t => ?_)
  unfold tchA at t
  simp [scrF] at h2
  simp [scrC] at h1
  omega
theorem S_X12_tries {k : Nat} {P : Option Nat} {I : Nat → Nat → Int32} {J : Nat → Nat → Int64} {Q : Option AV → Mem → Prop} {L : Lb} {R : Rl} {H : Hl} {cold : Int} (hk : 8 ≤ k) (hX : RX I 0 L R H) (h72 : gi I 74 72 = -1) (h73 : gi I 74 73 = cold) (h117 : 0 ≤ gi I 117 0 ∧ gi I 117 0 ≤ 60)
    (hQ : ∀ I' J', scrS I I' → NtA (cpL I 1 0) I' 1 L R H cold (nR L).toNat → Fr [121] [] J J' → Q (some (vI (waA L R H cold))) (mem (rv0 P) I' J')) : WPm k LAY m_X12_triesNight [vR (some 74)] (mem (rv0 P) I J) Q := by
  have hL := hX.1.2.2.2.2.1
  have hR6 := hL.2.2.1
  refine WPm.of k_X12_triesNight.1 (Nat.le_of_ble_eq_true rfl) (B_X12_triesNight_0 (by omega) ?_)
  refine S_X12_copies (to := 1) (fr := 0) (by decide) (by decide) (by decide) ⟨_, _, rfl, rfl, ?_⟩
  have hly : LayEq I 0 (cpL I 1 0) 1 := cpL_lay
  have hb : gi (cpL I 1 0) 74 13 = gi I 74 13 := by unfold gi; rw [cpL_cell (c := 74) (by decide)]
  have hrl : sameRL I (cpL I 1 0) := ⟨fun c a b => cpL_cell (by omega), hb⟩
  have hb2 : gi (cpL I 1 0) 83 (gi (cpL I 1 0) 74 13).toNat = gi I 83 (gi I 74 13).toNat := by rw [hb, gi_row (hrl.1 83 (by decide) (by decide))]
  have hH1 : HR (cpL I 1 0) 1 = H := by
    have e := HR_lay (v := 0) (v' := 1) hly hb2 (by rw [rx_n hX]; exact hR6.2) (fun r r0 r1 => by
      have r1' : r < nR L := by rw [← rx_n hX]; exact r1
      have := (hX.2.2.1.2.2 r r0 r1').2.2.2.2.1
      rw [show ((6 * ((0 : Nat) : Int)) + r) = r by omega, rx_6' hX ⟨r0, r1'⟩]
      omega)
    exact e.trans hX.2.1
  have hX1 : RX (cpL I 1 0) 1 L R H := ⟨hX.1.fr hrl, hH1, hX.2.2.1, by decide, by decide⟩
  have e72 : gi (cpL I 1 0) 74 72 = -1 := by unfold gi; rw [cpL_cell (c := 74) (by decide)]; exact h72
  have e73 : gi (cpL I 1 0) 74 73 = cold := by unfold gi; rw [cpL_cell (c := 74) (by decide)]; exact h73
  have e117 : gi (cpL I 1 0) 117 (1 : Int).toNat = gi I 117 0 := gi_eq (hly.1 117 (by decide))
  exact S_X12_goes (by omega) hX1 e72 e73 (by rw [e117]; exact h117) (fun I' J' hN hJ => ⟨_, _, _, rfl, rfl, hQ I' J' ((scr_cp I).tr (scr_tch hN.1)) hN hJ⟩)
theorem tgt_rng {L : Lb} {R : Rl} {H : Hl} (hL : WfL L) (hH : WfH L H) {cold r : Int} (hr : 0 ≤ r ∧ r < nR L) : inR (rdA L R H cold r) ∧ inR ((bitT (coN L R H cold r) (rdC L R H cold r) : Nat) : Int) ∧ inR (stN L R H cold r) := by
  have h1 := rdA_bd (R := R) hL hH (cold := cold) hr
  have h2 := stN_bd (R := R) hL hH (cold := cold) hr
  have h3 : 0 ≤ ltN L R H cold (H 1 r) ∧ ltN L R H cold (H 1 r) ≤ 3000 := lig_bd (R := R) H hL (H 1 r) (dr L cold (H 1 r))
  have hP := hL.2.1
  have h4 := bitT_lt (C := coN L R H cold r) (fun k hk => by have := ((coN_rng (R := R) hL hH (cold := cold) hr).2 k hk).1; omega) (rdC L R H cold r) (rdn_le _ _)
  exact ⟨⟨by omega, by omega⟩, ⟨by omega, by omega⟩, ⟨by omega, by omega⟩⟩
theorem step_tonight {V V' : Cpl} (hS : Vsc V V') (hA : ∀ I J, V I J → VA I ∧ 0 ≤ gi I 117 0 ∧ gi I 117 0 ≤ 60) (x y : Int) (hx : inR x) (hy : inR y) : Step V V' m_X11_tonight m_X12_tonight [x, y] := by
  refine Step.rd hS (fun I J hV => ?_)
  obtain ⟨⟨hC, hR, h72, h73⟩, h117⟩ := hA I J hV
  generalize LC I = L at hC hR
  generalize RC I = R at hC hR
  generalize HC I = H at hC hR
  have hL := hC.1.2.2.2.1
  have hH := hC.2.2
  have hR6 := hL.2.2.1
  have e2 : gi I 6 (2 : Int).toNat = nR L := cx_n hC
  let z : Int := if 0 ≤ x ∧ x < nR L then (if y = 0 then rdA L R H (-1) x else if y = 1 then ((bitT (coN L R H (-1) x) (rdC L R H (-1) x) : Nat) : Int) else if y = 2 then stN L R H (-1) x else if y = 3 then lfN (ltN L R H (-1) (H 1 x)) (coN L R H (-1) x) (H 4 x) else if y = 4 then itN (ltN L R H (-1) (H 1 x)) (coN L R H (-1) x) (donP L H x True) (H 5 x) else -1) else -1
  have hz0 : ¬ (0 ≤ x ∧ x < nR L) → z = -1 := fun q => if_neg q
  have hz1 : ∀ b, (0 ≤ x ∧ x < nR L) → (if y = 0 then rdA L R H (-1) x else if y = 1 then ((bitT (coN L R H (-1) x) (rdC L R H (-1) x) : Nat) : Int) else if y = 2 then stN L R H (-1) x else if y = 3 then lfN (ltN L R H (-1) (H 1 x)) (coN L R H (-1) x) (H 4 x) else if y = 4 then itN (ltN L R H (-1) (H 1 x)) (coN L R H (-1) x) (donP L H x True) (H 5 x) else -1) = b → z = b := fun b q e => (if_pos q).trans e
  clear_value z
  -- the class
  have cls : ∀ P (Q : Option AV → Mem → Prop), (∀ I', scrS I I' → ∀ J', scrJ J J' → Q (some (vI z)) (mem (rv0 P) I' J')) → WPm 900 LAY m_X11_tonight (vR (some 0) :: [x, y].map vI) (mem (rv0 P) I J) Q := by
    intro P Q hQ
    refine WPm.of k_X11_tonight.1 (Nat.le_of_ble_eq_true rfl) (B_X11_tonight_0 (by omega) ?_)
    rw [e2]
    refine ⟨hx, fun q => ?_, fun q => ⟨hy, fun q2 => ?_, fun q2 => ⟨fun q3 => ?_, fun q3 => ?_⟩⟩⟩
    · rw [hz0 q] at hQ
      exact hQ I (scrS.rf I) J (scrJ.rf J)
    · rw [hz1 (-1) q (by rw [if_neg (by omega), if_neg (by omega), if_neg (by omega), if_neg (by omega), if_neg (by omega)])] at hQ
      exact hQ I (scrS.rf I) J (scrJ.rf J)
    · refine S_X1_foresee (by decide) hC (by decide) (fun I' hF hE => ⟨_, _, rfl, rfl, ?_⟩)
      have hs := hQ I' (hF.scr (by decide) (by decide)) J (scrJ.rf J)
      obtain ⟨g1, g2, g3, g4, g5, -⟩ := hE.2 x q.1 q.2
      dsimp only
      rw [g1, g2, g3, g4, g5]
      refine ⟨fun w => ⟨⟨by omega, by omega⟩, Qat hs ?_⟩, fun w => ⟨fun w1 => ⟨⟨by omega, by omega⟩, Qat hs ?_⟩, fun w1 => ⟨fun w2 => ⟨⟨by omega, by omega⟩, Qat hs ?_⟩, fun w2 => ⟨fun w3 => ⟨⟨by omega, by omega⟩, Qat hs ?_⟩, fun w3 => ⟨⟨by omega, by omega⟩, Qat hs ?_⟩⟩⟩⟩⟩
      · exact hz1 _ q (if_pos w)
      · exact (hz1 _ q (by rw [if_neg w, if_pos w1]))
      · exact (hz1 _ q (by rw [if_neg w, if_neg w1, if_pos w2]; rfl))
      · exact (hz1 _ q (by rw [if_neg w, if_neg w1, if_neg w2, if_pos w3]))
      · exact (hz1 _ q (by rw [if_neg w, if_neg w1, if_neg w2, if_neg w3, if_pos (by omega)]))
    · rw [hz1 (-1) q (by rw [if_neg (by omega), if_neg (by omega), if_neg (by omega), if_neg (by omega), if_neg (by omega)])] at hQ
      exact hQ I (scrS.rf I) J (scrJ.rf J)
  -- the reference
  have ref : ∀ P I1 J1, scrS I I1 → scrJ J J1 → ∀ (Q : Option AV → Mem → Prop), (∀ I', scrS I1 I' → ∀ J', scrJ J1 J' → inR z → Q (some (vI z)) (mem (rv0 P) I' J')) → WPm 900 LAY m_X12_tonight (vR (some 74) :: [x, y].map vI) (mem (rv0 P) I1 J1) Q := by
    intro P I1 J1 h1 j1 Q hQ
    have hR1 := hR.fr0 h1
    have e72 : gi I1 74 72 = -1 := (h1.gv 74 72 (by decide) (by decide)).trans h72
    have e73 : gi I1 74 73 = -1 := (h1.gv 74 73 (by decide) (by decide)).trans h73
    have e117 : gi I1 117 0 = gi I 117 0 := h1.gv 117 0 (by decide) (by decide)
    refine WPm.of k_X12_tonight.1 (Nat.le_of_ble_eq_true rfl) (B_X12_tonight_0 (by omega) ?_)
    rw [rx_n hR1]
    refine ⟨rx_b hR1, hx, fun q => ?_, fun q => ⟨hy, fun q2 => ?_, fun q2 => ?_⟩⟩
    · have e := hz0 q
      rw [e] at hQ
      exact hQ I1 (scrS.rf I1) J1 (scrJ.rf J1) (by decide)
    · refine S_X12_tries (by decide) hR1 e72 e73 (by rw [e117]; exact h117) (fun I' J' hs hN hJ => ⟨_, _, _, rfl, rfl, ?_⟩)
      have hq := hQ I' hs J' (J1_scr hJ)
      obtain ⟨-, hX', -, -, -, hnew, -⟩ := hN
      obtain ⟨⟨n2, n4, n5, n7, nE⟩, n22, n23⟩ := hnew x q.1 (by omega)
      have m4 : gi I' 113 (6 + x).toNat = lfN (ltN L R H (-1) (H 1 x)) (coN L R H (-1) x) (H 4 x) := by
        have := rx_4 hX' q
        rw [show (6 * (1 : Int)) + x = 6 + x by omega] at this
        exact this.trans n4
      have m5 : gi I' 114 (6 + x).toNat = itN (ltN L R H (-1) (H 1 x)) (coN L R H (-1) x) (donP L H x True) (H 5 x) := by
        have := rx_5 hX' q
        rw [show (6 * (1 : Int)) + x = 6 + x by omega] at this
        exact this.trans n5
      obtain ⟨t1, t2, t3⟩ := tgt_rng (R := R) hL hH (cold := -1) q
      have hP := hL.2.1
      have hcr := (coN_rng (R := R) hL hH (cold := -1) q).2
      have hpb := pop_bitT (C := coN L R H (-1) x) (l := lsH H x) (fun k hk => by have := (hcr k hk).1; omega) (rdC L R H (-1) x) (rdn_le _ _) nE.1
      have hlt := bitT_lt (C := coN L R H (-1) x) (fun k hk => by have := (hcr k hk).1; omega) (rdC L R H (-1) x) (rdn_le _ _)
      have fin : ∀ b, inR b → (if y = 0 then rdA L R H (-1) x else if y = 1 then ((bitT (coN L R H (-1) x) (rdC L R H (-1) x) : Nat) : Int) else if y = 2 then stN L R H (-1) x else if y = 3 then lfN (ltN L R H (-1) (H 1 x)) (coN L R H (-1) x) (H 4 x) else if y = 4 then itN (ltN L R H (-1) (H 1 x)) (coN L R H (-1) x) (donP L H x True) (H 5 x) else -1) = b → Q (some (vI b)) (mem (rv0 P) I' J') := fun b hb e => by
        have := hz1 b q e
        rw [this] at hq
        exact hq hb
      have i4 : inR (lfN (ltN L R H (-1) (H 1 x)) (coN L R H (-1) x) (H 4 x)) := by rw [← m4]; exact gi_in _ _ _
      have i5 : inR (itN (ltN L R H (-1) (H 1 x)) (coN L R H (-1) x) (donP L H x True) (H 5 x)) := by rw [← m5]; exact gi_in _ _ _
      dsimp only
      rw [m4, m5, n22, n23]
      refine ⟨fun w => ⟨fun w1 => ⟨fun w2 => ⟨fun w3 => ⟨⟨by omega, by omega⟩, fin _ i5 ?_⟩, fun w3 => ⟨⟨by omega, by omega⟩, fin _ i4 ?_⟩⟩, fun w2 => ⟨⟨by omega, by omega⟩, fin _ t3 ?_⟩⟩, fun w1 => ⟨⟨by omega, by omega⟩, fin _ t2 ?_⟩⟩, fun w => ⟨⟨by omega, by omega⟩, S_X12_bits hlt ⟨_, _, _, rfl, rfl, fin _ ?_ ?_⟩⟩⟩
      · rw [if_neg w, if_neg w1, if_neg w2, if_neg w3, if_pos (by omega)]
      · rw [if_neg w, if_neg w1, if_neg w2, if_pos w3]
      · rw [if_neg w, if_neg w1, if_pos w2]
      · rw [if_neg w, if_pos w1]
      · rw [hpb]
        exact t1
      · rw [if_pos w, hpb]
        rfl
    · have e : z = -1 := hz1 (-1) q (by rw [if_neg (by omega), if_neg (by omega), if_neg (by omega), if_neg (by omega), if_neg (by omega)])
      rw [e] at hQ
      exact hQ I1 (scrS.rf I1) J1 (scrJ.rf J1) (by decide)
  have hzr : inR z := by
    refine Classical.byContradiction (fun hn => hn ?_)
    by_cases q : 0 ≤ x ∧ x < nR L
    · obtain ⟨t1, t2, t3⟩ := tgt_rng (R := R) hL hH (cold := -1) q
      have hw := left_rng (hH.2.2 x q.1 q.2)
      have h3 : 0 ≤ ltN L R H (-1) (H 1 x) ∧ ltN L R H (-1) (H 1 x) ≤ 3000 := lig_bd (R := R) H hL (H 1 x) (dr L (-1) (H 1 x))
      have hP := hL.2.1
      have hcr := (coN_rng (R := R) hL hH (cold := -1) q).2
      have hdn : 0 ≤ donP L H x True ∧ donP L H x True ≤ 499 := by
        unfold donP
        split <;> omega
      have i4 : inR (lfN (ltN L R H (-1) (H 1 x)) (coN L R H (-1) x) (H 4 x)) := by
        unfold lfN
        split
        · exact ⟨by omega, by omega⟩
        · split
          · have := (hcr _ (‹_ ∧ _›).1).1
            exact ⟨by omega, by omega⟩
          · decide
      have i5 : inR (itN (ltN L R H (-1) (H 1 x)) (coN L R H (-1) x) (donP L H x True) (H 5 x)) := by
        unfold itN
        split
        · exact ⟨by omega, by omega⟩
        · split
          · rename_i h1 h2
            have hb : 0 ≤ bgn (coN L R H (-1) x) (rdn (ltN L R H (-1) (H 1 x)) (coN L R H (-1) x)) ∧ bgn (coN L R H (-1) x) (rdn (ltN L R H (-1) (H 1 x)) (coN L R H (-1) x)) ≤ 4000 := by
              unfold bgn
              split
              · decide
              · exact (hcr _ (by omega)).2
            have : 0 ≤ (if rdn (ltN L R H (-1) (H 1 x)) (coN L R H (-1) x) = 0 then donP L H x True else 0) ∧ (if rdn (ltN L R H (-1) (H 1 x)) (coN L R H (-1) x) = 0 then donP L H x True else 0) ≤ 499 := by
              split <;> omega
            exact ⟨by omega, by omega⟩
          · decide
      rw [hz1 _ q rfl]
      exact ite_R t1 (ite_R t2 (ite_R t3 (ite_R i4 (ite_R i5 (by decide)))))
    · rw [hz0 q]
      decide
  exact ⟨z, hzr, cls, fun P I1 J1 h1 j1 Q hQ => ref P I1 J1 h1 j1 Q (fun I' hs J' hj _ => hQ I' hs J' hj)⟩
end TRIES

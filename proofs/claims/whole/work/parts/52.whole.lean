section WHOLES
theorem step_whole {V V' : Cpl} (hS : Vsc V V') (hA : ∀ I J, V I J → VA I ∧ 0 ≤ gi I 117 0 ∧ gi I 117 0 ≤ 60) (x : Int) (hx : inR x) : Step V V' m_X11_whole m_X12_whole [x] := by
  refine Step.rd hS (fun I J hV => ?_)
  obtain ⟨⟨hC, hR, h72, h73⟩, h117⟩ := hA I J hV
  generalize LC I = L at hC hR
  generalize RC I = R at hC hR
  generalize HC I = H at hC hR
  have hL := hC.1.2.2.2.1
  have hH := hC.2.2
  have hR6 := hL.2.2.1
  have hT := hL.2.2.2.1
  have b0 := allR_bd (R := R) hL hH (cold := -1)
  have b1 := allLt_bd (R := R) (H := H) hL (cold := -1)
  have b2 := waA_bd (R := R) hL hH (cold := -1)
  have b3 := allI_bd (R := R) (H := H) hL (cold := -1)
  obtain ⟨z, hz0, hz1, hz2, hz3, hz4, hz⟩ : ∃ z : Int, (x = 0 → z = allR L R H (-1)) ∧ (x = 1 → z = allLt L R H (-1)) ∧ (x = 2 → z = waA L R H (-1)) ∧ (x = 3 → z = allI L R H (-1)) ∧ (¬ (0 ≤ x ∧ x ≤ 3) → z = -1) ∧ inR z := by
    by_cases e0 : x = 0
    · exact ⟨_, fun _ => rfl, fun _ => by omega, fun _ => by omega, fun _ => by omega, fun _ => by omega, ⟨by omega, by omega⟩⟩
    · by_cases e1 : x = 1
      · exact ⟨_, fun _ => by omega, fun _ => rfl, fun _ => by omega, fun _ => by omega, fun _ => by omega, ⟨by omega, by omega⟩⟩
      · by_cases e2 : x = 2
        · exact ⟨_, fun _ => by omega, fun _ => by omega, fun _ => rfl, fun _ => by omega, fun _ => by omega, ⟨by omega, by omega⟩⟩
        · by_cases e3 : x = 3
          · exact ⟨_, fun _ => by omega, fun _ => by omega, fun _ => by omega, fun _ => rfl, fun _ => by omega, ⟨by omega, by omega⟩⟩
          · exact ⟨-1, fun _ => by omega, fun _ => by omega, fun _ => by omega, fun _ => by omega, fun _ => rfl, by decide⟩
  refine ⟨z, hz, fun P Q hQ => ?_, fun P I1 J1 h1 j1 Q hQ => ?_⟩
  · refine WPm.of k_X11_whole.1 (Nat.le_of_ble_eq_true rfl) (B_X11_whole_0 (by omega) ?_)
    refine ⟨hx, fun q => ?_, fun q => ⟨fun q2 => ?_, fun q2 => ?_⟩⟩
    · rw [hz4 (by omega)] at hQ
      exact hQ I (scrS.rf I) J (scrJ.rf J)
    · refine S_X1_foresee (by decide) hC (by decide) (fun I' hF hE => ⟨_, _, rfl, rfl, ?_⟩)
      have hs := hQ I' (hF.scr (by decide) (by decide)) J (scrJ.rf J)
      have hX' : CX I' L R H := hC.fr (hF.cx (by decide) (by decide))
      refine ⟨fun w => S_X1_allRead hX' hE ⟨_, _, _, rfl, rfl, Qat hs (hz0 w)⟩, fun w => ⟨fun w1 => S_X1_allLight hX' hE ⟨_, _, _, rfl, rfl, Qat hs (hz1 w1)⟩, fun w1 => ⟨fun w2 => S_X1_allWax hX' hE ⟨_, _, _, rfl, rfl, Qat hs (hz2 w2)⟩, fun w2 => S_X1_idle hX' hE ⟨_, _, _, rfl, rfl, Qat hs (hz3 (by omega))⟩⟩⟩⟩
    · rw [hz4 (by omega)] at hQ
      exact hQ I (scrS.rf I) J (scrJ.rf J)
  · have hR1 := hR.fr0 h1
    have e72 : gi I1 74 72 = -1 := (h1.gv 74 72 (by decide) (by decide)).trans h72
    have e73 : gi I1 74 73 = -1 := (h1.gv 74 73 (by decide) (by decide)).trans h73
    have e117 : gi I1 117 0 = gi I 117 0 := h1.gv 117 0 (by decide) (by decide)
    refine WPm.of k_X12_whole.1 (Nat.le_of_ble_eq_true rfl) (B_X12_whole_0 (by omega) ?_)
    refine ⟨hx, fun q => ?_, fun q => ?_⟩
    · refine S_X12_tries (by decide) hR1 e72 e73 (by rw [e117]; exact h117) (fun I' J' hs hN hJ => ⟨_, _, _, rfl, rfl, ?_⟩)
      have hq := hQ I' hs J' (J1_scr hJ)
      obtain ⟨-, hX', -, -, -, hnew, h77, -, -, h124⟩ := hN
      have h77' : gi I' 74 77 = allR L R H (-1) := h77
      have lp64 : x = 3 → ∀ (w : Int) (d n : Nat) (i y : Int), n + d = (nR L).toNat → i = n → y = smi n (fun r => if rdA L R H (-1) r = 0 then 1 else 0) → WP 900 LAY m_X12_whole 64 [(0, vR (some 74)), (1, vI x), (2, vI w), (3, vI y), (4, vI i)] [] (mem (P, some 5, some 22) I' J') Q := by
        intro e3 w d
        induction d with
        | zero =>
          intro n i y hn hi hy
          refine B_X12_whole_64 (by omega) ?_
          rw [rx_n hX']
          refine ⟨rx_b hX', ⟨by omega, by omega⟩, fun _ => ⟨hx, fun _ => ⟨fun _ => Qat hq ?_, fun c => absurd c (by omega)⟩, fun c => absurd c (by omega)⟩, fun c => absurd c (by omega)⟩
          rw [hz3 e3, hy]
          unfold allI
          rw [show (nR L).toNat = n by omega]
        | succ d ih =>
          intro n i y hn hi hy
          subst hi
          have hr : (0 : Int) ≤ n ∧ (n : Int) < nR L := ⟨by omega, by omega⟩
          obtain ⟨⟨-, -, -, -, nE⟩, -, n23⟩ := hnew n hr.1 (by omega)
          have hP := hL.2.1
          have hcr := (coN_rng (R := R) hL hH (cold := -1) hr).2
          have hpb := pop_bitT (C := coN L R H (-1) n) (l := lsH H n) (fun k hk => by have := (hcr k hk).1; omega) (rdC L R H (-1) n) (rdn_le _ _) nE.1
          have hpr : rdA L R H (-1) n = (rdC L R H (-1) n : Int) := rfl
          refine B_X12_whole_64 (by omega) ?_
          rw [rx_n hX', n23]
          refine ⟨rx_b hX', ⟨by omega, by omega⟩, fun c => absurd c (by omega), fun _ => ⟨⟨by omega, by omega⟩, fun c => ih (n + 1) _ _ (by omega) (by omega) ?_, fun c => ih (n + 1) _ _ (by omega) (by omega) ?_⟩⟩
          · have hne : ¬ rdA L R H (-1) n = 0 := by
              intro w0
              apply c
              have e0 : rdC L R H (-1) n = 0 := by omega
              rw [e0]
              rfl
            rw [hy, smi, if_neg hne]
          · have he : rdA L R H (-1) n = 0 := by
              rw [Int.natCast_eq_zero.mp c] at hpb
              have e0 : pop 0 = 0 := by decide
              omega
            rw [hy, smi, if_pos he]
      have lp26 : x = 1 → ∀ (w : Int) (d n : Nat) (i y : Int), n + d = (nT L).toNat → i = n → y = smi n (fun t => ltN L R H (-1) t) → WP 900 LAY m_X12_whole 26 [(0, vR (some 74)), (1, vI x), (2, vI w), (3, vI y), (4, vI i)] [] (mem (P, some 5, some 22) I' J') Q := by
        intro e1 w d
        induction d with
        | zero =>
          intro n i y hn hi hy
          refine B_X12_whole_26 (by omega) ?_
          rw [rx_t hX']
          refine ⟨rx_b hX', ⟨by omega, by omega⟩, fun _ => ⟨hx, fun _ => ⟨fun _ => ⟨fun _ => Qat hq ?_, fun c => absurd c (by omega)⟩, fun c => absurd c (by omega)⟩, fun c => absurd c (by omega)⟩, fun c => absurd c (by omega)⟩
          rw [hz1 e1, hy]
          unfold allLt
          rw [show (nT L).toNat = n by omega]
        | succ d ih =>
          intro n i y hn hi hy
          subst hi
          refine B_X12_whole_26 (by omega) ?_
          rw [rx_t hX', h124 n (by omega) (by omega)]
          exact ⟨rx_b hX', ⟨by omega, by omega⟩, fun c => absurd c (by omega), fun _ => ⟨⟨by omega, by omega⟩, ih (n + 1) _ _ (by omega) (by omega) (by rw [hy]; rfl)⟩⟩
      refine ⟨fun w1 => ⟨fun w3 => ⟨fun w0 => ⟨fun w2 => absurd w2 (by omega), fun w2 => Qat hq (hz2 w2)⟩, fun w0 => Qat hq ?_⟩, fun w3 => lp64 w3 _ _ 0 0 0 (Nat.zero_add _) rfl rfl⟩, fun w1 => lp26 w1 _ _ 0 0 0 (Nat.zero_add _) rfl rfl⟩
      rw [hz0 w0, h77']
    · rw [hz4 q] at hQ
      exact hQ I1 (scrS.rf I1) J1 (scrJ.rf J1)
end WHOLES

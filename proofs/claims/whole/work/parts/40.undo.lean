section UNDOS
theorem step_undo {V V' : Cpl} (hA : Vact V V') : Step V V' m_X11_undo m_X12_undo [] := by
  intro P I J hV
  obtain ⟨hH, hst⟩ := hA.1 I J hV
  obtain ⟨⟨hC, hR, h72, h73⟩, hVP, hK, hrn⟩ := hH
  have hL := hC.1.2.2.2.1
  have hR6 := hL.2.2.1
  have hnR := rx_n hR
  obtain ⟨p1, p2, p3, p4, p5, p6⟩ := hVP
  have hq : rem32 ((gi I 4 4 + 20) - 1) 20 = (gi I 4 4 + 19) % 20 := by
    rw [rem32_pos ⟨by omega, by omega⟩ (by decide)]
    omega
  refine WPm.of k_X11_undo.1 (Nat.le_of_ble_eq_true rfl) (B_X11_undo_0 (by omega) ?_)
  rw [hq]
  refine ⟨fun q => ⟨⟨by omega, by omega, by omega⟩, Step.put (by decide) rfl ?_⟩, fun q => Step.put (by decide) rfl ?_⟩
  · obtain ⟨t1, t2⟩ := p5 (gi I 4 5 - 1) (by omega) (by omega)
    have htop : ∀ i, pRow I (gi I 4 5 - 1) i = gi I 21 ((87 * ((gi I 4 4 + 19) % 20)) + i).toNat := by
      intro i
      unfold pRow
      congr 2
      omega
    have hlay : pLay I (gi I 4 5 - 1) = (2 + (gi I 74 65 + (gi I 4 5 - 1)) % 20).toNat := rfl
    generalize hfr : pLay I (gi I 4 5 - 1) = fr at t1 hlay
    have d1 : ∀ c k, ¬ c = 19 → ¬ (c = 4 ∧ (k = 4 ∨ k = 5 ∨ k = 6)) → si (fc (si (si I 4 4 ((gi I 4 4 + 19) % 20)) 4 5 (gi I 4 5 - 1)) 21 (((gi I 4 4 + 19) % 20) * 87).toNat 19 0 87) 4 6 (gi I 4 6 + 1) c k = I c k := by
      intro c k hc hk
      rw [si_at, if_neg (by omega)]
      have e : fc (si (si I 4 4 ((gi I 4 4 + 19) % 20)) 4 5 (gi I 4 5 - 1)) 21 (((gi I 4 4 + 19) % 20) * 87).toNat 19 0 87 c k = (si (si I 4 4 ((gi I 4 4 + 19) % 20)) 4 5 (gi I 4 5 - 1)) c k := by simp [fc, hc]
      rw [e, si_at, if_neg (by omega), si_at, if_neg (by omega)]
    have d19 : ∀ i : Int, 0 ≤ i → i < 87 → gi (si (fc (si (si I 4 4 ((gi I 4 4 + 19) % 20)) 4 5 (gi I 4 5 - 1)) 21 (((gi I 4 4 + 19) % 20) * 87).toNat 19 0 87) 4 6 (gi I 4 6 + 1)) 19 i.toNat = pRow I (gi I 4 5 - 1) i := by
      intro i i0 i1
      rw [gi_cell _ _ _ _ (by decide), gi_fc, if_pos ⟨rfl, by omega, by omega⟩, gi_cell _ _ _ _ (by decide), gi_cell _ _ _ _ (by decide), htop]
      congr 1
      omega
    have d44 : gi (si (fc (si (si I 4 4 ((gi I 4 4 + 19) % 20)) 4 5 (gi I 4 5 - 1)) 21 (((gi I 4 4 + 19) % 20) * 87).toNat 19 0 87) 4 6 (gi I 4 6 + 1)) 4 4 = (gi I 4 4 + 19) % 20 := by
      rw [gi_idx _ _ _ (by decide), gi_fcell _ _ _ _ _ _ (by decide), gi_idx _ _ _ (by decide)]
      exact gi_same _ _ _ ⟨by omega, by omega⟩
    have d45 : gi (si (fc (si (si I 4 4 ((gi I 4 4 + 19) % 20)) 4 5 (gi I 4 5 - 1)) 21 (((gi I 4 4 + 19) % 20) * 87).toNat 19 0 87) 4 6 (gi I 4 6 + 1)) 4 5 = gi I 4 5 - 1 := by
      rw [gi_idx _ _ _ (by decide), gi_fcell _ _ _ _ _ _ (by decide)]
      exact gi_same _ _ _ ⟨by omega, by omega⟩
    have d46 : gi (si (fc (si (si I 4 4 ((gi I 4 4 + 19) % 20)) 4 5 (gi I 4 5 - 1)) 21 (((gi I 4 4 + 19) % 20) * 87).toNat 19 0 87) 4 6 (gi I 4 6 + 1)) 4 6 = gi I 4 6 + 1 := gi_same _ _ _ ⟨by omega, by omega⟩
    generalize si (fc (si (si I 4 4 ((gi I 4 4 + 19) % 20)) 4 5 (gi I 4 5 - 1)) 21 (((gi I 4 4 + 19) % 20) * 87).toNat 19 0 87) 4 6 (gi I 4 6 + 1) = I1 at d1 d19 d44 d45 d46 ⊢
    have f66 : gi I1 74 66 = gi I 4 5 := (gi_eq (d1 74 66 (by decide) (by decide))).trans p4
    have f65 : gi I1 74 65 = gi I 74 65 := gi_eq (d1 74 65 (by decide) (by decide))
    have x66 : gi (si I1 74 66 (gi I 4 5 - 1)) 74 66 = gi I 4 5 - 1 := gi_same _ _ _ ⟨by omega, by omega⟩
    have x65 : gi (si I1 74 66 (gi I 4 5 - 1)) 74 65 = gi I 74 65 := (gi_idx _ _ _ (by decide)).trans f65
    refine WPm.of k_X12_undo.1 (Nat.le_of_ble_eq_true rfl) (B_X12_undo_0 (by omega) ?_)
    rw [f66, x66, x65, rem32_pos ⟨by omega, by omega⟩ (by decide), show (2 + (gi I 74 65 + (gi I 4 5 - 1)) % 20) = ((fr : Nat) : Int) by rw [hlay]; omega]
    refine ⟨fun _ => ?_, fun w => absurd w q⟩
    have hfr2 : 2 ≤ fr ∧ fr < 22 := by rw [hlay]; omega
    refine S_X12_copies (to := 0) (fr := fr) (by decide) hfr2.2 (by omega) ⟨_, _, rfl, rfl, rfl, ?_⟩
    have g1 : ∀ c k, ¬ (108 ≤ c ∧ c ≤ 120) → ¬ (c = 74 ∧ k = 66) → cpL (si I1 74 66 (gi I 4 5 - 1)) 0 fr c k = I1 c k := by
      intro c k hc hk
      rw [cpL_cell hc, si_at, if_neg hk]
    have g2 : ∀ c k, ¬ (108 ≤ c ∧ c ≤ 120) → ¬ (c = 74 ∧ k = 66) → ¬ c = 19 → ¬ (c = 4 ∧ (k = 4 ∨ k = 5 ∨ k = 6)) → cpL (si I1 74 66 (gi I 4 5 - 1)) 0 fr c k = I c k := fun c k a b c1 d => (g1 c k a b).trans (d1 c k c1 d)
    have lay1 : ∀ v, LayEq I v (si I1 74 66 (gi I 4 5 - 1)) v := by
      intro v
      have e : ∀ c k, 108 ≤ c ∧ c ≤ 120 → si I1 74 66 (gi I 4 5 - 1) c k = I c k := fun c k hc => by rw [si_at, if_neg (by omega), d1 c k (by omega) (by omega)]
      exact ⟨fun c hc => e c v (by omega), fun c i hc hi => e c _ (by omega), fun i hi => e _ _ (by omega), fun c i hc hi => e c _ (by omega)⟩
    have layN : LayEq I fr (cpL (si I1 74 66 (gi I 4 5 - 1)) 0 fr) 0 := (lay1 fr).tr cpL_lay
    have layO : ∀ v, 2 ≤ v → v < 22 → LayEq I v (cpL (si I1 74 66 (gi I 4 5 - 1)) 0 fr) v := fun v hv _ => (lay1 v).tr (cpL_oth (by omega))
    have v19 : ∀ i : Int, 0 ≤ i → i < 87 → gi (cpL (si I1 74 66 (gi I 4 5 - 1)) 0 fr) 19 i.toNat = pRow I (gi I 4 5 - 1) i := fun i i0 i1 => (gi_eq (g1 19 _ (by decide) (by omega))).trans (d19 i i0 i1)
    have v44 : gi (cpL (si I1 74 66 (gi I 4 5 - 1)) 0 fr) 4 4 = (gi I 4 4 + 19) % 20 := (gi_eq (g1 4 4 (by decide) (by decide))).trans d44
    have v45 : gi (cpL (si I1 74 66 (gi I 4 5 - 1)) 0 fr) 4 5 = gi I 4 5 - 1 := (gi_eq (g1 4 5 (by decide) (by decide))).trans d45
    have v46 : gi (cpL (si I1 74 66 (gi I 4 5 - 1)) 0 fr) 4 6 = gi I 4 6 + 1 := (gi_eq (g1 4 6 (by decide) (by decide))).trans d46
    have v66 : gi (cpL (si I1 74 66 (gi I 4 5 - 1)) 0 fr) 74 66 = gi I 4 5 - 1 := by
      rw [gi_row (cpL_cell (by decide))]
      exact x66
    have v65 : gi (cpL (si I1 74 66 (gi I 4 5 - 1)) 0 fr) 74 65 = gi I 74 65 := gi_eq (g2 74 65 (by decide) (by decide) (by decide) (by decide))
    generalize cpL (si I1 74 66 (gi I 4 5 - 1)) 0 fr = I' at g1 g2 layN layO v19 v44 v45 v46 v66 v65 ⊢
    have hl : sameL I I' := fun c a b => funext fun k => g2 c k (by omega) (by omega) (by omega) (by omega)
    have hrl : sameRL I I' := ⟨fun c a b => funext fun k => g2 c k (by omega) (by omega) (by omega) (by omega), gi_eq (g2 74 13 (by decide) (by decide) (by decide) (by decide))⟩
    have hb : gi I' 83 (gi I' 74 13).toNat = gi I 83 (gi I 74 13).toNat := by rw [hrl.2, gi_row (hrl.1 83 (by decide) (by decide))]
    have eL : LC I' = LC I := LC_fr hl
    have hC1 := hC.1.fr hl
    have eR : RC I' = RC I := hC1.2.1
    have g20 : ∀ j : Nat, gi I' 20 j = gi I 20 j := fun j => gi_eq (g2 20 j (by decide) (by omega) (by decide) (by omega))
    obtain ⟨u1, u2, u3, u4⟩ := t1.mv hL hnR v19 layN hb (fun j _ => g20 j)
    have eH : HC I' = HR I' ((0 : Nat) : Int) := by
      have e6 : gi I' 6 2 = nR (LC I) := by rw [gi_row (hl 6 (by decide) (by decide))]; exact cx_n hC
      have h0 : HC I' = HrC (fun i => gi I' 19 i.toNat) (gi I' 6 2) := rfl
      rw [h0, e6]
      exact u1
    have wH : WfH (LC I) (HC I') := by rw [eH]; exact u2
    have er : ∀ j, pRow I' j = pRow I j := by
      intro j
      unfold pRow
      rw [v44, v45, gi_row (funext fun k => g2 21 k (by decide) (by omega) (by decide) (by omega) : I' 21 = I 21)]
      funext i
      congr 2
      omega
    have el : ∀ j, pLay I' j = pLay I j := by
      intro j
      unfold pLay
      rw [v65]
    have k2 : gi I' 19 2 = pRow I (gi I 4 5 - 1) 2 := v19 2 (by decide) (by decide)
    have fin : VH I' := by
      refine ⟨⟨by rw [eL, eR]; exact ⟨hC1, rfl, wH⟩, by rw [eL, eR]; exact ⟨hR.1.fr hrl, eH.symm, wH, by decide⟩, (gi_eq (g2 74 72 (by decide) (by decide) (by decide) (by decide))).trans h72, (gi_eq (g2 74 73 (by decide) (by decide) (by decide) (by decide))).trans h73⟩, ?_, u3, ?_⟩
      · rw [eL]
        refine ⟨by rw [v44]; omega, by rw [v65]; exact p2, by rw [v45]; omega, by rw [v66, v45], fun j h0 h1 => ?_, fun i j h0 h1 h2 => ?_⟩
        · rw [v45] at h1
          obtain ⟨b1, b2⟩ := p5 j h0 (by omega)
          rw [er, el, k2]
          refine ⟨b1.mv hL hnR (fun i _ _ => rfl) (layO _ ?_ ?_) hb (fun k _ => g20 k), p6 j _ h0 (by omega) (by omega)⟩
          · unfold pLay; omega
          · unfold pLay; omega
        · rw [v45] at h2
          rw [er, er]
          exact p6 i j h0 h1 (by omega)
      · rw [eL, eH]
        exact u4
    exact Cpl2.here (hA.2.1 I J I' J hV fin eL eR ⟨fun c k s1 s2 n1 n2 n3 => g2 c k (by omega) (by omega) (by omega) n2, v46⟩ (scrJ.rf J))
  · have e2 : gi (si I 73 4 (gi I 73 4 + 1)) 107 4 = gi I 107 4 := gi_cell _ _ _ _ (by decide)
    have e66 : gi (si I 73 4 (gi I 73 4 + 1)) 74 66 = gi I 74 66 := gi_cell _ _ _ _ (by decide)
    refine WPm.of k_X12_undo.1 (Nat.le_of_ble_eq_true rfl) (B_X12_undo_0 (by omega) ?_)
    rw [e66, p4, e2]
    exact ⟨fun w => absurd q w, fun _ => ⟨rfl, Cpl2.here (hA.2.2 I J 4 hV (by decide))⟩⟩
end UNDOS

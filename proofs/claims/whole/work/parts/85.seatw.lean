section SEATW
/-! ===== the class weighs a table with each set of readers ===== -/
theorem crs_mono {tk : Nat → Int → Int} {L : Lb} {l : List Int} (hl : ∀ p ∈ l, 0 ≤ p ∧ p < nP L) (ht : ∀ kk p, 0 ≤ p ∧ p < nP L → 1 ≤ tk kk p) : ∀ (n kk : Nat) (p m : Int), (p = -1 ∨ 0 ≤ p ∧ p < nP L) → ∀ j k, j ≤ k → k < (crs tk L l n kk p m).length → ce (crs tk L l n kk p m) j ≤ ce (crs tk L l n kk p m) k
  | 0, _, _, _, _ => fun j k _ hk => absurd hk (by simp [crs])
  | n + 1, kk, p, m, hp => by
    by_cases e : p = -1
    · intro j k _ hk
      rw [crs, if_pos e] at hk
      exact absurd hk (Nat.not_lt_zero _)
    · have hp' := hp.elim (fun z => absurd z e) id
      have ec : crs tk L l (n + 1) kk p m = (p, max 0 (m + tk kk p)) :: crs tk L l n (kk ||| 2 ^ p.toNat) (nxt L (kk ||| 2 ^ p.toNat) l) (max 0 (m + tk kk p)) := by rw [crs, if_neg e]
      have hn : nxt L (kk ||| 2 ^ p.toNat) l = -1 ∨ 0 ≤ nxt L (kk ||| 2 ^ p.toNat) l ∧ nxt L (kk ||| 2 ^ p.toNat) l < nP L := nxt_in.elim Or.inl (fun z => Or.inr (hl _ z.1))
      have ih := crs_mono hl ht n (kk ||| 2 ^ p.toNat) (nxt L (kk ||| 2 ^ p.toNat) l) (max 0 (m + tk kk p)) hn
      have gt := crs_gt hl ht n (kk ||| 2 ^ p.toNat) (nxt L (kk ||| 2 ^ p.toNat) l) (max 0 (m + tk kk p)) hn
      rw [ec]
      generalize crs tk L l n (kk ||| 2 ^ p.toNat) (nxt L (kk ||| 2 ^ p.toNat) l) (max 0 (m + tk kk p)) = c at ih gt ⊢
      intro j k hjk hk
      rcases k with _ | k
      · rw [show j = 0 by omega]
        exact Int.le_refl _
      · have hk' : k < c.length := by
          rw [List.length_cons] at hk
          omega
        rcases j with _ | j
        · have h := gt _ (drop_mem (C := c) (j := 0) (Nat.zero_le k) hk')
          exact Int.le_of_lt h
        · exact ih j k (by omega) hk'
theorem zeC_up {L : Lb} {R : Rl} {H : Hl} (hL : WfL L) (hH : WfH L H) {t r : Nat} {s : Int} (hr : r < nN L) : (∀ k, k < (zeC L R H t s r).length → 0 < ce (zeC L R H t s r) k) ∧ ∀ j k, j ≤ k → k < (zeC L R H t s r).length → ce (zeC L R H t s r) j ≤ ce (zeC L R H t s r) k := by
  have hr' : r < (nR L).toNat := hr
  have hw := hH.2.2 (r : Int) (by omega) (by omega)
  have hl : ∀ p ∈ lsH H r, 0 ≤ p ∧ p < nP L := fun p hp => lsH_rng hw hp
  have ht : ∀ kk p, 0 ≤ p ∧ p < nP L → 1 ≤ tkS L R H r (L 7 t) s kk p := fun kk p hp => (takS_in hL hp).1
  have e4 : donP L H r False = 0 := by
    unfold donP
    rw [if_neg (fun z => z.1)]
  unfold zeC cour
  rw [e4]
  refine ⟨fun k hk => ?_, crs_mono hl ht 8 (kn H r) _ _ (fstP_rng hw False)⟩
  have h := crs_gt hl ht 8 (kn H r) _ _ (fstP_rng hw False) _ (drop_mem (j := 0) (Nat.zero_le k) hk)
  have h : (-0 : Int) < ce (crs (tkS L R H r (L 7 t) s) L (lsH H r) 8 (kn H r) (fstP L H r False) (-0)) k := h
  omega
/-- what was reckoned of each reader at a table where so many sit -/
def zeK (I : Nat → Nat → Int32) (L : Lb) (R : Rl) (H : Hl) (t : Nat) (s : Int) (n : Nat) : Prop := ∀ r : Nat, r < n → gi I 64 r = zeB L R H t s r ∧ gi I 65 r = ((zeC L R H t s r).length : Int) ∧ ∀ k : Nat, k < (zeC L R H t s r).length → gi I 66 (8 * r + k) = ce (zeC L R H t s r) k
def zeZ (I : Nat → Nat → Int32) (L : Lb) : Prop := ∀ r : Nat, r < nN L → gi I 67 r = ((tN L ^ (nN L - 1 - r) : Nat) : Int)
theorem S_X5_weigh {k : Nat} {P : Option Nat} {I : Nat → Nat → Int32} {J : Nat → Nat → Int64} {Q : Option AV → Mem → Prop} {L : Lb} {R : Rl} {H : Hl} {t S : Nat} (hk : 2 ≤ k) (hL : WfL L) (hH : WfH L H) (ht : t < tN L) (hS : S < 2 ^ nN L) (hK : zeK I L R H t (pop S) (nN L)) (hZ : zeZ I L) (hQ : Q (some (vL (zeW L R H t S))) (mem (rv0 P) I J)) : WPm k LAY m_X5_weigh [vR (some 63), vI (t : Int), vI (S : Int), vI ((nN L : Nat) : Int)] (mem (rv0 P) I J) Q := by
  have hR6 := hL.2.2.1
  have hT5 := hL.2.2.2.1
  have e5 : tN L ≤ 5 := by
    show (nT L).toNat ≤ 5
    omega
  have e6 : nN L ≤ 6 := by
    show (nR L).toNat ≤ 6
    omega
  have hS64 : S < 64 := Nat.lt_of_lt_of_le hS (show 2 ^ nN L ≤ 2 ^ 6 from Nat.pow_le_pow_right (by decide) e6)
  have bL := zeL_bd (R := R) (H := H) hL t S
  have bT := zeT_bd hL ht S
  refine WPm.of k_X5_weigh.1 (Nat.le_of_ble_eq_true rfl) (B_X5_weigh_0 (by omega) ?_)
  -- pages read, the last stop
  have lp65 : ∀ (d r : Nat) (x6 x8 x9 : Int), r + d = nN L → x9 = r → x6 = smi r (fun r => if S.testBit r = true then zeG L R H t S r else 0) → x8 = zeM L R H t S r → WP k LAY m_X5_weigh 65 [(0, vR (some 63)), (2, vI (S : Int)), (3, vI ((nN L : Nat) : Int)), (4, vI (zeL L R H t S)), (5, vI (zeT L t S)), (6, vL x6), (8, vI x8), (9, vI x9)] [] (mem (P, some 5, some 22) I J) Q := by
    intro d
    induction d with
    | zero =>
      intro r x6 x8 x9 hr h9 h6 h8
      subst h9; subst h6; subst h8
      have er : r = nN L := by omega
      have bM := zeM_bd (R := R) hL hH t S r (by omega)
      refine B_X5_weigh_65 (by omega) ⟨⟨by omega, by omega⟩, ⟨by omega, by omega⟩, fun _ => ⟨⟨by omega, by omega⟩, ⟨by omega, by omega⟩, ⟨by omega, by omega⟩, ?_⟩, fun z => absurd z (by omega)⟩
      subst er
      exact hQ
    | succ d ih =>
      intro r x6 x8 x9 hr h9 h6 h8
      subst h9; subst h8
      have bM := zeM_bd (R := R) hL hH t S r (by omega)
      have es : smi (r + 1) (fun r => if S.testBit r = true then zeG L R H t S r else 0) = smi r (fun r => if S.testBit r = true then zeG L R H t S r else 0) + (if S.testBit r = true then zeG L R H t S r else 0) := rfl
      have em : zeM L R H t S (r + 1) = if S.testBit r = true then max (zeM L R H t S r) (stp (zeL L R H t S) (zeC L R H t (pop S) r)) else zeM L R H t S r := rfl
      refine B_X5_weigh_65 (by omega) ?_
      rw [andp_iff (by omega) (by omega)]
      refine ⟨⟨by omega, by omega⟩, ⟨by omega, by omega⟩, fun z => absurd z (by omega), fun _ => ⟨fun z => ?_, fun z => ?_⟩⟩
      · refine ih (r + 1) _ _ _ (by omega) rfl ?_ ?_
        · rw [es, z, if_neg (by decide)]
          omega
        · rw [em, z, if_neg (by decide)]
      · have hb : S.testBit r = true := by
          cases h : S.testBit r
          · exact absurd h z
          · rfl
        rw [if_pos hb] at es em
        obtain ⟨k1, k2, k3⟩ := hK r (by omega)
        have c8 := zeC_rng (R := R) hL hH (t := t) (s := pop S) (r := r) (by omega)
        obtain ⟨cp0, cup⟩ := zeC_up (R := R) hL hH (t := t) (s := pop S) (r := r) (by omega)
        have eg : zeG L R H t S r = (rdn (zeL L R H t S) (zeC L R H t (pop S) r) : Int) := rfl
        have eg2 := eg
        rw [eg] at es
        have est : stp (zeL L R H t S) (zeC L R H t (pop S) r) = if (zeC L R H t (pop S) r).length = 0 then 0 else min (zeL L R H t S) (ce (zeC L R H t (pop S) r) ((zeC L R H t (pop S) r).length - 1)) := rfl
        generalize hC : zeC L R H t (pop S) r = C at *
        -- the end of his reading
        have cut : ∀ j, j ≤ C.length → (∀ i, i < j → ce C i ≤ zeL L R H t S) → (j < C.length → zeL L R H t S < ce C j) → rdn (zeL L R H t S) C = j := fun j a b c => by
          have e := cutN_eq a b c
          unfold rdn
          by_cases h0 : zeL L R H t S ≤ 0
          · rw [if_pos h0]
            rcases Nat.eq_zero_or_pos j with hj | hj
            · exact hj.symm
            · have := b 0 hj
              have := cp0 0 (by omega)
              omega
          · rw [if_neg h0]
            exact e
        have lastE : (65 : Nat) = 65 := rfl
        have fin : ∀ j, j = C.length → (∀ i, i < j → ce C i ≤ zeL L R H t S) → (¬ (C.length : Int) = 0 → (0 ≤ ((((r : Int) * 8) + (C.length : Int)) - 1) ∧ ((((r : Int) * 8) + (C.length : Int)) - 1) < 48) ∧ (inR (zeM L R H t S r) ∧ (WP k LAY m_X5_weigh 65 [(0, vR (some 63)), (2, vI (S : Int)), (3, vI ((nN L : Nat) : Int)), (4, vI (zeL L R H t S)), (5, vI (zeT L t S)), (6, vL (x6 + (j : Int))), (8, vI (max (zeM L R H t S r) (gi I 66 ((((r : Int) * 8) + (C.length : Int)) - 1).toNat))), (9, vI ((r : Int) + 1))] [] (mem (P, some 5, some 22) I J) Q))) ∧ ((C.length : Int) = 0 → (inR (zeM L R H t S r) ∧ (WP k LAY m_X5_weigh 65 [(0, vR (some 63)), (2, vI (S : Int)), (3, vI ((nN L : Nat) : Int)), (4, vI (zeL L R H t S)), (5, vI (zeT L t S)), (6, vL (x6 + (j : Int))), (8, vI (max (zeM L R H t S r) 0)), (9, vI ((r : Int) + 1))] [] (mem (P, some 5, some 22) I J) Q))) := by
          intro j hj hall
          have ej := cut j (by omega) hall (fun h => absurd h (by omega))
          rw [ej] at es
          refine ⟨fun w => ⟨⟨by omega, by omega⟩, ⟨by omega, by omega⟩, ?_⟩, fun w => ⟨⟨by omega, by omega⟩, ?_⟩⟩
          · rw [show ((((r : Int) * 8) + (C.length : Int)) - 1).toNat = 8 * r + (C.length - 1) by omega, k3 (C.length - 1) (by omega)]
            have hl := hall (C.length - 1) (by omega)
            refine ih (r + 1) _ _ _ (by omega) rfl (by rw [es, h6]) ?_
            rw [em, est, if_neg (by omega)]
            omega
          · refine ih (r + 1) _ _ _ (by omega) rfl (by rw [es, h6]) ?_
            rw [em, est, if_pos (by omega)]
        have lp83 : ∀ (e j : Nat) (x10 : Int), j + e = C.length → x10 = j → (∀ i, i < j → ce C i ≤ zeL L R H t S) → WP k LAY m_X5_weigh 83 [(0, vR (some 63)), (2, vI (S : Int)), (3, vI ((nN L : Nat) : Int)), (4, vI (zeL L R H t S)), (5, vI (zeT L t S)), (6, vL x6), (8, vI (zeM L R H t S r)), (9, vI (r : Int)), (10, vI x10)] [] (mem (P, some 5, some 22) I J) Q := by
          intro e
          induction e with
          | zero =>
            intro j x10 hj h10 hall
            subst h10
            have ff := fin j (by omega) hall
            refine B_X5_weigh_83 (by omega) ?_
            rw [Int.toNat_natCast, k2]
            exact ⟨⟨by omega, by omega⟩, ⟨by omega, by omega⟩, fun _ => ⟨fun _ => ff, fun w => absurd w (by omega)⟩, fun w => absurd w (by omega)⟩
          | succ e ihe =>
            intro j x10 hj h10 hall
            subst h10
            have cr := c8.2 j (by omega)
            refine B_X5_weigh_83 (by omega) ?_
            rw [Int.toNat_natCast, k2, show (((r : Int) * 8) + (j : Int)).toNat = 8 * r + j by omega, k3 j (by omega)]
            refine ⟨⟨by omega, by omega⟩, ⟨by omega, by omega⟩, fun w => absurd w (by omega), fun _ => ⟨⟨by omega, by omega⟩, ⟨by omega, by omega⟩, fun w => ⟨fun w2 => absurd w2 (by omega), fun _ => ⟨⟨by omega, by omega⟩, ?_⟩⟩, fun w => ?_⟩⟩
            · have ej := cut j (by omega) hall (fun _ => w)
              rw [ej] at es
              have up := cup j (C.length - 1) (by omega) (by omega)
              refine ih (r + 1) _ _ _ (by omega) rfl (by rw [es, h6]) ?_
              rw [em, est, if_neg (by omega)]
              omega
            · refine ihe (j + 1) _ (by omega) rfl (fun i hi => ?_)
              by_cases ei : i = j
              · rw [ei]
                omega
              · exact hall i (by omega)
        exact lp83 C.length 0 0 (Nat.zero_add _) rfl (fun i hi => absurd hi (Nat.not_lt_zero _))
  have lp9 : ∀ (d r : Nat) (x4 x5 x6 : Int), r + d = nN L → x6 = r → x4 = smi r (fun r => if S.testBit r = true then zeB L R H t (pop S) r else 0) → x5 = smi r (fun r => if S.testBit r = true then (t : Int) * ((tN L ^ (nN L - 1 - r) : Nat) : Int) else 0) → WP k LAY m_X5_weigh 9 [(0, vR (some 63)), (1, vI (t : Int)), (2, vI (S : Int)), (3, vI ((nN L : Nat) : Int)), (4, vI x4), (5, vI x5), (6, vI x6)] [] (mem (P, some 5, some 22) I J) Q := by
    intro d
    induction d with
    | zero =>
      intro r x4 x5 x6 hr h6 h4 h5
      subst h6
      have er : r = nN L := by omega
      have h4' : x4 = zeL L R H t S := by rw [h4, er]; rfl
      have h5' : x5 = zeT L t S := by rw [h5, er]; rfl
      rw [h4', h5']
      exact B_X5_weigh_9 (by omega) ⟨⟨by omega, by omega⟩, ⟨by omega, by omega⟩, fun _ => lp65 (nN L) 0 0 0 0 (Nat.zero_add _) rfl rfl rfl, fun z => absurd z (by omega)⟩
    | succ d ih =>
      intro r x4 x5 x6 hr h6 h4 h5
      subst h6
      have e4 : smi (r + 1) (fun r => if S.testBit r = true then zeB L R H t (pop S) r else 0) = smi r (fun r => if S.testBit r = true then zeB L R H t (pop S) r else 0) + (if S.testBit r = true then zeB L R H t (pop S) r else 0) := rfl
      have e5' : smi (r + 1) (fun r => if S.testBit r = true then (t : Int) * ((tN L ^ (nN L - 1 - r) : Nat) : Int) else 0) = smi r (fun r => if S.testBit r = true then (t : Int) * ((tN L ^ (nN L - 1 - r) : Nat) : Int) else 0) + (if S.testBit r = true then (t : Int) * ((tN L ^ (nN L - 1 - r) : Nat) : Int) else 0) := rfl
      refine B_X5_weigh_9 (by omega) ?_
      rw [andp_iff (by omega) (by omega), Int.toNat_natCast, (hK r (by omega)).1, hZ r (by omega)]
      refine ⟨⟨by omega, by omega⟩, ⟨by omega, by omega⟩, fun z => absurd z (by omega), fun _ => ⟨fun z => ?_, fun z => ⟨⟨by omega, by omega⟩, ?_⟩⟩⟩
      · refine ih (r + 1) _ _ _ (by omega) rfl ?_ ?_
        · rw [e4, z, if_neg (by decide)]
          omega
        · rw [e5', z, if_neg (by decide), h5]
          exact (Int.add_zero _).symm
      · have hb : S.testBit r = true := by
          cases h : S.testBit r
          · exact absurd h z
          · rfl
        refine ih (r + 1) _ _ _ (by omega) rfl ?_ ?_
        · rw [e4, if_pos hb, h4]
        · rw [e5', if_pos hb, h5]
  exact lp9 (nN L) 0 0 0 0 (Nat.zero_add _) rfl rfl rfl
abbrev CWt : List Nat := [37, 38, 40, 41, 64, 65, 66]
theorem S_X5_weighTable {k : Nat} {P : Option Nat} {I : Nat → Nat → Int32} {J : Nat → Nat → Int64} {Q : Option AV → Mem → Prop} {L : Lb} {R : Rl} {H : Hl} {t : Nat} (hk : 8 ≤ k) (hX : CX I L R H) (ht : t < tN L) (hZ : zeZ I L) (hQ : ∀ I' J', Fr CWt SC I I' → Fr [68] [] J J' → (∀ S, S < 2 ^ nN L → gl J' 68 S = zeW L R H t S) → Q none (mem (rv0 P) I' J')) : WPm k LAY m_X5_weighTable [vR (some 63), vI (t : Int), vI ((nN L : Nat) : Int)] (mem (rv0 P) I J) Q := by
  have hL := hX.1.2.2.2.1
  have hH := hX.2.2
  have hR6 := hL.2.2.1
  have hT5 := hL.2.2.2.1
  have ht1 : t < (nT L).toNat := ht
  have ht2 : 0 ≤ (t : Int) ∧ (t : Int) < nT L := ⟨by omega, by omega⟩
  have w7 := hL.2.2.2.2.2.2.2.2.2 (t : Int) ht2.1 ht2.2
  have e6 : nN L ≤ 6 := by
    show (nR L).toNat ≤ 6
    omega
  have p64 : 2 ^ nN L ≤ 2 ^ 6 := Nat.pow_le_pow_right (by decide) e6
  have p1 := Nat.two_pow_pos (nN L)
  have esh : shl32 1 ((nN L : Nat) : Int) = ((2 ^ nN L : Nat) : Int) := shl1 (by omega)
  have popn : ∀ S, S < 2 ^ nN L → pop S ≤ nN L := fun S hS => by
    rw [pop_hi hS (by omega)]
    exact popw_le _ _
  have hZf : ∀ I1, Fr CWt SC I I1 → zeZ I1 L := fun I1 hF r hr => (hF.gv 67 r (by decide) (by simp)).trans (hZ r hr)
  refine WPm.of k_X5_weighTable.1 (Nat.le_of_ble_eq_true rfl) (B_X5_weighTable_0 (by omega) ?_)
  -- the sets of so many readers
  have lp139 : ∀ (s : Nat) (I1 : Nat → Nat → Int32), 1 ≤ s → s ≤ nN L → Fr CWt SC I I1 → zeK I1 L R H t (s : Int) (nN L) → (∀ J1, Fr [68] [] J J1 → (∀ S, S < 2 ^ nN L → pop S < s + 1 → gl J1 68 S = zeW L R H t S) → WP k LAY m_X5_weighTable 9 [(0, vR (some 63)), (1, vI (t : Int)), (2, vI ((nN L : Nat) : Int)), (3, vI ((s : Int) + 1))] [] (mem (P, some 5, some 22) I1 J1) Q) → ∀ (d S0 : Nat) (x4 : Int) (J1 : Nat → Nat → Int64), S0 + d = 2 ^ nN L → x4 = S0 → Fr [68] [] J J1 → (∀ S, S < 2 ^ nN L → pop S < s → gl J1 68 S = zeW L R H t S) → (∀ S, S < S0 → pop S = s → gl J1 68 S = zeW L R H t S) → WP k LAY m_X5_weighTable 139 [(0, vR (some 63)), (1, vI (t : Int)), (2, vI ((nN L : Nat) : Int)), (3, vI (s : Int)), (4, vI x4)] [] (mem (P, some 5, some 22) I1 J1) Q := by
    intro s I1 hs1 hsn hF hK hN d
    induction d with
    | zero =>
      intro S0 x4 J1 hd h4 hJ hA hB
      subst h4
      refine B_X5_weighTable_139 (by omega) ?_
      rw [esh]
      refine ⟨⟨by omega, by omega⟩, fun _ => hN J1 hJ (fun S hS hp => ?_), fun z => absurd z (by omega)⟩
      by_cases e : pop S = s
      · exact hB S (by omega) e
      · exact hA S hS (by omega)
    | succ d ih =>
      intro S0 x4 J1 hd h4 hJ hA hB
      subst h4
      refine B_X5_weighTable_139 (by omega) ?_
      rw [esh, bc_pop (show S0 < 16384 by omega)]
      refine ⟨⟨by omega, by omega⟩, fun z => absurd z (by omega), fun _ => ⟨⟨by omega, by omega⟩, fun z => ?_, fun z => ?_⟩⟩
      · refine ih (S0 + 1) _ J1 (by omega) rfl hJ hA (fun S hS hp => ?_)
        by_cases e : S = S0
        · rw [e] at hp
          exact absurd (Int.ofNat_inj.mpr hp) z
        · exact hB S (by omega) hp
      · have hps : pop S0 = s := Int.ofNat_inj.mp z
        refine S_X5_weigh (by omega) hL hH ht (show S0 < 2 ^ nN L by omega) (by rw [hps]; exact hK) (hZf I1 hF) ⟨_, _, _, rfl, rfl, ⟨by omega, by omega⟩, ?_⟩
        rw [Int.toNat_natCast]
        have wb := zeW_bd (R := R) hL hH ht S0
        refine ih (S0 + 1) _ _ (by omega) rfl (hJ.upL 68 _ _ (Or.inl (by decide))) (fun S hS hp => ?_) (fun S hS hp => ?_)
        · by_cases e : S = S0
          · rw [e] at hp
            omega
          · rw [gl_idx _ _ _ e]
            exact hA S hS hp
        · by_cases e : S = S0
          · rw [e]
            exact gl_same _ _ _ ⟨by omega, by omega⟩
          · rw [gl_idx _ _ _ e]
            exact hB S (by omega) hp
  -- each reader at this table, if so many sit there
  have lp17 : ∀ (s : Nat) (J1 : Nat → Nat → Int64), 1 ≤ s → s ≤ nN L → (∀ I1, Fr CWt SC I I1 → zeK I1 L R H t (s : Int) (nN L) → WP k LAY m_X5_weighTable 139 [(0, vR (some 63)), (1, vI (t : Int)), (2, vI ((nN L : Nat) : Int)), (3, vI (s : Int)), (4, vI 1)] [] (mem (P, some 5, some 22) I1 J1) Q) → ∀ (d r : Nat) (x4 : Int) (I1 : Nat → Nat → Int32), r + d = nN L → x4 = r → Fr CWt SC I I1 → zeK I1 L R H t (s : Int) r → WP k LAY m_X5_weighTable 17 [(0, vR (some 63)), (1, vI (t : Int)), (2, vI ((nN L : Nat) : Int)), (3, vI (s : Int)), (4, vI x4)] [] (mem (P, some 5, some 22) I1 J1) Q := by
    intro s J1 hs1 hsn hN d
    induction d with
    | zero =>
      intro r x4 I1 hd h4 hF hK
      subst h4
      have er : r = nN L := by omega
      refine B_X5_weighTable_17 (by omega) ⟨⟨by omega, by omega⟩, ⟨by omega, by omega⟩, fun _ => hN I1 hF (by rw [← er]; exact hK), fun z => absurd z (by omega)⟩
    | succ d ih =>
      intro r x4 I1 hd h4 hF hK
      subst h4
      have hr0 : r < (nR L).toNat := by
        show r < nN L
        omega
      have hr : 0 ≤ (r : Int) ∧ (r : Int) < nR L := ⟨by omega, by omega⟩
      have hX1 := hX.fr (hF.cx (by decide) (by decide))
      have hkl := (kn_lt hL hH hr).2
      have hpo := pop_le (kn H r)
      have w5 := (hL.2.2.2.2.2.2.2.2.1 r hr.1 hr.2)
      have w25 := hL.2.2.2.2.2.1
      have wn := hX1.2.2.1
      refine B_X5_weighTable_17 (by omega) ?_
      rw [cx_kn hX1 hr, bc_pop hkl, cx_L5 hX1 hr, cx_L6 hX1 hr, cx_inch hX1, cx_8 hX1, cx_L7 hX1 ht2]
      refine ⟨⟨by omega, by omega⟩, ⟨by omega, by omega⟩, fun z => absurd z (by omega), fun _ => ⟨⟨by omega, by omega⟩, ⟨by omega, by omega⟩, ⟨by omega, by omega⟩, ⟨by omega, by omega⟩, ?_⟩⟩
      have hF7 : Fr CWt SC I1 (si (si (si (si (si (si (si I1 38 7 (L 5 r)) 38 8 (L 6 r)) 38 16 (pop (kn H r))) 38 10 (L 7 t)) 38 17 (s : Int)) 38 11 (L 25 0)) 38 18 (H 8 0)) := by
        refine Fr.up (Fr.up (Fr.up (Fr.up (Fr.up (Fr.up (Fr.up (Fr.rf _ _ _) _ _ _ ?_) _ _ _ ?_) _ _ _ ?_) _ _ _ ?_) _ _ _ ?_) _ _ _ ?_) _ _ _ ?_ <;> exact Or.inl (by decide)
      have vv : vals (si (si (si (si (si (si (si I1 38 7 (L 5 r)) 38 8 (L 6 r)) 38 16 (pop (kn H r))) 38 10 (L 7 t)) 38 17 (s : Int)) 38 11 (L 25 0)) 38 18 (H 8 0)) L (H 8 0) r (L 7 t) (s : Int) (pop (kn H r)) := vals_set rfl rfl rfl ⟨by omega, by omega⟩ ⟨by omega, by omega⟩ ⟨by omega, by omega⟩ ⟨by omega, by omega⟩ ⟨by omega, by omega⟩ ⟨by omega, by omega⟩ ⟨by omega, by omega⟩
      have f7 : ∀ c i, c ≠ 38 → gi (si (si (si (si (si (si (si I1 38 7 (L 5 r)) 38 8 (L 6 r)) 38 16 (pop (kn H r))) 38 10 (L 7 t)) 38 17 (s : Int)) 38 11 (L 25 0)) 38 18 (H 8 0)) c i = gi I1 c i := fun c i h => by
        rw [gi_cell _ _ _ _ h, gi_cell _ _ _ _ h, gi_cell _ _ _ _ h, gi_cell _ _ _ _ h, gi_cell _ _ _ _ h, gi_cell _ _ _ _ h, gi_cell _ _ _ _ h]
      generalize si (si (si (si (si (si (si I1 38 7 (L 5 r)) 38 8 (L 6 r)) 38 16 (pop (kn H r))) 38 10 (L 7 t)) 38 17 (s : Int)) 38 11 (L 25 0)) 38 18 (H 8 0) = I2 at hF7 vv f7 ⊢
      have hX2 := hX1.fr (hF7.cx (by decide) (by decide))
      refine S_X9_inch (L := L) (R := R) (by omega) hX2.1 vv (envB_of hL hH hr ⟨by omega, by omega⟩ ⟨by omega, by omega⟩ ⟨by omega, by omega⟩) (fun I3 hF3 => ⟨_, _, _, rfl, rfl, ?_⟩)
      have hX3 := hX2.fr (hF3.cx (by decide) (by decide))
      dsimp only
      rw [cx_L7 hX3 ht2, Int.toNat_natCast]
      have bb : 0 ≤ zeB L R H t (s : Int) r ∧ zeB L R H t (s : Int) r ≤ 500 := burS_in hL
      change WPm (k - 1) LAY m_X0_lay [vR (some 39), vI (r : Int), vI (L 7 t), vI (s : Int), vI 0] (mem (P, some 5, some 22) (si I3 64 r (zeB L R H t (s : Int) r)) J1) _
      have f4 : ∀ c i, c ≠ 38 → c ≠ 37 → c ≠ 64 → gi (si I3 64 r (zeB L R H t (s : Int) r)) c i = gi I1 c i := fun c i h1 h2 h3 => by
        rw [gi_cell _ _ _ _ h3, hF3.gv c i (by simp [h1, h2]) (by simp), f7 c i h1]
      have f64 : ∀ i, i ≠ r → gi (si I3 64 r (zeB L R H t (s : Int) r)) 64 i = gi I1 64 i := fun i h => by
        rw [gi_idx _ _ _ h, hF3.gv 64 i (by decide) (by simp), f7 64 i (by decide)]
      have f64s : gi (si I3 64 r (zeB L R H t (s : Int) r)) 64 r = zeB L R H t (s : Int) r := gi_same _ _ _ ⟨by omega, by omega⟩
      have hF4 : Fr CWt SC I (si I3 64 r (zeB L R H t (s : Int) r)) := ((hF.tr hF7).tr (hF3.mono (by decide) (by simp))).up 64 _ _ (Or.inl (by decide))
      generalize si I3 64 r (zeB L R H t (s : Int) r) = I4 at f4 f64 f64s hF4 ⊢
      have hX4 := hX.fr (hF4.cx (by decide) (by decide))
      refine S_X0_lay (g := False) (by omega) hX4 hr ⟨by omega, by omega⟩ ⟨by omega, by omega⟩ (Or.inr ⟨id, rfl⟩) (fun I5 hF5 h4 _ hc => ⟨_, _, rfl, rfl, ⟨by omega, by omega⟩, ?_⟩)
      change crsAt (gi I5 40) (gi I5 41) 0 (zeC L R H t (s : Int) r) at hc
      change gi I5 39 4 = ((zeC L R H t (s : Int) r).length : Int) at h4
      have c8 := zeC_rng (R := R) hL hH (t := t) (s := (s : Int)) (r := r) (by show r < nN L; omega)
      rw [h4, show ((r : Int) * 8).toNat = 8 * r by omega]
      have g5 : ∀ i, gi (fc (si I5 65 r ((zeC L R H t (s : Int) r).length : Int)) 41 0 66 (8 * r) 8) 64 i = gi I4 64 i := fun i => by
        rw [gi_fcell _ _ _ _ _ _ (by decide), gi_cell _ _ _ _ (by decide), hF5.gv 64 i (by decide) (by simp)]
      have g65 : ∀ i, i ≠ r → gi (fc (si I5 65 r ((zeC L R H t (s : Int) r).length : Int)) 41 0 66 (8 * r) 8) 65 i = gi I4 65 i := fun i h => by
        rw [gi_fcell _ _ _ _ _ _ (by decide), gi_idx _ _ _ h, hF5.gv 65 i (by decide) (by simp)]
      have g65s : gi (fc (si I5 65 r ((zeC L R H t (s : Int) r).length : Int)) 41 0 66 (8 * r) 8) 65 r = ((zeC L R H t (s : Int) r).length : Int) := by
        rw [gi_fcell _ _ _ _ _ _ (by decide), gi_same _ _ _ ⟨by omega, by omega⟩]
      have g66 : ∀ i, ¬ (8 * r ≤ i ∧ i < 8 * r + 8) → gi (fc (si I5 65 r ((zeC L R H t (s : Int) r).length : Int)) 41 0 66 (8 * r) 8) 66 i = gi I4 66 i := fun i h => by
        rw [gi_fc, if_neg (fun z => h z.2), gi_cell _ _ _ _ (by decide), hF5.gv 66 i (by decide) (by simp)]
      have g66s : ∀ j, j < 8 → gi (fc (si I5 65 r ((zeC L R H t (s : Int) r).length : Int)) 41 0 66 (8 * r) 8) 66 (8 * r + j) = gi I5 41 j := fun j h => by
        rw [gi_fc, if_pos ⟨rfl, by omega, by omega⟩, gi_cell _ _ _ _ (by decide), show 0 + (8 * r + j - 8 * r) = j by omega]
      have hF6 : Fr CWt SC I (fc (si I5 65 r ((zeC L R H t (s : Int) r).length : Int)) 41 0 66 (8 * r) 8) := by
        have h0 : Fr CWt SC I (si I5 65 r ((zeC L R H t (s : Int) r).length : Int)) := (hF4.tr (hF5.mono (by decide) (by simp))).up 65 _ _ (Or.inl (by decide))
        intro c j h1 h2
        have c66 : c ≠ 66 := fun z => h1 (by rw [z]; decide)
        rw [show fc (si I5 65 r ((zeC L R H t (s : Int) r).length : Int)) 41 0 66 (8 * r) 8 c = si I5 65 r ((zeC L R H t (s : Int) r).length : Int) c from if_neg c66]
        exact h0 c j h1 h2
      generalize fc (si I5 65 r ((zeC L R H t (s : Int) r).length : Int)) 41 0 66 (8 * r) 8 = I6 at g5 g65 g65s g66 g66s hF6 ⊢
      refine ih (r + 1) _ I6 (by omega) rfl hF6 (fun r' hr' => ?_)
      by_cases e : r' = r
      · subst e
        refine ⟨(g5 r').trans f64s, g65s, fun j hj => ?_⟩
        rw [g66s j (by omega)]
        have := (crsAt_get hc j hj).2
        rwa [Nat.zero_add] at this
      · obtain ⟨a, b, c⟩ := hK r' (by omega)
        have l8 := (zeC_rng (R := R) hL hH (t := t) (s := (s : Int)) (r := r') (by show r' < nN L; omega)).1
        refine ⟨(g5 r').trans ((f64 r' e).trans a), (g65 r' e).trans ((f4 65 r' (by decide) (by decide) (by decide)).trans b), fun j hj => ?_⟩
        rw [g66 _ (by omega), f4 66 _ (by decide) (by decide) (by decide)]
        exact c j hj
  have lp9 : ∀ (d s : Nat) (x3 : Int) (I1 : Nat → Nat → Int32) (J1 : Nat → Nat → Int64), s + d = nN L + 1 → 1 ≤ s → x3 = s → Fr CWt SC I I1 → Fr [68] [] J J1 → (∀ S, S < 2 ^ nN L → pop S < s → gl J1 68 S = zeW L R H t S) → WP k LAY m_X5_weighTable 9 [(0, vR (some 63)), (1, vI (t : Int)), (2, vI ((nN L : Nat) : Int)), (3, vI x3)] [] (mem (P, some 5, some 22) I1 J1) Q := by
    intro d
    induction d with
    | zero =>
      intro s x3 I1 J1 hd hs1 h3 hF hJ hA
      subst h3
      exact B_X5_weighTable_9 (by omega) ⟨⟨by omega, by omega⟩, ⟨by omega, by omega⟩, fun _ => hQ I1 J1 hF hJ (fun S hS => hA S hS (by have := popn S hS; omega)), fun z => absurd z (by omega)⟩
    | succ d ih =>
      intro s x3 I1 J1 hd hs1 h3 hF hJ hA
      subst h3
      refine B_X5_weighTable_9 (by omega) ⟨⟨by omega, by omega⟩, ⟨by omega, by omega⟩, fun z => absurd z (by omega), fun _ => ?_⟩
      refine lp17 s J1 hs1 (by omega) (fun I2 hF2 hK2 => ?_) (nN L) 0 0 I1 (Nat.zero_add _) rfl hF (fun r hr => absurd hr (Nat.not_lt_zero _))
      refine lp139 s I2 hs1 (by omega) hF2 hK2 (fun J3 hJ3 hA3 => ih (s + 1) _ I2 J3 (by omega) (by omega) rfl hF2 hJ3 hA3) (2 ^ nN L - 1) 1 1 J1 (by omega) rfl hJ hA (fun S hS hp => ?_)
      rw [show S = 0 by omega] at hp
      have : pop 0 = 0 := by decide
      omega
  refine lp9 (nN L) 1 1 I _ (by omega) (Nat.le_refl _) rfl (Fr.rf _ _ _) ((Fr.rf _ _ J).upL 68 _ _ (Or.inl (by decide))) (fun S hS hp => ?_)
  have e0 : S = 0 := by
    rcases Nat.eq_zero_or_pos S with z | z
    · exact z
    · have := popw_pos hS (by omega)
      rw [← pop_hi hS (by omega)] at this
      omega
  rw [e0, zeW_0]
  exact gl_same _ _ _ (by decide)
end SEATW

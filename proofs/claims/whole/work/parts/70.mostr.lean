section MOSTR
/-! ===== most known: the reference tries all; the step ===== -/
theorem S_X12_mostF {k : Nat} {P : Option Nat} {I : Nat → Nat → Int32} {J : Nat → Nat → Int64} {Q : Option AV → Mem → Prop} {L : Lb} {R : Rl} {H : Hl} {r n y : Int} (hk : 9 ≤ k) (hX : RX I 0 L R H) (hr : 0 ≤ r ∧ r < nR L) (hn : 0 ≤ n ∧ n ≤ 99) (hy : 0 ≤ y ∧ y ≤ 2) (h72 : gi I 74 72 = -1) (h73 : gi I 74 73 = -1)
    (hQ : ∀ I' J' b, scrS I I' → scrJ J J' → bestM L R H r n (key (nP L).toNat (tnN L R H r) b) → Q (some (vI (if y = 0 then (pop b : Int) else if y = 1 then (b : Int) else mS (nP L).toNat (tnN L R H r) b))) (mem (rv0 P) I' J')) : WPm k LAY m_X12_most [vR (some 74), vI r, vI n, vI y] (mem (rv0 P) I J) Q := by
  have hL := hX.1.2.2.2.2.1
  have hH := hX.2.2.1
  have hR6 := hL.2.2.1
  have hP := hL.2.1
  have hw := hH.2.2 r hr.1 hr.2
  have hT5 := hL.2.2.2.1
  have hkl := (kn_lt hL hH hr).2
  have lb := lno_bd (R := R) (H := H) hL r
  have lim0 : 0 ≤ n * lno L R H r := Int.mul_nonneg hn.1 lb.1
  have lim1 : n * lno L R H r ≤ 99 * 3000 := Int.mul_le_mul hn.2 lb.2 lb.1 (by decide)
  have hp14 := pow_le14 (p := (nP L).toNat) (by omega)
  have hpos := Nat.two_pow_pos (nP L).toNat
  have tb := tnN_in (R := R) (H := H) hL r
  have e72 : ∀ I' : Nat → Nat → Int32, scrS I I' → gi I' 74 72 = -1 := fun I' h => (h.gv 74 72 (by decide) (by decide)).trans h72
  have e73 : ∀ I' : Nat → Nat → Int32, scrS I I' → gi I' 74 73 = -1 := fun I' h => (h.gv 74 73 (by decide) (by decide)).trans h73
  -- all sets, one behind the other
  have lp99 : ∀ (I' : Nat → Nat → Int32) (J' : Nat → Nat → Int64), scrS I I' → scrJ J J' → (∀ p, p < (nP L).toNat → gi I' 130 p = tnN L R H r p) → ∀ (d s b : Nat) (x6 x7 x8 : Int), s + d = 2 ^ (nP L).toNat → b < s → x6 = b → x7 = mS (nP L).toNat (tnN L R H r) b → x8 = s → feM L H r (tnN L R H r) (n * lno L R H r) b → (∀ S, S < s → feM L H r (tnN L R H r) (n * lno L R H r) S → geq (key (nP L).toNat (tnN L R H r) b) (key (nP L).toNat (tnN L R H r) S)) → WP k LAY m_X12_most 99 [(0, vR (some 74)), (3, vI y), (4, vI ((kn H r : Nat) : Int)), (5, vI (n * lno L R H r)), (6, vI x6), (7, vI x7), (8, vI x8)] [] (mem (P, some 5, some 22) I' J') Q := by
    intro I' J' hs hj h130 d
    have hX' := hX.fr0 hs
    have esh : shl32 1 (gi I' 77 (gi I' 74 13).toNat) = ((2 ^ (nP L).toNat : Nat) : Int) := by rw [rx_p hX', shl_p ⟨by omega, by omega⟩]
    induction d with
    | zero =>
      intro s b x6 x7 x8 hsd hbs h6 h7 h8 hfb hall
      subst h6; subst h7; subst h8
      have hb14 : b < 16384 := by omega
      have hbest : bestM L R H r n (key (nP L).toNat (tnN L R H r) b) := ⟨⟨b, hfb, rfl⟩, fun S h1 => hall S (by have := h1.1; omega) h1⟩
      have hq := hQ I' J' b hs hj hbest
      refine B_X12_most_99 (by omega) ?_
      rw [esh]
      refine ⟨rx_b hX', ⟨by omega, by omega⟩, fun _ => ⟨⟨by omega, by omega⟩, fun q => ⟨fun q2 => ?_, fun q2 => ?_⟩, fun q => ?_⟩, fun q => absurd q (by omega)⟩
      · rw [if_neg q, if_neg q2] at hq
        exact hq
      · rw [if_neg q, if_pos q2] at hq
        exact hq
      · rw [if_pos q] at hq
        exact S_X12_bits hb14 ⟨_, _, _, rfl, rfl, hq⟩
    | succ d ih =>
      intro s b x6 x7 x8 hsd hbs h6 h7 h8 hfb hall
      subst h6; subst h7; subst h8
      have hs14 : s < 16384 := by omega
      have hs2 : s < 2 ^ (nP L).toNat := by omega
      have hb14 : b < 16384 := by omega
      have ms := mS_bd (n := (nP L).toNat) (by omega) tb s
      have mb := mS_bd (n := (nP L).toNat) (by omega) tb b
      have pps := pop_le s
      have ppb := pop_le b
      have e1 : ((s : Int) + 1) = ((s + 1 : Nat) : Int) := rfl
      have skip : (feM L H r (tnN L R H r) (n * lno L R H r) s → geq (key (nP L).toNat (tnN L R H r) b) (key (nP L).toNat (tnN L R H r) s)) → WP k LAY m_X12_most 267 [(0, vR (some 74)), (3, vI y), (4, vI ((kn H r : Nat) : Int)), (5, vI (n * lno L R H r)), (6, vI (b : Int)), (7, vI (mS (nP L).toNat (tnN L R H r) b)), (8, vI (s : Int))] [] (mem (P, some 5, some 22) I' J') Q := by
        intro hg
        refine B_X12_most_267 (by omega) (ih (s + 1) b _ _ _ (by omega) (by omega) rfl rfl e1 hfb (fun S h1 h2 => ?_))
        by_cases q : S = s
        · rw [q] at h2 ⊢
          exact hg h2
        · exact hall S (by omega) h2
      have upd : feM L H r (tnN L R H r) (n * lno L R H r) s → geq (key (nP L).toNat (tnN L R H r) s) (key (nP L).toNat (tnN L R H r) b) → WP k LAY m_X12_most 267 [(0, vR (some 74)), (3, vI y), (4, vI ((kn H r : Nat) : Int)), (5, vI (n * lno L R H r)), (6, vI (s : Int)), (7, vI (mS (nP L).toNat (tnN L R H r) s)), (8, vI (s : Int))] [] (mem (P, some 5, some 22) I' J') Q := by
        intro hf hg
        refine B_X12_most_267 (by omega) (ih (s + 1) s _ _ _ (by omega) (by omega) rfl rfl e1 hf (fun S h1 h2 => ?_))
        by_cases q : S = s
        · rw [q]
          exact geq.rf _
        · exact hg.tr (hall S (by omega) h2)
      -- behind the pages
      have at224 : s &&& kn H r = 0 → pop b ≤ pop s → ∀ all can : Int, (can = 1 ∧ all = mS (nP L).toNat (tnN L R H r) s ∧ (∀ q, q < (nP L).toNat → s.testBit q = true → dif (dif (ndN L q) (kn H r)) s = 0) ∨ can = 0 ∧ ¬ shut (ndN L) (kn H r) (nP L).toNat s) → WP k LAY m_X12_most 224 [(0, vR (some 74)), (3, vI y), (4, vI ((kn H r : Nat) : Int)), (5, vI (n * lno L R H r)), (6, vI (b : Int)), (7, vI (mS (nP L).toNat (tnN L R H r) b)), (8, vI (s : Int)), (9, vI all), (10, vI can)] [] (mem (P, some 5, some 22) I' J') Q := by
        intro hk0 hpp all can hcan
        refine B_X12_most_224 (by omega) ⟨⟨by omega, by omega⟩, fun q => skip (fun hf => ?_), fun q => ?_⟩
        · rcases hcan with ⟨c1, -⟩ | ⟨-, c2⟩
          · omega
          · exact absurd hf.2.1 c2
        · obtain ⟨c1, c2, c3⟩ := hcan.resolve_right (fun t => q t.1)
          subst c2
          have hsh : shut (ndN L) (kn H r) (nP L).toNat s := by
            intro p hp hb
            refine ⟨?_, c3 p hp hb⟩
            have h0 : (s &&& kn H r).testBit p = false := by rw [hk0]; exact Nat.zero_testBit p
            rw [Nat.testBit_and, hb, Bool.true_and] at h0
            exact h0
          refine ⟨⟨by omega, by omega⟩, ⟨by omega, by omega⟩, fun q2 => skip (fun hf => absurd hf.2.2 (by omega)), fun q2 => ?_⟩
          have hf : feM L H r (tnN L R H r) (n * lno L R H r) s := ⟨hs2, hsh, by omega⟩
          refine S_X12_bits hs14 ⟨_, _, _, rfl, rfl, ?_⟩
          refine S_X12_bits hb14 ⟨_, _, _, rfl, rfl, ⟨by omega, by omega⟩, ⟨by omega, by omega⟩, fun q3 => upd hf (Or.inl ?_), fun q3 => ⟨⟨by omega, by omega⟩, fun q4 => upd hf (Or.inr ⟨q3, Or.inl q4⟩), fun q4 => skip (fun _ => Or.inr ⟨q3.symm, ?_⟩)⟩⟩
          · show (pop b : Int) < (pop s : Int)
            omega
          · show mS (nP L).toNat (tnN L R H r) b < mS (nP L).toNat (tnN L R H r) s ∨ mS (nP L).toNat (tnN L R H r) b = mS (nP L).toNat (tnN L R H r) s ∧ (b : Int) ≤ (s : Int)
            omega
      -- the pages of a set
      have lp148 : s &&& kn H r = 0 → pop b ≤ pop s → ∀ (d p : Nat) (all can x : Int), p + d = (nP L).toNat → x = p → (can = 1 ∧ all = mS p (tnN L R H r) s ∧ (∀ q, q < p → s.testBit q = true → dif (dif (ndN L q) (kn H r)) s = 0) ∨ can = 0 ∧ ¬ shut (ndN L) (kn H r) (nP L).toNat s) → WP k LAY m_X12_most 148 [(0, vR (some 74)), (3, vI y), (4, vI ((kn H r : Nat) : Int)), (5, vI (n * lno L R H r)), (6, vI (b : Int)), (7, vI (mS (nP L).toNat (tnN L R H r) b)), (8, vI (s : Int)), (9, vI all), (10, vI can), (11, vI x)] [] (mem (P, some 5, some 22) I' J') Q := by
        intro hk0 hpp d2
        induction d2 with
        | zero =>
          intro p all can x hpd hx hcan
          have ep : p = (nP L).toNat := by omega
          subst ep
          refine B_X12_most_148 (by omega) ?_
          rw [rx_p hX']
          exact ⟨rx_b hX', ⟨by omega, by omega⟩, fun _ => at224 hk0 hpp all can hcan, fun q => absurd q (by omega)⟩
        | succ d2 ih2 =>
          intro p all can x hpd hx hcan
          subst hx
          have h1 := nd_lt hL (q := p) (by omega)
          have h2 : ndN L p < 16384 := Nat.lt_of_lt_of_le h1.2 (pow_le14 (by omega))
          have e4 : gi I' 81 ((14 * (gi I' 74 13)) + (p : Int)).toNat = ((ndN L p : Nat) : Int) := by
            rw [rx_L4 hX' ⟨by omega, by omega⟩]
            unfold ndN
            omega
          have e130 : gi I' 130 ((p : Int)).toNat = tnN L R H r p := h130 p (by omega)
          refine B_X12_most_148 (by omega) ?_
          rw [rx_p hX', e4, e130, has_iff (by omega) (by omega), andn32_nat (by omega) (by omega), andn32_nat (Nat.lt_of_le_of_lt (dif_le _ _) (by omega)) (by omega)]
          have hms : mS (p + 1) (tnN L R H r) s = mS p (tnN L R H r) s + (if s.testBit p = true then tnN L R H r p else 0) := rfl
          have hb := rx_b hX'
          refine ⟨hb, ⟨by omega, by omega⟩, fun q => absurd q (by omega), fun _ => ⟨⟨by omega, by omega⟩, fun q => at224 hk0 hpp all can (Or.inr (hcan.resolve_left (fun t => by omega))), fun q => ?_⟩⟩
          obtain ⟨c1, c2, c3⟩ := hcan.resolve_right (fun t => q t.1)
          refine ⟨fun q2 => ⟨⟨by omega, by omega⟩, ⟨by omega, by omega⟩, fun q3 => ?_, fun q3 => ?_⟩, fun q2 => ?_⟩
          · refine ih2 (p + 1) _ _ _ (by omega) rfl (Or.inr ⟨rfl, fun hsh => q3 ?_⟩)
            rw [(hsh p (by omega) q2).2]
            rfl
          · refine ih2 (p + 1) _ _ _ (by omega) rfl (Or.inl ⟨rfl, ?_, fun i hi hbi => ?_⟩)
            · rw [hms, if_pos q2, c2]
            · by_cases e : i = p
              · rw [e]
                exact Int.natCast_eq_zero.mp q3
              · exact c3 i (by omega) hbi
          · refine ih2 (p + 1) _ _ _ (by omega) rfl (Or.inl ⟨c1, ?_, fun i hi hbi => ?_⟩)
            · rw [hms, if_neg q2, c2]
              omega
            · by_cases e : i = p
              · rw [e] at hbi
                exact absurd hbi q2
              · exact c3 i (by omega) hbi
      refine B_X12_most_99 (by omega) ?_
      rw [esh, and32_nat (by omega) (by omega)]
      refine ⟨rx_b hX', ⟨by omega, by omega⟩, fun q => absurd q (by omega), fun _ => ⟨fun q => skip (fun hf => absurd ?_ q), fun q => ?_⟩⟩
      · have : s &&& kn H r = 0 := by
          refine Nat.eq_of_testBit_eq (fun i => ?_)
          rw [Nat.testBit_and, Nat.zero_testBit]
          cases hbi : s.testBit i
          · rfl
          · rw [(hf.2.1 i (bit_lt hs2 hbi) hbi).1]
            rfl
        rw [this]
        rfl
      · have hk0 : s &&& kn H r = 0 := Int.natCast_eq_zero.mp q
        refine S_X12_bits hs14 ⟨_, _, _, rfl, rfl, ?_⟩
        refine S_X12_bits hb14 ⟨_, _, _, rfl, rfl, ⟨by omega, by omega⟩, ⟨by omega, by omega⟩, fun q2 => lp148 hk0 (by omega) (nP L).toNat 0 _ _ _ (Nat.zero_add _) rfl (Or.inl ⟨rfl, rfl, fun i hi => absurd hi (Nat.not_lt_zero _)⟩), fun q2 => skip (fun _ => Or.inl ?_)⟩
        show (pop s : Int) < (pop b : Int)
        omega
  -- how long each page takes
  have lp55 : ∀ (d m : Nat) (x : Int) (I' : Nat → Nat → Int32) (J' : Nat → Nat → Int64), m + d = (nP L).toNat → x = m → scrS I I' → scrJ J J' → (∀ p, p < m → gi I' 130 p = tnN L R H r p) → WP k LAY m_X12_most 55 [(0, vR (some 74)), (1, vI r), (3, vI y), (4, vI ((kn H r : Nat) : Int)), (5, vI (n * lno L R H r)), (6, vI x)] [] (mem (P, some 5, some 22) I' J') Q := by
    intro d
    induction d with
    | zero =>
      intro m x I' J' hm hx hs hj h130
      have hX' := hX.fr0 hs
      refine B_X12_most_55 (by omega) ?_
      rw [rx_p hX']
      refine ⟨rx_b hX', ⟨by omega, by omega⟩, fun _ => lp99 I' J' hs hj (fun p hp => h130 p (by omega)) (2 ^ (nP L).toNat - 1) 1 0 _ _ _ (by omega) (by decide) rfl (mS_0 _ _).symm rfl (feM_0 hL hn.1) (fun S h1 h2 => ?_), fun q => absurd q (by omega)⟩
      rw [show S = 0 by omega]
      exact geq.rf _
    | succ d ih =>
      intro m x I' J' hm hx hs hj h130
      subst hx
      have hX' := hX.fr0 hs
      refine B_X12_most_55 (by omega) ?_
      rw [rx_p hX']
      refine ⟨rx_b hX', ⟨by omega, by omega⟩, fun q => absurd q (by omega), fun _ => ?_⟩
      refine S_X12_long (by omega) hX' hr ⟨by omega, by omega⟩ (kk_of (L := L) H r (e72 I' hs)) (fun I4 J4 hF4 hJ4 => ⟨_, _, _, rfl, rfl, ⟨by omega, by omega⟩, ?_⟩)
      rw [takR_now (e73 I' hs) hw.1.1, Int.toNat_natCast]
      have tm := tb m (by omega)
      have hsi : scrS I4 (si I4 130 m (tnw L R H r m)) := fun c k a b => by rw [si_at, if_neg (fun t => by rw [t.1] at a; exact absurd a (by decide))]
      refine ih (m + 1) _ _ J4 (by omega) rfl ((hs.tr (SA_scr hF4)).tr hsi) (hj.tr (J1_scr hJ4)) (fun p hp => ?_)
      by_cases e : p = m
      · rw [e]
        exact gi_same _ _ _ ⟨by have : 0 ≤ tnw L R H r m := tm.1; omega, by have : tnw L R H r m ≤ 500 := tm.2; omega⟩
      · rw [gi_idx _ _ _ e, hF4.gv 130 p (by decide) (by simp)]
        exact h130 p (by omega)
  refine WPm.of k_X12_most.1 (Nat.le_of_ble_eq_true rfl) (B_X12_most_0 (by omega) ?_)
  rw [rx_n hX, rx_1' hX hr]
  refine ⟨rx_b hX, ⟨by omega, by omega⟩, fun q => absurd hr q, fun _ => ⟨⟨by omega, by omega⟩, fun q => absurd hn q, fun _ => ⟨⟨by omega, by omega⟩, fun _ => ⟨⟨by omega, by omega⟩, fun z hz => ⟨⟨by omega, by omega⟩, ?_⟩⟩, fun q => absurd hy q⟩⟩⟩
  rw [rx_kn hX hr] at hz
  subst hz
  have hw1 := hw.1
  refine S_X12_light (by omega) hX ⟨by omega, by omega⟩ h72 (fun I9 J9 hF9 hJ9 => ⟨_, _, _, rfl, rfl, ?_⟩)
  rw [dr_no h73 hw.1.1]
  exact lp55 (nP L).toNat 0 0 I9 J9 (Nat.zero_add _) rfl (SA_scr hF9) (J1_scr hJ9) (fun p hp => absurd hp (Nat.not_lt_zero _))
def mosS (I I' : Nat → Nat → Int32) : Prop := ∀ c k : Nat, scrC c = false → scrF c k = false → c ≠ 52 → c ≠ 53 → ¬ (c = 51 ∧ (k = 4 ∨ k = 5 ∨ k = 6 ∨ k = 10 ∨ k = 11 ∨ k = 12 ∨ k = 13)) → I' c k = I c k
/-- what was found before is still so, while the stamp is -/
def V_mo (I : Nat → Nat → Int32) : Prop := gi I 51 11 ≤ gi I 4 6 ∧ (gi I 51 11 = gi I 4 6 → (0 ≤ gi I 51 12 ∧ gi I 51 12 < nR (LC I)) → (0 ≤ gi I 51 13 ∧ gi I 51 13 ≤ 99) → bestM (LC I) (RC I) (HC I) (gi I 51 12) (gi I 51 13) (bst I))
theorem Fr.mos {I I' : Nat → Nat → Int32} (h : Fr [37, 38, 52, 53] FMo I I') : mosS I I' := fun c k a b c2 c3 n => h c k (fun t => by
  simp at t
  rcases t with rfl | rfl | rfl | rfl
  · exact absurd a (by decide)
  · exact absurd a (by decide)
  · exact c2 rfl
  · exact c3 rfl) (fun t => by
  simp at t
  omega)
theorem step_most {V V' : Cpl} (hS : Vsc V V') (hA : ∀ I J, V I J → VA I) (hM : ∀ I J, V I J → V_mo I) (hput : ∀ I J I' J', V I J → mosS I I' → V_mo I' → scrJ J J' → V' I' J') (x n y : Int) (hx : inR x) (hn : inR n) (hy : inR y) : Step V V' m_X11_most m_X12_most [x, n, y] := by
  by_cases hv : (0 ≤ n ∧ n ≤ 99) ∧ (0 ≤ y ∧ y ≤ 2)
  · intro P I J hV
    obtain ⟨hC, hR, h72, h73⟩ := hA I J hV
    obtain ⟨st0, st1⟩ := hM I J hV
    have hL := hC.1.2.2.2.1
    have e2 : gi I 6 (2 : Int).toNat = nR (LC I) := cx_n hC
    refine WPm.of k_X11_most.1 (Nat.le_of_ble_eq_true rfl) (B_X11_most_0 (by omega) ?_)
    rw [e2]
    refine ⟨hx, fun q => Step.put (by decide) rfl ?_, fun q => ⟨hn, fun q2 => absurd q2 (by omega), fun _ => ⟨fun _ => ⟨hy, fun q3 => absurd q3 (by omega), fun _ => ⟨fun _ => ?_, fun q3 => absurd hv.2.2 q3⟩⟩, fun q3 => absurd hv.1.2 q3⟩⟩⟩
    · refine WPm.of k_X12_most.1 (Nat.le_of_ble_eq_true rfl) (B_X12_most_0 (by omega) ?_)
      rw [rx_n hR]
      exact ⟨rx_b hR, hx, fun _ => ⟨rfl, Cpl2.here (hS I J I J hV (scrS.rf I) (scrJ.rf J))⟩, fun w => absurd w q⟩
    · refine S_X8_findMost (by omega) hC q hv.1 (fun w1 w2 w3 => ?_) (fun I1 hF s1 s2 s3 hb => ⟨_, _, rfl, rfl, ?_⟩)
      · have := st1 w1 (by rw [w2]; exact q) (by rw [w3]; exact hv.1)
        rw [w2, w3] at this
        exact this
      · have hC1 := hC.fr (hF.cx (by decide) (by decide))
        have hR1 : RX I1 0 (LC I) (RC I) (HC I) := hR.fr (hF.rx (by decide) (by decide))
        -- the reference's answer is the same
        have ref : ∀ z : Int, z = (if y = 0 then (bst I1).1 else if y = 1 then (bst I1).2.2 else (bst I1).2.1) → WPm 900 LAY m_X12_most (vR (some 74) :: [x, n, y].map vI) (mem (rv0 P) I1 J) (fun r2 M2 => r2 = some (vI z) ∧ Cpl2 V' M2) := by
          intro z hz
          refine S_X12_mostF (by omega) hR1 q hv.1 hv.2 ((hF.gv 74 72 (by decide) (by decide)).trans h72) ((hF.gv 74 73 (by decide) (by decide)).trans h73) (fun I2 J2 b hs hj hbb => ?_)
          have e := hb.un hbb
          refine ⟨congrArg (fun v : Int => some (vI v)) ?_, Cpl2.here (hput I J I2 J2 hV (fun c k a1 a2 a3 a4 a5 => (hs c k a1 a2).trans (hF.mos c k a1 a2 a3 a4 a5)) ?_ hj)⟩
          · rw [hz, e]
            rfl
          · have g : ∀ c k, scrC c = false → scrF c k = false → gi I2 c k = gi I1 c k := fun c k a1 a2 => hs.gv c k a1 a2
            have hC2 := hC1.fr hs.cx
            have f51 : ∀ k, gi I2 51 k = gi I1 51 k := fun k => g 51 k (by decide) (by simp [scrF])
            have f46 : gi I2 4 6 = gi I 4 6 := (g 4 6 (by decide) (by decide)).trans (hF.gv 4 6 (by decide) (by decide))
            unfold V_mo
            rw [show LC I2 = LC I from hC2.1.1, show RC I2 = RC I from hC2.1.2.1, show HC I2 = HC I from hC2.2.1, f51, f51, f51, f46, s1, s2, s3]
            refine ⟨Int.le_refl _, fun _ _ _ => ?_⟩
            have eb : bst I2 = bst I1 := by
              unfold bst
              rw [f51, f51, f51]
            rw [eb]
            exact hb
        refine ⟨fun w => Step.put (gi_in _ _ _) rfl (ref _ ?_), fun w => ⟨fun w2 => Step.put (gi_in _ _ _) rfl (ref _ ?_), fun w2 => Step.put (gi_in _ _ _) rfl (ref _ ?_)⟩⟩
        · rw [if_pos w]
        · rw [if_neg w, if_pos w2]
        · rw [if_neg w, if_neg w2]
  · refine Step.rd hS (fun I J hV => ⟨-1, by decide, fun P Q hQ => ?_, fun P I1 J1 h1 j1 Q hQ => ?_⟩)
    · have hq := hQ I (scrS.rf I) J (scrJ.rf J)
      exact WPm.of k_X11_most.1 (Nat.le_of_ble_eq_true rfl) (B_X11_most_0 (by omega) ⟨hx, fun _ => hq, fun _ => ⟨hn, fun _ => hq, fun a => ⟨fun b => ⟨hy, fun _ => hq, fun c => ⟨fun d => absurd ⟨⟨by omega, by omega⟩, by omega, by omega⟩ hv, fun _ => hq⟩⟩, fun _ => hq⟩⟩⟩)
    · have hq := hQ I1 (scrS.rf I1) J1 (scrJ.rf J1)
      have hR1 := (hA I J hV).2.1.fr0 h1
      exact WPm.of k_X12_most.1 (Nat.le_of_ble_eq_true rfl) (B_X12_most_0 (by omega) ⟨rx_b hR1, hx, fun _ => hq, fun _ => ⟨hn, fun _ => hq, fun a => ⟨hy, fun b => absurd ⟨a, b⟩ hv, fun _ => hq⟩⟩⟩)
end MOSTR

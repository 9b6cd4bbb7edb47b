section CST
/-! ===== the class's statements ===== -/
theorem fN_inj {k k' i i' : Nat} (hk : k < 4) (hk' : k' < 4) (hi : i < cpc k) (hi' : i' < cpc k') (h : fNm k + i = fNm k' + i') : k = k' ∧ i = i' := by
  have e : k = 0 ∨ k = 1 ∨ k = 2 ∨ k = 3 := by omega
  have e' : k' = 0 ∨ k' = 1 ∨ k' = 2 ∨ k' = 3 := by omega
  rcases e with e | e | e | e <;> subst e <;> rcases e' with e' | e' | e' | e' <;> subst e' <;> simp [fNm, cpc] at h hi hi' ⊢ <;> omega
theorem cpc_14 {k : Nat} (hk : k < 4) : (cpc k : Int) ≤ 14 := by
  have e : k = 0 ∨ k = 1 ∨ k = 2 ∨ k = 3 := by omega
  rcases e with e | e | e | e <;> subst e <;> decide
/-- names that were there stay -/
theorem nm_old {I I' : Nat → Nat → Int32} {L : Lt} {N : Nt} {R : Rt} {q s : Nat} (hS : SCs I L N R q) (hW : WL L N R) (hs : s < 4) (hc : L 0 s < cpc s) (h24 : ∀ i, (∀ j, j < 6 → i ≠ (fNm s + (L 0 s).toNat) * 6 + j) → gi I' 24 i = gi I 24 i) {k i : Nat} (hk : k < 4) (hi : (i : Int) < L 0 k) : nmS I' k i (N k i) := by
  intro j hj
  have hc0 := hW.c hs
  have hck := hW.c hk
  rw [h24 _ (fun j' hj' e => ?_)]
  · exact hS.2.2.2.2.2.2.2.1 k i hk hi j hj
  · have h1 : fNm k + i = fNm s + (L 0 s).toNat := by omega
    obtain ⟨a, b⟩ := fN_inj hk hs (by omega) (by omega) h1
    subst a
    omega
theorem SCs.put {I I' : Nat → Nat → Int32} {L L' : Lt} {N : Nt} {R : Rt} {q s : Nat} {r : List Nat} (hS : SCs I L N R q) (hW : WL L N R) (hs : s < 4) (hc : L 0 s < cpc s) (hn : nmS I' s (L 0 s).toNat r) (h24 : ∀ i, (∀ j, j < 6 → i ≠ (fNm s + (L 0 s).toNat) * 6 + j) → gi I' 24 i = gi I 24 i) (h23 : gi I' 23 s = L 0 s + 1) (h23o : ∀ i, i ≠ s → gi I' 23 i = gi I 23 i) (hL0 : ∀ j, j ≠ s → L' 0 j = L 0 j) (hLs : L' 0 s = L 0 s + 1) (h22 : ∀ j, 13 ≤ j → j ≤ 15 → gi I' 22 j = gi I 22 j) (h3 : ∀ c k, 33 ≤ c → c ≤ 35 → gi I' c k = gi I c k) (hp : ∀ i, i < 14 → gi I' 27 i = L' 3 i ∧ gi I' 28 i = L' 4 i) (hp1 : ∀ i : Nat, (i : Int) < L' 0 1 → gi I' 25 i = L' 1 i ∧ gi I' 26 i = L' 2 i) (hp2 : ∀ i : Nat, (i : Int) < L' 0 2 → gi I' 30 i = L' 5 i ∧ gi I' 31 i = L' 6 i) (hp3 : ∀ i : Nat, (i : Int) < L' 0 3 → gi I' 32 i = L' 7 i) : SCs I' L' (putN N s (L 0 s).toNat r) R q := by
  have hc0 := hW.c hs
  refine ⟨fun k hk => ?_, ?_, ?_, hp, hp1, hp2, hp3, fun k i hk hi => ?_, fun ρ hρ => ?_, ?_⟩
  · by_cases e : k = s
    · rw [e, h23, hLs]
    · rw [h23o k e, hL0 k e]
      exact hS.1 k hk
  · rw [h22 14 (by decide) (by decide), hL0 4 (by omega)]
    exact hS.2.1
  · rw [h22 15 (by decide) (by decide), hL0 5 (by omega)]
    exact hS.2.2.1
  · by_cases e : k = s ∧ i = (L 0 s).toNat
    · rw [e.1, e.2, putN_s]
      exact hn
    · rw [putN_o N r e]
      have hi2 : (i : Int) < L 0 k := by
        by_cases ek : k = s
        · subst ek
          rw [hLs] at hi
          have : i ≠ (L 0 k).toNat := fun t => e ⟨rfl, t⟩
          omega
        · rw [hL0 k ek] at hi
          exact hi
      exact nm_old hS hW hs hc h24 hk hi2
  · rcases hS.2.2.2.2.2.2.2.2.1 ρ hρ with ⟨b1, b2⟩ | ⟨b1, a, b2, b3, b4, b5⟩
    · exact Or.inl ⟨b1, by rw [h3 35 ρ (by decide) (by decide)]; exact b2⟩
    · exact Or.inr ⟨b1, a, by rw [h3 34 ρ (by decide) (by decide)]; exact b2, by rw [h3 35 ρ (by decide) (by decide)]; exact b3, b4, cds_congr (fun i _ _ => (h3 33 i (by decide) (by decide)).symm) b5⟩
  · rw [h22 13 (by decide) (by decide)]
    exact hS.2.2.2.2.2.2.2.2.2
theorem giveL_0 (L : Lt) (s j : Nat) : (j ≠ s → giveL L s 0 j = L 0 j) ∧ giveL L s 0 s = L 0 s + 1 := ⟨fun h => putL_o L _ (fun t => h t.2), putL_s L 0 s _⟩
theorem giveL_f (L : Lt) (s : Nat) {f : Nat} (i : Nat) (h : f ≠ 0) : giveL L s f i = L f i := putL_o L _ (fun t => h t.1)
theorem C_book {T : Nat → Int} {n p : Nat} {L : Lt} {N : Nt} {R : Rt} (hX : TX T n) (hp : p ≤ n) (hW : WL L N R) (hc : L 0 0 < 5) : CSt m_X3_give [vI 0] T n L N R p (rBook T n L N R p) := by
  intro k I J Q q hk hC ho hS hq hQ
  unfold rBook at hQ
  refine S_give (s := 0) (by omega) hX hp hC hS hW (by decide) hc (fun h1 h2 I' a1 a2 a3 a4 a5 a6 => ?_) (fun h1 h2 => ?_) (fun h1 => ?_)
  · rw [pG_y h1 h2] at hQ
    have hg := tE_gt (T := T) hp (by rw [h1.2.1]; decide)
    have ec : ∀ c k, 25 ≤ c → c ≤ 35 → gi I' c k = gi I c k := fun c k x y => a2.gvc k (fun t => by
      simp only [List.mem_cons, List.not_mem_nil, or_false] at t
      omega) (fun q' hq' e => by
      simp only [List.mem_cons, List.not_mem_nil, or_false] at hq'
      rcases hq' with t | t | t | t | t <;> subst t <;> exact absurd e (by show ¬ (1 = c); omega))
    have gL := giveL_0 L 0
    refine hQ I' q a1 (by rw [a2.gv 3 4 (by decide) (by decide)]; exact ho) (SCs.put (L' := giveL L 0) hS hW (by decide) hc a3 a4 a5 a6 (fun j hj => (gL j).1 hj) (gL 0).2 (fun j _ _ => a2.gv 22 j (by decide) (fun t => by
      simp only [List.mem_cons, List.not_mem_nil, or_false, Prod.mk.injEq] at t
      omega)) (fun c k x y => ec c k (by omega) y) (fun i hi => ?_) (fun i hi => ?_) (fun i hi => ?_) (fun i hi => ?_)) (by omega) hg.2.1 a2.c2
    · rw [ec _ _ (by decide) (by decide), ec _ _ (by decide) (by decide), giveL_f L 0 i (by decide), giveL_f L 0 i (by decide)]
      exact hS.2.2.2.1 i hi
    · rw [ec _ _ (by decide) (by decide), ec _ _ (by decide) (by decide), giveL_f L 0 i (by decide), giveL_f L 0 i (by decide)]
      exact hS.2.2.2.2.1 i (by rw [(gL 1).1 (by decide)] at hi; exact hi)
    · rw [ec _ _ (by decide) (by decide), ec _ _ (by decide) (by decide), giveL_f L 0 i (by decide), giveL_f L 0 i (by decide)]
      exact hS.2.2.2.2.2.1 i (by rw [(gL 2).1 (by decide)] at hi; exact hi)
    · rw [ec _ _ (by decide) (by decide), giveL_f L 0 i (by decide)]
      exact hS.2.2.2.2.2.2.1 i (by rw [(gL 3).1 (by decide)] at hi; exact hi)
  · rw [pG_2 h1 h2] at hQ
    exact hQ.ek (by decide) (Fr.rf _ _ _) hC
  · rw [pG_0 h1] at hQ
    exact hQ.e1 (Fr.rf _ _ _) hC
/-- what a frame of a given name and the like leaves -/
theorem gfr {I I' : Nat → Nat → Int32} (h : Fr [23, 24] FLx I I') : (∀ c k, 25 ≤ c → c ≤ 35 → gi I' c k = gi I c k) ∧ (∀ j, 13 ≤ j → j ≤ 15 → gi I' 22 j = gi I 22 j) ∧ gi I' 3 4 = gi I 3 4 := ⟨fun c k x y => h.gvc k (fun t => by
      simp only [List.mem_cons, List.not_mem_nil, or_false] at t
      omega) (fun q' hq' e => by
      simp only [List.mem_cons, List.not_mem_nil, or_false] at hq'
      rcases hq' with t | t | t | t | t <;> subst t <;> exact absurd e (by show ¬ (1 = c); omega)), fun j _ _ => h.gv 22 j (by decide) (fun t => by
      simp only [List.mem_cons, List.not_mem_nil, or_false, Prod.mk.injEq] at t
      omega), h.gv 3 4 (by decide) (by decide)⟩
theorem xfr {I I' : Nat → Nat → Int32} (h : Fr [] FLx I I') : ∀ c k, c ≠ 1 → gi I' c k = gi I c k := fun c k x => h.gvc k (fun t => by cases t) (fun q' hq' e => by
      simp only [List.mem_cons, List.not_mem_nil, or_false] at hq'
      rcases hq' with t | t | t | t | t <;> subst t <;> exact absurd e (fun u => x u.symm))
theorem C_inch {T : Nat → Int} {n p : Nat} {L : Lt} {N : Nt} {R : Rt} (hX : TX T n) (hp : p ≤ n) : CSt m_X3_tellInch [] T n L N R p (rInch T n L N R p) := by
  intro k I J Q q hk hC ho hS hq hQ
  unfold rInch at hQ
  refine WPm.of k_X3_tellInch.1 (Nat.le_of_ble_eq_true rfl) (B_X3_tellInch_0 (by omega) ?_)
  refine S_askNumber (by omega) hX hp hC (by decide) (by decide) (fun h1 h2 I' a1 a2 => ⟨_, _, _, rfl, rfl, ?_⟩) (fun h1 h2 => ⟨_, _, _, rfl, rfl, ?_⟩) (fun h1 => ⟨_, _, _, rfl, rfl, ?_⟩)
  · rw [pNu_y h1 h2] at hQ
    have hg := tE_gt (T := T) hp (by rw [h1.2]; decide)
    have iV : inR (vl T n p) := by unfold inR; omega
    have hF : Fr [] [(22, 15)] I' (si I' 22 15 (vl T n p)) := (Fr.rf _ _ _).up 22 15 _ (Or.inr (by decide))
    refine ⟨iV, fun _ => hQ _ q (a1.fr hF (by decide) (by decide)) ?_ ?_ (by omega) hg.2.1 (a2.c.up 22 15 _ (Or.inr (by decide))), fun c => by omega⟩
    · rw [gi_cell _ _ _ _ (by decide), xfr a2 _ _ (by decide)]
      exact ho
    · show SCs (si I' 22 15 (vl T n p)) (putL L 0 5 (vl T n p)) N R q
      obtain ⟨b1, b2, b3, b4, b5, b6, b7, b8, b9, b10⟩ := hS.fr a2 (fun c t => by cases t) (by decide)
      have pl0 : ∀ f i, ¬ (f = 0 ∧ i = 5) → putL L 0 5 (vl T n p) f i = L f i := fun f i h => putL_o L _ h
      refine ⟨fun j hj => ?_, ?_, ?_, fun i hi => ?_, fun i hi => ?_, fun i hi => ?_, fun i hi => ?_, fun s i hs hi j hj => ?_, fun ρ hρ => ?_, ?_⟩
      · rw [gi_cell _ _ _ _ (by decide), pl0 _ _ (by omega)]
        exact b1 j hj
      · rw [gi_idx _ _ _ (by decide), pl0 _ _ (by omega)]
        exact b2
      · rw [gi_si _ _ _ _ _ iV, if_pos ⟨rfl, rfl⟩]
        exact (putL_s _ _ _ _).symm
      · rw [gi_cell _ _ _ _ (by decide), gi_cell _ _ _ _ (by decide), pl0 _ _ (by omega), pl0 _ _ (by omega)]
        exact b4 i hi
      · rw [gi_cell _ _ _ _ (by decide), gi_cell _ _ _ _ (by decide), pl0 _ _ (by omega), pl0 _ _ (by omega)]
        exact b5 i (by rw [pl0 _ _ (by omega)] at hi; exact hi)
      · rw [gi_cell _ _ _ _ (by decide), gi_cell _ _ _ _ (by decide), pl0 _ _ (by omega), pl0 _ _ (by omega)]
        exact b6 i (by rw [pl0 _ _ (by omega)] at hi; exact hi)
      · rw [gi_cell _ _ _ _ (by decide), pl0 _ _ (by omega)]
        exact b7 i (by rw [pl0 _ _ (by omega)] at hi; exact hi)
      · rw [gi_cell _ _ _ _ (by decide)]
        exact b8 s i hs (by rw [pl0 _ _ (by omega)] at hi; exact hi) j hj
      · rcases b9 ρ hρ with ⟨c1, c2⟩ | ⟨c1, a, c2, c3, c4, c5⟩
        · exact Or.inl ⟨c1, by rw [gi_cell _ _ _ _ (by decide)]; exact c2⟩
        · exact Or.inr ⟨c1, a, by rw [gi_cell _ _ _ _ (by decide)]; exact c2, by rw [gi_cell _ _ _ _ (by decide)]; exact c3, c4, cds_congr (fun i _ _ => (gi_cell _ _ _ _ (by decide)).symm) c5⟩
      · rw [gi_idx _ _ _ (by decide)]
        exact b10
  · rw [pNu_4 h1 h2] at hQ
    exact ⟨by decide, fun c => absurd rfl c, fun _ => hQ.ek (by decide) (Fr.rf _ _ _) hC⟩
  · rw [pNu_0 h1] at hQ
    exact ⟨by decide, fun c => absurd rfl c, fun _ => hQ.e1 (Fr.rf _ _ _) hC⟩
set_option maxHeartbeats 1000000 in
theorem C_table {T : Nat → Int} {n p : Nat} {L : Lt} {N : Nt} {R : Rt} (hX : TX T n) (hp : p ≤ n) (hW : WL L N R) (hc : L 0 3 < 5) : CSt m_X3_tellTable [] T n L N R p (rTable T n L N R p) := by
  intro k I J Q q hk hC ho hS hq hQ
  unfold rTable at hQ
  have hc0 := (hW.c (k := 3) (by decide)).1
  refine WPm.of k_X3_tellTable.1 (Nat.le_of_ble_eq_true rfl) (B_X3_tellTable_0 (by omega) ?_)
  rw [hS.1 3 (by decide)]
  refine S_give (s := 3) (by omega) hX hp hC hS hW (by decide) hc (fun h1 h2 I1 a1 a2 a3 a4 a5 a6 => ⟨_, _, _, rfl, rfl, by decide, fun c => absurd c (by decide), fun _ => ?_⟩) (fun h1 h2 => ⟨_, _, _, rfl, rfl, by decide, fun _ => ?_, fun c => absurd rfl c⟩) (fun h1 => ⟨_, _, _, rfl, rfl, by decide, fun _ => ?_, fun c => absurd rfl c⟩)
  · rw [pG_y h1 h2] at hQ
    have hg := tE_gt (T := T) hp (by rw [h1.2.1]; decide)
    refine S_wantOwn (w := 10) (by omega) hX hg.2.1 a1 (by decide) (fun h3 I2 b1 b2 => ⟨_, _, _, rfl, rfl, by decide, fun c => absurd c (by decide), fun _ => ?_⟩) (fun h3 => ⟨_, _, _, rfl, rfl, by decide, fun _ => ?_, fun c => absurd rfl c⟩)
    · rw [pW_y h3] at hQ
      have hg1 := tE_gt (T := T) hg.2.1 (by rw [h3.2.1]; decide)
      have hF02 : Fr [23, 24] FLx I I2 := a2.tr (b2.mono (fun t ht => by cases ht) (fun q hq => Or.inl hq))
      refine S_askNumber (by omega) hX hg1.2.1 b1 (by decide) (by decide) (fun h4 h5 I3 c1 c2 => ⟨_, _, _, rfl, rfl, ?_⟩) (fun h4 h5 => ⟨_, _, _, rfl, rfl, by decide, fun c => absurd rfl c, fun _ => ?_⟩) (fun h4 => ⟨_, _, _, rfl, rfl, by decide, fun c => absurd rfl c, fun _ => ?_⟩)
      · rw [pNu_y h4 h5] at hQ
        have hg2 := tE_gt (T := T) hg1.2.1 (by rw [h4.2]; decide)
        generalize hv : vl T n (tE T n (tE T n p)) = v at *
        have iV : inR v := by unfold inR; omega
        have hF03 : Fr [23, 24] FLx I I3 := hF02.tr (c2.mono (fun t ht => by cases ht) (fun q hq => Or.inl hq))
        obtain ⟨e1, e2, e3⟩ := gfr hF03
        have x3 := xfr (b2.tr c2)
        have gL := giveL_0 (putL L 7 (L 0 3).toNat v) 3
        have hp0 : ∀ j, putL L 7 (L 0 3).toNat v 0 j = L 0 j := fun j => putL_o L _ (by omega)
        have hpo : ∀ f i, f ≠ 7 → putL L 7 (L 0 3).toNat v f i = L f i := fun f i h => putL_o L _ (fun t => h t.1)
        refine ⟨iV, fun _ => ⟨by omega, hQ _ q ?_ ?_ ?_ (by show q ≤ tE T n (tE T n (tE T n p)); omega) hg2.2.1 (hF03.c2.up 32 _ _ (Or.inl (by decide)))⟩, fun c => by omega⟩
        · exact c1.fr (cs := [32]) (fs := []) ((Fr.rf _ _ _).up 32 _ _ (Or.inl (by decide))) (by decide) (by decide)
        · rw [gi_cell _ _ _ _ (by decide), e3]
          exact ho
        · refine SCs.put (L' := giveL (putL L 7 (L 0 3).toNat v) 3) hS hW (by decide) hc (fun j hj => ?_) (fun i hi => ?_) ?_ (fun i hi => ?_) (fun j hj => ?_) ?_ (fun j x y => ?_) (fun c k x y => ?_) (fun i hi => ?_) (fun i hi => ?_) (fun i hi => ?_) (fun i hi => ?_)
          · rw [gi_cell _ _ _ _ (by decide), x3 _ _ (by decide)]
            exact a3 j hj
          · rw [gi_cell _ _ _ _ (by decide), x3 _ _ (by decide)]
            exact a4 i hi
          · rw [gi_cell _ _ _ _ (by decide), x3 _ _ (by decide)]
            exact a5
          · rw [gi_cell _ _ _ _ (by decide), x3 _ _ (by decide)]
            exact a6 i hi
          · show giveL (putL L 7 (L 0 3).toNat v) 3 0 j = _
            rw [(gL j).1 hj, hp0]
          · show giveL (putL L 7 (L 0 3).toNat v) 3 0 3 = _
            rw [(gL 3).2, hp0]
          · rw [gi_cell _ _ _ _ (by decide)]
            exact e2 j x y
          · rw [gi_cell _ _ _ _ (by omega)]
            exact e1 c k (by omega) y
          · show _ = giveL (putL L 7 (L 0 3).toNat v) 3 3 i ∧ _ = giveL (putL L 7 (L 0 3).toNat v) 3 4 i
            rw [gi_cell _ _ _ _ (by decide), gi_cell _ _ _ _ (by decide), e1 _ _ (by decide) (by decide), e1 _ _ (by decide) (by decide), giveL_f _ _ _ (by decide), giveL_f _ _ _ (by decide), hpo _ _ (by decide), hpo _ _ (by decide)]
            exact hS.2.2.2.1 i hi
          · have hi' : (i : Int) < giveL (putL L 7 (L 0 3).toNat v) 3 0 1 := hi
            rw [(gL 1).1 (by decide), hp0] at hi'
            show _ = giveL (putL L 7 (L 0 3).toNat v) 3 1 i ∧ _ = giveL (putL L 7 (L 0 3).toNat v) 3 2 i
            rw [gi_cell _ _ _ _ (by decide), gi_cell _ _ _ _ (by decide), e1 _ _ (by decide) (by decide), e1 _ _ (by decide) (by decide), giveL_f _ _ _ (by decide), giveL_f _ _ _ (by decide), hpo _ _ (by decide), hpo _ _ (by decide)]
            exact hS.2.2.2.2.1 i hi'
          · have hi' : (i : Int) < giveL (putL L 7 (L 0 3).toNat v) 3 0 2 := hi
            rw [(gL 2).1 (by decide), hp0] at hi'
            show _ = giveL (putL L 7 (L 0 3).toNat v) 3 5 i ∧ _ = giveL (putL L 7 (L 0 3).toNat v) 3 6 i
            rw [gi_cell _ _ _ _ (by decide), gi_cell _ _ _ _ (by decide), e1 _ _ (by decide) (by decide), e1 _ _ (by decide) (by decide), giveL_f _ _ _ (by decide), giveL_f _ _ _ (by decide), hpo _ _ (by decide), hpo _ _ (by decide)]
            exact hS.2.2.2.2.2.1 i hi'
          · have hi' : (i : Int) < giveL (putL L 7 (L 0 3).toNat v) 3 0 3 := hi
            rw [(gL 3).2, hp0] at hi'
            show _ = giveL (putL L 7 (L 0 3).toNat v) 3 7 i
            rw [giveL_f _ _ _ (by decide), gi_si _ _ _ _ _ iV]
            by_cases e : i = (L 0 3).toNat
            · rw [if_pos ⟨rfl, e⟩, e, putL_s]
            · rw [if_neg (fun t => e t.2), putL_o L _ (fun t => e t.2), e1 _ _ (by decide) (by decide)]
              exact hS.2.2.2.2.2.2.1 i (by omega)
      · rw [pNu_4 h4 h5] at hQ
        exact hQ.ek (by decide) hF02.c2 b1
      · rw [pNu_0 h4] at hQ
        exact hQ.e1 hF02.c2 b1
    · rw [pW_n h3] at hQ
      exact hQ.e1 a2.c2 a1
  · rw [pG_2 h1 h2] at hQ
    exact hQ.ek (by decide) (Fr.rf _ _ _) hC
  · rw [pG_0 h1] at hQ
    exact hQ.e1 (Fr.rf _ _ _) hC
end CST

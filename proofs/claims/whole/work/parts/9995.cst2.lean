section CST2
/-! ===== the class: reader, page ===== -/
set_option maxHeartbeats 2000000 in
theorem C_reader {T : Nat → Int} {n p : Nat} {L : Lt} {N : Nt} {R : Rt} (hX : TX T n) (hp : p ≤ n) (hW : WL L N R) (hc : L 0 2 < 6) : CSt m_X3_tellReader [] T n L N R p (rReader T n L N R p) := by
  intro k I J Q q hk hC ho hS hq hQ
  unfold rReader at hQ
  have hc0 := (hW.c (k := 2) (by decide)).1
  refine WPm.of k_X3_tellReader.1 (Nat.le_of_ble_eq_true rfl) (B_X3_tellReader_0 (by omega) ?_)
  rw [hS.1 2 (by decide)]
  refine S_give (s := 2) (by omega) hX hp hC hS hW (by decide) hc (fun h1 h2 I1 a1 a2 a3 a4 a5 a6 => ⟨_, _, _, rfl, rfl, by decide, fun c => absurd c (by decide), fun _ => ?_⟩) (fun h1 h2 => ⟨_, _, _, rfl, rfl, by decide, fun _ => ?_, fun c => absurd rfl c⟩) (fun h1 => ⟨_, _, _, rfl, rfl, by decide, fun _ => ?_, fun c => absurd rfl c⟩)
  · rw [pG_y h1 h2] at hQ
    have hg := tE_gt (T := T) hp (by rw [h1.2.1]; decide)
    refine S_wantOwn (w := 7) (by omega) hX hg.2.1 a1 (by decide) (fun h3 I2 b1 b2 => ⟨_, _, _, rfl, rfl, by decide, fun c => absurd c (by decide), fun _ => ?_⟩) (fun h3 => ⟨_, _, _, rfl, rfl, by decide, fun _ => ?_, fun c => absurd rfl c⟩)
    · rw [pW_y h3] at hQ
      have hg1 := tE_gt (T := T) hg.2.1 (by rw [h3.2.1]; decide)
      have hF02 : Fr [23, 24] FLx I I2 := a2.tr (b2.mono (fun t ht => by cases ht) (fun q hq => Or.inl hq))
      refine S_askNumber (by omega) hX hg1.2.1 b1 (by decide) (by decide) (fun h4 h5 I3 c1 c2 => ⟨_, _, _, rfl, rfl, ?_⟩) (fun h4 h5 => ⟨_, _, _, rfl, rfl, by decide, fun c => absurd rfl c, fun _ => ?_⟩) (fun h4 => ⟨_, _, _, rfl, rfl, by decide, fun c => absurd rfl c, fun _ => ?_⟩)
      · rw [pNu_y h4 h5] at hQ
        have hg2 := tE_gt (T := T) hg1.2.1 (by rw [h4.2]; decide)
        generalize hv : vl T n (tE T n (tE T n p)) = v at *
        generalize hp3 : tE T n (tE T n (tE T n p)) = p3 at *
        have iV : inR v := by unfold inR; omega
        have hF03 : Fr [23, 24] FLx I I3 := hF02.tr (c2.mono (fun t ht => by cases ht) (fun q hq => Or.inl hq))
        refine ⟨iV, fun _ => ⟨by omega, ?_⟩, fun c => by omega⟩
        have hFs : Fr [30] [] I3 (si I3 30 (L 0 2).toNat v) := (Fr.rf _ _ _).up 30 _ _ (Or.inl (by decide))
        have hCs := c1.fr hFs (by decide) (by decide)
        have hcs : Fr CSc FLc I (si I3 30 (L 0 2).toNat v) := hF03.c2.up 30 _ _ (Or.inl (by decide))
        refine S_wantOwn (w := 8) (by omega) hX hg2.2.1 hCs (by decide) (fun h6 I4 d1 d2 => ⟨_, _, _, rfl, rfl, by decide, fun c => absurd c (by decide), fun _ => ?_⟩) (fun h6 => ⟨_, _, _, rfl, rfl, by decide, fun _ => ?_, fun c => absurd rfl c⟩)
        · rw [pW_y h6] at hQ
          have hg3 := tE_gt (T := T) hg2.2.1 (by rw [h6.2.1]; decide)
          refine S_askNumber (by omega) hX hg3.2.1 d1 (by decide) (by decide) (fun h7 h8 I5 f1 f2 => ⟨_, _, _, rfl, rfl, ?_⟩) (fun h7 h8 => ⟨_, _, _, rfl, rfl, by decide, fun c => absurd rfl c, fun _ => ?_⟩) (fun h7 => ⟨_, _, _, rfl, rfl, by decide, fun c => absurd rfl c, fun _ => ?_⟩)
          · rw [pNu_y h7 h8] at hQ
            have hg4 := tE_gt (T := T) hg3.2.1 (by rw [h7.2]; decide)
            generalize hu : vl T n (tE T n p3) = u at *
            have iU : inR u := by unfold inR; omega
            have x5 := xfr (d2.tr f2)
            have x3 := xfr (b2.tr c2)
            obtain ⟨e1, e2, e3⟩ := gfr hF03
            have hp0 : ∀ j, putL (putL L 5 (L 0 2).toNat v) 6 (L 0 2).toNat u 0 j = L 0 j := fun j => by rw [putL_o _ _ (by omega), putL_o _ _ (by omega)]
            have hpo : ∀ f i, f ≠ 5 → f ≠ 6 → putL (putL L 5 (L 0 2).toNat v) 6 (L 0 2).toNat u f i = L f i := fun f i h h' => by rw [putL_o _ _ (fun t => h' t.1), putL_o _ _ (fun t => h t.1)]
            generalize hLL : putL (putL L 5 (L 0 2).toNat v) 6 (L 0 2).toNat u = LL at *
            have gL := giveL_0 LL 2
            have er : ∀ c k, c ≠ 1 → c ≠ 30 → c ≠ 31 → gi (si I5 31 (L 0 2).toNat u) c k = gi I3 c k := fun c k y1 y2 y3 => by rw [gi_cell _ _ _ _ y3, x5 _ _ y1, gi_cell _ _ _ _ y2]
            have e30 : ∀ k, gi (si I5 31 (L 0 2).toNat u) 30 k = if k = (L 0 2).toNat then v else gi I3 30 k := fun k => by
              rw [gi_cell _ _ _ _ (by decide), x5 _ _ (by decide), gi_si _ _ _ _ _ iV]
              by_cases e : k = (L 0 2).toNat
              · rw [if_pos ⟨rfl, e⟩, if_pos e]
              · rw [if_neg (fun t => e t.2), if_neg e]
            have e31 : ∀ k, gi (si I5 31 (L 0 2).toNat u) 31 k = if k = (L 0 2).toNat then u else gi I3 31 k := fun k => by
              rw [gi_si _ _ _ _ _ iU, x5 _ _ (by decide), gi_cell _ _ _ _ (by decide)]
              by_cases e : k = (L 0 2).toNat
              · rw [if_pos ⟨rfl, e⟩, if_pos e]
              · rw [if_neg (fun t => e t.2), if_neg e]
            refine ⟨iU, fun _ => hQ _ q ?_ ?_ ?_ (by show q ≤ tE T n (tE T n p3); omega) hg4.2.1 (((hcs.tr d2.c).tr f2.c).up 31 _ _ (Or.inl (by decide))), fun c => by omega⟩
            · exact f1.fr (cs := [31]) (fs := []) ((Fr.rf _ _ _).up 31 _ _ (Or.inl (by decide))) (by decide) (by decide)
            · rw [er _ _ (by decide) (by decide) (by decide), e3]
              exact ho
            · show SCs _ (readerL L (L 0 2).toNat v u) (putN N 2 (L 0 2).toNat (lR T n p)) R q
              unfold readerL
              rw [hLL]
              refine SCs.put (L' := giveL LL 2) hS hW (by decide) hc (fun j hj => ?_) (fun i hi => ?_) ?_ (fun i hi => ?_) (fun j hj => ?_) ?_ (fun j x y => ?_) (fun c k x y => ?_) (fun i hi => ?_) (fun i hi => ?_) (fun i hi => ?_) (fun i hi => ?_)
              · rw [er _ _ (by decide) (by decide) (by decide), x3 _ _ (by decide)]
                exact a3 j hj
              · rw [er _ _ (by decide) (by decide) (by decide), x3 _ _ (by decide)]
                exact a4 i hi
              · rw [er _ _ (by decide) (by decide) (by decide), x3 _ _ (by decide)]
                exact a5
              · rw [er _ _ (by decide) (by decide) (by decide), x3 _ _ (by decide)]
                exact a6 i hi
              · rw [(gL j).1 hj, hp0]
              · rw [(gL 2).2, hp0]
              · rw [er _ _ (by decide) (by decide) (by decide)]
                exact e2 j x y
              · rw [er _ _ (by omega) (by omega) (by omega)]
                exact e1 c k (by omega) y
              · rw [er _ _ (by decide) (by decide) (by decide), er _ _ (by decide) (by decide) (by decide), e1 _ _ (by decide) (by decide), e1 _ _ (by decide) (by decide), giveL_f _ _ _ (by decide), giveL_f _ _ _ (by decide), hpo _ _ (by decide) (by decide), hpo _ _ (by decide) (by decide)]
                exact hS.2.2.2.1 i hi
              · rw [(gL 1).1 (by decide), hp0] at hi
                rw [er _ _ (by decide) (by decide) (by decide), er _ _ (by decide) (by decide) (by decide), e1 _ _ (by decide) (by decide), e1 _ _ (by decide) (by decide), giveL_f _ _ _ (by decide), giveL_f _ _ _ (by decide), hpo _ _ (by decide) (by decide), hpo _ _ (by decide) (by decide)]
                exact hS.2.2.2.2.1 i hi
              · rw [(gL 2).2, hp0] at hi
                rw [e30, e31, giveL_f _ _ _ (by decide), giveL_f _ _ _ (by decide), ← hLL]
                by_cases e : i = (L 0 2).toNat
                · rw [if_pos e, if_pos e, e, putL_s, putL_o _ _ (by omega), putL_s]
                  exact ⟨rfl, rfl⟩
                · rw [if_neg e, if_neg e, putL_o _ _ (fun t => e t.2), putL_o _ _ (fun t => e t.2), putL_o _ _ (fun t => e t.2), putL_o _ _ (fun t => e t.2), e1 _ _ (by decide) (by decide), e1 _ _ (by decide) (by decide)]
                  exact hS.2.2.2.2.2.1 i (by omega)
              · rw [(gL 3).1 (by decide), hp0] at hi
                rw [er _ _ (by decide) (by decide) (by decide), e1 _ _ (by decide) (by decide), giveL_f _ _ _ (by decide), hpo _ _ (by decide) (by decide)]
                exact hS.2.2.2.2.2.2.1 i hi
          · rw [pNu_4 h7 h8] at hQ
            exact hQ.ek (by decide) (hcs.tr d2.c) d1
          · rw [pNu_0 h7] at hQ
            exact hQ.e1 (hcs.tr d2.c) d1
        · rw [pW_n h6] at hQ
          exact hQ.e1 hcs hCs
      · rw [pNu_4 h4 h5] at hQ
        exact hQ.ek (by decide) hF02.c2 b1
      · rw [pNu_0 h4] at hQ
        exact hQ.e1 hF02.c2 b1
    · rw [pW_n h3] at hQ
      exact hQ.e1 a2.c2 a1
  · rw [pG_2 h1 h2] at hQ
    exact hQ.ek (by decide) (Fr.rf _ _ _) hC
  · rw [pG_0 h1] at hQ
    exact hQ.e1 (Fr.rf _ _ _) hC
set_option maxHeartbeats 4000000 in
theorem C_page {T : Nat → Int} {n p : Nat} {L : Lt} {N : Nt} {R : Rt} (hX : TX T n) (hp : p ≤ n) (hW : WL L N R) (hc : L 0 1 < 14) : CSt m_X3_tellPage [] T n L N R p (rPage T n L N R p) := by
  intro k I J Q q hk hC ho hS hq hQ
  unfold rPage at hQ
  have hc0 := (hW.c (k := 1) (by decide)).1
  refine WPm.of k_X3_tellPage.1 (Nat.le_of_ble_eq_true rfl) (B_X3_tellPage_0 (by omega) ?_)
  rw [hS.1 1 (by decide)]
  refine S_give (s := 1) (by omega) hX hp hC hS hW (by decide) hc (fun h1 h2 I1 a1 a2 a3 a4 a5 a6 => ⟨_, _, _, rfl, rfl, by decide, fun c => absurd c (by decide), fun _ => ?_⟩) (fun h1 h2 => ⟨_, _, _, rfl, rfl, by decide, fun _ => ?_, fun c => absurd rfl c⟩) (fun h1 => ⟨_, _, _, rfl, rfl, by decide, fun _ => ?_, fun c => absurd rfl c⟩)
  · rw [pG_y h1 h2] at hQ
    have hg := tE_gt (T := T) hp (by rw [h1.2.1]; decide)
    refine S_wantOwn (w := 2) (by omega) hX hg.2.1 a1 (by decide) (fun h3 I2 b1 b2 => ⟨_, _, _, rfl, rfl, by decide, fun _ => ?_, fun c => absurd c (by decide)⟩) (fun h3 => ⟨_, _, _, rfl, rfl, by decide, fun c => absurd rfl c, fun _ => ?_⟩)
    · rw [pW_y h3] at hQ
      have hg1 := tE_gt (T := T) hg.2.1 (by rw [h3.2.1]; decide)
      have hF02 : Fr [23, 24] FLx I I2 := a2.tr (b2.mono (fun t ht => by cases ht) (fun q hq => Or.inl hq))
      have x2 := xfr b2
      have a42 : ∀ i, (∀ j, j < 6 → i ≠ (fNm 1 + (L 0 1).toNat) * 6 + j) → gi I2 24 i = gi I 24 i := fun i hi => by rw [x2 _ _ (by decide)]; exact a4 i hi
      generalize hp2 : tE T n (tE T n p) = p2 at *
      refine S_askName (s := 0) (cnt := L 0 0) (f := N 0) (by omega) hX hg1.2.1 b1 (by rw [x2 _ _ (by decide), a6 0 (by decide)]; exact hS.1 0 (by decide)) (hW.c (by decide)) (fun i hi => nm_old hS hW (by decide) hc a42 (by decide) hi) (fun i hi => hW.2.2.2.2.2.1 0 i (by decide) hi) (by decide) (fun h4 v h5 h6 => ⟨_, _, _, rfl, rfl, ?_⟩) (fun h4 h5 => ⟨_, _, _, rfl, rfl, by decide, fun c => absurd rfl c, fun _ => ?_⟩) (fun h4 => ⟨_, _, _, rfl, rfl, by decide, fun c => absurd rfl c, fun _ => ?_⟩)
      · rw [pA_y h4 h5] at hQ
        have hc5 := (hW.c (k := 0) (by decide)).2
        have hc55 : L 0 0 ≤ 5 := hc5
        have hg2 := tE_gt (T := T) hg1.2.1 (by rw [h4.2.1]; decide)
        have iB : inR (v : Int) := by unfold inR; omega
        refine ⟨iB, fun _ => ⟨by omega, ?_⟩, fun c => by omega⟩
        have hFs : Fr [25] [] I2 (si I2 25 (L 0 1).toNat v) := (Fr.rf _ _ _).up 25 _ _ (Or.inl (by decide))
        have hCs := b1.fr hFs (by decide) (by decide)
        have hcs : Fr CSc FLc I (si I2 25 (L 0 1).toNat v) := hF02.c2.up 25 _ _ (Or.inl (by decide))
        refine S_step (by omega) hX hg1.2.1 hCs (by rw [h4.2.1]; decide) h4.1 (fun I3 c1 c2 => ⟨_, _, rfl, rfl, ?_⟩)
        refine S_wantOwn (w := 3) (by omega) hX hg2.2.1 c1 (by decide) (fun h7 I4 d1 d2 => ⟨_, _, _, rfl, rfl, by decide, fun c => absurd c (by decide), fun _ => ?_⟩) (fun h7 => ⟨_, _, _, rfl, rfl, by decide, fun _ => ?_, fun c => absurd rfl c⟩)
        · rw [pW_y h7] at hQ
          have hg3 := tE_gt (T := T) hg2.2.1 (by rw [h7.2.1]; decide)
          generalize hp4 : tE T n (tE T n p2) = p4 at *
          refine S_askNumber (by omega) hX hg3.2.1 d1 (by decide) (by decide) (fun h8 h9 I5 f1 f2 => ⟨_, _, _, rfl, rfl, ?_⟩) (fun h8 h9 => ⟨_, _, _, rfl, rfl, by decide, fun c => absurd rfl c, fun _ => ?_⟩) (fun h8 => ⟨_, _, _, rfl, rfl, by decide, fun c => absurd rfl c, fun _ => ?_⟩)
          · rw [pNu_y h8 h9] at hQ
            have hg4 := tE_gt (T := T) hg3.2.1 (by rw [h8.2]; decide)
            generalize hu : vl T n p4 = u at *
            have iU : inR u := by unfold inR; omega
            obtain ⟨e1, e2, e3⟩ := gfr hF02
            have x5 := xfr ((c2.tr d2).tr f2)
            have hFt : Fr [26] [] I5 (si I5 26 (L 0 1).toNat u) := (Fr.rf _ _ _).up 26 _ _ (Or.inl (by decide))
            have hCt := f1.fr hFt (by decide) (by decide)
            have hct : Fr CSc FLc I (si I5 26 (L 0 1).toNat u) := (((hcs.tr c2.c).tr d2.c).tr f2.c).up 26 _ _ (Or.inl (by decide))
            have er : ∀ c k, c ≠ 1 → c ≠ 25 → c ≠ 26 → gi (si I5 26 (L 0 1).toNat u) c k = gi I2 c k := fun c k y1 y2 y3 => by rw [gi_cell _ _ _ _ y3, x5 _ _ y1, gi_cell _ _ _ _ y2]
            have e25 : ∀ k, gi (si I5 26 (L 0 1).toNat u) 25 k = if k = (L 0 1).toNat then (v : Int) else gi I2 25 k := fun k => by
              rw [gi_cell _ _ _ _ (by decide), x5 _ _ (by decide), gi_si _ _ _ _ _ iB]
              by_cases e : k = (L 0 1).toNat
              · rw [if_pos ⟨rfl, e⟩, if_pos e]
              · rw [if_neg (fun t => e t.2), if_neg e]
            have e26 : ∀ k, gi (si I5 26 (L 0 1).toNat u) 26 k = if k = (L 0 1).toNat then u else gi I2 26 k := fun k => by
              rw [gi_si _ _ _ _ _ iU, x5 _ _ (by decide), gi_cell _ _ _ _ (by decide)]
              by_cases e : k = (L 0 1).toNat
              · rw [if_pos ⟨rfl, e⟩, if_pos e]
              · rw [if_neg (fun t => e t.2), if_neg e]
            have hz := hW.2.2.2.2.1 (L 0 1).toNat (by omega)
            -- the content behind it
            have fin : ∀ (I6 : Nat → Nat → Int32) (g : Int), (∀ c k, c ≠ 1 → c ≠ 27 → gi I6 c k = gi (si I5 26 (L 0 1).toNat u) c k) → (∀ k, gi I6 27 k = if k = (L 0 1).toNat then g else gi I 27 k) → SCs I6 (pageL L (L 0 1).toNat v u g) (putN N 1 (L 0 1).toNat (lR T n p)) R q := fun I6 g y1 y2 => by
              unfold pageL
              have hp0 : ∀ j, putL (putL (putL (putL L 1 (L 0 1).toNat v) 2 (L 0 1).toNat u) 3 (L 0 1).toNat g) 4 (L 0 1).toNat 0 0 j = L 0 j := fun j => by rw [putL_o _ _ (by omega), putL_o _ _ (by omega), putL_o _ _ (by omega), putL_o _ _ (by omega)]
              have hpo : ∀ f i, 5 ≤ f → putL (putL (putL (putL L 1 (L 0 1).toNat v) 2 (L 0 1).toNat u) 3 (L 0 1).toNat g) 4 (L 0 1).toNat 0 f i = L f i := fun f i h => by rw [putL_o _ _ (by omega), putL_o _ _ (by omega), putL_o _ _ (by omega), putL_o _ _ (by omega)]
              have hpx : ∀ f i, i ≠ (L 0 1).toNat → putL (putL (putL (putL L 1 (L 0 1).toNat v) 2 (L 0 1).toNat u) 3 (L 0 1).toNat g) 4 (L 0 1).toNat 0 f i = L f i := fun f i h => by rw [putL_o _ _ (fun t => h t.2), putL_o _ _ (fun t => h t.2), putL_o _ _ (fun t => h t.2), putL_o _ _ (fun t => h t.2)]
              have hp1 : putL (putL (putL (putL L 1 (L 0 1).toNat v) 2 (L 0 1).toNat u) 3 (L 0 1).toNat g) 4 (L 0 1).toNat 0 1 (L 0 1).toNat = v := by rw [putL_o _ _ (by omega), putL_o _ _ (by omega), putL_o _ _ (by omega), putL_s]
              have hp2' : putL (putL (putL (putL L 1 (L 0 1).toNat v) 2 (L 0 1).toNat u) 3 (L 0 1).toNat g) 4 (L 0 1).toNat 0 2 (L 0 1).toNat = u := by rw [putL_o _ _ (by omega), putL_o _ _ (by omega), putL_s]
              have hp3' : putL (putL (putL (putL L 1 (L 0 1).toNat v) 2 (L 0 1).toNat u) 3 (L 0 1).toNat g) 4 (L 0 1).toNat 0 3 (L 0 1).toNat = g := by rw [putL_o _ _ (by omega), putL_s]
              have hp4' : putL (putL (putL (putL L 1 (L 0 1).toNat v) 2 (L 0 1).toNat u) 3 (L 0 1).toNat g) 4 (L 0 1).toNat 0 4 (L 0 1).toNat = 0 := putL_s _ _ _ _
              generalize putL (putL (putL (putL L 1 (L 0 1).toNat v) 2 (L 0 1).toNat u) 3 (L 0 1).toNat g) 4 (L 0 1).toNat 0 = LL at *
              have gL := giveL_0 LL 1
              refine SCs.put (L' := giveL LL 1) hS hW (by decide) hc (fun j hj => ?_) (fun i hi => ?_) ?_ (fun i hi => ?_) (fun j hj => ?_) ?_ (fun j x y => ?_) (fun c k x y => ?_) (fun i hi => ?_) (fun i hi => ?_) (fun i hi => ?_) (fun i hi => ?_)
              · rw [y1 _ _ (by decide) (by decide), er _ _ (by decide) (by decide) (by decide), x2 _ _ (by decide)]
                exact a3 j hj
              · rw [y1 _ _ (by decide) (by decide), er _ _ (by decide) (by decide) (by decide)]
                exact a42 i hi
              · rw [y1 _ _ (by decide) (by decide), er _ _ (by decide) (by decide) (by decide), x2 _ _ (by decide)]
                exact a5
              · rw [y1 _ _ (by decide) (by decide), er _ _ (by decide) (by decide) (by decide), x2 _ _ (by decide)]
                exact a6 i hi
              · rw [(gL j).1 hj, hp0]
              · rw [(gL 1).2, hp0]
              · rw [y1 _ _ (by decide) (by decide), er _ _ (by decide) (by decide) (by decide)]
                exact e2 j x y
              · rw [y1 _ _ (by omega) (by omega), er _ _ (by omega) (by omega) (by omega)]
                exact e1 c k (by omega) y
              · rw [y2, y1 _ _ (by decide) (by decide), er _ _ (by decide) (by decide) (by decide), e1 _ _ (by decide) (by decide), giveL_f _ _ _ (by decide), giveL_f _ _ _ (by decide)]
                by_cases e : i = (L 0 1).toNat
                · rw [if_pos e, e, hp3', hp4']
                  refine ⟨rfl, ?_⟩
                  rw [(hS.2.2.2.1 _ (by omega)).2]
                  exact hz.2
                · rw [if_neg e, hpx _ _ e, hpx _ _ e]
                  exact hS.2.2.2.1 i hi
              · rw [(gL 1).2, hp0] at hi
                rw [y1 _ _ (by decide) (by decide), y1 _ _ (by decide) (by decide), e25, e26, giveL_f _ _ _ (by decide), giveL_f _ _ _ (by decide)]
                by_cases e : i = (L 0 1).toNat
                · rw [if_pos e, if_pos e, e, hp1, hp2']
                  exact ⟨rfl, rfl⟩
                · rw [if_neg e, if_neg e, hpx _ _ e, hpx _ _ e, e1 _ _ (by decide) (by decide), e1 _ _ (by decide) (by decide)]
                  exact hS.2.2.2.2.1 i (by omega)
              · rw [(gL 2).1 (by decide), hp0] at hi
                rw [y1 _ _ (by decide) (by decide), y1 _ _ (by decide) (by decide), er _ _ (by decide) (by decide) (by decide), er _ _ (by decide) (by decide) (by decide), e1 _ _ (by decide) (by decide), e1 _ _ (by decide) (by decide), giveL_f _ _ _ (by decide), giveL_f _ _ _ (by decide), hpo _ _ (by decide), hpo _ _ (by decide)]
                exact hS.2.2.2.2.2.1 i hi
              · rw [(gL 3).1 (by decide), hp0] at hi
                rw [y1 _ _ (by decide) (by decide), er _ _ (by decide) (by decide) (by decide), e1 _ _ (by decide) (by decide), giveL_f _ _ _ (by decide), hpo _ _ (by decide)]
                exact hS.2.2.2.2.2.2.1 i hi
            have h27 : ∀ k, gi (si I5 26 (L 0 1).toNat u) 27 k = gi I 27 k := fun k => by rw [er _ _ (by decide) (by decide) (by decide), e1 _ _ (by decide) (by decide)]
            have h34 : gi (si I5 26 (L 0 1).toNat u) 3 4 = 0 := by rw [er _ _ (by decide) (by decide) (by decide), e3]; exact ho
            refine ⟨iU, fun _ => ?_, fun c => by omega⟩
            rw [hCt.w 4 (by decide)]
            refine ⟨fun h10 => ?_, fun h10 => ?_⟩
            · rw [ci_n h10] at hQ
              refine hQ _ q hCt h34 (fin _ 0 (fun _ _ _ _ => rfl) (fun k => ?_)) (by show q ≤ tE T n p4; omega) hg4.2.1 hct
              rw [h27]
              by_cases e : k = (L 0 1).toNat
              · rw [if_pos e, e, (hS.2.2.2.1 _ (by omega)).1]
                exact hz.1
              · rw [if_neg e]
            · rw [ci_y h10] at hQ
              have hg5 := tE_gt (T := T) hg4.2.1 (by rw [h10.2.1]; decide)
              have hFv : Fr [27] [] (si I5 26 (L 0 1).toNat u) (si (si I5 26 (L 0 1).toNat u) 27 (L 0 1).toNat 1) := (Fr.rf _ _ _).up 27 _ _ (Or.inl (by decide))
              refine S_step (by omega) hX hg4.2.1 (hCt.fr hFv (by decide) (by decide)) (by rw [h10.2.1]; decide) h10.1 (fun I6 g1 g2 => ⟨_, _, rfl, rfl, ?_⟩)
              have x6 := xfr g2
              refine hQ _ q g1 ?_ (fin _ 1 (fun c k y1 y2 => ?_) (fun k => ?_)) (by show q ≤ tE T n (tE T n p4); omega) hg5.2.1 ((hct.up 27 _ _ (Or.inl (by decide))).tr g2.c)
              · rw [x6 _ _ (by decide), gi_cell _ _ _ _ (by decide)]
                exact h34
              · rw [x6 _ _ y1, gi_cell _ _ _ _ y2]
              · rw [x6 _ _ (by decide), gi_si _ _ _ _ _ (by decide), h27]
                by_cases e : k = (L 0 1).toNat
                · rw [if_pos ⟨rfl, e⟩, if_pos e]
                · rw [if_neg (fun t => e t.2), if_neg e]
          · rw [pNu_4 h8 h9] at hQ
            exact hQ.ek (by decide) ((hcs.tr c2.c).tr d2.c) d1
          · rw [pNu_0 h8] at hQ
            exact hQ.e1 ((hcs.tr c2.c).tr d2.c) d1
        · rw [pW_n h7] at hQ
          exact hQ.e1 (hcs.tr c2.c) c1
      · rw [pA_3 h4 h5] at hQ
        exact hQ.ek (by decide) hF02.c2 b1
      · rw [pA_0 h4] at hQ
        exact hQ.e1 hF02.c2 b1
    · rw [pW_n h3] at hQ
      exact hQ.e1 a2.c2 a1
  · rw [pG_2 h1 h2] at hQ
    exact hQ.ek (by decide) (Fr.rf _ _ _) hC
  · rw [pG_0 h1] at hQ
    exact hQ.e1 (Fr.rf _ _ _) hC
end CST2

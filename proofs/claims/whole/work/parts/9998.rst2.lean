section RST2
/-! ===== the reference: reader, page, needs, rules ===== -/
def fo (b : Nat) (Q : Option AV → Mem → Prop) (P : Option Nat) (I : Nat → Nat → Int32) (J : Nat → Nat → Int64) : Prop := 0 < gi I 74 8 ∧ ∀ I', FrBe b I I' → gi I' 74 8 = gi I 74 8 → gi I' 74 9 = gi I 74 9 → Q none (mem (P, some 5, some 22) I' J)
theorem fo.wr {b : Nat} {Q : Option AV → Mem → Prop} {P : Option Nat} {I : Nat → Nat → Int32} {J : Nat → Nat → Int64} (h : fo b Q P I J) (c k : Nat) (z : Int) (hc : inb b c k) (h74 : c ≠ 74) : fo b Q P (si I c k z) J := by
  have e : ∀ j, gi (si I c k z) 74 j = gi I 74 j := fun j => gi_cell _ _ _ _ (fun t => h74 t.symm)
  refine ⟨by rw [e]; exact h.1, fun I' a b' c' => h.2 I' (FrBe.tr ((FrBe.rf b I).up c k z (Or.inl hc)) a) (by rw [b', e]) (by rw [c', e])⟩
theorem fo.q {b : Nat} {Q : Option AV → Mem → Prop} {P : Option Nat} {I : Nat → Nat → Int32} {J : Nat → Nat → Int64} (h : fo b Q P I J) : Q none (mem (P, some 5, some 22) I J) := h.2 I (FrBe.rf _ _) rfl rfl
theorem fo.of {T : Nat → Int} {n b : Nat} {Q : Option AV → Mem → Prop} {P : Option Nat} {I I1 I2 : Nat → Nat → Int32} {J J1 : Nat → Nat → Int64} {z y : Int} (hQ : RSo I J Q P T n b (.inl (z, y))) (he : 0 < z) (hE : ER I1 I2 (z, y)) (hB : FrB b I I1) (hJ : FrJ b J J1) : fo b Q P I2 J1 := ⟨(by have h9 : gi I2 74 8 = z := hE.2.1; omega), fun I' a c d => hQ I' J1 (c.trans hE.2.1) (d.trans hE.2.2) ((hB.e.tr (hE.b b)).tr a) hJ⟩
set_option maxHeartbeats 2000000 in
theorem R_reader {T : Nat → Int} {n p b : Nat} {L : Lt} {N : Nt} {R : Rt} (hX : TX T n) (hp : p ≤ n) (hb2 : b < 2) (hW : WL L N R) (hk1 : kR T n p = 1) : RSt m_X12_readering T n b L N R p (ci (L 0 2 = 6) (.inl (6, tS T n p)) (rReader T n L N R (tE T n p))) := by
  intro k P I J Q cd hk hT h8 h40 hS hcd hQ
  have hg := tE_gt (T := T) hp (by omega)
  have hc0 := hW.c (k := 2) (by decide)
  have hc5 : L 0 2 ≤ 6 := hc0.2
  have h83 : gi I 83 b = L 0 2 := hS.1.2.2.1
  refine WPm.of k_X12_readering.1 (Nat.le_of_ble_eq_true rfl) (B_X12_readering_0 (by omega) ?_)
  rw [h40, Int.toNat_natCast, h83]
  refine ⟨by omega, fun q5 => ?_, fun q5 => ?_⟩
  · rw [ci_n q5] at hQ
    unfold rReader at hQ
    refine R_counts (by omega) hX hp hT h8 (Or.inl rfl) (fun _ I1 J1 a1 a2 a3 => ⟨_, _, _, rfl, rfl, by decide, fun _ => ?_, fun c => absurd c (by decide)⟩) (fun c => absurd c (by decide))
    obtain ⟨r1, r2, r3, r4⟩ := rfr a2
    have h41 : gi I1 74 40 = (b : Int) := r3.trans h40
    have hS1 := hS.ah a2 a3
    have hB1 := a2.q.b b
    have hJ1 := a3.j b
    rw [h41, Int.toNat_natCast, hS1.1.2.2.1]
    refine ⟨by omega, ?_⟩
    rw [show (6 * (b : Int) + L 0 2).toNat = 6 * b + (L 0 2).toNat by omega]
    have ij : inJ b 99 (6 * b + (L 0 2).toNat) := by unfold inJ; omega
    have ib4 : inb b 84 (6 * b + (L 0 2).toNat) := by unfold inb; omega
    have ib5 : inb b 85 (6 * b + (L 0 2).toNat) := by unfold inb; omega
    have rg : 0 ≤ 6 * (b : Int) + L 0 2 ∧ 6 * (b : Int) + L 0 2 < 12 := by omega
    -- with a fault told
    have zE : ∀ I3 J3 v, fo b Q P I3 J3 → ((¬ (gi I3 74 8) = 0 → Q none (mem (P, some 5, some 22) (si I3 85 (6 * b + (L 0 2).toNat) v) J3)) ∧ ((gi I3 74 8) = 0 → ((0 ≤ (gi I3 74 40) ∧ (gi I3 74 40) < 2) ∧ (Q none (mem (P, some 5, some 22) (si (si I3 85 (6 * b + (L 0 2).toNat) v) 83 (gi I3 74 40).toNat ((gi I3 83 (gi I3 74 40).toNat) + 1)) J3))))) := fun I3 J3 v h => ⟨fun _ => (h.wr 85 _ v ib5 (by decide)).q, fun q' => absurd q' (by have := h.1; omega)⟩
    have zD : ∀ I3 J3, fo b Q P I3 J3 → WPm (k - 1) LAY m_X12_number [vR (some 74), vI 0, vI 9] (mem (P, some 5, some 22) I3 J3) (retI (fun v20 I21 J22 => (¬ (gi I21 74 8) = 0 → (Q none (mem (P, some 5, some 22) (si I21 85 (6 * b + (L 0 2).toNat) v20) J22))) ∧ ((gi I21 74 8) = 0 → ((0 ≤ (gi I21 74 40) ∧ (gi I21 74 40) < 2) ∧ (Q none (mem (P, some 5, some 22) (si (si I21 85 (6 * b + (L 0 2).toNat) v20) 83 (gi I21 74 40).toNat ((gi I21 83 (gi I21 74 40).toNat) + 1)) J22))))) (P, some 5, some 22)) := fun I3 J3 h => R_numberZ (by omega) h.1 ⟨_, _, _, rfl, rfl, zE I3 J3 0 h⟩
    have zC : ∀ I3 J3, fo b Q P I3 J3 → WPm (k - 1) LAY m_X12_must_ [vR (some 74), vL 1702454643] (mem (P, some 5, some 22) I3 J3) (retV (fun I18 J19 => WPm (k - 1) LAY m_X12_number [vR (some 74), vI 0, vI 9] (mem (P, some 5, some 22) I18 J19) (retI (fun v20 I21 J22 => (¬ (gi I21 74 8) = 0 → (Q none (mem (P, some 5, some 22) (si I21 85 (6 * b + (L 0 2).toNat) v20) J22))) ∧ ((gi I21 74 8) = 0 → ((0 ≤ (gi I21 74 40) ∧ (gi I21 74 40) < 2) ∧ (Q none (mem (P, some 5, some 22) (si (si I21 85 (6 * b + (L 0 2).toNat) v20) 83 (gi I21 74 40).toNat ((gi I21 83 (gi I21 74 40).toNat) + 1)) J22))))) (P, some 5, some 22))) (P, some 5, some 22)) := fun I3 J3 h => R_mustWZ (by omega) h.1 ⟨_, _, rfl, rfl, zD I3 J3 h⟩
    have zB : ∀ I3 J3, fo b Q P I3 J3 → WPm (k - 1) LAY m_X12_number [vR (some 74), vI 1, vI 9] (mem (P, some 5, some 22) I3 J3) (retI (fun v14 I15 J16 => WPm (k - 1) LAY m_X12_must_ [vR (some 74), vL 1702454643] (mem (P, some 5, some 22) (si I15 84 (6 * b + (L 0 2).toNat) v14) J16) (retV (fun I18 J19 => WPm (k - 1) LAY m_X12_number [vR (some 74), vI 0, vI 9] (mem (P, some 5, some 22) I18 J19) (retI (fun v20 I21 J22 => (¬ (gi I21 74 8) = 0 → (Q none (mem (P, some 5, some 22) (si I21 85 (6 * b + (L 0 2).toNat) v20) J22))) ∧ ((gi I21 74 8) = 0 → ((0 ≤ (gi I21 74 40) ∧ (gi I21 74 40) < 2) ∧ (Q none (mem (P, some 5, some 22) (si (si I21 85 (6 * b + (L 0 2).toNat) v20) 83 (gi I21 74 40).toNat ((gi I21 83 (gi I21 74 40).toNat) + 1)) J22))))) (P, some 5, some 22))) (P, some 5, some 22))) (P, some 5, some 22)) := fun I3 J3 h => R_numberZ (by omega) h.1 ⟨_, _, _, rfl, rfl, zC _ J3 (h.wr 84 _ 0 ib4 (by decide))⟩
    refine R_fresh (by omega) hX hg.2.1 a1 (r2.trans h8) hS1 hW h41 hb2 (fun h1 h2 I2 J2 c1 c2 c3 => ⟨_, _, _, rfl, rfl, rg, ?_⟩) (fun h1 h2 I2 v hE => ⟨_, _, _, rfl, rfl, rg, ?_⟩) (fun h1 I2 v hE => ⟨_, _, _, rfl, rfl, rg, ?_⟩)
    · rw [pG_y h1 h2] at hQ
      have hg2 := tE_gt (T := T) hg.2.1 (by rw [h1.2.1]; decide)
      obtain ⟨s1, s2, s3, s4⟩ := rfr c2
      have e8 : gi I2 74 8 = 0 := s2.trans (r2.trans h8)
      have hS2 := hS1.ah c2 c3
      have hB2 := hB1.tr (c2.q.b b)
      have hJ2 := (hJ1.tr (c3.j b)).up 99 _ ((pkN (lR T n (tE T n p)) : Nat) : Int) ij
      have hok := (h1.ok hg.2.1).1
      obtain ⟨n1, n2⟩ := nmb_put (J := J2) (b := b) (s := 2) (c := (L 0 2).toNat) (cell := 99) (by decide) rfl (pk_inL hok)
      have hT2 : RT I2 (sl J2 99 (6 * b + (L 0 2).toNat) ((pkN (lR T n (tE T n p)) : Nat) : Int)) T n (tE T n (tE T n p)) := c1.fr (Fr.rf [] [] I2) (by decide) (by decide) (by simp [gl, sl, up2])
      refine R_mustW (w := 7) (by omega) hX hg2.2.1 hT2 e8 (by decide) (by decide +kernel) (by decide) (fun h3 I3 J3 d1 d2 d3 => ⟨_, _, rfl, rfl, ?_⟩) (fun h3 I3 hE => ⟨_, _, rfl, rfl, ?_⟩)
      · rw [pW_y (w := 7) h3] at hQ
        have hg3 := tE_gt (T := T) hg2.2.1 (by rw [h3.2.1]; decide)
        obtain ⟨u1, u2, u3, u4⟩ := rfr d2
        have f8 : gi I3 74 8 = 0 := u2.trans e8
        have hB3 := hB2.tr (d2.q.b b)
        have hJ3 := hJ2.tr (d3.j b)
        refine R_number (by omega) hX hg3.2.1 d1 f8 (by decide) (by decide) (fun h4 h5 I4 J4 f1 f2 f3 => ⟨_, _, _, rfl, rfl, ?_⟩) (fun h4 h5 I4 v hE => ⟨_, _, _, rfl, rfl, ?_⟩) (fun h4 I4 v hE => ⟨_, _, _, rfl, rfl, ?_⟩)
        · rw [pNu_y h4 h5] at hQ
          have hg4 := tE_gt (T := T) hg3.2.1 (by rw [h4.2]; decide)
          obtain ⟨w1, w2, w3, w4⟩ := rfr f2
          generalize hp4 : tE T n (tE T n (tE T n (tE T n p))) = p4 at *
          generalize hv : vl T n (tE T n (tE T n (tE T n p))) = v at *
          have iV : inR v := by unfold inR; omega
          have g8 : gi I4 74 8 = 0 := w2.trans f8
          have hB4 := (hB3.tr (f2.q.b b)).up 84 _ v (Or.inl ib4)
          have hJ4 := hJ3.tr (f3.j b)
          have hFs : Fr [84] [] I4 (si I4 84 (6 * b + (L 0 2).toNat) v) := (Fr.rf _ _ _).up 84 _ _ (Or.inl (by decide))
          have hTs := f1.fr (J' := J4) hFs (by decide) (by decide) rfl
          have g8s : gi (si I4 84 (6 * b + (L 0 2).toNat) v) 74 8 = 0 := by rw [gi_cell _ _ _ _ (by decide)]; exact g8
          refine R_mustW (w := 8) (by omega) hX hg4.2.1 hTs g8s (by decide) (by decide +kernel) (by decide) (fun h6 I5 J5 i1 i2 i3 => ⟨_, _, rfl, rfl, ?_⟩) (fun h6 I5 hE => ⟨_, _, rfl, rfl, ?_⟩)
          · rw [pW_y (w := 8) h6] at hQ
            have hg5 := tE_gt (T := T) hg4.2.1 (by rw [h6.2.1]; decide)
            obtain ⟨y1, y2, y3, y4⟩ := rfr i2
            have k8 : gi I5 74 8 = 0 := y2.trans g8s
            have hB5 := hB4.tr (i2.q.b b)
            have hJ5 := hJ4.tr (i3.j b)
            refine R_number (by omega) hX hg5.2.1 i1 k8 (by decide) (by decide) (fun h7 h9 I6 J6 l1 l2 l3 => ⟨_, _, _, rfl, rfl, ?_⟩) (fun h7 h9 I6 v' hE => ⟨_, _, _, rfl, rfl, ?_⟩) (fun h7 I6 v' hE => ⟨_, _, _, rfl, rfl, ?_⟩)
            · rw [pNu_y h7 h9] at hQ
              have hg6 := tE_gt (T := T) hg5.2.1 (by rw [h7.2]; decide)
              obtain ⟨z1, z2, z3, z4⟩ := rfr l2
              generalize hp6 : tE T n (tE T n p4) = p6 at *
              generalize hu : vl T n (tE T n p4) = u at *
              have iU : inR u := by unfold inR; omega
              have m8 : gi I6 74 8 = 0 := z2.trans k8
              have m40 : gi I6 74 40 = (b : Int) := by rw [z3, y3, gi_cell _ _ _ _ (by decide), w3, u3, s3, h41]
              have x6 : ∀ c k, c ≠ 74 → c ≠ 84 → gi I6 c k = gi I2 c k := fun c k x x' => by rw [z1 c k x, y1 c k x, gi_cell _ _ _ _ x', w1 c k x, u1 c k x]
              have x84 : ∀ k, gi I6 84 k = if k = 6 * b + (L 0 2).toNat then v else gi I2 84 k := fun k => by
                rw [z1 84 k (by decide), y1 84 k (by decide), gi_si _ _ _ _ _ iV, w1 84 k (by decide), u1 84 k (by decide)]
                by_cases e : k = 6 * b + (L 0 2).toNat
                · rw [if_pos ⟨rfl, e⟩, if_pos e]
                · rw [if_neg (fun t => e t.2), if_neg e]
              have iC : inR (L 0 2 + 1) := by unfold inR; omega
              refine ⟨fun q => absurd m8 q, fun _ => ?_⟩
              rw [m40, Int.toNat_natCast, x6 83 b (by decide) (by decide), hS2.1.2.2.1]
              have hp0 : ∀ j, putL (putL L 5 (L 0 2).toNat v) 6 (L 0 2).toNat u 0 j = L 0 j := fun j => by rw [putL_o _ _ (by omega), putL_o _ _ (by omega)]
              have hpo : ∀ f i, f ≠ 5 → f ≠ 6 → putL (putL L 5 (L 0 2).toNat v) 6 (L 0 2).toNat u f i = L f i := fun f i h h' => by rw [putL_o _ _ (fun t => h' t.1), putL_o _ _ (fun t => h t.1)]
              have h5s : putL (putL L 5 (L 0 2).toNat v) 6 (L 0 2).toNat u 5 (L 0 2).toNat = v := by rw [putL_o _ _ (by omega), putL_s]
              have h6s : putL (putL L 5 (L 0 2).toNat v) 6 (L 0 2).toNat u 6 (L 0 2).toNat = u := putL_s _ _ _ _
              have h56 : ∀ f i, i ≠ (L 0 2).toNat → putL (putL L 5 (L 0 2).toNat v) 6 (L 0 2).toNat u f i = L f i := fun f i h => by rw [putL_o _ _ (fun t => h t.2), putL_o _ _ (fun t => h t.2)]
              have hQ1 := hQ.1
              change ∀ I' J' cd', RT I' J' T n p6 → gi I' 74 8 = 0 → SRs I' J' b (giveL (putL (putL L 5 (L 0 2).toNat v) 6 (L 0 2).toNat u) 2) (putN N 2 (L 0 2).toNat (lR T n (tE T n p))) R cd' → cd' ≤ p6 → p6 ≤ n → FrB b I I' → FrJ b J J' → Q none (mem (P, some 5, some 22) I' J') at hQ1
              generalize putL (putL L 5 (L 0 2).toNat v) 6 (L 0 2).toNat u = LL at *
              have gL := giveL_0 LL 2
              have hF : Fr [85, 83] [] I6 (si (si I6 85 (6 * b + (L 0 2).toNat) u) 83 b (L 0 2 + 1)) := ((Fr.rf _ _ _).up 85 _ _ (Or.inl (by decide))).up 83 _ _ (Or.inl (by decide))
              have jj : ∀ c k, 97 ≤ c → c ≤ 100 → gl J6 c k = gl (sl J2 99 (6 * b + (L 0 2).toNat) ((pkN (lR T n (tE T n p)) : Nat) : Int)) c k := fun c k x y => by
                have o7 : ((c, k) : Nat × Nat) ∉ [(74, 7)] := fun t => by
                  simp only [List.mem_cons, List.not_mem_nil, or_false, Prod.mk.injEq] at t
                  omega
                rw [l3.lv c k (fun t => by cases t) o7, i3.lv c k (fun t => by cases t) o7, f3.lv c k (fun t => by cases t) o7, d3.lv c k (fun t => by cases t) o7]
              have jn : ∀ k i, nmb J6 b k i = nmb (sl J2 99 (6 * b + (L 0 2).toNat) ((pkN (lR T n (tE T n p)) : Nat) : Int)) b k i := fun k i => by
                unfold nmb
                rw [jj _ _ (by decide) (by decide), jj _ _ (by decide) (by decide), jj _ _ (by decide) (by decide), jj _ _ (by decide) (by decide)]
              have er : ∀ c k, c ≠ 74 → c ≠ 84 → c ≠ 85 → c ≠ 83 → gi (si (si I6 85 (6 * b + (L 0 2).toNat) u) 83 b (L 0 2 + 1)) c k = gi I2 c k := fun c k t1 t2 t3 t4 => by rw [gi_cell _ _ _ _ t4, gi_cell _ _ _ _ t3, x6 _ _ t1 t2]
              refine ⟨by omega, hQ1 _ _ cd (l1.fr hF (by decide) (by decide) rfl) (by rw [gi_cell _ _ _ _ (by decide), gi_cell _ _ _ _ (by decide)]; exact m8) ?_ (by omega) hg6.2.1 (((hB5.tr (l2.q.b b)).up 85 _ _ (Or.inl ib5)).up 83 b _ (Or.inl (by unfold inb; omega))) (hJ5.tr (l3.j b))⟩
              refine SRs.put (L' := giveL LL 2) hS2 hW (by decide) ((jn _ _).trans n1) (fun k i hk' hi => (jn k i).trans (n2 k i hk' (fun e => by subst e; omega))) ⟨?_, ?_, ?_, ?_, ?_, ?_⟩ (fun j hj => by rw [(gL j).1 hj, hp0]) (by rw [(gL 2).2, hp0]) (fun c k x y => er c k (by omega) (by omega) (by omega) (by omega)) ?_ (fun i hi => ?_) (fun i hi => ?_) (fun i hi => ?_)
              · rw [er _ _ (by decide) (by decide) (by decide) (by decide), (gL 0).1 (by decide), hp0]; exact hS2.1.1
              · rw [er _ _ (by decide) (by decide) (by decide) (by decide), (gL 1).1 (by decide), hp0]; exact hS2.1.2.1
              · rw [gi_si _ _ _ _ _ iC, if_pos ⟨rfl, rfl⟩, (gL 2).2, hp0]
              · rw [er _ _ (by decide) (by decide) (by decide) (by decide), (gL 3).1 (by decide), hp0]; exact hS2.1.2.2.2.1
              · rw [er _ _ (by decide) (by decide) (by decide) (by decide), (gL 4).1 (by decide), hp0]; exact hS2.1.2.2.2.2.1
              · rw [er _ _ (by decide) (by decide) (by decide) (by decide), (gL 5).1 (by decide), hp0]; exact hS2.1.2.2.2.2.2
              · rw [gi_cell _ _ _ _ (by decide), gi_cell _ _ _ _ (by decide), z4, y4, gi_cell _ _ _ _ (by decide), w4, u4]
              · rw [(gL 1).1 (by decide), hp0] at hi
                rw [er _ _ (by decide) (by decide) (by decide) (by decide), er _ _ (by decide) (by decide) (by decide) (by decide), er _ _ (by decide) (by decide) (by decide) (by decide), er _ _ (by decide) (by decide) (by decide) (by decide), giveL_f _ _ _ (by decide), giveL_f _ _ _ (by decide), giveL_f _ _ _ (by decide), giveL_f _ _ _ (by decide), hpo _ _ (by decide) (by decide), hpo _ _ (by decide) (by decide), hpo _ _ (by decide) (by decide), hpo _ _ (by decide) (by decide)]
                exact hS2.2.1 i hi
              · rw [(gL 2).2, hp0] at hi
                rw [gi_cell _ _ _ _ (by decide), gi_cell _ _ _ _ (by decide), gi_cell _ _ _ _ (by decide), gi_si _ _ _ _ _ iU, x84, giveL_f _ _ _ (by decide), giveL_f _ _ _ (by decide)]
                by_cases e : i = (L 0 2).toNat
                · rw [if_pos (by rw [e]), if_pos ⟨rfl, by rw [e]⟩, e, h5s, h6s]
                  exact ⟨rfl, rfl⟩
                · rw [if_neg (fun t => e (by omega)), if_neg (fun t => e (by have := t.2; omega)), h56 _ _ e, h56 _ _ e, x6 _ _ (by decide) (by decide)]
                  exact hS2.2.2.1 i (by omega)
              · rw [(gL 3).1 (by decide), hp0] at hi
                rw [er _ _ (by decide) (by decide) (by decide) (by decide), giveL_f _ _ _ (by decide), hpo _ _ (by decide) (by decide)]
                exact hS2.2.2.2.1 i hi
            · rw [pNu_4 h7 h9] at hQ
              exact zE I6 J5 v' (fo.of hQ (by decide) hE hB5 hJ5)
            · rw [pNu_0 h7] at hQ
              exact zE I6 J5 v' (fo.of hQ (by decide) hE hB5 hJ5)
          · rw [pW_n (w := 8) h6] at hQ
            exact zD I5 J4 (fo.of hQ (by decide) hE hB4 hJ4)
        · rw [pNu_4 h4 h5] at hQ
          exact zC _ J3 ((fo.of hQ (by decide) hE hB3 hJ3).wr 84 _ v ib4 (by decide))
        · rw [pNu_0 h4] at hQ
          exact zC _ J3 ((fo.of hQ (by decide) hE hB3 hJ3).wr 84 _ v ib4 (by decide))
      · rw [pW_n (w := 7) h3] at hQ
        exact zB I3 _ (fo.of hQ (by decide) hE hB2 hJ2)
    · rw [pG_2 h1 h2] at hQ
      have hf : fo b Q P I2 (sl J1 99 (6 * b + (L 0 2).toNat) v) := fo.of hQ (by decide) hE hB1 (hJ1.up 99 _ _ ij)
      exact R_mustWZ (by omega) hf.1 ⟨_, _, rfl, rfl, zB I2 _ hf⟩
    · rw [pG_0 h1] at hQ
      have hf : fo b Q P I2 (sl J1 99 (6 * b + (L 0 2).toNat) v) := fo.of hQ (by decide) hE hB1 (hJ1.up 99 _ _ ij)
      exact R_mustWZ (by omega) hf.1 ⟨_, _, rfl, rfl, zB I2 _ hf⟩
  · rw [ci_y q5] at hQ
    refine R_counts (by omega) hX hp hT h8 (Or.inr rfl) (fun c => absurd c (by decide)) (fun _ I1 hE => ⟨_, _, _, rfl, rfl, by decide, fun c => absurd rfl c, fun _ => ?_⟩)
    exact hQ _ _ hE.2.1 hE.2.2 (hE.b b) (FrJ.rf _ _)
end RST2

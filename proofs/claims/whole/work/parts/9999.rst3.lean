section RST3
/-! ===== the reference: page, needs, rules ===== -/
def PgF (k : Nat) (P : Option Nat) (Q : Option AV → Mem → Prop) (ix : Nat) : Option AV → Mem → Prop := retI (fun v20 I21 J22 => ((gi (si (si (si I21 79 ix v20) 80 ix 0) 81 ix 0) 74 12) = (-1) → (((gi I21 74 8) ≤ 0 → ((¬ (gi (si (si (si I21 79 ix v20) 80 ix 0) 81 ix 0) 74 3 = 1 ∧ gl J22 74 7 = 6449511) → ((0 ≤ (gi I21 74 40) ∧ (gi I21 74 40) < 2) ∧ (Q none (mem (P, some 5, some 22) (si (si (si (si I21 79 ix v20) 80 ix 0) 81 ix 0) 77 (gi I21 74 40).toNat ((gi I21 77 (gi I21 74 40).toNat) + 1)) J22)))) ∧ ((gi (si (si (si I21 79 ix v20) 80 ix 0) 81 ix 0) 74 3 = 1 ∧ gl J22 74 7 = 6449511) → (WPm (k - 1) LAY m_X12_ahead [vR (some 74)] (mem (P, some 5, some 22) (si (si (si (si I21 79 ix v20) 80 ix 0) 81 ix 0) 80 ix 1) J22) (retV (fun I25 J26 => (0 ≤ (gi I25 74 40) ∧ (gi I25 74 40) < 2) ∧ (Q none (mem (P, some 5, some 22) (si I25 77 (gi I25 74 40).toNat ((gi I25 77 (gi I25 74 40).toNat) + 1)) J26))) (P, some 5, some 22)))))) ∧ (¬ (gi I21 74 8) ≤ 0 → (Q none (mem (P, some 5, some 22) (si (si (si I21 79 ix v20) 80 ix 0) 81 ix 0) J22))))) ∧ (¬ (gi (si (si (si I21 79 ix v20) 80 ix 0) 81 ix 0) 74 12) = (-1) → (((gi (si (si (si I21 79 ix v20) 80 ix 0) 81 ix 0) 74 8) ≤ 0 → (Q none (mem (P, some 5, some 22) (si (si (si (si (si I21 79 ix v20) 80 ix 0) 81 ix 0) 74 8 1) 74 9 (gi (si (si (si I21 79 ix v20) 80 ix 0) 81 ix 0) 74 12)) J22))) ∧ (¬ (gi (si (si (si I21 79 ix v20) 80 ix 0) 81 ix 0) 74 8) ≤ 0 → (((gi I21 74 8) ≤ 0 → ((¬ (gi (si (si (si I21 79 ix v20) 80 ix 0) 81 ix 0) 74 3 = 1 ∧ gl J22 74 7 = 6449511) → ((0 ≤ (gi I21 74 40) ∧ (gi I21 74 40) < 2) ∧ (Q none (mem (P, some 5, some 22) (si (si (si (si I21 79 ix v20) 80 ix 0) 81 ix 0) 77 (gi I21 74 40).toNat ((gi I21 77 (gi I21 74 40).toNat) + 1)) J22)))) ∧ ((gi (si (si (si I21 79 ix v20) 80 ix 0) 81 ix 0) 74 3 = 1 ∧ gl J22 74 7 = 6449511) → (WPm (k - 1) LAY m_X12_ahead [vR (some 74)] (mem (P, some 5, some 22) (si (si (si (si I21 79 ix v20) 80 ix 0) 81 ix 0) 80 ix 1) J22) (retV (fun I30 J31 => (0 ≤ (gi I30 74 40) ∧ (gi I30 74 40) < 2) ∧ (Q none (mem (P, some 5, some 22) (si I30 77 (gi I30 74 40).toNat ((gi I30 77 (gi I30 74 40).toNat) + 1)) J31))) (P, some 5, some 22)))))) ∧ (¬ (gi I21 74 8) ≤ 0 → (Q none (mem (P, some 5, some 22) (si (si (si I21 79 ix v20) 80 ix 0) 81 ix 0) J22)))))))) (P, some 5, some 22)
theorem SRs.j {I : Nat → Nat → Int32} {J J' : Nat → Nat → Int64} {b : Nat} {L : Lt} {N : Nt} {R : Rt} {cd : Nat} (h : SRs I J b L N R cd) (hJ : ∀ k i : Nat, k < 4 → (i : Int) < L 0 k → nmb J' b k i = nmb J b k i) : SRs I J' b L N R cd := ⟨h.1, h.2.1, h.2.2.1, h.2.2.2.1, fun k i hk hi => (hJ k i hk hi).trans (h.2.2.2.2.1 k i hk hi), h.2.2.2.2.2⟩
theorem zPg {k : Nat} {P : Option Nat} {Q : Option AV → Mem → Prop} {b ix : Nat} {I : Nat → Nat → Int32} {J : Nat → Nat → Int64} {v : Int} (hi : 14 * b ≤ ix ∧ ix < 14 * b + 14) (h : fo b Q P I J) : PgF k P Q ix (some (vI v)) (mem (P, some 5, some 22) I J) := by
  have h1 : fo b Q P (si (si (si I 79 ix v) 80 ix 0) 81 ix 0) J := ((h.wr 79 ix v (by unfold inb; omega) (by decide)).wr 80 ix 0 (by unfold inb; omega) (by decide)).wr 81 ix 0 (by unfold inb; omega) (by decide)
  have n1 : ¬ gi I 74 8 ≤ 0 := by have := h.1; omega
  have n2 : ¬ gi (si (si (si I 79 ix v) 80 ix 0) 81 ix 0) 74 8 ≤ 0 := by have := h1.1; omega
  exact ⟨_, _, _, rfl, rfl, fun _ => ⟨fun q => absurd q n1, fun _ => h1.q⟩, fun _ => ⟨fun q => absurd q n2, fun _ => ⟨fun q => absurd q n1, fun _ => h1.q⟩⟩⟩
set_option maxHeartbeats 4000000 in
theorem R_page {T : Nat → Int} {n p b : Nat} {L : Lt} {N : Nt} {R : Rt} (hX : TX T n) (hp : p ≤ n) (hb2 : b < 2) (hW : WL L N R) (hk1 : kR T n p = 1) : RSt m_X12_paging T n b L N R p (ci (L 0 1 = 14) (.inl (6, tS T n p)) (rPage T n L N R (tE T n p))) := by
  intro k P I J Q cd hk hT h8 h40 hS hcd hQ
  have hg := tE_gt (T := T) hp (by omega)
  have hc0 := hW.c (k := 1) (by decide)
  have hc5 : L 0 1 ≤ 14 := hc0.2
  have h77 : gi I 77 b = L 0 1 := hS.1.2.1
  refine WPm.of k_X12_paging.1 (Nat.le_of_ble_eq_true rfl) (B_X12_paging_0 (by omega) ?_)
  rw [h40, Int.toNat_natCast, h77]
  refine ⟨by omega, fun q5 => ?_, fun q5 => ?_⟩
  · rw [ci_n q5] at hQ
    unfold rPage at hQ
    refine R_counts (by omega) hX hp hT h8 (Or.inl rfl) (fun _ I1 J1 a1 a2 a3 => ⟨_, _, _, rfl, rfl, by decide, fun _ => ?_, fun c => absurd c (by decide)⟩) (fun c => absurd c (by decide))
    obtain ⟨r1, r2, r3, r4⟩ := rfr a2
    have h41 : gi I1 74 40 = (b : Int) := r3.trans h40
    have hS1 := hS.ah a2 a3
    have hB1 := a2.q.b b
    have hJ1 := a3.j b
    rw [h41, Int.toNat_natCast, hS1.1.2.1]
    refine ⟨by omega, ?_⟩
    rw [show (14 * (b : Int) + L 0 1).toNat = 14 * b + (L 0 1).toNat by omega]
    have ij : inJ b 98 (14 * b + (L 0 1).toNat) := by unfold inJ; omega
    have rgi : 14 * b ≤ 14 * b + (L 0 1).toNat ∧ 14 * b + (L 0 1).toNat < 14 * b + 14 := by omega
    have ib8 : ∀ c, 78 ≤ c → c ≤ 81 → inb b c (14 * b + (L 0 1).toNat) := fun c x y => by unfold inb; omega
    have rg : 0 ≤ 14 * (b : Int) + L 0 1 ∧ 14 * (b : Int) + L 0 1 < 28 := by omega
    -- with a fault told
    have zD : ∀ I3 J3, fo b Q P I3 J3 → WPm (k - 1) LAY m_X12_number [vR (some 74), vI 1, vI 99] (mem (P, some 5, some 22) I3 J3) (PgF k P Q (14 * b + (L 0 1).toNat)) := fun I3 J3 h => R_numberZ (by omega) h.1 (zPg rgi h)
    have zC : ∀ I3 J3, fo b Q P I3 J3 → WPm (k - 1) LAY m_X12_must_ [vR (some 74), vL 465625310579] (mem (P, some 5, some 22) I3 J3) (retV (fun I18 J19 => WPm (k - 1) LAY m_X12_number [vR (some 74), vI 1, vI 99] (mem (P, some 5, some 22) I18 J19) (PgF k P Q (14 * b + (L 0 1).toNat))) (P, some 5, some 22)) := fun I3 J3 h => R_mustWZ (by omega) h.1 ⟨_, _, rfl, rfl, zD I3 J3 h⟩
    have zB : ∀ I3 J3, fo b Q P I3 J3 → WPm (k - 1) LAY m_X12_asked [vR (some 74), vI 0] (mem (P, some 5, some 22) I3 J3) (retI (fun v14 I15 J16 => WPm (k - 1) LAY m_X12_must_ [vR (some 74), vL 465625310579] (mem (P, some 5, some 22) (si I15 78 (14 * b + (L 0 1).toNat) v14) J16) (retV (fun I18 J19 => WPm (k - 1) LAY m_X12_number [vR (some 74), vI 1, vI 99] (mem (P, some 5, some 22) I18 J19) (PgF k P Q (14 * b + (L 0 1).toNat))) (P, some 5, some 22))) (P, some 5, some 22)) := fun I3 J3 h => R_askedZ (by omega) h.1 ⟨_, _, _, rfl, rfl, zC _ J3 (h.wr 78 _ 0 (ib8 78 (by decide) (by decide)) (by decide))⟩
    refine R_fresh (by omega) hX hg.2.1 a1 (r2.trans h8) hS1 hW h41 hb2 (fun h1 h2 I2 J2 c1 c2 c3 => ⟨_, _, _, rfl, rfl, rg, ?_⟩) (fun h1 h2 I2 v hE => ⟨_, _, _, rfl, rfl, rg, ?_⟩) (fun h1 I2 v hE => ⟨_, _, _, rfl, rfl, rg, ?_⟩)
    · rw [pG_y h1 h2] at hQ
      have hg2 := tE_gt (T := T) hg.2.1 (by rw [h1.2.1]; decide)
      obtain ⟨s1, s2, s3, s4⟩ := rfr c2
      have e8 : gi I2 74 8 = 0 := s2.trans (r2.trans h8)
      have hS2 := hS1.ah c2 c3
      have hB2 := hB1.tr (c2.q.b b)
      have hJ2 := (hJ1.tr (c3.j b)).up 98 _ ((pkN (lR T n (tE T n p)) : Nat) : Int) ij
      have hok := (h1.ok hg.2.1).1
      obtain ⟨n1, n2⟩ := nmb_put (J := J2) (b := b) (s := 1) (c := (L 0 1).toNat) (cell := 98) (by decide) rfl (pk_inL hok)
      have hT2 : RT I2 (sl J2 98 (14 * b + (L 0 1).toNat) ((pkN (lR T n (tE T n p)) : Nat) : Int)) T n (tE T n (tE T n p)) := c1.fr (Fr.rf [] [] I2) (by decide) (by decide) (by simp [gl, sl, up2])
      have hS2j : SRs I2 (sl J2 98 (14 * b + (L 0 1).toNat) ((pkN (lR T n (tE T n p)) : Nat) : Int)) b L N R cd := hS2.j (fun k i hk' hi => n2 k i hk' (fun e => by subst e; omega))
      refine R_mustW (w := 2) (by omega) hX hg2.2.1 hT2 e8 (by decide) (by decide +kernel) (by decide) (fun h3 I3 J3 d1 d2 d3 => ⟨_, _, rfl, rfl, ?_⟩) (fun h3 I3 hE => ⟨_, _, rfl, rfl, ?_⟩)
      · rw [pW_y (w := 2) h3] at hQ
        have hg3 := tE_gt (T := T) hg2.2.1 (by rw [h3.2.1]; decide)
        obtain ⟨u1, u2, u3, u4⟩ := rfr d2
        have f8 : gi I3 74 8 = 0 := u2.trans e8
        have f40 : gi I3 74 40 = (b : Int) := u3.trans (s3.trans h41)
        have hB3 := hB2.tr (d2.q.b b)
        have hJ3 := hJ2.tr (d3.j b)
        have hS3 := hS2j.ah d2 d3
        generalize hp3 : tE T n (tE T n (tE T n p)) = p3 at *
        refine R_asked (s := 0) (by omega) hX hg3.2.1 d1 f8 hS3 hW f40 hb2 (by decide) (fun h4 v h5 h6 I4 J4 f1 f2 f3 => ⟨_, _, _, rfl, rfl, ?_⟩) (fun h4 h5 I4 hE => ⟨_, _, _, rfl, rfl, ?_⟩) (fun h4 I4 hE => ⟨_, _, _, rfl, rfl, ?_⟩)
        · rw [pA_y h4 h5] at hQ
          have hg4 := tE_gt (T := T) hg3.2.1 (by rw [h4.2.1]; decide)
          have hc55 : L 0 0 ≤ 5 := (hW.c (k := 0) (by decide)).2
          have iV : inR (v : Int) := by unfold inR; omega
          obtain ⟨w1, w2, w3, w4⟩ := rfr f2
          have g8 : gi I4 74 8 = 0 := w2.trans f8
          have hB4 := (hB3.tr (f2.q.b b)).up 78 _ (v : Int) (Or.inl (ib8 78 (by decide) (by decide)))
          have hJ4 := hJ3.tr (f3.j b)
          have hFs : Fr [78] [] I4 (si I4 78 (14 * b + (L 0 1).toNat) v) := (Fr.rf _ _ _).up 78 _ _ (Or.inl (by decide))
          have hTs := f1.fr (J' := J4) hFs (by decide) (by decide) rfl
          have g8s : gi (si I4 78 (14 * b + (L 0 1).toNat) v) 74 8 = 0 := by rw [gi_cell _ _ _ _ (by decide)]; exact g8
          refine R_mustW (w := 3) (by omega) hX hg4.2.1 hTs g8s (by decide) (by decide +kernel) (by decide) (fun h7 I5 J5 i1 i2 i3 => ⟨_, _, rfl, rfl, ?_⟩) (fun h7 I5 hE => ⟨_, _, rfl, rfl, ?_⟩)
          · rw [pW_y (w := 3) h7] at hQ
            have hg5 := tE_gt (T := T) hg4.2.1 (by rw [h7.2.1]; decide)
            obtain ⟨y1, y2, y3, y4⟩ := rfr i2
            have k8 : gi I5 74 8 = 0 := y2.trans g8s
            have hB5 := hB4.tr (i2.q.b b)
            have hJ5 := hJ4.tr (i3.j b)
            generalize hp5 : tE T n (tE T n p3) = p5 at *
            refine R_number (by omega) hX hg5.2.1 i1 k8 (by decide) (by decide) (fun h9 h10 I6 J6 l1 l2 l3 => ?_) (fun h9 h10 I6 v' hE => ?_) (fun h9 I6 v' hE => ?_)
            · rw [pNu_y h9 h10] at hQ
              have hg6 := tE_gt (T := T) hg5.2.1 (by rw [h9.2]; decide)
              obtain ⟨z1, z2, z3, z4⟩ := rfr l2
              generalize hp6 : tE T n p5 = p6 at *
              generalize hu : vl T n p5 = u at *
              have iU : inR u := by unfold inR; omega
              have m8 : gi I6 74 8 = 0 := z2.trans k8
              have m40 : gi I6 74 40 = (b : Int) := by rw [z3, y3, gi_cell _ _ _ _ (by decide), w3, f40]
              have x6 : ∀ c k, c ≠ 74 → c ≠ 78 → gi I6 c k = gi I2 c k := fun c k x x' => by rw [z1 c k x, y1 c k x, gi_cell _ _ _ _ x', w1 c k x, u1 c k x]
              have x78 : ∀ k, gi I6 78 k = if k = 14 * b + (L 0 1).toNat then (v : Int) else gi I2 78 k := fun k => by
                rw [z1 78 k (by decide), y1 78 k (by decide), gi_si _ _ _ _ _ iV, w1 78 k (by decide), u1 78 k (by decide)]
                by_cases e : k = 14 * b + (L 0 1).toNat
                · rw [if_pos ⟨rfl, e⟩, if_pos e]
                · rw [if_neg (fun t => e t.2), if_neg e]
              have iC : inR (L 0 1 + 1) := by unfold inR; omega
              have hB6 := ((((hB5.tr (l2.q.b b)).up 79 _ u (Or.inl (ib8 79 (by decide) (by decide)))).up 80 _ 0 (Or.inl (ib8 80 (by decide) (by decide)))).up 81 _ 0 (Or.inl (ib8 81 (by decide) (by decide))))
              have hJ6 := hJ5.tr (l3.j b)
              have jj : ∀ c k, 97 ≤ c → c ≤ 100 → gl J6 c k = gl (sl J2 98 (14 * b + (L 0 1).toNat) ((pkN (lR T n (tE T n p)) : Nat) : Int)) c k := fun c k x y => by
                have o7 : ((c, k) : Nat × Nat) ∉ [(74, 7)] := fun t => by
                  simp only [List.mem_cons, List.not_mem_nil, or_false, Prod.mk.injEq] at t
                  omega
                rw [l3.lv c k (fun t => by cases t) o7, i3.lv c k (fun t => by cases t) o7, f3.lv c k (fun t => by cases t) o7, d3.lv c k (fun t => by cases t) o7]
              generalize hX6 : si (si (si I6 79 (14 * b + (L 0 1).toNat) u) 80 (14 * b + (L 0 1).toNat) 0) 81 (14 * b + (L 0 1).toNat) 0 = X6 at hB6
              have hF6 : Fr [79, 80, 81] [] I6 X6 := by
                rw [← hX6]
                exact (((Fr.rf _ _ _).up 79 _ _ (Or.inl (by decide))).up 80 _ _ (Or.inl (by decide))).up 81 _ _ (Or.inl (by decide))
              have hT6 := l1.fr (J' := J6) hF6 (by decide) (by decide) rfl
              have X79 : ∀ k, gi X6 79 k = if k = 14 * b + (L 0 1).toNat then u else gi I2 79 k := fun k => by
                rw [← hX6, gi_cell _ _ _ _ (by decide), gi_cell _ _ _ _ (by decide), gi_si _ _ _ _ _ iU, x6 _ _ (by decide) (by decide)]
                by_cases e : k = 14 * b + (L 0 1).toNat
                · rw [if_pos ⟨rfl, e⟩, if_pos e]
                · rw [if_neg (fun t => e t.2), if_neg e]
              have X80 : ∀ k, gi X6 80 k = if k = 14 * b + (L 0 1).toNat then 0 else gi I2 80 k := fun k => by
                rw [← hX6, gi_cell _ _ _ _ (by decide), gi_si _ _ _ _ _ (by decide), gi_cell _ _ _ _ (by decide), x6 _ _ (by decide) (by decide)]
                by_cases e : k = 14 * b + (L 0 1).toNat
                · rw [if_pos ⟨rfl, e⟩, if_pos e]
                · rw [if_neg (fun t => e t.2), if_neg e]
              have X81 : ∀ k, gi X6 81 k = if k = 14 * b + (L 0 1).toNat then 0 else gi I2 81 k := fun k => by
                rw [← hX6, gi_si _ _ _ _ _ (by decide), gi_cell _ _ _ _ (by decide), gi_cell _ _ _ _ (by decide), x6 _ _ (by decide) (by decide)]
                by_cases e : k = 14 * b + (L 0 1).toNat
                · rw [if_pos ⟨rfl, e⟩, if_pos e]
                · rw [if_neg (fun t => e t.2), if_neg e]
              have X78 : ∀ k, gi X6 78 k = gi I6 78 k := fun k => hF6.gvc k (by decide) (by decide)
              have Xo : ∀ c k, c ≠ 78 → c ≠ 79 → c ≠ 80 → c ≠ 81 → gi X6 c k = gi I6 c k := fun c k t1 t2 t3 t4 => hF6.gvc k (fun t => by
                simp only [List.mem_cons, List.not_mem_nil, or_false] at t
                omega) (fun q hq => by cases hq)
              have X8 : gi X6 74 8 = 0 := (Xo 74 8 (by decide) (by decide) (by decide) (by decide)).trans m8
              have fin : ∀ (I9 : Nat → Nat → Int32) (J9 : Nat → Nat → Int64) (g : Int), (∀ c k, c ≠ 74 → c ≠ 80 → c ≠ 77 → gi I9 c k = gi X6 c k) → (∀ k, gi I9 80 k = if k = 14 * b + (L 0 1).toNat then g else gi I2 80 k) → gi I9 77 b = L 0 1 + 1 → gi I9 74 39 = gi I2 74 39 → (∀ c k, 97 ≤ c → c ≤ 100 → gl J9 c k = gl J6 c k) → SRs I9 J9 b (pageL L (L 0 1).toNat v u g) (putN N 1 (L 0 1).toNat (lR T n (tE T n p))) R cd := fun I9 J9 g k1 k2 k3 k4 k5 => by
                unfold pageL
                have hp0 : ∀ j, putL (putL (putL (putL L 1 (L 0 1).toNat v) 2 (L 0 1).toNat u) 3 (L 0 1).toNat g) 4 (L 0 1).toNat 0 0 j = L 0 j := fun j => by rw [putL_o _ _ (by omega), putL_o _ _ (by omega), putL_o _ _ (by omega), putL_o _ _ (by omega)]
                have hpo : ∀ f i, 5 ≤ f → putL (putL (putL (putL L 1 (L 0 1).toNat v) 2 (L 0 1).toNat u) 3 (L 0 1).toNat g) 4 (L 0 1).toNat 0 f i = L f i := fun f i h => by rw [putL_o _ _ (by omega), putL_o _ _ (by omega), putL_o _ _ (by omega), putL_o _ _ (by omega)]
                have hpx : ∀ f i, i ≠ (L 0 1).toNat → putL (putL (putL (putL L 1 (L 0 1).toNat v) 2 (L 0 1).toNat u) 3 (L 0 1).toNat g) 4 (L 0 1).toNat 0 f i = L f i := fun f i h => by rw [putL_o _ _ (fun t => h t.2), putL_o _ _ (fun t => h t.2), putL_o _ _ (fun t => h t.2), putL_o _ _ (fun t => h t.2)]
                have q1 : putL (putL (putL (putL L 1 (L 0 1).toNat v) 2 (L 0 1).toNat u) 3 (L 0 1).toNat g) 4 (L 0 1).toNat 0 1 (L 0 1).toNat = v := by rw [putL_o _ _ (by omega), putL_o _ _ (by omega), putL_o _ _ (by omega), putL_s]
                have q2 : putL (putL (putL (putL L 1 (L 0 1).toNat v) 2 (L 0 1).toNat u) 3 (L 0 1).toNat g) 4 (L 0 1).toNat 0 2 (L 0 1).toNat = u := by rw [putL_o _ _ (by omega), putL_o _ _ (by omega), putL_s]
                have q3 : putL (putL (putL (putL L 1 (L 0 1).toNat v) 2 (L 0 1).toNat u) 3 (L 0 1).toNat g) 4 (L 0 1).toNat 0 3 (L 0 1).toNat = g := by rw [putL_o _ _ (by omega), putL_s]
                have q4 : putL (putL (putL (putL L 1 (L 0 1).toNat v) 2 (L 0 1).toNat u) 3 (L 0 1).toNat g) 4 (L 0 1).toNat 0 4 (L 0 1).toNat = 0 := putL_s _ _ _ _
                generalize putL (putL (putL (putL L 1 (L 0 1).toNat v) 2 (L 0 1).toNat u) 3 (L 0 1).toNat g) 4 (L 0 1).toNat 0 = LL at *
                have gL := giveL_0 LL 1
                have er : ∀ c k, c ≠ 74 → c ≠ 77 → c ≠ 78 → c ≠ 79 → c ≠ 80 → c ≠ 81 → gi I9 c k = gi I2 c k := fun c k t1 t2 t3 t4 t5 t6 => by rw [k1 c k t1 t5 t2, Xo c k t3 t4 t5 t6, x6 c k t1 t3]
                have jn : ∀ k i, nmb J9 b k i = nmb (sl J2 98 (14 * b + (L 0 1).toNat) ((pkN (lR T n (tE T n p)) : Nat) : Int)) b k i := fun k i => by
                  unfold nmb
                  rw [k5 _ _ (by decide) (by decide), k5 _ _ (by decide) (by decide), k5 _ _ (by decide) (by decide), k5 _ _ (by decide) (by decide), jj _ _ (by decide) (by decide), jj _ _ (by decide) (by decide), jj _ _ (by decide) (by decide), jj _ _ (by decide) (by decide)]
                refine SRs.put (L' := giveL LL 1) hS2 hW (by decide) ((jn _ _).trans n1) (fun k i hk' hi => (jn k i).trans (n2 k i hk' (fun e => by subst e; omega))) ⟨?_, ?_, ?_, ?_, ?_, ?_⟩ (fun j hj => by rw [(gL j).1 hj, hp0]) (by rw [(gL 1).2, hp0]) (fun c k x y => er c k (by omega) (by omega) (by omega) (by omega) (by omega) (by omega)) k4 (fun i hi => ?_) (fun i hi => ?_) (fun i hi => ?_)
                · rw [er _ _ (by decide) (by decide) (by decide) (by decide) (by decide) (by decide), (gL 0).1 (by decide), hp0]; exact hS2.1.1
                · rw [k3, (gL 1).2, hp0]
                · rw [er _ _ (by decide) (by decide) (by decide) (by decide) (by decide) (by decide), (gL 2).1 (by decide), hp0]; exact hS2.1.2.2.1
                · rw [er _ _ (by decide) (by decide) (by decide) (by decide) (by decide) (by decide), (gL 3).1 (by decide), hp0]; exact hS2.1.2.2.2.1
                · rw [er _ _ (by decide) (by decide) (by decide) (by decide) (by decide) (by decide), (gL 4).1 (by decide), hp0]; exact hS2.1.2.2.2.2.1
                · rw [er _ _ (by decide) (by decide) (by decide) (by decide) (by decide) (by decide), (gL 5).1 (by decide), hp0]; exact hS2.1.2.2.2.2.2
                · rw [(gL 1).2, hp0] at hi
                  rw [k1 78 _ (by decide) (by decide) (by decide), k1 79 _ (by decide) (by decide) (by decide), k2, k1 81 _ (by decide) (by decide) (by decide), X78, x78, X79, X81, giveL_f _ _ _ (by decide), giveL_f _ _ _ (by decide), giveL_f _ _ _ (by decide), giveL_f _ _ _ (by decide)]
                  by_cases e : i = (L 0 1).toNat
                  · rw [if_pos (by rw [e]), if_pos (by rw [e]), if_pos (by rw [e]), if_pos (by rw [e]), e, q1, q2, q3, q4]
                    exact ⟨rfl, rfl, rfl, rfl⟩
                  · rw [if_neg (fun t => e (by omega)), if_neg (fun t => e (by omega)), if_neg (fun t => e (by omega)), if_neg (fun t => e (by omega)), hpx _ _ e, hpx _ _ e, hpx _ _ e, hpx _ _ e]
                    exact hS2.2.1 i (by omega)
                · rw [(gL 2).1 (by decide), hp0] at hi
                  rw [er _ _ (by decide) (by decide) (by decide) (by decide) (by decide) (by decide), er _ _ (by decide) (by decide) (by decide) (by decide) (by decide) (by decide), giveL_f _ _ _ (by decide), giveL_f _ _ _ (by decide), hpo _ _ (by decide), hpo _ _ (by decide)]
                  exact hS2.2.2.1 i hi
                · rw [(gL 3).1 (by decide), hp0] at hi
                  rw [er _ _ (by decide) (by decide) (by decide) (by decide) (by decide) (by decide), giveL_f _ _ _ (by decide), hpo _ _ (by decide)]
                  exact hS2.2.2.2.1 i hi
              have h39 : gi I6 74 39 = gi I2 74 39 := by rw [z4, y4, gi_cell _ _ _ _ (by decide), w4, u4]
              have w4' : (gi X6 74 3 = 1 ∧ gl J6 74 7 = 6449511) ↔ wd T n p6 4 := hT6.w hg6.2.1 (w := 4) (by decide) (by decide +kernel)
              refine ⟨_, _, _, rfl, rfl, ?_⟩
              dsimp only
              rw [hX6, w4', m40, Int.toNat_natCast]
              have h12 := hT6.2.2.2.2.1
              have hcd6 : cd ≤ p6 := by omega
              -- its token is good, or not
              have good : bd T n p6 = -1 → ((¬ wd T n p6 4 → ((0 ≤ (b : Int) ∧ (b : Int) < 2) ∧ Q none (mem (P, some 5, some 22) (si X6 77 b ((gi I6 77 b) + 1)) J6))) ∧ (wd T n p6 4 → WPm (k - 1) LAY m_X12_ahead [vR (some 74)] (mem (P, some 5, some 22) (si X6 80 (14 * b + (L 0 1).toNat) 1) J6) (retV (fun I25 J26 => (0 ≤ (gi I25 74 40) ∧ (gi I25 74 40) < 2) ∧ (Q none (mem (P, some 5, some 22) (si I25 77 (gi I25 74 40).toNat ((gi I25 77 (gi I25 74 40).toNat) + 1)) J26))) (P, some 5, some 22)))) := fun hb => by
                refine ⟨fun hw => ⟨by omega, ?_⟩, fun hw => ?_⟩
                · rw [ci_n (fun t => hw t.2)] at hQ
                  rw [x6 77 b (by decide) (by decide), hS2.1.2.1]
                  have hF7 : Fr [77] [] X6 (si X6 77 b (L 0 1 + 1)) := (Fr.rf _ _ _).up 77 _ _ (Or.inl (by decide))
                  refine hQ.1 _ _ cd (hT6.fr hF7 (by decide) (by decide) rfl) (by rw [gi_cell _ _ _ _ (by decide)]; exact X8) (fin _ J6 0 (fun c k t1 t2 t3 => gi_cell _ _ _ _ t3) (fun k => by rw [gi_cell _ _ _ _ (by decide)]; exact X80 k) ?_ ?_ (fun _ _ _ _ => rfl)) hcd6 hg6.2.1 (hB6.up 77 b _ (Or.inl (by unfold inb; omega))) hJ6
                  · rw [gi_si _ _ _ _ _ iC, if_pos ⟨rfl, rfl⟩]
                  · rw [gi_cell _ _ _ _ (by decide), Xo _ _ (by decide) (by decide) (by decide) (by decide)]
                    exact h39
                · rw [ci_y ⟨hb, hw⟩] at hQ
                  have hg7 := tE_gt (T := T) hg6.2.1 (by rw [hw.1]; decide)
                  have hF7 : Fr [80] [] X6 (si X6 80 (14 * b + (L 0 1).toNat) 1) := (Fr.rf _ _ _).up 80 _ _ (Or.inl (by decide))
                  refine ahead_of (by omega) hX hg6.2.1 (hT6.fr hF7 (by decide) (by decide) rfl) (fun I7 J7 o1 o2 o3 => ⟨_, _, rfl, rfl, ?_⟩)
                  obtain ⟨v1, v2, v3, v4⟩ := rfr o2
                  have i40 : gi I7 74 40 = (b : Int) := by rw [v3, gi_cell _ _ _ _ (by decide), Xo _ _ (by decide) (by decide) (by decide) (by decide)]; exact m40
                  have i77 : gi I7 77 b = L 0 1 := by rw [v1 _ _ (by decide), gi_cell _ _ _ _ (by decide), Xo _ _ (by decide) (by decide) (by decide) (by decide), x6 _ _ (by decide) (by decide)]; exact hS2.1.2.1
                  rw [i40, Int.toNat_natCast, i77]
                  have hF8 : Fr [77] [] I7 (si I7 77 b (L 0 1 + 1)) := (Fr.rf _ _ _).up 77 _ _ (Or.inl (by decide))
                  refine ⟨by omega, hQ.1 _ _ cd (o1.fr hF8 (by decide) (by decide) rfl) ?_ (fin _ J7 1 (fun c k t1 t2 t3 => ?_) (fun k => ?_) ?_ ?_ (fun c k x y => ?_)) (by show cd ≤ tE T n p6; omega) hg7.2.1 (((hB6.up 80 _ 1 (Or.inl (ib8 80 (by decide) (by decide)))).tr (o2.q.b b)).up 77 b _ (Or.inl (by unfold inb; omega))) (hJ6.tr (o3.j b))⟩
                  · rw [gi_cell _ _ _ _ (by decide), v2, gi_cell _ _ _ _ (by decide)]
                    exact X8
                  · rw [gi_cell _ _ _ _ t3, v1 _ _ t1, gi_cell _ _ _ _ t2]
                  · rw [gi_cell _ _ _ _ (by decide), v1 _ _ (by decide), gi_si _ _ _ _ _ (by decide), X80]
                    by_cases e : k = 14 * b + (L 0 1).toNat
                    · rw [if_pos ⟨rfl, e⟩, if_pos e]
                    · rw [if_neg (fun t => e t.2), if_neg e, if_neg e]
                  · rw [gi_si _ _ _ _ _ iC, if_pos ⟨rfl, rfl⟩]
                  · rw [gi_cell _ _ _ _ (by decide), v4, gi_cell _ _ _ _ (by decide), Xo _ _ (by decide) (by decide) (by decide) (by decide)]
                    exact h39
                  · exact o3.lv c k (fun t => by cases t) (fun t => by
                      simp only [List.mem_cons, List.not_mem_nil, or_false, Prod.mk.injEq] at t
                      omega)
              refine ⟨fun q => ⟨fun _ => good (h12.symm.trans q), fun q8 => absurd (by omega) q8⟩, fun q => ⟨fun _ => ?_, fun q8 => absurd (by omega) q8⟩⟩
              have hb : bd T n p6 ≠ -1 := fun t => q (h12.trans t)
              rw [ci_n (fun t => hb t.1)] at hQ
              have e9 := ER.lex hT6 hb
              exact hQ.2 hb _ _ e9.2.1 e9.2.2 (hB6.e.tr (e9.b b)) hJ6
            · rw [pNu_4 h9 h10] at hQ
              exact zPg rgi (fo.of hQ (by decide) hE hB5 hJ5)
            · rw [pNu_0 h9] at hQ
              exact zPg rgi (fo.of hQ (by decide) hE hB5 hJ5)
          · rw [pW_n (w := 3) h7] at hQ
            exact zD I5 J4 (fo.of hQ (by decide) hE hB4 hJ4)
        · rw [pA_3 h4 h5] at hQ
          exact zC _ J3 ((fo.of hQ (by decide) hE hB3 hJ3).wr 78 _ 0 (ib8 78 (by decide) (by decide)) (by decide))
        · rw [pA_0 h4] at hQ
          exact zC _ J3 ((fo.of hQ (by decide) hE hB3 hJ3).wr 78 _ 0 (ib8 78 (by decide) (by decide)) (by decide))
      · rw [pW_n (w := 2) h3] at hQ
        exact zB I3 _ (fo.of hQ (by decide) hE hB2 hJ2)
    · rw [pG_2 h1 h2] at hQ
      have hf : fo b Q P I2 (sl J1 98 (14 * b + (L 0 1).toNat) v) := fo.of hQ (by decide) hE hB1 (hJ1.up 98 _ _ ij)
      exact R_mustWZ (by omega) hf.1 ⟨_, _, rfl, rfl, zB I2 _ hf⟩
    · rw [pG_0 h1] at hQ
      have hf : fo b Q P I2 (sl J1 98 (14 * b + (L 0 1).toNat) v) := fo.of hQ (by decide) hE hB1 (hJ1.up 98 _ _ ij)
      exact R_mustWZ (by omega) hf.1 ⟨_, _, rfl, rfl, zB I2 _ hf⟩
  · rw [ci_y q5] at hQ
    refine R_counts (by omega) hX hp hT h8 (Or.inr rfl) (fun c => absurd c (by decide)) (fun _ I1 hE => ⟨_, _, _, rfl, rfl, by decide, fun c => absurd rfl c, fun _ => ?_⟩)
    exact hQ _ _ hE.2.1 hE.2.2 (hE.b b) (FrJ.rf _ _)
end RST3

section SHAREDS
/-! ===== shared: the reference's call, the step ===== -/
def shOK (L : Lb) (x y : Int) : Prop := isQ L x ∧ x.toNat ≠ 0 ∧ pop x.toNat ≤ 8 ∧ (y = -1 ∨ y = 20 ∨ (0 ≤ y ∧ y < 14) ∧ x.toNat.testBit y.toNat = true)
def shAns (L : Lb) (R : Rl) (H : Hl) (q : Nat) (y : Int) : Option Nat → Int
  | none => -1
  | some b => if y = -1 then shmo L R H (pgN L q) (mSh L) (pop q) b else if y = 20 then shal L R H (pgN L q) (mSh L) (pop q) b else ((shd (mSh L) (pop q) b (popw y.toNat q) : Nat) : Int)
abbrev shBq (L : Lb) (R : Rl) (H : Hl) (q : Nat) (o : Option Nat) : Prop := shB L R H (pgN L q) (mSh L) (pop q) (fun w => w < mSh L ^ pop q) o
def shZ (L : Lb) (R : Rl) (H : Hl) (x y z : Int) : Prop := (¬ shOK L x y → z = -1) ∧ (shOK L x y → ∃ o, shBq L R H x.toNat o ∧ z = shAns L R H x.toNat y o)
theorem pop_below {q p : Nat} (hp : p ≤ 14) : pop (q &&& (2 ^ p - 1)) = popw p q := by
  rw [Nat.and_two_pow_sub_one_eq_mod, pop_hi (Nat.mod_lt _ (Nat.two_pow_pos p)) hp]
  refine popw_ext (fun i hi => ?_)
  rw [Nat.testBit_mod_two_pow, decide_eq_true hi, Bool.true_and]
theorem S_X12_shared {k : Nat} {P : Option Nat} {I : Nat → Nat → Int32} {J : Nat → Nat → Int64} {Q : Option AV → Mem → Prop} {L : Lb} {R : Rl} {H : Hl} {x y : Int} (hk : 14 ≤ k) (hX : RX I 0 L R H) (hx : inR x) (hy : inR y) (h72 : gi I 74 72 = -1) (h73 : gi I 74 73 = -1) (hQ : ∀ I' J' z, scrS I I' → scrJ J J' → shZ L R H x y z → Q (some (vI z)) (mem (rv0 P) I' J')) : WPm k LAY m_X12_shared [vR (some 74), vI x, vI y] (mem (rv0 P) I J) Q := by
  have hL := hX.1.2.2.2.2.1
  have hP := hL.2.1
  have hR6 := hL.2.2.1
  have esh : shl32 1 (gi I 77 (gi I 74 13).toNat) = ((2 ^ (nP L).toNat : Nat) : Int) := by rw [rx_p hX, shl_p ⟨by omega, by omega⟩]
  have hp14 := pow_le14 (p := (nP L).toNat) (by omega)
  have hpos := Nat.two_pow_pos (nP L).toNat
  have no : ¬ shOK L x y → Q (some (vI (-1))) (mem (P, some 5, some 22) I J) := fun h => hQ I J (-1) (scrS.rf I) (scrJ.rf J) ⟨fun _ => rfl, fun t => absurd t h⟩
  have em : ((mSh L : Nat) : Int) = min 3 (nR L) := by
    show (((min 3 (nR L)).toNat : Nat) : Int) = min 3 (nR L)
    omega
  refine WPm.of k_X12_shared.1 (Nat.le_of_ble_eq_true rfl) (B_X12_shared_0 (by omega) ?_)
  rw [esh, rx_n hX]
  have bad : ∀ s0 : Int, ¬ isQ L x → WP k LAY m_X12_shared 43 [(0, vR (some 74)), (1, vI x), (2, vI y), (3, vI 0)] [vI s0] (mem (P, some 5, some 22) I J) Q := fun s0 h => B_X12_shared_43 (by omega) ⟨by decide, fun _ => no (fun t => h t.1), fun t => absurd t.1 (by decide)⟩
  by_cases hq : isQ L x
  · obtain ⟨q, rfl⟩ : ∃ q : Nat, x = (q : Int) := ⟨x.toNat, by have := hq.1; omega⟩
    have hq2 : q < 2 ^ (nP L).toNat := by have := hq.2; omega
    have hq14 : q < 16384 := by omega
    have hpa := popw_all hL hq2
    have pl := pop_le q
    -- behind the tests
    have at89 : shOK L (q : Int) y → 0 < mSh L → WP k LAY m_X12_shared 89 [(0, vR (some 74)), (1, vI (q : Int)), (2, vI y), (3, vI (pop q)), (4, vI ((mSh L : Nat) : Int))] [] (mem (P, some 5, some 22) I J) Q := by
      intro hok hm
      have hok2 := hok
      obtain ⟨-, h0, h8, hyy⟩ := hok2
      rw [Int.toNat_natCast] at h0 h8 hyy
      have hpg : ∀ i, i < pop q → pgN L q i < 14 := fun i hi => by
        have := (pgL_lt (q := q) (n := (nP L).toNat) (k := i) (by omega)).1
        show (pgL q (nP L).toNat).getD i 0 < 14
        omega
      have fin : ∀ I1 : Nat → Nat → Int32, Fr [125] [] I I1 → (∀ j : Nat, j < pop q → gi I1 125 j = ((pgN L q j : Nat) : Int)) → WPm (k - 1) LAY m_X12_shares [vR (some 74), vI (pop q), vI ((mSh L : Nat) : Int)] (mem (P, some 5, some 22) I1 J) (retI (fun v3 I4 J5 => inR v3 ∧ ((¬ v3 = 0 → (inR y ∧ ((¬ y = (-1) → ((¬ y = 20 → (WPm (k - 1) LAY m_X12_bits [vI (and32 (q : Int) ((shl32 1 y) - 1))] (mem (P, some 5, some 22) I4 J5) (retI (fun v8 I9 J10 => (0 ≤ v8 ∧ v8 < 8) ∧ (Q (some (vI (gi I9 128 (v8).toNat))) (mem (P, some 5, some 22) I9 J10))) (P, some 5, some 22)))) ∧ (y = 20 → (Q (some (vI (gi I4 74 83))) (mem (P, some 5, some 22) I4 J5))))) ∧ (y = (-1) → (Q (some (vI (gi I4 74 82))) (mem (P, some 5, some 22) I4 J5)))))) ∧ (v3 = 0 → (Q (some (vI (-1))) (mem (P, some 5, some 22) I4 J5))))) (P, some 5, some 22)) := by
        intro I1 hF h125
        refine S_X12_shares (L := L) (R := R) (H := H) (pg := pgN L q) (by omega) (hX.fr (hF.rx (by decide) (by decide))) hm ⟨mSh_le L, by omega⟩ h8 h125 hpg ((hF.gv 74 72 (by decide) (by simp)).trans h72) ((hF.gv 74 73 (by decide) (by simp)).trans h73) (fun I2 J2 o hs hj hB hO => ⟨_, _, _, rfl, rfl, ?_⟩)
        have hs2 : scrS I I2 := (hF.scr (by decide) (by simp)).tr hs
        have zz : ∀ z : Int, z = shAns L R H q y o → Q (some (vI z)) (mem (P, some 5, some 22) I2 J2) := fun z hz => hQ I2 J2 z hs2 hj ⟨fun t => absurd hok t, fun _ => ⟨o, hB, hz⟩⟩
        rcases o with _ | b
        · have h82 : gi I2 74 82 = -1 := hO
          rw [if_pos h82]
          exact ⟨by decide, fun z => absurd rfl z, fun _ => zz _ rfl⟩
        · obtain ⟨o1, o2, o3⟩ := hO
          have mb := shmo_bd (R := R) (H := H) hL (pgN L q) (mSh L) (pop q) b
          rw [if_neg (show ¬ gi I2 74 82 = -1 by omega)]
          refine ⟨by decide, fun _ => ⟨hy, fun z => ⟨fun z2 => ?_, fun z2 => zz _ ?_⟩, fun z => zz _ ?_⟩, fun z => absurd z (by decide)⟩
          · have hb := hyy.resolve_left z |>.resolve_left z2
            obtain ⟨p, rfl⟩ : ∃ p : Nat, y = (p : Int) := ⟨y.toNat, by omega⟩
            rw [Int.toNat_natCast] at hb
            have p1 := Nat.two_pow_pos p
            have plt := bit_lt hq2 hb.2
            have hlt : popw p q < pop q := by
              have := popw_mono (q := q) (p := p + 1) (n := (nP L).toNat) (by omega)
              have es : popw (p + 1) q = popw p q + (if q.testBit p = true then 1 else 0) := rfl
              rw [if_pos hb.2] at es
              omega
            have p31 := pow_lt31 (p := p) (by omega)
            have ea : and32 (q : Int) ((shl32 1 (p : Int)) - 1) = ((q &&& (2 ^ p - 1) : Nat) : Int) := by
              rw [shl1 (by omega), show (((2 ^ p : Nat) : Int) - 1) = ((2 ^ p - 1 : Nat) : Int) by omega, and32_nat (by omega) (by omega)]
            rw [ea]
            refine S_X12_bits (Nat.lt_of_le_of_lt Nat.and_le_left hq14) ⟨_, _, _, rfl, rfl, ?_⟩
            rw [pop_below (by omega)]
            refine ⟨⟨by omega, by omega⟩, zz _ ?_⟩
            rw [Int.toNat_natCast, o3 _ hlt]
            unfold shAns
            dsimp only
            rw [if_neg z, if_neg z2, Int.toNat_natCast]
          · unfold shAns
            dsimp only
            rw [if_neg z, if_pos z2]
            exact o2
          · unfold shAns
            dsimp only
            rw [if_pos z]
            exact o1
      have lp95 : ∀ (d p : Nat) (x5 x6 : Int) (I1 : Nat → Nat → Int32), p + d = (nP L).toNat → x6 = p → x5 = (popw p q : Int) → Fr [125] [] I I1 → (∀ j : Nat, j < popw p q → gi I1 125 j = ((pgN L q j : Nat) : Int)) → WP k LAY m_X12_shared 95 [(0, vR (some 74)), (1, vI (q : Int)), (2, vI y), (3, vI (pop q)), (4, vI ((mSh L : Nat) : Int)), (5, vI x5), (6, vI x6)] [] (mem (P, some 5, some 22) I1 J) Q := by
        intro d
        induction d with
        | zero =>
          intro p x5 x6 I1 hpd h6 h5 hF h125
          subst h6; subst h5
          have ep : p = (nP L).toNat := by omega
          have hX1 := hX.fr (hF.rx (by decide) (by simp))
          refine B_X12_shared_95 (by omega) ?_
          rw [rx_p hX1]
          exact ⟨rx_b hX1, ⟨by omega, by omega⟩, fun _ => fin I1 hF (fun j hj => h125 j (by rw [ep, hpa]; exact hj)), fun z => absurd z (by omega)⟩
        | succ d ih =>
          intro p x5 x6 I1 hpd h6 h5 hF h125
          subst h6; subst h5
          have hX1 := hX.fr (hF.rx (by decide) (by simp))
          have mo1 := popw_mono (q := q) (p := p + 1) (n := (nP L).toNat) (by omega)
          have es : popw (p + 1) q = popw p q + (if q.testBit p = true then 1 else 0) := rfl
          refine B_X12_shared_95 (by omega) ?_
          rw [rx_p hX1, has_iff (by omega) (by omega), Int.toNat_natCast]
          refine ⟨rx_b hX1, ⟨by omega, by omega⟩, fun z => absurd z (by omega), fun _ => ⟨fun z => ?_, fun z => ?_⟩⟩
          · rw [if_pos z] at es
            refine ⟨⟨by omega, by omega⟩, ih (p + 1) _ _ _ (by omega) rfl (by rw [es]; rfl) (hF.up 125 _ _ (Or.inl (by decide))) (fun j hj => ?_)⟩
            by_cases ej : j = popw p q
            · subst ej
              rw [gi_same _ _ _ ⟨by omega, by omega⟩]
              show (p : Int) = (((pgL q (nP L).toNat).getD (popw p q) 0 : Nat) : Int)
              rw [pgL_at (by omega) z]
            · rw [gi_idx _ _ _ ej]
              exact h125 j (by omega)
          · rw [if_neg z] at es
            exact ih (p + 1) _ _ _ (by omega) rfl (by rw [es]; rfl) hF (fun j hj => h125 j (by omega))
      exact B_X12_shared_89 (by omega) (lp95 (nP L).toNat 0 0 0 I (Nat.zero_add _) rfl rfl (Fr.rf _ _ _) (fun j hj => absurd hj (Nat.not_lt_zero _)))
    have at43 : ∀ s0 : Int, s0 = ((mSh L : Nat) : Int) → WP k LAY m_X12_shared 43 [(0, vR (some 74)), (1, vI (q : Int)), (2, vI y), (3, vI (pop q))] [vI s0] (mem (P, some 5, some 22) I J) Q := by
      intro s0 hs0
      subst hs0
      have ms := mSh_le L
      have p0 : 1 ≤ pop q → q ≠ 0 := fun h e => by
        rw [e] at h
        exact absurd h (by decide)
      have p1 : q ≠ 0 → 1 ≤ pop q := fun h => by
        have := popw_pos hq2 h
        omega
      refine B_X12_shared_43 (by omega) ?_
      rw [rx_p hX]
      refine ⟨⟨by omega, by omega⟩, fun z => no (fun t => z ?_), fun z => ⟨⟨by omega, by omega⟩, fun z2 => ?_, fun z2 => ⟨hy, fun z3 => ?_, fun z3 => ⟨fun z4 => ?_, fun z4 => ⟨rx_b hX, fun z5 => no (fun t => z5 ?_), fun z5 => ⟨fun z6 => ?_, fun z6 => no (fun t => z6 ?_)⟩⟩⟩⟩⟩⟩
      · have h0 := t.2.1
        have h8 := t.2.2.1
        rw [Int.toNat_natCast] at h0 h8
        have := p1 h0
        omega
      · by_cases hok : shOK L (q : Int) y
        · refine hQ I J (-1) (scrS.rf I) (scrJ.rf J) ⟨fun _ => rfl, fun _ => ⟨none, fun w hw => ?_, rfl⟩⟩
          have hw : w < mSh L ^ pop (q : Int).toNat := hw
          rw [Int.toNat_natCast, show mSh L = 0 by omega, Nat.zero_pow (by omega)] at hw
          exact absurd hw (Nat.not_lt_zero _)
        · exact no hok
      · refine at89 ⟨hq, ?_, ?_, Or.inl z3⟩ (by omega)
        · rw [Int.toNat_natCast]; exact p0 (by omega)
        · rw [Int.toNat_natCast]; omega
      · refine at89 ⟨hq, ?_, ?_, Or.inr (Or.inl z4)⟩ (by omega)
        · rw [Int.toNat_natCast]; exact p0 (by omega)
        · rw [Int.toNat_natCast]; omega
      · have hb := (t.2.2.2.resolve_left z3).resolve_left z4
        rw [Int.toNat_natCast] at hb
        have := bit_lt hq2 hb.2
        omega
      · have e : y = ((y.toNat : Nat) : Int) := by omega
        rw [e, has_iff (by omega) (by omega)] at z6
        refine at89 ⟨hq, ?_, ?_, Or.inr (Or.inr ⟨by omega, ?_⟩)⟩ (by omega)
        · rw [Int.toNat_natCast]; exact p0 (by omega)
        · rw [Int.toNat_natCast]; omega
        · rw [Int.toNat_natCast]; exact z6
      · have hb := (t.2.2.2.resolve_left z3).resolve_left z4
        rw [Int.toNat_natCast] at hb
        have e : y = ((y.toNat : Nat) : Int) := by omega
        rw [e, has_iff (by omega) (by omega)]
        exact hb.2
    refine ⟨rx_b hX, hx, ⟨by omega, by omega⟩, fun z => absurd ⟨hq.1, by have := hq.2; omega⟩ z, fun _ => ?_⟩
    refine S_X12_bits hq14 ⟨_, _, _, rfl, rfl, rx_b hX, fun z => ?_, fun z => ?_⟩
    · rw [rx_n hX] at z
      exact at43 _ (by omega)
    · rw [rx_n hX] at z ⊢
      exact at43 _ (by omega)
  · refine ⟨rx_b hX, hx, ⟨by omega, by omega⟩, fun z => ⟨fun _ => bad _ hq, fun _ => bad _ hq⟩, fun z => absurd ⟨z.1, by have := z.2; omega⟩ hq⟩
def shaS (I I' : Nat → Nat → Int32) : Prop := ∀ c k : Nat, scrC c = false → scrF c k = false → ¬ (55 ≤ c ∧ c ≤ 62) → ¬ (c = 54 ∧ 3 ≤ k ∧ k ≤ 8) → I' c k = I c k
def V_sh (I : Nat → Nat → Int32) : Prop := gi I 54 5 ≤ gi I 4 6 ∧ (gi I 54 5 = gi I 4 6 → ∀ q : Nat, gi I 54 6 = (q : Int) → q ≠ 0 → q < 2 ^ (nP (LC I)).toNat → pop q ≤ 8 → shF I (LC I) (RC I) (HC I) q)
theorem Fr.sha {I I' : Nat → Nat → Int32} (h : Fr CFi FFi I I') : shaS I I' := fun c k a b n1 n2 => h c k (fun t => by
  simp at t
  rcases t with rfl | rfl | t
  · exact absurd a (by decide)
  · exact absurd a (by decide)
  · omega) (fun t => by
  simp at t
  omega)
theorem shO_eq {I I' : Nat → Nat → Int32} {L : Lb} {R : Rl} {H : Hl} {q : Nat} (h : ∀ c i, c = 54 ∨ c = 55 ∨ c = 57 → gi I' c i = gi I c i) (hF : shF I L R H q) : shF I' L R H q := by
  obtain ⟨a, b, o, c, d⟩ := hF
  exact ⟨(h 54 7 (Or.inl rfl)).trans a, fun j hj => (h 55 j (Or.inr (Or.inl rfl))).trans (b j hj), o, c, shO_fr (fun c j hc => h c j (by omega)) d⟩
theorem step_shared {V V' : Cpl} (hS : Vsc V V') (hA : ∀ I J, V I J → VA I) (hM : ∀ I J, V I J → V_sh I) (hput : ∀ I J I' J', V I J → shaS I I' → V_sh I' → scrJ J J' → V' I' J') (x y : Int) (hx : inR x) (hy : inR y) : Step V V' m_X11_shared m_X12_shared [x, y] := by
  intro P I J hV
  obtain ⟨hC, hR, h72, h73⟩ := hA I J hV
  obtain ⟨st0, st1⟩ := hM I J hV
  have hL := hC.1.2.2.2.1
  have hP := hL.2.1
  have e1 : gi I 6 1 = nP (LC I) := cx_p hC
  have esh : shl32 1 (nP (LC I)) = ((2 ^ (nP (LC I)).toNat : Nat) : Int) := shl_p ⟨by omega, by omega⟩
  have hp14 := pow_le14 (p := (nP (LC I)).toNat) (by omega)
  have hbc : isQ (LC I) x → bc32 x = (pop x.toNat : Int) := fun a => by
    have h := a.1
    have h2 := a.2
    have e := bc_pop (n := x.toNat) (by omega)
    rwa [Int.toNat_of_nonneg h] at e
  have hbt : isQ (LC I) x → 0 ≤ y ∧ y < 14 → (and32 x (shl32 1 y) = 0 ↔ x.toNat.testBit y.toNat = false) := fun a b => by
    have h := a.1
    have h2 := a.2
    have e := bit_iff b (kk := x.toNat) (by omega)
    rwa [Int.toNat_of_nonneg h] at e
  -- nothing is found
  have no : ¬ shOK (LC I) x y → ∃ z', some (vI (-1)) = some (vI z') ∧ inR z' ∧ (mem (rv0 P) I J).1 = LAY ∧ WPm 900 LAY m_X12_shared (vR (some 74) :: [x, y].map vI) (mem (rv0 P) I J) (fun r2 M2 => r2 = some (vI z') ∧ Cpl2 V' M2) := fun h => Step.put (by decide) rfl (S_X12_shared (by omega) hR hx hy h72 h73 (fun I2 J2 z hs hj hz => ⟨congrArg (fun v : Int => some (vI v)) (hz.1 h), Cpl2.here (hS I J I2 J2 hV hs hj)⟩))
  refine WPm.of k_X11_shared.1 (Nat.le_of_ble_eq_true rfl) (B_X11_shared_0 (by omega) ?_)
  rw [e1, esh]
  refine ⟨hx, fun z => no (fun t => z t.1), fun hq => ⟨fun z => no (fun t => t.2.1 (by omega)), fun hx0 => ?_⟩⟩
  rw [hbc hq]
  refine ⟨fun h8 => ⟨hy, ?_⟩, fun z => no (fun t => z (by have := t.2.2.1; omega))⟩
  have h0 := hq.1
  obtain ⟨q, rfl⟩ : ∃ q : Nat, x = (q : Int) := ⟨x.toNat, by omega⟩
  rw [Int.toNat_natCast] at h8
  have hq2 : q < 2 ^ (nP (LC I)).toNat := by have := hq.2; omega
  -- what was found is the reference's
  have fnd : shOK (LC I) (q : Int) y → WPm (900 - 1) LAY m_X6_find [vR (some 54), vI (q : Int)] (mem (P, some 5, some 22) I J) (retV (fun I4 J5 => ((gi I4 54 3) = (-1) → ((fun r M1 => ∃ z, r = some (vI z) ∧ inR z ∧ M1.1 = LAY ∧ WPm 900 LAY m_X12_shared (vR (some 74) :: [(q : Int), y].map vI) M1 (fun r2 M2 => r2 = some (vI z) ∧ Cpl2 V' M2)) (some (vI (gi I4 54 3))) (mem (P, some 5, some 22) I4 J5))) ∧ (¬ (gi I4 54 3) = (-1) → ((¬ y = (-1) → ((¬ y = 20 → (WPm (900 - 1) LAY m_X6_readerOf [vR (some 54), vI y] (mem (P, some 5, some 22) I4 J5) (retI (fun v6 I7 J8 => (fun r M1 => ∃ z, r = some (vI z) ∧ inR z ∧ M1.1 = LAY ∧ WPm 900 LAY m_X12_shared (vR (some 74) :: [(q : Int), y].map vI) M1 (fun r2 M2 => r2 = some (vI z) ∧ Cpl2 V' M2)) (some (vI v6)) (mem (P, some 5, some 22) I7 J8)) (P, some 5, some 22)))) ∧ (y = 20 → ((fun r M1 => ∃ z, r = some (vI z) ∧ inR z ∧ M1.1 = LAY ∧ WPm 900 LAY m_X12_shared (vR (some 74) :: [(q : Int), y].map vI) M1 (fun r2 M2 => r2 = some (vI z) ∧ Cpl2 V' M2)) (some (vI (gi I4 54 4))) (mem (P, some 5, some 22) I4 J5))))) ∧ (y = (-1) → ((fun r M1 => ∃ z, r = some (vI z) ∧ inR z ∧ M1.1 = LAY ∧ WPm 900 LAY m_X12_shared (vR (some 74) :: [(q : Int), y].map vI) M1 (fun r2 M2 => r2 = some (vI z) ∧ Cpl2 V' M2)) (some (vI (gi I4 54 3))) (mem (P, some 5, some 22) I4 J5)))))) (P, some 5, some 22)) := by
    intro hok
    have hq0 : q ≠ 0 := by
      have := hok.2.1
      rwa [Int.toNat_natCast] at this
    refine S_X6_find (by omega) hC hq0 hq2 (by omega) (fun w1 w2 => st1 w1 q w2 hq0 hq2 (by omega)) (fun I1 hF f5 f6 hf => ⟨_, _, rfl, rfl, ?_⟩)
    have hC1 := hC.fr (hF.cx (by decide) (by decide))
    have hR1 : RX I1 0 (LC I) (RC I) (HC I) := hR.fr (hF.rx (by decide) (by decide))
    have f46 := hF.gv 4 6 (by decide) (by decide)
    obtain ⟨g7, g55, o, hB, hO⟩ := id hf
    have ref : ∀ z : Int, z = shAns (LC I) (RC I) (HC I) q y o → WPm 900 LAY m_X12_shared (vR (some 74) :: [(q : Int), y].map vI) (mem (rv0 P) I1 J) (fun r2 M2 => r2 = some (vI z) ∧ Cpl2 V' M2) := by
      intro z hz
      refine S_X12_shared (by omega) hR1 hx hy ((hF.gv 74 72 (by decide) (by decide)).trans h72) ((hF.gv 74 73 (by decide) (by decide)).trans h73) (fun I2 J2 z2 hs hj hz2 => ?_)
      obtain ⟨o', hB', e'⟩ := hz2.2 hok
      rw [Int.toNat_natCast] at hB' e'
      have eo := hB.un hB'
      refine ⟨congrArg (fun v : Int => some (vI v)) (by rw [e', hz, eo]), Cpl2.here (hput I J I2 J2 hV (fun c k a1 a2 a3 a4 => (hs c k a1 a2).trans (hF.sha c k a1 a2 a3 a4)) ?_ hj)⟩
      have g : ∀ c i, c = 54 ∨ c = 55 ∨ c = 57 → gi I2 c i = gi I1 c i := fun c i h => by
        rcases h with rfl | rfl | rfl <;> exact hs.gv _ i (by decide) (by simp [scrF])
      have hC2 := hC1.fr hs.cx
      unfold V_sh
      rw [show LC I2 = LC I from hC2.1.1, show RC I2 = RC I from hC2.1.2.1, show HC I2 = HC I from hC2.2.1, g 54 5 (Or.inl rfl), g 54 6 (Or.inl rfl), f5, f6, (hs.gv 4 6 (by decide) (by decide)).trans f46]
      refine ⟨Int.le_refl _, fun _ q' e' _ _ _ => ?_⟩
      have : q' = q := Int.ofNat_inj.mp e'.symm
      subst this
      exact shO_eq g hf
    rcases o with _ | b
    · have h3 : gi I1 54 3 = -1 := hO
      exact ⟨fun _ => Step.put (gi_in _ _ _) rfl (ref _ (by rw [h3]; rfl)), fun z => absurd h3 z⟩
    · obtain ⟨o1, o2, -, o4⟩ := hO
      have mb := shmo_bd (R := RC I) (H := HC I) hL (pgN (LC I) q) (mSh (LC I)) (pop q) b
      refine ⟨fun z => absurd z (by omega), fun _ => ⟨fun z => ⟨fun z2 => ?_, fun z2 => Step.put (gi_in _ _ _) rfl (ref _ ?_)⟩, fun z => Step.put (gi_in _ _ _) rfl (ref _ ?_)⟩⟩
      · have hb := (hok.2.2.2.resolve_left z).resolve_left z2
        rw [Int.toNat_natCast] at hb
        obtain ⟨p, rfl⟩ : ∃ p : Nat, y = (p : Int) := ⟨y.toNat, by omega⟩
        rw [Int.toNat_natCast] at hb
        have plt := bit_lt hq2 hb.2
        have hlt : popw p q < pop q := by
          have hpa := popw_all hL hq2
          have := popw_mono (q := q) (p := p + 1) (n := (nP (LC I)).toNat) (by omega)
          have es : popw (p + 1) q = popw p q + (if q.testBit p = true then 1 else 0) := rfl
          rw [if_pos hb.2] at es
          omega
        refine S_X6_rdr plt hb.2 hL hq2 (by omega) g7 g55 ⟨_, _, _, rfl, rfl, Step.put (gi_in _ _ _) rfl (ref _ ?_)⟩
        rw [o4 _ hlt]
        unfold shAns
        dsimp only
        rw [if_neg z, if_neg z2, Int.toNat_natCast]
      · unfold shAns
        dsimp only
        rw [if_neg z, if_pos z2]
        exact o2
      · unfold shAns
        dsimp only
        rw [if_pos z]
        exact o1
  have ok : (y = -1 ∨ y = 20 ∨ (0 ≤ y ∧ y < 14) ∧ q.testBit y.toNat = true) → shOK (LC I) (q : Int) y := fun h => by
    refine ⟨hq, ?_, ?_, ?_⟩
    · rw [Int.toNat_natCast]; omega
    · rw [Int.toNat_natCast]; omega
    · rw [Int.toNat_natCast]; exact h
  have hn : ¬ (y = -1 ∨ y = 20 ∨ (0 ≤ y ∧ y < 14) ∧ q.testBit y.toNat = true) → ¬ shOK (LC I) (q : Int) y := fun h t => h (by
    have := t.2.2.2
    rwa [Int.toNat_natCast] at this)
  refine ⟨fun z => ⟨fun z2 => fnd (ok (Or.inl z2)), fun z2 => ⟨fun z3 => fnd (ok (Or.inr (Or.inl z3))), fun z3 => no (hn (by omega))⟩⟩, fun z => ⟨fun z2 => ⟨fun z3 => fnd (ok (Or.inl z3)), fun z3 => ⟨fun z4 => fnd (ok (Or.inr (Or.inl z4))), fun z4 => no (hn (by omega))⟩⟩, fun z2 => ⟨fun w => ⟨fun z3 => fnd (ok (Or.inl z3)), fun z3 => ⟨fun z4 => fnd (ok (Or.inr (Or.inl z4))), fun z4 => no (hn (fun t => ?_))⟩⟩, fun w => ⟨fun z3 => fnd (ok (Or.inl z3)), fun z3 => ⟨fun z4 => fnd (ok (Or.inr (Or.inl z4))), fun z4 => fnd (ok (Or.inr (Or.inr ⟨by omega, ?_⟩)))⟩⟩⟩⟩⟩
  · have hb := (t.resolve_left z3).resolve_left z4
    have h := (hbt hq (by omega)).mp w
    rw [Int.toNat_natCast, hb.2] at h
    exact absurd h (by decide)
  · cases h : q.testBit y.toNat
    · exact absurd ((hbt hq (by omega)).mpr (by rw [Int.toNat_natCast]; exact h)) w
    · rfl
end SHAREDS

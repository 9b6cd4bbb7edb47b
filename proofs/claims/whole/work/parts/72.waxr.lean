section WAXR
/-! ===== by wax: the class finds, the reference tries all; the step ===== -/
abbrev twN (L : Lb) (R : Rl) (H : Hl) (r : Int) : Nat → Int := fun p => takS L R (H 8 0) r (p : Int) (L 7 (H 1 r)) (sit L H (H 1 r)) 0
abbrev solR (L : Lb) (R : Rl) (H : Hl) (r mins : Int) : Nat → Prop := solW (ndN L) (nP L).toNat (twN L R H r) mins
abbrev FWo : List (Nat × Nat) := [(51, 7), (51, 8), (51, 9), (51, 14), (51, 15), (51, 16)]
theorem twN_in {L : Lb} {R : Rl} {H : Hl} (hL : WfL L) (r : Int) : ∀ p, p < (nP L).toNat → 0 ≤ twN L R H r p ∧ twN L R H r p ≤ 500 := fun p hp => by
  have := takS_in (R := R) hL (night := H 8 0) (r := r) (p := (p : Int)) (d := L 7 (H 1 r)) (s := sit L H (H 1 r)) (k := 0) ⟨by omega, by omega⟩
  show 0 ≤ takS L R (H 8 0) r p (L 7 (H 1 r)) (sit L H (H 1 r)) 0 ∧ takS L R (H 8 0) r p (L 7 (H 1 r)) (sit L H (H 1 r)) 0 ≤ 500
  omega
theorem S_X8_findSets {k : Nat} {P : Option Nat} {I : Nat → Nat → Int32} {J : Nat → Nat → Int64} {Q : Option AV → Mem → Prop} {L : Lb} {R : Rl} {H : Hl} {r n : Int} (hk : 20 ≤ k) (hX : CX I L R H) (hr : 0 ≤ r ∧ r < nR L) (hn : 0 ≤ n) (hn2 : inR n) (hc : gi I 51 14 = gi I 4 6 → gi I 51 15 = r → gi I 51 16 = n → wSt (2 ^ (nP L).toNat) I (solR L R H r n))
    (hQ : ∀ I', Fr [37, 38, 52, 53] FWo I I' → gi I' 51 14 = gi I 4 6 → gi I' 51 15 = r → gi I' 51 16 = n → wSt (2 ^ (nP L).toNat) I' (solR L R H r n) → Q none (mem (rv0 P) I' J)) : WPm k LAY m_X8_findSets [vR (some 51), vI r, vI n] (mem (rv0 P) I J) Q := by
  have hL := hX.1.2.2.2.1
  have hR6 := hL.2.2.1
  have hP := hL.2.1
  have hT5 := hL.2.2.2.1
  have hw1 := (hX.2.2.2.2 r hr.1 hr.2).1
  have hh8 := hX.2.2.1
  have body : (0 ≤ ((3 + (r * 14)) + 0) ∧ ((3 + (r * 14)) + 0) < 87) ∧ (∀ y2 : Int, y2 = (gi (si (si (si I 51 14 (gi I 4 6)) 51 15 r) 51 16 n) 19 ((3 + (r * 14)) + 0).toNat) → ((0 ≤ y2 ∧ y2 < 5) ∧ (WPm (k - 1) LAY m_X2_sittingAt [vR (some 4), vI y2] (mem (P, some 5, some 22) (si (si (si I 51 14 (gi I 4 6)) 51 15 r) 51 16 n) J) (retI (fun v4 I5 J6 => (0 ≤ r ∧ r < 6) ∧ (WPm (k - 1) LAY m_X8_measurePages [vR (some 51)] (mem (P, some 5, some 22) (si (si (si (si (si (si (si I5 38 7 (gi I5 13 (r).toNat)) 38 8 (gi I5 14 (r).toNat)) 38 16 0) 38 10 (gi I 15 (y2).toNat)) 38 17 v4) 38 11 (gi I5 5 15)) 38 18 (gi I5 19 0)) J6) (retV (fun I9 J10 => WPm (k - 1) LAY m_X8_chooseSets [vR (some 51), vI 0, vI 0, vI n] (mem (P, some 5, some 22) (si (si (si I9 51 7 0) 51 8 (-1)) 51 9 0) J10) (retV (fun I12 J13 => Q none (mem (P, some 5, some 22) I12 J13)) (P, some 5, some 22))) (P, some 5, some 22)))) (P, some 5, some 22))))) := by
    have hF0 : Fr [] FWo I (si (si (si I 51 14 (gi I 4 6)) 51 15 r) 51 16 n) := (((Fr.rf _ _ I).up 51 14 _ (Or.inr (by decide))).up 51 15 _ (Or.inr (by decide))).up 51 16 _ (Or.inr (by decide))
    have a14 : gi (si (si (si I 51 14 (gi I 4 6)) 51 15 r) 51 16 n) 51 14 = gi I 4 6 := by rw [gi_idx _ _ _ (by decide), gi_idx _ _ _ (by decide), gi_same _ _ _ (gi_in _ _ _)]
    have a15 : gi (si (si (si I 51 14 (gi I 4 6)) 51 15 r) 51 16 n) 51 15 = r := by rw [gi_idx _ _ _ (by decide), gi_same _ _ _ ⟨by omega, by omega⟩]
    have a16 : gi (si (si (si I 51 14 (gi I 4 6)) 51 15 r) 51 16 n) 51 16 = n := gi_same _ _ _ hn2
    generalize si (si (si I 51 14 (gi I 4 6)) 51 15 r) 51 16 n = I0 at hF0 a14 a15 a16 ⊢
    have hX0 := hX.fr (hF0.cx (by decide) (by decide))
    refine ⟨⟨by omega, by omega⟩, fun y hy => ?_⟩
    rw [cx_1 hX0 hr] at hy
    subst hy
    refine ⟨⟨by omega, by omega⟩, S_X2_sit (by omega) hX0 ⟨by omega, by omega⟩ ⟨_, _, _, rfl, rfl, ⟨by omega, by omega⟩, ?_⟩⟩
    have sb := sit_bd H hL (H 1 r)
    have l5 := hL.2.2.2.2.2.2.2.2.1 r hr.1 hr.2
    have l7 := hL.2.2.2.2.2.2.2.2.2 (H 1 r) hw1.1 hw1.2
    have l25 := hL.2.2.2.2.2.1
    rw [cx_L5 hX0 hr, cx_L6 hX0 hr, cx_L7 hX hw1, cx_inch hX0, cx_8 hX0]
    have hv : vals (si (si (si (si (si (si (si I0 38 7 (L 5 r)) 38 8 (L 6 r)) 38 16 0) 38 10 (L 7 (H 1 r))) 38 17 (sit L H (H 1 r))) 38 11 (L 25 0)) 38 18 (H 8 0)) L (H 8 0) r (L 7 (H 1 r)) (sit L H (H 1 r)) 0 := vals_set rfl rfl rfl ⟨by omega, by omega⟩ ⟨by omega, by omega⟩ ⟨by omega, by omega⟩ (by decide) ⟨by omega, by omega⟩ ⟨by omega, by omega⟩ ⟨by omega, by omega⟩
    have hF7 : Fr [37, 38] [] I0 (si (si (si (si (si (si (si I0 38 7 (L 5 r)) 38 8 (L 6 r)) 38 16 0) 38 10 (L 7 (H 1 r))) 38 17 (sit L H (H 1 r))) 38 11 (L 25 0)) 38 18 (H 8 0)) := ((((((((Fr.rf _ _ I0).up 38 7 _ (Or.inl (by decide))).up 38 8 _ (Or.inl (by decide))).up 38 16 _ (Or.inl (by decide))).up 38 10 _ (Or.inl (by decide))).up 38 17 _ (Or.inl (by decide))).up 38 11 _ (Or.inl (by decide))).up 38 18 _ (Or.inl (by decide)))
    generalize si (si (si (si (si (si (si I0 38 7 (L 5 r)) 38 8 (L 6 r)) 38 16 0) 38 10 (L 7 (H 1 r))) 38 17 (sit L H (H 1 r))) 38 11 (L 25 0)) 38 18 (H 8 0) = I7 at hv hF7 ⊢
    have hX7 := hX0.fr (hF7.cx (by decide) (by decide))
    refine S_X8_measure (by omega) hX7 hv (envB_of hL hX.2.2 hr ⟨by omega, by omega⟩ ⟨by omega, by omega⟩ (by decide)) (fun I8 hF8 h52 h53 => ⟨_, _, rfl, rfl, ?_⟩)
    dsimp only
    have hF8' : Fr [37, 38, 52, 53] FWo I I8 := ((hF0.mono (by simp) (by simp)).tr (hF7.mono (by simp) (by simp))).tr (hF8.mono (by simp) (by simp))
    have hF9 : Fr [37, 38, 52, 53] FWo I (si (si (si I8 51 7 0) 51 8 (-1)) 51 9 0) := ((hF8'.up 51 7 _ (Or.inr (by decide))).up 51 8 _ (Or.inr (by decide))).up 51 9 _ (Or.inr (by decide))
    have f51 : ∀ k, gi I8 51 k = gi I0 51 k := fun k => (hF8.gv 51 k (by decide) (by simp)).trans (hF7.gv 51 k (by decide) (by simp))
    have c : ∀ k, ¬ (k = 7 ∨ k = 8 ∨ k = 9) → gi (si (si (si I8 51 7 0) 51 8 (-1)) 51 9 0) 51 k = gi I0 51 k := fun k hk => by
      rw [gi_idx _ _ _ (by omega), gi_idx _ _ _ (by omega), gi_idx _ _ _ (by omega)]
      exact f51 k
    have c7 : gi (si (si (si I8 51 7 0) 51 8 (-1)) 51 9 0) 51 7 = 0 := by rw [gi_idx _ _ _ (by decide), gi_idx _ _ _ (by decide), gi_same _ _ _ (by decide)]
    have c8 : gi (si (si (si I8 51 7 0) 51 8 (-1)) 51 9 0) 51 8 = -1 := by rw [gi_idx _ _ _ (by decide), gi_same _ _ _ (by decide)]
    have c9 : gi (si (si (si I8 51 7 0) 51 8 (-1)) 51 9 0) 51 9 = 0 := gi_same _ _ _ (by decide)
    have ch : ∀ c k, c ≠ 51 → gi (si (si (si I8 51 7 0) 51 8 (-1)) 51 9 0) c k = gi I8 c k := fun c k hc => by rw [gi_cell _ _ _ _ hc, gi_cell _ _ _ _ hc, gi_cell _ _ _ _ hc]
    generalize si (si (si I8 51 7 0) 51 8 (-1)) 51 9 0 = I9 at hF9 c c7 c8 c9 ch ⊢
    have hX9 := hX.fr (hF9.cx (by decide) (by decide))
    have := S_X8_csets (P := P) (J := J) (L := L) (R := R) (H := H) (mins := n) (t := twN L R H r) hn2.2 (twN_in hL r) (nP L).toNat 0 0 (k - 1) n I9 (retV (fun I12 J13 => Q none (mem (P, some 5, some 22) I12 J13)) (P, some 5, some 22)) (fun _ => False) (Nat.zero_add _) (by omega) hX9 (fun p hp => (ch 52 p (by decide)).trans (h52 p hp)) (fun p hp => (ch 53 p (by decide)).trans (h53 p hp)) ⟨by rw [c7, cX_zero (fun _ _ t => t)], Or.inl ⟨fun _ t => t, c8⟩, 0, c9, by decide, fun i => ⟨fun t => by rw [Nat.zero_testBit] at t; exact Bool.noConfusion t, fun t => by obtain ⟨S, t, -⟩ := t; exact t.elim⟩⟩ (fun _ t => t.elim) (by decide) (fun p hp => absurd hp (Nat.not_lt_zero _)) (by show n = n - 0; omega) hn (fun I' f1 f2 => ⟨_, _, rfl, rfl, hQ I' (hF9.tr (f1.mono (by simp) (by simp))) ?_ ?_ ?_ ?_⟩)
    · exact this
    · exact (f1.gv 51 14 (by decide) (by decide)).trans ((c 14 (by decide)).trans a14)
    · exact (f1.gv 51 15 (by decide) (by decide)).trans ((c 15 (by decide)).trans a15)
    · exact (f1.gv 51 16 (by decide) (by decide)).trans ((c 16 (by decide)).trans a16)
    · have e : ∀ S, (False ∨ solW (ndN L) (nP L).toNat (twN L R H r) n S ∧ ext 0 0 S) ↔ solR L R H r n S := fun S => ⟨fun u => u.elim (fun v => v.elim) (fun v => v.1), fun u => Or.inr ⟨u, fun p hp => absurd hp (Nat.not_lt_zero _)⟩⟩
      exact ⟨f2.1.trans (cX_congr (fun S _ => e S)), f2.2.1.congr e, f2.2.2.congr e⟩
  refine WPm.of k_X8_findSets.1 (Nat.le_of_ble_eq_true rfl) (B_X8_findSets_0 (by omega) ⟨fun _ => body, fun q => ⟨⟨by omega, by omega⟩, fun _ => body, fun q2 => ⟨hn2, fun _ => body, fun q3 => ?_⟩⟩⟩)
  exact hQ I (Fr.rf _ _ _) q q2 q3 (hc q q2 q3)
def refA (L : Lb) (p : Nat → Prop) (a : Nat) : Prop := a < 16384 ∧ ∀ i, a.testBit i = true ↔ (i < (nP L).toNat ∧ ∀ S, p S → S.testBit i = true)
def refB (p : Nat → Prop) (b : Nat) : Prop := b < 16384 ∧ ∀ i, b.testBit i = true ↔ ∃ S, p S ∧ S.testBit i = true
theorem refA.add {L : Lb} {p p' : Nat → Prop} {a s : Nat} (h : refA L p a) (he : ∀ S, p' S ↔ p S ∨ S = s) : refA L p' (a &&& s) := by
  refine ⟨Nat.lt_of_le_of_lt Nat.and_le_left h.1, fun i => ?_⟩
  rw [Nat.testBit_and, Bool.and_eq_true, h.2]
  exact ⟨fun t => ⟨t.1.1, fun S u => ((he S).mp u).elim (t.1.2 S) (fun v => by rw [v]; exact t.2)⟩, fun t => ⟨⟨t.1, fun S u => t.2 S ((he S).mpr (Or.inl u))⟩, t.2 s ((he s).mpr (Or.inr rfl))⟩⟩
theorem refB.add {p p' : Nat → Prop} {b s : Nat} (hs : s < 16384) (h : refB p b) (he : ∀ S, p' S ↔ p S ∨ S = s) : refB p' (b ||| s) := by
  refine ⟨or_lt14 (n := 14) h.1 hs, fun i => ?_⟩
  rw [Nat.testBit_or, Bool.or_eq_true, h.2]
  constructor
  · rintro (⟨S, u, v⟩ | v)
    · exact ⟨S, (he S).mpr (Or.inl u), v⟩
    · exact ⟨s, (he s).mpr (Or.inr rfl), v⟩
  · rintro ⟨S, u, v⟩
    rcases (he S).mp u with w | w
    · exact Or.inl ⟨S, w, v⟩
    · exact Or.inr (by rw [← w]; exact v)
theorem S_X12_waxF {k : Nat} {P : Option Nat} {I : Nat → Nat → Int32} {J : Nat → Nat → Int64} {Q : Option AV → Mem → Prop} {L : Lb} {R : Rl} {H : Hl} {r n y : Int} (hk : 9 ≤ k) (hX : RX I 0 L R H) (hr : 0 ≤ r ∧ r < nR L) (hn : 0 ≤ n) (hn2 : inR n) (hy : 0 ≤ y ∧ y ≤ 2) (h72 : gi I 74 72 = -1) (h73 : gi I 74 73 = -1)
    (hQ : ∀ I' J' a b, scrS I I' → scrJ J J' → refA L (solR L R H r n) a → refB (solR L R H r n) b → Q (some (vI (if y = 0 then cX (2 ^ (nP L).toNat) (solR L R H r n) else if y = 1 then (if cX (2 ^ (nP L).toNat) (solR L R H r n) = 0 then 0 else (a : Int)) else (b : Int)))) (mem (rv0 P) I' J')) : WPm k LAY m_X12_wax [vR (some 74), vI r, vI n, vI y] (mem (rv0 P) I J) Q := by
  have hL := hX.1.2.2.2.2.1
  have hH := hX.2.2.1
  have hR6 := hL.2.2.1
  have hP := hL.2.1
  have hw := hH.2.2 r hr.1 hr.2
  have hp14 := pow_le14 (p := (nP L).toNat) (by omega)
  have hpos := Nat.two_pow_pos (nP L).toNat
  have tb := twN_in (R := R) (H := H) hL r
  -- all sets, one behind the other
  have lp95 : ∀ (I' : Nat → Nat → Int32) (J' : Nat → Nat → Int64), scrS I I' → scrJ J J' → (∀ p, p < (nP L).toNat → gi I' 130 p = twN L R H r p) → ∀ (d s a b : Nat) (x4 x5 x6 x7 : Int), s + d = 2 ^ (nP L).toNat → x4 = cX s (solR L R H r n) → x5 = a → x6 = b → x7 = s → refA L (fun S => S < s ∧ solR L R H r n S) a → refB (fun S => S < s ∧ solR L R H r n S) b → WP k LAY m_X12_wax 95 [(0, vR (some 74)), (2, vI n), (3, vI y), (4, vI x4), (5, vI x5), (6, vI x6), (7, vI x7)] [] (mem (P, some 5, some 22) I' J') Q := by
    intro I' J' hs hj h130 d
    have hX' := hX.fr0 hs
    have esh : shl32 1 (gi I' 77 (gi I' 74 13).toNat) = ((2 ^ (nP L).toNat : Nat) : Int) := by rw [rx_p hX', shl_p ⟨by omega, by omega⟩]
    induction d with
    | zero =>
      intro s a b x4 x5 x6 x7 hsd h4 h5 h6 h7 hA hB
      have es : s = 2 ^ (nP L).toNat := by omega
      subst es
      subst h4; subst h5; subst h6; subst h7
      have he : ∀ S, (S < 2 ^ (nP L).toNat ∧ solR L R H r n S) ↔ solR L R H r n S := fun S => ⟨fun t => t.2, fun t => ⟨t.1, t⟩⟩
      have ef : (fun S => S < 2 ^ (nP L).toNat ∧ solR L R H r n S) = solR L R H r n := funext fun S => propext (he S)
      rw [ef] at hA hB
      have hq := hQ I' J' a b hs hj hA hB
      have cb := cX_bd (2 ^ (nP L).toNat) (solR L R H r n)
      refine B_X12_wax_95 (by omega) ?_
      rw [esh]
      refine ⟨rx_b hX', ⟨by omega, by omega⟩, fun _ => ⟨⟨by omega, by omega⟩, fun q => ⟨fun q2 => ?_, fun q2 => ⟨⟨by omega, by omega⟩, fun q3 => ?_, fun q3 => ?_⟩⟩, fun q => ?_⟩, fun q => absurd q (by omega)⟩
      · rw [if_neg q, if_neg q2] at hq
        exact hq
      · rw [if_neg q, if_pos q2, if_neg q3] at hq
        exact hq
      · rw [if_neg q, if_pos q2, if_pos q3] at hq
        exact hq
      · rw [if_pos q] at hq
        exact hq
    | succ d ih =>
      intro s a b x4 x5 x6 x7 hsd h4 h5 h6 h7 hA hB
      subst h4; subst h5; subst h6; subst h7
      have hs14 : s < 16384 := by omega
      have hs2 : s < 2 ^ (nP L).toNat := by omega
      have ms := mS_bd (n := (nP L).toNat) (by omega) tb s
      have e1 : ((s : Int) + 1) = ((s + 1 : Nat) : Int) := rfl
      have ecx : cX (s + 1) (solR L R H r n) = cX s (solR L R H r n) + @ite Int (solR L R H r n s) (Classical.propDecidable _) 1 0 := rfl
      have skip : ¬ solR L R H r n s → WP k LAY m_X12_wax 95 [(0, vR (some 74)), (2, vI n), (3, vI y), (4, vI (cX s (solR L R H r n))), (5, vI (a : Int)), (6, vI (b : Int)), (7, vI ((s : Int) + 1))] [] (mem (P, some 5, some 22) I' J') Q := by
        intro hno
        have ef : (fun S => S < s ∧ solR L R H r n S) = fun S => S < s + 1 ∧ solR L R H r n S := funext fun S => propext ⟨fun t => ⟨by omega, t.2⟩, fun t => ⟨by
          have h1 := t.1
          by_cases e : S = s
          · rw [e] at t
            exact absurd t.2 hno
          · omega, t.2⟩⟩
        rw [ef] at hA hB
        refine ih (s + 1) a b _ _ _ _ (by omega) ?_ rfl rfl e1 hA hB
        rw [ecx, if_neg hno]
        omega
      have take : solR L R H r n s → WP k LAY m_X12_wax 95 [(0, vR (some 74)), (2, vI n), (3, vI y), (4, vI (cX s (solR L R H r n) + 1)), (5, vI (and32 (a : Int) (s : Int))), (6, vI (or32 (b : Int) (s : Int))), (7, vI ((s : Int) + 1))] [] (mem (P, some 5, some 22) I' J') Q := by
        intro hyes
        have he : ∀ S, (S < s + 1 ∧ solR L R H r n S) ↔ (S < s ∧ solR L R H r n S) ∨ S = s := fun S => ⟨fun t => by
          by_cases e : S = s
          · exact Or.inr e
          · exact Or.inl ⟨by have := t.1; omega, t.2⟩, fun t => t.elim (fun u => ⟨by have := u.1; omega, u.2⟩) (fun u => by rw [u]; exact ⟨Nat.lt_succ_self s, hyes⟩)⟩
        have ha := hA.1
        have hb := hB.1
        refine ih (s + 1) (a &&& s) (b ||| s) _ _ _ _ (by omega) ?_ (and32_nat (by omega) (by omega)) (or32_nat (by omega) (by omega)) e1 (hA.add he) (hB.add hs14 he)
        rw [ecx, if_pos hyes]
      -- the pages of a set
      have lp120 : ∀ (d p : Nat) (all can x : Int), p + d = (nP L).toNat → x = p → (can = 1 ∧ all = mS p (twN L R H r) s ∧ (∀ q, q < p → s.testBit q = true → dif (ndN L q) s = 0) ∨ can = 0 ∧ ¬ shut (ndN L) 0 (nP L).toNat s) → WP k LAY m_X12_wax 120 [(0, vR (some 74)), (2, vI n), (3, vI y), (4, vI (cX s (solR L R H r n))), (5, vI (a : Int)), (6, vI (b : Int)), (7, vI (s : Int)), (8, vI all), (9, vI can), (10, vI x)] [] (mem (P, some 5, some 22) I' J') Q := by
        intro d2
        induction d2 with
        | zero =>
          intro p all can x hpd hx hcan
          have ep : p = (nP L).toNat := by omega
          subst ep
          refine B_X12_wax_120 (by omega) ?_
          rw [rx_p hX']
          refine ⟨rx_b hX', ⟨by omega, by omega⟩, fun _ => ⟨⟨by omega, by omega⟩, fun q => skip (fun hf => ?_), fun q => ?_⟩, fun q => absurd q (by omega)⟩
          · rcases hcan with ⟨c1, -⟩ | ⟨-, c2⟩
            · omega
            · exact c2 hf.2.1
          · obtain ⟨c1, c2, c3⟩ := hcan.resolve_right (fun t => q t.1)
            subst c2
            have hsh : shut (ndN L) 0 (nP L).toNat s := fun p hp hb => ⟨Nat.zero_testBit p, by rw [dif_0]; exact c3 p hp hb⟩
            exact ⟨⟨by omega, by omega⟩, hn2, fun q2 => take ⟨hs2, hsh, q2⟩, fun q2 => skip (fun hf => q2 hf.2.2)⟩
        | succ d2 ih2 =>
          intro p all can x hpd hx hcan
          subst hx
          have h1 := nd_lt hL (q := p) (by omega)
          have h2 : ndN L p < 16384 := Nat.lt_of_lt_of_le h1.2 (pow_le14 (by omega))
          have e4 : gi I' 81 ((14 * (gi I' 74 13)) + (p : Int)).toNat = ((ndN L p : Nat) : Int) := by
            rw [rx_L4 hX' ⟨by omega, by omega⟩]
            unfold ndN
            omega
          have e130 : gi I' 130 ((p : Int)).toNat = twN L R H r p := h130 p (by omega)
          refine B_X12_wax_120 (by omega) ?_
          rw [rx_p hX', e4, e130, has_iff (by omega) (by omega), andn32_nat (by omega) (by omega)]
          have hms : mS (p + 1) (twN L R H r) s = mS p (twN L R H r) s + (if s.testBit p = true then twN L R H r p else 0) := rfl
          have hb := rx_b hX'
          have hno : can = 0 → ¬ solR L R H r n s := fun q hf => (hcan.resolve_left (fun t => by omega)).2 hf.2.1
          refine ⟨hb, ⟨by omega, by omega⟩, fun q => absurd q (by omega), fun _ => ⟨⟨by omega, by omega⟩, fun q => ⟨fun _ => skip (hno q), fun q2 => absurd q q2⟩, fun q => ?_⟩⟩
          obtain ⟨c1, c2, c3⟩ := hcan.resolve_right (fun t => q t.1)
          refine ⟨fun q2 => ⟨⟨by omega, by omega⟩, ⟨by omega, by omega⟩, fun q3 => ?_, fun q3 => ?_⟩, fun q2 => ?_⟩
          · refine ih2 (p + 1) _ _ _ (by omega) rfl (Or.inr ⟨rfl, fun hsh => q3 ?_⟩)
            have := (hsh p (by omega) q2).2
            rw [dif_0] at this
            rw [this]
            rfl
          · refine ih2 (p + 1) _ _ _ (by omega) rfl (Or.inl ⟨rfl, ?_, fun i hi hbi => ?_⟩)
            · rw [hms, if_pos q2, c2]
            · by_cases e : i = p
              · rw [e]
                exact Int.natCast_eq_zero.mp q3
              · exact c3 i (by omega) hbi
          · refine ih2 (p + 1) _ _ _ (by omega) rfl (Or.inl ⟨c1, ?_, fun i hi hbi => ?_⟩)
            · rw [hms, if_neg q2, c2]
              omega
            · by_cases e : i = p
              · rw [e] at hbi
                exact absurd hbi q2
              · exact c3 i (by omega) hbi
      refine B_X12_wax_95 (by omega) ?_
      rw [esh]
      exact ⟨rx_b hX', ⟨by omega, by omega⟩, fun q => absurd q (by omega), fun _ => lp120 (nP L).toNat 0 0 1 0 (Nat.zero_add _) rfl (Or.inl ⟨rfl, rfl, fun i hi => absurd hi (Nat.not_lt_zero _)⟩)⟩
  -- how long each page takes him who knows none
  have hX0 : RX (si I 74 72 0) 0 L R H := hX.fr ⟨⟨fun c a b => funext fun k => by rw [si_at, if_neg (by omega)], gi_idx _ _ _ (by decide)⟩, fun c a b => funext fun k => by rw [si_at, if_neg (by omega)]⟩
  have z72 : gi (si I 74 72 0) 74 72 = 0 := gi_same _ _ _ (by decide)
  have z73 : gi (si I 74 72 0) 74 73 = -1 := (gi_idx _ _ _ (by decide)).trans h73
  have zb : ∀ c k, ¬ (c = 74 ∧ k = 72) → si I 74 72 0 c k = I c k := fun c k h => by rw [si_at, if_neg h]
  generalize hI0 : si I 74 72 0 = I0 at hX0 z72 z73 zb
  have back : ∀ I' : Nat → Nat → Int32, scrS I0 I' → scrS I (si I' 74 72 (-1)) := by
    intro I' hs c k a1 a2
    rw [si_at]
    by_cases e : c = 74 ∧ k = 72
    · rw [if_pos e, e.1, e.2, ← h72]
      exact iI_of _
    · rw [if_neg e, hs c k a1 a2, zb c k e]
  have lp31 : ∀ (d m : Nat) (x : Int) (I' : Nat → Nat → Int32) (J' : Nat → Nat → Int64), m + d = (nP L).toNat → x = m → scrS I0 I' → scrJ J J' → (∀ p, p < m → gi I' 130 p = twN L R H r p) → WP k LAY m_X12_wax 31 [(0, vR (some 74)), (1, vI r), (2, vI n), (3, vI y), (4, vI x)] [] (mem (P, some 5, some 22) I' J') Q := by
    intro d
    induction d with
    | zero =>
      intro m x I' J' hm hx hs hj h130
      have hX' := hX0.fr0 hs
      refine B_X12_wax_31 (by omega) ?_
      rw [rx_p hX', shl_p ⟨by omega, by omega⟩]
      refine ⟨rx_b hX', ⟨by omega, by omega⟩, fun _ => lp95 _ J' (back I' hs) hj (fun p hp => ?_) (2 ^ (nP L).toNat) 0 (2 ^ (nP L).toNat - 1) 0 _ _ _ _ (Nat.zero_add _) rfl (by omega) rfl rfl ⟨by omega, fun i => ?_⟩ ⟨by decide, fun i => ?_⟩, fun q => absurd q (by omega)⟩
      · rw [gi_cell _ _ _ _ (by decide)]
        exact h130 p (by omega)
      · rw [Nat.testBit_two_pow_sub_one]
        exact ⟨fun t => ⟨of_decide_eq_true t, fun S u => absurd u.1 (Nat.not_lt_zero _)⟩, fun t => decide_eq_true t.1⟩
      · rw [Nat.zero_testBit]
        exact ⟨fun t => Bool.noConfusion t, fun t => by
          obtain ⟨S, t, -⟩ := t
          exact absurd t.1 (Nat.not_lt_zero _)⟩
    | succ d ih =>
      intro m x I' J' hm hx hs hj h130
      subst hx
      have hX' := hX0.fr0 hs
      have y72 : gi I' 74 72 = 0 := (hs.gv 74 72 (by decide) (by decide)).trans z72
      have y73 : gi I' 74 73 = -1 := (hs.gv 74 73 (by decide) (by decide)).trans z73
      refine B_X12_wax_31 (by omega) ?_
      rw [rx_p hX']
      refine ⟨rx_b hX', ⟨by omega, by omega⟩, fun q => absurd q (by omega), fun _ => ?_⟩
      refine S_X12_long (kk := 0) (by omega) hX' hr ⟨by omega, by omega⟩ ⟨by decide, Or.inr ⟨y72, by decide⟩⟩ (fun I4 J4 hF4 hJ4 => ⟨_, _, _, rfl, rfl, ⟨by omega, by omega⟩, ?_⟩)
      have tm := tb m (by omega)
      have ev : takR L R H (gi I' 74 73) r m 0 = twN L R H r m := by
        unfold takR
        rw [dr_no y73 hw.1.1]
      rw [ev, Int.toNat_natCast]
      have hsi : scrS I4 (si I4 130 m (twN L R H r m)) := fun c k a b => by rw [si_at, if_neg (fun t => by rw [t.1] at a; exact absurd a (by decide))]
      refine ih (m + 1) _ _ J4 (by omega) rfl ((hs.tr (SA_scr hF4)).tr hsi) (hj.tr (J1_scr hJ4)) (fun p hp => ?_)
      by_cases e : p = m
      · rw [e]
        exact gi_same _ _ _ ⟨by omega, by omega⟩
      · rw [gi_idx _ _ _ e, hF4.gv 130 p (by decide) (by simp)]
        exact h130 p (by omega)
  refine WPm.of k_X12_wax.1 (Nat.le_of_ble_eq_true rfl) (B_X12_wax_0 (by omega) ?_)
  rw [rx_n hX, hI0]
  exact ⟨rx_b hX, ⟨by omega, by omega⟩, fun q => absurd hr q, fun _ => ⟨hn2, fun q => absurd hn (by omega), fun _ => ⟨⟨by omega, by omega⟩, fun _ => lp31 (nP L).toNat 0 0 I0 J (Nat.zero_add _) rfl (scrS.rf _) (scrJ.rf _) (fun p hp => absurd hp (Nat.not_lt_zero _)), fun q => absurd hy q⟩⟩⟩
def waxS (I I' : Nat → Nat → Int32) : Prop := ∀ c k : Nat, scrC c = false → scrF c k = false → c ≠ 52 → c ≠ 53 → ¬ (c = 51 ∧ (k = 7 ∨ k = 8 ∨ k = 9 ∨ k = 14 ∨ k = 15 ∨ k = 16)) → I' c k = I c k
def V_wa (I : Nat → Nat → Int32) : Prop := gi I 51 14 ≤ gi I 4 6 ∧ (gi I 51 14 = gi I 4 6 → (0 ≤ gi I 51 15 ∧ gi I 51 15 < nR (LC I)) → 0 ≤ gi I 51 16 → wSt (2 ^ (nP (LC I)).toNat) I (solR (LC I) (RC I) (HC I) (gi I 51 15) (gi I 51 16)))
theorem Fr.waxs {I I' : Nat → Nat → Int32} (h : Fr [37, 38, 52, 53] FWo I I') : waxS I I' := fun c k a b c2 c3 n => h c k (fun t => by
  simp at t
  rcases t with rfl | rfl | rfl | rfl
  · exact absurd a (by decide)
  · exact absurd a (by decide)
  · exact c2 rfl
  · exact c3 rfl) (fun t => by
  simp at t
  omega)
theorem bits_eq {a b : Nat} (h : ∀ i, a.testBit i = true ↔ b.testBit i = true) : a = b := Nat.eq_of_testBit_eq (fun i => Bool.eq_iff_iff.mpr (h i))
theorem step_wax {V V' : Cpl} (hS : Vsc V V') (hA : ∀ I J, V I J → VA I) (hM : ∀ I J, V I J → V_wa I) (hput : ∀ I J I' J', V I J → waxS I I' → V_wa I' → scrJ J J' → V' I' J') (x n y : Int) (hx : inR x) (hn : inR n) (hy : inR y) : Step V V' m_X11_wax m_X12_wax [x, n, y] := by
  by_cases hv : 0 ≤ n ∧ (0 ≤ y ∧ y ≤ 2)
  · intro P I J hV
    obtain ⟨hC, hR, h72, h73⟩ := hA I J hV
    obtain ⟨st0, st1⟩ := hM I J hV
    have hL := hC.1.2.2.2.1
    have e2 : gi I 6 (2 : Int).toNat = nR (LC I) := cx_n hC
    refine WPm.of k_X11_wax.1 (Nat.le_of_ble_eq_true rfl) (B_X11_wax_0 (by omega) ?_)
    rw [e2]
    refine ⟨hx, fun q => Step.put (by decide) rfl ?_, fun q => ⟨hn, fun q2 => absurd q2 (by omega), fun _ => ⟨hy, fun q3 => absurd q3 (by omega), fun _ => ⟨fun _ => ?_, fun q3 => absurd hv.2.2 q3⟩⟩⟩⟩
    · refine WPm.of k_X12_wax.1 (Nat.le_of_ble_eq_true rfl) (B_X12_wax_0 (by omega) ?_)
      rw [rx_n hR]
      exact ⟨rx_b hR, hx, fun _ => ⟨rfl, Cpl2.here (hS I J I J hV (scrS.rf I) (scrJ.rf J))⟩, fun w => absurd w q⟩
    · refine S_X8_findSets (by omega) hC q hv.1 hn (fun w1 w2 w3 => ?_) (fun I1 hF s1 s2 s3 hb => ⟨_, _, rfl, rfl, ?_⟩)
      · have := st1 w1 (by rw [w2]; exact q) (by rw [w3]; exact hv.1)
        rw [w2, w3] at this
        exact this
      · have hC1 := hC.fr (hF.cx (by decide) (by decide))
        have hR1 : RX I1 0 (LC I) (RC I) (HC I) := hR.fr (hF.rx (by decide) (by decide))
        have ref : ∀ z : Int, z = (if y = 0 then gi I1 51 7 else if y = 1 then (if gi I1 51 7 = 0 then 0 else gi I1 51 8) else gi I1 51 9) → WPm 900 LAY m_X12_wax (vR (some 74) :: [x, n, y].map vI) (mem (rv0 P) I1 J) (fun r2 M2 => r2 = some (vI z) ∧ Cpl2 V' M2) := by
          intro z hz
          refine S_X12_waxF (by omega) hR1 q hv.1 hn hv.2 ((hF.gv 74 72 (by decide) (by decide)).trans h72) ((hF.gv 74 73 (by decide) (by decide)).trans h73) (fun I2 J2 a b hs hj hra hrb => ?_)
          refine ⟨congrArg (fun v : Int => some (vI v)) ?_, Cpl2.here (hput I J I2 J2 hV (fun c k a1 a2 a3 a4 a5 => (hs c k a1 a2).trans (hF.waxs c k a1 a2 a3 a4 a5)) ?_ hj)⟩
          · obtain ⟨c1, c2, b', b1, b2, b3⟩ := hb
            rw [hz, c1]
            by_cases z0 : y = 0
            · rw [if_pos z0, if_pos z0]
            · rw [if_neg z0, if_neg z0]
              by_cases z1 : y = 1
              · rw [if_pos z1, if_pos z1]
                by_cases zc : cX (2 ^ (nP (LC I)).toNat) (solR (LC I) (RC I) (HC I) x n) = 0
                · rw [if_pos zc, if_pos zc]
                · rw [if_neg zc, if_neg zc]
                  rcases c2 with ⟨n1, -⟩ | ⟨⟨T, hT⟩, a', a1, a2, a3⟩
                  · exact absurd (cX_zero (fun S _ => n1 S)) zc
                  · rw [a1]
                    have : a = a' := bits_eq (fun i => by
                      rw [hra.2, a3]
                      exact ⟨fun t => t.2, fun t => ⟨bit_lt hT.1 (t T hT), t⟩⟩)
                    rw [this]
              · rw [if_neg z1, if_neg z1, b1]
                have : b = b' := bits_eq (fun i => by rw [hrb.2, b3])
                rw [this]
          · have g : ∀ c k, scrC c = false → scrF c k = false → gi I2 c k = gi I1 c k := fun c k a1 a2 => hs.gv c k a1 a2
            have hC2 := hC1.fr hs.cx
            have f51 : ∀ k, gi I2 51 k = gi I1 51 k := fun k => g 51 k (by decide) (by simp [scrF])
            have f46 : gi I2 4 6 = gi I 4 6 := (g 4 6 (by decide) (by decide)).trans (hF.gv 4 6 (by decide) (by decide))
            unfold V_wa wSt
            rw [show LC I2 = LC I from hC2.1.1, show RC I2 = RC I from hC2.1.2.1, show HC I2 = HC I from hC2.2.1, f51, f51, f51, f51, f51, f51, f46, s1, s2, s3]
            exact ⟨Int.le_refl _, fun _ _ _ => hb⟩
        refine ⟨fun w => Step.put (gi_in _ _ _) rfl (ref _ ?_), fun w => ⟨fun w2 => ⟨fun w3 => Step.put (gi_in _ _ _) rfl (ref _ ?_), fun w3 => Step.put (by decide) rfl (ref _ ?_)⟩, fun w2 => Step.put (gi_in _ _ _) rfl (ref _ ?_)⟩⟩
        · rw [if_pos w]
        · rw [if_neg w, if_pos w2, if_neg w3]
        · rw [if_neg w, if_pos w2, if_pos w3]
        · rw [if_neg w, if_neg w2]
  · refine Step.rd hS (fun I J hV => ⟨-1, by decide, fun P Q hQ => ?_, fun P I1 J1 h1 j1 Q hQ => ?_⟩)
    · have hq := hQ I (scrS.rf I) J (scrJ.rf J)
      exact WPm.of k_X11_wax.1 (Nat.le_of_ble_eq_true rfl) (B_X11_wax_0 (by omega) ⟨hx, fun _ => hq, fun _ => ⟨hn, fun _ => hq, fun a => ⟨hy, fun _ => hq, fun c => ⟨fun d => absurd ⟨by omega, by omega, by omega⟩ hv, fun _ => hq⟩⟩⟩⟩)
    · have hq := hQ I1 (scrS.rf I1) J1 (scrJ.rf J1)
      have hR1 := (hA I J hV).2.1.fr0 h1
      exact WPm.of k_X12_wax.1 (Nat.le_of_ble_eq_true rfl) (B_X12_wax_0 (by omega) ⟨rx_b hR1, hx, fun _ => hq, fun _ => ⟨hn, fun _ => hq, fun a => ⟨hy, fun b => absurd ⟨by omega, b⟩ hv, fun _ => hq⟩⟩⟩)
end WAXR

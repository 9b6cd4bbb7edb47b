section FORE
/-! ===== the class's evening for all ===== -/
def ltN (L : Lb) (R : Rl) (H : Hl) (cold t : Int) : Int := lig L R H t (dr L cold t)
def coN (L : Lb) (R : Rl) (H : Hl) (cold r : Int) : List (Int × Int) := cour L R H r (dr L cold (H 1 r)) (sit L H (H 1 r)) True
def stN (L : Lb) (R : Rl) (H : Hl) (cold r : Int) : Int := stp (ltN L R H cold (H 1 r)) (coN L R H cold r)
def lsN (L : Lb) (R : Rl) (H : Hl) (cold t : Int) : Nat → Int
  | 0 => 0
  | n + 1 => if H 1 (n : Int) = t then max (lsN L R H cold t n) (stN L R H cold n) else lsN L R H cold t n
abbrev EvX (I : Nat → Nat → Int32) (L : Lb) (R : Rl) (H : Hl) (cold r : Int) : Prop := EvR I r (ltN L R H cold (H 1 r)) (coN L R H cold r) (donP L H r True) (H 4 r) (H 5 r)
def EvA (I : Nat → Nat → Int32) (L : Lb) (R : Rl) (H : Hl) (cold : Int) : Prop := (∀ t, 0 ≤ t → t < nT L → gi I 43 (t).toNat = ltN L R H cold t ∧ gi I 44 (t).toNat = lsN L R H cold t (nR L).toNat) ∧ ∀ r, 0 ≤ r → r < nR L → EvX I L R H cold r
theorem dr_bd {L : Lb} (hL : WfL L) {cold t : Int} (ht : 0 ≤ t ∧ t < nT L) : 0 ≤ dr L cold t ∧ dr L cold t ≤ 12 := by
  have := hL.2.2.2.2.2.2.2.2.2 t ht.1 ht.2
  unfold dr
  split <;> omega
theorem coN_rng {L : Lb} {R : Rl} {H : Hl} (hL : WfL L) (hH : WfH L H) {cold r : Int} (hr : 0 ≤ r ∧ r < nR L) : (coN L R H cold r).length ≤ 8 ∧ ∀ k, k < (coN L R H cold r).length → (0 ≤ cp (coN L R H cold r) k ∧ cp (coN L R H cold r) k < nP L) ∧ 0 ≤ ce (coN L R H cold r) k ∧ ce (coN L R H cold r) k ≤ 4000 := cour_rng hL hH hr True
theorem stN_bd {L : Lb} {R : Rl} {H : Hl} (hL : WfL L) (hH : WfH L H) {cold r : Int} (hr : 0 ≤ r ∧ r < nR L) : 0 ≤ stN L R H cold r ∧ stN L R H cold r ≤ ltN L R H cold (H 1 r) := by
  have h1 := lig_bd (R := R) H hL (H 1 r) (dr L cold (H 1 r))
  have h2 := (coN_rng (R := R) hL hH (cold := cold) hr).2 ((coN L R H cold r).length - 1)
  unfold stN stp ltN
  split
  · exact ⟨Int.le_refl _, h1.1⟩
  · have := h2 (by omega)
    omega
theorem lsN_bd {L : Lb} {R : Rl} {H : Hl} (hL : WfL L) (hH : WfH L H) {cold t : Int} : ∀ n : Nat, n ≤ (nR L).toNat → 0 ≤ lsN L R H cold t n ∧ lsN L R H cold t n ≤ ltN L R H cold t
  | 0, _ => ⟨Int.le_refl _, (lig_bd (R := R) H hL t (dr L cold t)).1⟩
  | n + 1, hn => by
    have h1 := lsN_bd hL hH (R := R) (cold := cold) (t := t) n (by omega)
    have h2 := stN_bd (R := R) hL hH (cold := cold) (r := (n : Int)) ⟨by omega, by omega⟩
    unfold lsN
    split
    · rename_i e
      rw [e] at h2
      omega
    · exact h1
theorem EvR.mv {I I' : Nat → Nat → Int32} {r light dn lf it : Int} {C : List (Int × Int)} (h8 : C.length ≤ 8) (hr : 0 ≤ r) (h : EvR I r light C dn lf it) (h1 : ∀ c, 45 ≤ c ∧ c ≤ 49 → gi I' c (r).toNat = gi I c (r).toNat) (h2 : ∀ k : Nat, k < 8 → gi I' 50 ((r * 8) + k).toNat = gi I 50 ((r * 8) + k).toNat) : EvR I' r light C dn lf it := by
  obtain ⟨a1, a2, a3, a4, a5, a6⟩ := h
  have := rdn_le light C
  exact ⟨(h1 45 (by decide)).trans a1, (h1 46 (by decide)).trans a2, (h1 47 (by decide)).trans a3, (h1 48 (by decide)).trans a4, (h1 49 (by decide)).trans a5, fun k hk => (h2 k (by omega)).trans (a6 k hk)⟩
abbrev EVc : List Nat := [37, 38, 40, 41, 43, 44, 45, 46, 47, 48, 49, 50]
theorem S_X1_foresee {k : Nat} {P : Option Nat} {I : Nat → Nat → Int32} {J : Nat → Nat → Int64} {Q : Option AV → Mem → Prop} {L : Lb} {R : Rl} {H : Hl} {cold : Int} (hk : 8 ≤ k) (hX : CX I L R H) (hcd : inR cold) (hQ : ∀ I', Fr EVc SC I I' → EvA I' L R H cold → Q none (mem (rv0 P) I' J)) : WPm k LAY m_X1_foresee [vR (some 42), vI cold] (mem (rv0 P) I J) Q := by
  have hL := hX.1.2.2.2.1
  have hH := hX.2.2
  have hR6 := hL.2.2.1
  have hT := hL.2.2.2.1
  refine WPm.of k_X1_foresee.1 (Nat.le_of_ble_eq_true rfl) (B_X1_foresee_0 (by omega) ?_)
  have second : ∀ (d n : Nat) (x : Int) (I2 : Nat → Nat → Int32), n + d = (nR L).toNat → x = n → Fr EVc SC I I2 → (∀ t, 0 ≤ t → t < nT L → gi I2 43 (t).toNat = ltN L R H cold t ∧ gi I2 44 (t).toNat = lsN L R H cold t n) → (∀ r : Nat, r < n → EvX I2 L R H cold r) → WP k LAY m_X1_foresee 53 [(0, vR (some 42)), (1, vI cold), (2, vI x)] [] (mem (rv0 P) I2 J) Q := by
    intro d
    induction d with
    | zero =>
      intro n x I2 hn hx hF h1 h2
      have hX2 := hX.fr (hF.cx (by decide) (by decide))
      refine B_X1_foresee_53 (by omega) ?_
      rw [cx_n hX2]
      refine ⟨⟨by omega, by omega⟩, fun _ => hQ I2 hF ⟨fun t t0 t1 => ?_, fun r r0 r1 => ?_⟩, fun w => absurd w (by omega)⟩
      · rw [show (nR L).toNat = n by omega]
        exact h1 t t0 t1
      · have := h2 r.toNat (by omega)
        rwa [Int.toNat_of_nonneg r0] at this
    | succ d ih =>
      intro n x I2 hn hx hF h1 h2
      have hX2 := hX.fr (hF.cx (by decide) (by decide))
      subst hx
      have hr : (0 : Int) ≤ n ∧ (n : Int) < nR L := ⟨by omega, by omega⟩
      have ht := (hH.2.2 n hr.1 hr.2).1
      have hs := sit_bd H hL (H 1 n)
      have hdd := dr_bd (cold := cold) hL ht
      obtain ⟨c8, crg⟩ := coN_rng (R := R) hL hH (cold := cold) hr
      have hlt := lig_bd (R := R) H hL (H 1 n) (dr L cold (H 1 n))
      obtain ⟨t43, t44⟩ := h1 _ ht.1 ht.2
      have hsn := stN_bd (R := R) hL hH (cold := cold) hr
      have hln := lsN_bd (R := R) hL hH (cold := cold) (t := H 1 n) n (by omega)
      obtain ⟨-, hd5⟩ := left_rng (hH.2.2 n hr.1 hr.2)
      have hdn : 0 ≤ donP L H n True ∧ donP L H n True ≤ 499 := by
        unfold donP
        split <;> omega
      -- what each of the two branches does
      have go : ∀ I3 : Nat → Nat → Int32, Fr [37, 38, 40, 41] SC I2 I3 → gi I3 39 4 = (coN L R H cold n).length → gi I3 39 5 = donP L H n True → crsAt (gi I3 40) (gi I3 41) 0 (coN L R H cold n) → WPm (k - 1) LAY m_X1_follow [vR (some 42), vI (n : Int), vI (gi I3 43 (H 1 n).toNat)] (mem (P, some 5, some 22) I3 J) (retV (fun I12 J13 => (0 ≤ (n : Int) ∧ (n : Int) < 6) ∧ (WP k LAY m_X1_foresee 53 [(0, vR (some 42)), (1, vI cold), (2, vI ((n : Int) + 1))] [] (mem (P, some 5, some 22) (si I12 44 (H 1 n).toNat (max (gi I12 44 (H 1 n).toNat) (gi I12 47 ((n : Int)).toNat))) J13) Q)) (P, some 5, some 22)) := by
        intro I3 f3 g4 g5 gc
        have hX3 := hX2.fr (f3.cx (by decide) (by decide))
        rw [f3.gv 43 _ (by decide) (by simp), t43]
        refine S_X1_follow (by omega) hX3 hr hlt g4 g5 hdn c8 crg gc (fun I4 f4 j1 j2 ev => ⟨_, _, rfl, rfl, ⟨by omega, by omega⟩, ?_⟩)
        have u44 : gi I4 44 (H 1 n).toNat = lsN L R H cold (H 1 n) n := by
          rw [f4.gv 44 _ (by decide) (by simp), f3.gv 44 _ (by decide) (by simp)]
          exact t44
        have u47 : gi I4 47 ((n : Int)).toNat = stN L R H cold n := ev.2.2.1
        rw [u44, u47]
        have hF4 : Fr EVc SC I (si I4 44 (H 1 n).toNat (max (lsN L R H cold (H 1 n) n) (stN L R H cold n))) := ((hF.tr (f3.mono (by simp) (by simp))).tr (f4.mono (by simp) (by simp))).up _ _ _ (Or.inl (by decide))
        refine ih (n + 1) _ _ (by omega) (by omega) hF4 (fun t t0 t1 => ⟨?_, ?_⟩) (fun r hrn => ?_)
        · rw [gi_cell _ _ _ _ (by decide), f4.gv 43 _ (by decide) (by simp), f3.gv 43 _ (by decide) (by simp)]
          exact (h1 t t0 t1).1
        · by_cases e : H 1 n = t
          · subst e
            have hlt2 : 0 ≤ ltN L R H cold (H 1 n) ∧ ltN L R H cold (H 1 n) ≤ 3000 := hlt
            rw [gi_same _ _ _ ⟨by omega, by omega⟩, lsN, if_pos rfl]
          · rw [gi_idx _ _ _ (by omega), f4.gv 44 _ (by decide) (by simp), f3.gv 44 _ (by decide) (by simp), lsN, if_neg e]
            exact (h1 t t0 t1).2
        · by_cases e : r = n
          · subst e
            exact ev.mv c8 (by omega) (fun c hc => gi_cell _ _ _ _ (by omega)) (fun k hk => gi_cell _ _ _ _ (by decide))
          · refine EvR.mv (coN_rng (R := R) hL hH (cold := cold) (r := (r : Int)) ⟨by omega, by omega⟩).1 (by omega) (h2 r (by omega)) (fun c hc => ?_) (fun k hk => ?_)
            · rw [gi_cell _ _ _ _ (by omega), j1 c _ hc (by omega)]
              exact f3.gv c _ (by simp; omega) (by simp; omega)
            · rw [gi_cell _ _ _ _ (by decide), j2 _ (by omega)]
              exact f3.gv 50 _ (by decide) (by simp)
      refine B_X1_foresee_53 (by omega) ?_
      rw [cx_n hX2, cx_1 hX2 hr, cx_L7 hX2 ht]
      refine ⟨⟨by omega, by omega⟩, fun w => absurd w (by omega), fun _ => ⟨⟨by omega, by omega⟩, ⟨by omega, by omega⟩, hcd, fun q => ?_, fun q => ?_⟩⟩
      · have ed : L 7 (H 1 n) + 0 = dr L cold (H 1 n) := by unfold dr; rw [if_neg q]
        rw [ed]
        exact S_X2_sit (by omega) hX2 ⟨by omega, by omega⟩ ⟨_, _, _, rfl, rfl, S_X0_lay (g := True) (by omega) hX2 hr ⟨by omega, by omega⟩ ⟨by omega, by omega⟩ (Or.inl ⟨trivial, rfl⟩) (fun I3 f3 g4 g5 gc => ⟨_, _, rfl, rfl, go I3 f3 g4 g5 gc⟩)⟩
      · have ed : L 7 (H 1 n) + 3 = dr L cold (H 1 n) := by unfold dr; rw [if_pos q]
        rw [ed]
        exact S_X2_sit (by omega) hX2 ⟨by omega, by omega⟩ ⟨_, _, _, rfl, rfl, S_X0_lay (g := True) (by omega) hX2 hr ⟨by omega, by omega⟩ ⟨by omega, by omega⟩ (Or.inl ⟨trivial, rfl⟩) (fun I3 f3 g4 g5 gc => ⟨_, _, rfl, rfl, go I3 f3 g4 g5 gc⟩)⟩
  have first : ∀ (d n : Nat) (x : Int) (I2 : Nat → Nat → Int32), n + d = (nT L).toNat → x = n → Fr EVc SC I I2 → (∀ t, 0 ≤ t → t < (n : Int) → gi I2 43 (t).toNat = ltN L R H cold t ∧ gi I2 44 (t).toNat = 0) → WP k LAY m_X1_foresee 2 [(0, vR (some 42)), (1, vI cold), (2, vI x)] [] (mem (rv0 P) I2 J) Q := by
    intro d
    induction d with
    | zero =>
      intro n x I2 hn hx hF h1
      have hX2 := hX.fr (hF.cx (by decide) (by decide))
      refine B_X1_foresee_2 (by omega) ?_
      rw [cx_t hX2]
      refine ⟨⟨by omega, by omega⟩, fun _ => second _ 0 0 I2 (Nat.zero_add _) rfl hF (fun t t0 t1 => h1 t t0 (by omega)) (fun r hr => absurd hr (Nat.not_lt_zero _)), fun w => absurd w (by omega)⟩
    | succ d ih =>
      intro n x I2 hn hx hF h1
      have hX2 := hX.fr (hF.cx (by decide) (by decide))
      subst hx
      have ht : (0 : Int) ≤ n ∧ (n : Int) < nT L := ⟨by omega, by omega⟩
      have hdd := dr_bd (cold := cold) hL ht
      have hlt := lig_bd (R := R) H hL (n : Int) (dr L cold n)
      have go : ∀ I3 : Nat → Nat → Int32, Fr [37, 38] [] I2 I3 → WP k LAY m_X1_foresee 2 [(0, vR (some 42)), (1, vI cold), (2, vI ((n : Int) + 1))] [] (mem (P, some 5, some 22) (si (si I3 43 ((n : Int)).toNat (lig L R H n (dr L cold n))) 44 ((n : Int)).toNat 0) J) Q := by
        intro I3 f3
        refine ih (n + 1) _ _ (by omega) (by omega) (((hF.tr (f3.mono (by simp) (by simp))).up _ _ _ (Or.inl (by decide))).up _ _ _ (Or.inl (by decide))) (fun t t0 t1 => ?_)
        by_cases e : t = n
        · subst e
          refine ⟨?_, gi_same _ _ _ (by decide)⟩
          rw [gi_cell _ _ _ _ (by decide)]
          exact gi_same _ _ _ ⟨by omega, by omega⟩
        · obtain ⟨a1, a2⟩ := h1 t t0 (by omega)
          refine ⟨?_, ?_⟩
          · rw [gi_cell _ _ _ _ (by decide), gi_idx _ _ _ (by omega), f3.gv 43 _ (by decide) (by simp)]
            exact a1
          · rw [gi_idx _ _ _ (by omega), gi_cell _ _ _ _ (by decide), f3.gv 44 _ (by decide) (by simp)]
            exact a2
      refine B_X1_foresee_2 (by omega) ?_
      rw [cx_t hX2, cx_L7 hX2 ht]
      refine ⟨⟨by omega, by omega⟩, fun w => absurd w (by omega), fun _ => ⟨⟨by omega, by omega⟩, hcd, fun q => ?_, fun q => ?_⟩⟩
      · have ed : L 7 (n : Int) + 0 = dr L cold n := by unfold dr; rw [if_neg q]
        rw [ed]
        exact S_X9_light (by omega) hX2 ⟨by omega, by omega⟩ ⟨by omega, by omega⟩ (fun I3 f3 => ⟨_, _, _, rfl, rfl, go I3 f3⟩)
      · have ed : L 7 (n : Int) + 3 = dr L cold n := by unfold dr; rw [if_pos q]
        rw [ed]
        exact S_X9_light (by omega) hX2 ⟨by omega, by omega⟩ ⟨by omega, by omega⟩ (fun I3 f3 => ⟨_, _, _, rfl, rfl, go I3 f3⟩)
  exact first _ 0 0 I (Nat.zero_add _) rfl (Fr.rf _ _ _) (fun t t0 t1 => absurd t0 (by omega))
end FORE

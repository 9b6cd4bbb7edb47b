section FINDM
/-! ===== how long each page takes; the class finds the most ===== -/
theorem S_X8_measure {k : Nat} {P : Option Nat} {I : Nat → Nat → Int32} {J : Nat → Nat → Int64} {Q : Option AV → Mem → Prop} {L : Lb} {R : Rl} {H : Hl} {night r d s kn : Int} (hk : 5 ≤ k) (hX : CX I L R H) (hv : vals I L night r d s kn) (hB : envB L night r d s kn 0 0)
    (hQ : ∀ I', Fr [37, 38, 52, 53] [] I I' → (∀ p : Nat, p < (nP L).toNat → gi I' 52 p = takS L R night r p d s kn) → (∀ p : Nat, p ≤ (nP L).toNat → gi I' 53 p = smi (nP L).toNat (fun q => takS L R night r q d s kn) - smi p (fun q => takS L R night r q d s kn)) → Q none (mem (rv0 P) I' J)) : WPm k LAY m_X8_measurePages [vR (some 51)] (mem (rv0 P) I J) Q := by
  have hL := hX.1.2.2.2.1
  have hP := hL.2.1
  have tb : ∀ p : Nat, p < (nP L).toNat → 1 ≤ takS L R night r p d s kn ∧ takS L R night r p d s kn ≤ 500 := fun p hp => takS_in hL ⟨by omega, by omega⟩
  have sb : ∀ p : Nat, p ≤ (nP L).toNat → 0 ≤ smi p (fun q => takS L R night r q d s kn) ∧ smi p (fun q => takS L R night r q d s kn) ≤ 7000 := fun p hp => by
    have := smi_bd (n := p) (f := fun q => takS L R night r q d s kn) (b := 500) (by decide) (fun i hi => by
      have := tb i (by omega)
      show 0 ≤ takS L R night r i d s kn ∧ takS L R night r i d s kn ≤ 500
      omega)
    omega
  refine WPm.of k_X8_measurePages.1 (Nat.le_of_ble_eq_true rfl) (B_X8_measurePages_0 (by omega) ?_)
  rw [cx_p hX]
  refine ⟨⟨by omega, by omega⟩, ?_⟩
  have loop : ∀ (j : Nat) (x : Int) (I' : Nat → Nat → Int32), j ≤ (nP L).toNat → x = (j : Int) - 1 → Fr [37, 38, 52, 53] [] I I' → vals I' L night r d s kn → (∀ p : Nat, j ≤ p → p < (nP L).toNat → gi I' 52 p = takS L R night r p d s kn) → (∀ p : Nat, j ≤ p → p ≤ (nP L).toNat → gi I' 53 p = smi (nP L).toNat (fun q => takS L R night r q d s kn) - smi p (fun q => takS L R night r q d s kn)) → WP k LAY m_X8_measurePages 24 [(0, vR (some 51)), (2, vI x)] [] (mem (P, some 5, some 22) I' J) Q := by
    intro j
    induction j with
    | zero =>
      intro x I' hj hx hF hv' h52 h53
      exact B_X8_measurePages_24 (by omega) ⟨⟨by omega, by omega⟩, fun _ => hQ I' hF (fun p hp => h52 p (Nat.zero_le _) hp) (fun p hp => h53 p (Nat.zero_le _) hp), fun q => absurd (show x < 0 by omega) q⟩
    | succ j ih =>
      intro x I' hj hx hF hv' h52 h53
      have hxj : x = (j : Int) := by omega
      subst hxj
      have hX' := hX.fr (hF.cx (by decide) (by decide))
      have tj := tb j (by omega)
      have sj := sb j (by omega)
      have sn := sb (nP L).toNat (Nat.le_refl _)
      have sj1 := sb (j + 1) (by omega)
      have es : smi (j + 1) (fun q => takS L R night r q d s kn) = smi j (fun q => takS L R night r q d s kn) + takS L R night r j d s kn := rfl
      refine B_X8_measurePages_24 (by omega) ⟨⟨by omega, by omega⟩, fun q => absurd q (by omega), fun _ => ?_⟩
      refine S_X9_pagF (by omega) hX'.1 hv' ⟨by omega, by omega⟩ hB (fun I3 hF3 => ⟨_, _, _, rfl, rfl, ⟨by omega, by omega⟩, ⟨by omega, by omega⟩, ⟨by omega, by omega⟩, ?_⟩)
      have e53 : gi I3 53 ((j : Int) + 1).toNat = smi (nP L).toNat (fun q => takS L R night r q d s kn) - smi (j + 1) (fun q => takS L R night r q d s kn) := by
        rw [show ((j : Int) + 1).toNat = j + 1 by omega, hF3.gv 53 _ (by decide) (by simp)]
        exact h53 (j + 1) (Nat.le_refl _) (by omega)
      have e52 : gi (si I3 52 ((j : Int)).toNat (takS L R night r j d s kn)) 52 ((j : Int)).toNat = takS L R night r j d s kn := gi_same _ _ _ ⟨by omega, by omega⟩
      rw [e53, e52, show (smi (nP L).toNat (fun q => takS L R night r q d s kn) - smi (j + 1) (fun q => takS L R night r q d s kn)) + takS L R night r j d s kn = smi (nP L).toNat (fun q => takS L R night r q d s kn) - smi j (fun q => takS L R night r q d s kn) by omega, Int.toNat_natCast]
      have hF4 : Fr [37, 38, 52, 53] [] I3 (si (si I3 52 j (takS L R night r j d s kn)) 53 j (smi (nP L).toNat (fun q => takS L R night r q d s kn) - smi j (fun q => takS L R night r q d s kn))) := ((Fr.rf _ _ I3).up 52 _ _ (Or.inl (by decide))).up 53 _ _ (Or.inl (by decide))
      have f52 : ∀ p : Nat, gi (si (si I3 52 j (takS L R night r j d s kn)) 53 j (smi (nP L).toNat (fun q => takS L R night r q d s kn) - smi j (fun q => takS L R night r q d s kn))) 52 p = if p = j then takS L R night r j d s kn else gi I3 52 p := fun p => by
        rw [gi_cell _ _ _ _ (by decide)]
        by_cases e : p = j
        · rw [if_pos e, e]
          exact gi_same _ _ _ ⟨by omega, by omega⟩
        · rw [if_neg e, gi_idx _ _ _ e]
      have f53 : ∀ p : Nat, gi (si (si I3 52 j (takS L R night r j d s kn)) 53 j (smi (nP L).toNat (fun q => takS L R night r q d s kn) - smi j (fun q => takS L R night r q d s kn))) 53 p = if p = j then smi (nP L).toNat (fun q => takS L R night r q d s kn) - smi j (fun q => takS L R night r q d s kn) else gi I3 53 p := fun p => by
        by_cases e : p = j
        · rw [if_pos e, e]
          exact gi_same _ _ _ ⟨by omega, by omega⟩
        · rw [if_neg e, gi_idx _ _ _ e, gi_cell _ _ _ _ (by decide)]
      have f38 : si (si I3 52 j (takS L R night r j d s kn)) 53 j (smi (nP L).toNat (fun q => takS L R night r q d s kn) - smi j (fun q => takS L R night r q d s kn)) 38 = I3 38 := funext fun c => by rw [si_at, if_neg (by omega), si_at, if_neg (by omega)]
      generalize si (si I3 52 j (takS L R night r j d s kn)) 53 j (smi (nP L).toNat (fun q => takS L R night r q d s kn) - smi j (fun q => takS L R night r q d s kn)) = I4 at hF4 f52 f53 f38 ⊢
      refine ih _ I4 (by omega) (by omega) ((hF.tr ((Fr38.co hF3).mono (by simp) (by simp))).tr hF4) (vals_fr f38 (vals_38 hF3 hv')) (fun p p0 p1 => ?_) (fun p p0 p1 => ?_)
      · rw [f52]
        by_cases e : p = j
        · rw [if_pos e, e]
        · rw [if_neg e, hF3.gv 52 _ (by decide) (by simp)]
          exact h52 p (by omega) p1
      · rw [f53]
        by_cases e : p = j
        · rw [if_pos e, e]
        · rw [if_neg e, hF3.gv 53 _ (by decide) (by simp)]
          exact h53 p (by omega) p1
  have hF0 : Fr [37, 38, 52, 53] [] I (si I 53 (nP L).toNat 0) := (Fr.rf _ _ I).up 53 _ _ (Or.inl (by decide))
  refine loop (nP L).toNat _ _ (Nat.le_refl _) (by omega) hF0 (vals_fr (funext fun c => by rw [si_at, if_neg (by omega)]) hv) (fun p a b => absurd a (by omega)) (fun p a b => ?_)
  rw [show p = (nP L).toNat by omega, gi_same _ _ _ (by decide)]
  omega
abbrev tnN (L : Lb) (R : Rl) (H : Hl) (r : Int) : Nat → Int := fun p => tnw L R H r (p : Int)
def bestM (L : Lb) (R : Rl) (H : Hl) (r n : Int) (b : Key) : Prop := (∃ S, feM L H r (tnN L R H r) (n * lno L R H r) S ∧ b = key (nP L).toNat (tnN L R H r) S) ∧ ∀ S, feM L H r (tnN L R H r) (n * lno L R H r) S → geq b (key (nP L).toNat (tnN L R H r) S)
theorem bestM.un {L : Lb} {R : Rl} {H : Hl} {r n : Int} {b b' : Key} (h : bestM L R H r n b) (h' : bestM L R H r n b') : b = b' := by
  obtain ⟨⟨S, s1, s2⟩, s3⟩ := h
  obtain ⟨⟨T, t1, t2⟩, t3⟩ := h'
  refine geq.as ?_ ?_
  · rw [t2]; exact s3 T t1
  · rw [s2]; exact t3 S s1
theorem lno_bd {L : Lb} {R : Rl} {H : Hl} (hL : WfL L) (r : Int) : 0 ≤ lno L R H r ∧ lno L R H r ≤ 3000 := lig_bd (R := R) H hL _ _
theorem tnN_in {L : Lb} {R : Rl} {H : Hl} (hL : WfL L) (r : Int) : ∀ p, p < (nP L).toNat → 0 ≤ tnN L R H r p ∧ tnN L R H r p ≤ 500 := fun p hp => by
  have := takS_in (R := R) hL (night := H 8 0) (r := r) (p := (p : Int)) (d := L 7 (H 1 r)) (s := sit L H (H 1 r)) (k := pop (kn H r)) ⟨by omega, by omega⟩
  show 0 ≤ takS L R (H 8 0) r p (L 7 (H 1 r)) (sit L H (H 1 r)) (pop (kn H r)) ∧ takS L R (H 8 0) r p (L 7 (H 1 r)) (sit L H (H 1 r)) (pop (kn H r)) ≤ 500
  omega
theorem mS_0 (n : Nat) (t : Nat → Int) : mS n t 0 = 0 := mS_hi (m := 0) (t := t) (s := 0) (by decide) (Nat.zero_le n)
theorem feM_0 {L : Lb} {R : Rl} {H : Hl} {r n : Int} (hL : WfL L) (hn : 0 ≤ n) : feM L H r (tnN L R H r) (n * lno L R H r) 0 := by
  refine ⟨Nat.two_pow_pos _, fun p hp hb => ?_, ?_⟩
  · rw [Nat.zero_testBit] at hb
    exact Bool.noConfusion hb
  · rw [mS_0]
    exact Int.mul_nonneg hn (lno_bd hL r).1
abbrev FMo : List (Nat × Nat) := [(51, 4), (51, 5), (51, 6), (51, 10), (51, 11), (51, 12), (51, 13)]
theorem S_X8_findMost {k : Nat} {P : Option Nat} {I : Nat → Nat → Int32} {J : Nat → Nat → Int64} {Q : Option AV → Mem → Prop} {L : Lb} {R : Rl} {H : Hl} {r n : Int} (hk : 20 ≤ k) (hX : CX I L R H) (hr : 0 ≤ r ∧ r < nR L) (hn : 0 ≤ n ∧ n ≤ 99) (hc : gi I 51 11 = gi I 4 6 → gi I 51 12 = r → gi I 51 13 = n → bestM L R H r n (bst I))
    (hQ : ∀ I', Fr [37, 38, 52, 53] FMo I I' → gi I' 51 11 = gi I 4 6 → gi I' 51 12 = r → gi I' 51 13 = n → bestM L R H r n (bst I') → Q none (mem (rv0 P) I' J)) : WPm k LAY m_X8_findMost [vR (some 51), vI r, vI n] (mem (rv0 P) I J) Q := by
  have hL := hX.1.2.2.2.1
  have hR6 := hL.2.2.1
  have hP := hL.2.1
  have lb := lno_bd (R := R) (H := H) hL r
  have lim0 : 0 ≤ n * lno L R H r := Int.mul_nonneg hn.1 lb.1
  have lim1 : n * lno L R H r ≤ 99 * 3000 := Int.mul_le_mul hn.2 lb.2 lb.1 (by decide)
  have body : WPm (k - 1) LAY m_X8_lightOf [vR (some 51), vI r] (mem (P, some 5, some 22) (si (si (si I 51 11 (gi I 4 6)) 51 12 r) 51 13 n) J) (retI (fun v1 I2 J3 => WPm (k - 1) LAY m_X9_setNow [vR (some 36), vI r] (mem (P, some 5, some 22) (si I2 51 10 (n * v1)) J3) (retV (fun I5 J6 => WPm (k - 1) LAY m_X8_measurePages [vR (some 51)] (mem (P, some 5, some 22) I5 J6) (retV (fun I8 J9 => WPm (k - 1) LAY m_X8_chooseMost [vR (some 51), vI 0, vI 0, vI 0, vI 0] (mem (P, some 5, some 22) (si (si (si I8 51 4 (-1)) 51 5 0) 51 6 0) J9) (retV (fun I11 J12 => Q none (mem (P, some 5, some 22) I11 J12)) (P, some 5, some 22))) (P, some 5, some 22))) (P, some 5, some 22))) (P, some 5, some 22)) := by
    have hF0 : Fr [] FMo I (si (si (si I 51 11 (gi I 4 6)) 51 12 r) 51 13 n) := (((Fr.rf _ _ I).up 51 11 _ (Or.inr (by decide))).up 51 12 _ (Or.inr (by decide))).up 51 13 _ (Or.inr (by decide))
    have a11 : gi (si (si (si I 51 11 (gi I 4 6)) 51 12 r) 51 13 n) 51 11 = gi I 4 6 := by rw [gi_idx _ _ _ (by decide), gi_idx _ _ _ (by decide), gi_same _ _ _ (gi_in _ _ _)]
    have a12 : gi (si (si (si I 51 11 (gi I 4 6)) 51 12 r) 51 13 n) 51 12 = r := by rw [gi_idx _ _ _ (by decide), gi_same _ _ _ ⟨by omega, by omega⟩]
    have a13 : gi (si (si (si I 51 11 (gi I 4 6)) 51 12 r) 51 13 n) 51 13 = n := gi_same _ _ _ ⟨by omega, by omega⟩
    generalize si (si (si I 51 11 (gi I 4 6)) 51 12 r) 51 13 n = I0 at hF0 a11 a12 a13 ⊢
    have hX0 := hX.fr (hF0.cx (by decide) (by decide))
    refine S_X8_lno (by omega) hX0 hr (fun I2 hF2 => ⟨_, _, _, rfl, rfl, ?_⟩)
    dsimp only
    have hF2' : Fr [37, 38, 52, 53] FMo I I2 := (hF0.mono (by simp) (by simp)).tr (hF2.mono (by simp) (by simp))
    have hF3 : Fr [37, 38, 52, 53] FMo I (si I2 51 10 (n * lno L R H r)) := hF2'.up 51 10 _ (Or.inr (by decide))
    have b10 : gi (si I2 51 10 (n * lno L R H r)) 51 10 = n * lno L R H r := gi_same _ _ _ ⟨by omega, by omega⟩
    have b11 : gi (si I2 51 10 (n * lno L R H r)) 51 11 = gi I 4 6 := (gi_idx _ _ _ (by decide)).trans ((hF2.gv 51 11 (by decide) (by simp)).trans a11)
    have b12 : gi (si I2 51 10 (n * lno L R H r)) 51 12 = r := (gi_idx _ _ _ (by decide)).trans ((hF2.gv 51 12 (by decide) (by simp)).trans a12)
    have b13 : gi (si I2 51 10 (n * lno L R H r)) 51 13 = n := (gi_idx _ _ _ (by decide)).trans ((hF2.gv 51 13 (by decide) (by simp)).trans a13)
    generalize si I2 51 10 (n * lno L R H r) = I3 at hF3 b10 b11 b12 b13 ⊢
    have hX3 := hX.fr (hF3.cx (by decide) (by decide))
    refine S_X9_now (by omega) hX3 hr (fun I5 hF5 hv => ⟨_, _, rfl, rfl, ?_⟩)
    have hX5 := hX3.fr (hF5.cx (by decide) (by decide))
    refine S_X8_measure (by omega) hX5 hv (envN hX5 hr) (fun I8 hF8 h52 _ => ⟨_, _, rfl, rfl, ?_⟩)
    dsimp only
    have hF8' : Fr [37, 38, 52, 53] [] I3 I8 := (hF5.mono (by simp) (by simp)).tr hF8
    have hF9 : Fr [37, 38, 52, 53] FMo I (si (si (si I8 51 4 (-1)) 51 5 0) 51 6 0) := (((hF3.tr (hF8'.mono (by simp) (by simp))).up 51 4 _ (Or.inr (by decide))).up 51 5 _ (Or.inr (by decide))).up 51 6 _ (Or.inr (by decide))
    have c : ∀ k, ¬ (k = 4 ∨ k = 5 ∨ k = 6) → gi (si (si (si I8 51 4 (-1)) 51 5 0) 51 6 0) 51 k = gi I3 51 k := fun k hk => by
      rw [gi_idx _ _ _ (by omega), gi_idx _ _ _ (by omega), gi_idx _ _ _ (by omega)]
      exact hF8'.gv 51 k (by decide) (by simp)
    have c4 : gi (si (si (si I8 51 4 (-1)) 51 5 0) 51 6 0) 51 4 = -1 := by rw [gi_idx _ _ _ (by decide), gi_idx _ _ _ (by decide), gi_same _ _ _ (by decide)]
    have c5 : gi (si (si (si I8 51 4 (-1)) 51 5 0) 51 6 0) 51 5 = 0 := by rw [gi_idx _ _ _ (by decide), gi_same _ _ _ (by decide)]
    have c6 : gi (si (si (si I8 51 4 (-1)) 51 5 0) 51 6 0) 51 6 = 0 := gi_same _ _ _ (by decide)
    have c52 : ∀ p : Nat, p < (nP L).toNat → gi (si (si (si I8 51 4 (-1)) 51 5 0) 51 6 0) 52 p = tnN L R H r p := fun p hp => by
      rw [gi_cell _ _ _ _ (by decide), gi_cell _ _ _ _ (by decide), gi_cell _ _ _ _ (by decide)]
      exact h52 p hp
    generalize si (si (si I8 51 4 (-1)) 51 5 0) 51 6 0 = I9 at hF9 c c4 c5 c6 c52 ⊢
    have hX9 := hX.fr (hF9.cx (by decide) (by decide))
    have := S_X8_choose (P := P) (J := J) (L := L) (R := R) (H := H) (r := r) (lim := n * lno L R H r) (t := tnN L R H r) hr (tnN_in hL r) (by omega) (nP L).toNat 0 0 (k - 1) I9 (retV (fun I11 J12 => Q none (mem (P, some 5, some 22) I11 J12)) (P, some 5, some 22)) (Nat.zero_add _) (by omega) hX9 ((c 12 (by decide)).trans b12) ((c 10 (by decide)).trans b10) c52 ⟨by rw [c4]; decide, by rw [c6]; decide, by rw [c5]; decide⟩ (by decide) (fun p hp => absurd hp (Nat.not_lt_zero _)) lim0 (fun I11 f1 f2 f3 f4 f5 => ⟨_, _, rfl, rfl, hQ I11 (hF9.tr (f1.mono (by simp) (by simp))) ?_ ?_ ?_ ?_⟩)
    · exact this
    · exact (f1.gv 51 11 (by decide) (by decide)).trans ((c 11 (by decide)).trans b11)
    · exact (f1.gv 51 12 (by decide) (by decide)).trans ((c 12 (by decide)).trans b12)
    · exact (f1.gv 51 13 (by decide) (by decide)).trans ((c 13 (by decide)).trans b13)
    · have all : ∀ S, feM L H r (tnN L R H r) (n * lno L R H r) S → geq (bst I11) (key (nP L).toNat (tnN L R H r) S) := fun S h1 => f5 S h1 (fun p hp => absurd hp (Nat.not_lt_zero _))
      rcases f4 with f4 | ⟨S, h1, -, h3⟩
      · have h0 := all 0 (feM_0 hL hn.1)
        rw [f4] at h0
        unfold geq key bst at h0
        rw [c4] at h0
        dsimp only at h0
        omega
      · exact ⟨⟨S, h1, h3⟩, all⟩
  refine WPm.of k_X8_findMost.1 (Nat.le_of_ble_eq_true rfl) (B_X8_findMost_0 (by omega) ⟨fun _ => body, fun q => ⟨⟨by omega, by omega⟩, fun _ => body, fun q2 => ⟨⟨by omega, by omega⟩, fun _ => body, fun q3 => ?_⟩⟩⟩)
  exact hQ I (Fr.rf _ _ _) q q2 q3 (hc q q2 q3)
end FINDM

section CSUM
/-! ===== the class: who sits where, how long an inch burns, how long a page takes ===== -/
def sameC (I I' : Nat → Nat → Int32) : Prop := ∀ c, 5 ≤ c → c ≤ 19 → I' c = I c
def CX (I : Nat → Nat → Int32) (L : Lb) (R : Rl) (H : Hl) : Prop := CL I L R ∧ HC I = H ∧ WfH L H
theorem HC_fr {I I' : Nat → Nat → Int32} (h6 : I' 6 = I 6) (h19 : I' 19 = I 19) : HC I' = HC I := by
  unfold HC
  rw [gi_row h6, gi_row h19]
theorem CX.fr {I I' : Nat → Nat → Int32} {L : Lb} {R : Rl} {H : Hl} (hX : CX I L R H) (h : sameC I I') : CX I' L R H :=
  ⟨hX.1.fr (fun c a b => h c a (by omega)), (HC_fr (h 6 (by decide) (by decide)) (h 19 (by decide) (by decide))).trans hX.2.1, hX.2.2⟩
theorem Fr.cx {cs : List Nat} {fs : List (Nat × Nat)} {I I' : Nat → Nat → Int32} (h : Fr cs fs I I') (h1 : ∀ c ∈ cs, ¬ (5 ≤ c ∧ c ≤ 19)) (h2 : ∀ q ∈ fs, ¬ (5 ≤ q.1 ∧ q.1 ≤ 19)) : sameC I I' := fun c a b => h.cell c (fun q => h1 c q ⟨a, b⟩) (fun q hq e => h2 q hq (by omega))
theorem sameC.rf (I : Nat → Nat → Int32) : sameC I I := fun _ _ _ => rfl
theorem cx_n {I : Nat → Nat → Int32} {L : Lb} {R : Rl} {H : Hl} (hX : CX I L R H) : gi I 6 2 = nR L := by rw [← hX.1.1]; rfl
theorem cx_p {I : Nat → Nat → Int32} {L : Lb} {R : Rl} {H : Hl} (hX : CX I L R H) : gi I 6 1 = nP L := by rw [← hX.1.1]; rfl
theorem cx_t {I : Nat → Nat → Int32} {L : Lb} {R : Rl} {H : Hl} (hX : CX I L R H) : gi I 6 3 = nT L := by rw [← hX.1.1]; rfl
theorem cx_inch {I : Nat → Nat → Int32} {L : Lb} {R : Rl} {H : Hl} (hX : CX I L R H) : gi I 5 15 = L 25 0 := by rw [← hX.1.1]; rfl
theorem cx_8 {I : Nat → Nat → Int32} {L : Lb} {R : Rl} {H : Hl} (hX : CX I L R H) : gi I 19 0 = H 8 0 := by rw [← hX.2.1]; rfl
theorem cx_9 {I : Nat → Nat → Int32} {L : Lb} {R : Rl} {H : Hl} (hX : CX I L R H) : gi I 19 1 = H 9 0 := by rw [← hX.2.1]; rfl
theorem cx_1 {I : Nat → Nat → Int32} {L : Lb} {R : Rl} {H : Hl} (hX : CX I L R H) {r : Int} (hr : 0 ≤ r ∧ r < nR L) : gi I 19 ((3 + (r * 14)) + 0).toNat = H 1 r := by
  have e := cx_n hX
  rw [← hX.2.1]
  exact (tr_in (by rw [e]; exact hr)).symm
theorem cx_2 {I : Nat → Nat → Int32} {L : Lb} {R : Rl} {H : Hl} (hX : CX I L R H) {r : Int} (hr : 0 ≤ r ∧ r < nR L) : gi I 19 ((3 + (r * 14)) + 1).toNat = H 2 r := by
  have e := cx_n hX
  rw [← hX.2.1]
  exact (tr_in (by rw [e]; exact hr)).symm
theorem cx_3 {I : Nat → Nat → Int32} {L : Lb} {R : Rl} {H : Hl} (hX : CX I L R H) {r : Int} (hr : 0 ≤ r ∧ r < nR L) : gi I 19 ((3 + (r * 14)) + 2).toNat = H 3 r := by
  have e := cx_n hX
  rw [← hX.2.1]
  exact (tr_in (by rw [e]; exact hr)).symm
theorem cx_4 {I : Nat → Nat → Int32} {L : Lb} {R : Rl} {H : Hl} (hX : CX I L R H) {r : Int} (hr : 0 ≤ r ∧ r < nR L) : gi I 19 ((3 + (r * 14)) + 3).toNat = H 4 r := by
  have e := cx_n hX
  rw [← hX.2.1]
  exact (tr_in (by rw [e]; exact hr)).symm
theorem cx_5 {I : Nat → Nat → Int32} {L : Lb} {R : Rl} {H : Hl} (hX : CX I L R H) {r : Int} (hr : 0 ≤ r ∧ r < nR L) : gi I 19 ((3 + (r * 14)) + 4).toNat = H 5 r := by
  have e := cx_n hX
  rw [← hX.2.1]
  exact (tr_in (by rw [e]; exact hr)).symm
theorem cx_6 {I : Nat → Nat → Int32} {L : Lb} {R : Rl} {H : Hl} (hX : CX I L R H) {r : Int} (hr : 0 ≤ r ∧ r < nR L) : gi I 19 ((3 + (r * 14)) + 5).toNat = H 6 r := by
  have e := cx_n hX
  rw [← hX.2.1]
  exact (tr_in (by rw [e]; exact hr)).symm
theorem cx_7 {I : Nat → Nat → Int32} {L : Lb} {R : Rl} {H : Hl} (hX : CX I L R H) {r k : Int} (hr : 0 ≤ r ∧ r < nR L) (hk : 0 ≤ k ∧ k < H 6 r) : gi I 19 ((3 + (r * 14)) + (6 + k)).toNat = H 7 (8 * r + k) := by
  have e := cx_n hX
  have e6 := cx_6 hX hr
  have h8 := (hX.2.2.2.2 r hr.1 hr.2).2.2.2.2.1
  have d1 : (8 * r + k) / 8 = r := by omega
  have d2 : (8 * r + k) % 8 = k := by omega
  have h0 : HC I 7 (8 * r + k) = tr (gi I 6 2) (tr (gi I 19 ((3 + (((8 * r + k) / 8) * 14)) + 5).toNat) (gi I 19 ((3 + (((8 * r + k) / 8) * 14)) + (6 + (8 * r + k) % 8)).toNat) ((8 * r + k) % 8)) ((8 * r + k) / 8) := rfl
  rw [d1, d2, tr_in (by rw [e]; exact hr), tr_in (by rw [e6]; exact hk), hX.2.1] at h0
  exact h0.symm
theorem cx_L2 {I : Nat → Nat → Int32} {L : Lb} {R : Rl} {H : Hl} (hX : CX I L R H) {p : Int} (hp : 0 ≤ p ∧ p < nP L) : gi I 9 (p).toNat = L 2 p := by
  have e := cx_p hX
  rw [← hX.1.1]
  exact (tr_in (by rw [e]; exact hp)).symm
theorem cx_L4 {I : Nat → Nat → Int32} {L : Lb} {R : Rl} {H : Hl} (hX : CX I L R H) {p : Int} (hp : 0 ≤ p ∧ p < nP L) : gi I 11 (p).toNat = L 4 p := by
  have e := cx_p hX
  rw [← hX.1.1]
  exact (tr_in (by rw [e]; exact hp)).symm
theorem cx_L5 {I : Nat → Nat → Int32} {L : Lb} {R : Rl} {H : Hl} (hX : CX I L R H) {r : Int} (hr : 0 ≤ r ∧ r < nR L) : gi I 13 (r).toNat = L 5 r := by
  have e := cx_n hX
  rw [← hX.1.1]
  exact (tr_in (by rw [e]; exact hr)).symm
theorem cx_L6 {I : Nat → Nat → Int32} {L : Lb} {R : Rl} {H : Hl} (hX : CX I L R H) {r : Int} (hr : 0 ≤ r ∧ r < nR L) : gi I 14 (r).toNat = L 6 r := by
  have e := cx_n hX
  rw [← hX.1.1]
  exact (tr_in (by rw [e]; exact hr)).symm
theorem cx_L7 {I : Nat → Nat → Int32} {L : Lb} {R : Rl} {H : Hl} (hX : CX I L R H) {t : Int} (ht : 0 ≤ t ∧ t < nT L) : gi I 15 (t).toNat = L 7 t := by
  have e := cx_t hX
  rw [← hX.1.1]
  exact (tr_in (by rw [e]; exact ht)).symm
theorem kn_lt {L : Lb} {H : Hl} (hL : WfL L) (hH : WfH L H) {r : Int} (hr : 0 ≤ r ∧ r < nR L) : kn H r < 2 ^ (nP L).toNat ∧ kn H r < 16384 := by
  obtain ⟨-, ⟨-, h2⟩, ⟨-, h3⟩, -⟩ := hH.2.2 r hr.1 hr.2
  have h := or_lt14 h2 h3
  exact ⟨h, Nat.lt_of_lt_of_le h (pow_le14 (by have := hL.2.1; omega))⟩
theorem or_kn {L : Lb} {H : Hl} (hL : WfL L) (hH : WfH L H) {r : Int} (hr : 0 ≤ r ∧ r < nR L) : or32 (H 2 r) (H 3 r) = ((kn H r : Nat) : Int) := by
  obtain ⟨-, ⟨a2, h2⟩, ⟨a3, h3⟩, -⟩ := hH.2.2 r hr.1 hr.2
  have hp := pow_le14 (p := (nP L).toNat) (by have := hL.2.1; omega)
  have e := or32_nat (a := (H 2 r).toNat) (b := (H 3 r).toNat) (by omega) (by omega)
  rwa [Int.toNat_of_nonneg a2, Int.toNat_of_nonneg a3] at e
theorem cx_kn {I : Nat → Nat → Int32} {L : Lb} {R : Rl} {H : Hl} (hX : CX I L R H) {r : Int} (hr : 0 ≤ r ∧ r < nR L) : or32 (gi I 19 ((3 + (r * 14)) + 1).toNat) (gi I 19 ((3 + (r * 14)) + 2).toNat) = ((kn H r : Nat) : Int) := by
  rw [cx_2 hX hr, cx_3 hX hr]
  exact or_kn hX.1.2.2.2.1 hX.2.2 hr
theorem sit_bd {L : Lb} (H : Hl) (hL : WfL L) (t : Int) : 0 ≤ sit L H t ∧ sit L H t ≤ 6 := by
  have h := smi_bd (n := (nR L).toNat) (f := fun r => if H 1 (r : Int) = t then (1 : Int) else 0) (b := 1) (by decide) (fun i _ => by
    show 0 ≤ (if H 1 (i : Int) = t then (1 : Int) else 0) ∧ (if H 1 (i : Int) = t then (1 : Int) else 0) ≤ 1
    split <;> decide)
  have := hL.2.2.1
  unfold sit
  omega
theorem S_X2_sit {k : Nat} {P : Option Nat} {I : Nat → Nat → Int32} {J : Nat → Nat → Int64} {Q : Option AV → Mem → Prop} {L : Lb} {R : Rl} {H : Hl} {t : Int} (hk : 1 ≤ k) (hX : CX I L R H) (ht : inR t) (hQ : Q (some (vI (sit L H t))) (mem (rv0 P) I J)) : WPm k LAY m_X2_sittingAt [vR (some 4), vI t] (mem (rv0 P) I J) Q := by
  have en := cx_n hX
  have hL := hX.1.2.2.2.1.2.2.1
  refine WPm.of k_X2_sittingAt.1 (Nat.le_of_ble_eq_true rfl) (B_X2_sittingAt_0 (by omega) ?_)
  have loop : ∀ (d r : Nat) (x y : Int), r + d = (nR L).toNat → x = r → y = smi r (fun r => if H 1 (r : Int) = t then (1 : Int) else 0) → WP k LAY m_X2_sittingAt 4 [(0, vR (some 4)), (1, vI t), (2, vI y), (3, vI x)] [] (mem (rv0 P) I J) Q := by
    intro d
    induction d with
    | zero =>
      intro r x y hr hx hy
      refine B_X2_sittingAt_4 (by omega) ?_
      rw [en]
      exact ⟨⟨by omega, by omega⟩, fun _ => Qat hQ (by rw [hy]; unfold sit; rw [show (nR L).toNat = r by omega]), fun q => absurd q (by omega)⟩
    | succ d ih =>
      intro r x y hr hx hy
      refine B_X2_sittingAt_4 (by omega) ?_
      subst hx
      have e1 := cx_1 hX (r := (r : Int)) ⟨by omega, by omega⟩
      rw [en, e1]
      have es : smi (r + 1) (fun r => if H 1 (r : Int) = t then (1 : Int) else 0) = smi r (fun r => if H 1 (r : Int) = t then (1 : Int) else 0) + (if H 1 (r : Int) = t then (1 : Int) else 0) := rfl
      refine ⟨⟨by omega, by omega⟩, fun q => absurd q (by omega), fun _ => ⟨⟨by omega, by omega⟩, ht, fun q => ?_, fun q => ?_⟩⟩
      · refine ih (r + 1) _ _ (by omega) (by omega) ?_
        rw [es, if_neg q]
        omega
      · refine ih (r + 1) _ _ (by omega) (by omega) ?_
        rw [es, if_pos q]
        omega
  exact loop _ 0 0 0 (Nat.zero_add _) rfl rfl
/-! ===== light ===== -/
def lig (L : Lb) (R : Rl) (H : Hl) (t d : Int) : Int := smi (nR L).toNat (fun r => if H 1 (r : Int) = t then burS L R (H 8 0) r d (sit L H t) (pop (kn H r)) else 0)
theorem lig_bd {L : Lb} {R : Rl} (H : Hl) (hL : WfL L) (t d : Int) : 0 ≤ lig L R H t d ∧ lig L R H t d ≤ 3000 := by
  have h := smi_bd (n := (nR L).toNat) (f := fun r => if H 1 (r : Int) = t then burS L R (H 8 0) r d (sit L H t) (pop (kn H r)) else 0) (b := 500) (by decide) (fun i _ => by
    have := burS_in (R := R) hL (night := H 8 0) (r := (i : Int)) (d := d) (s := sit L H t) (k := pop (kn H i))
    show 0 ≤ (if H 1 (i : Int) = t then burS L R (H 8 0) i d (sit L H t) (pop (kn H i)) else 0) ∧ (if H 1 (i : Int) = t then burS L R (H 8 0) i d (sit L H t) (pop (kn H i)) else 0) ≤ 500
    split <;> omega)
  have := hL.2.2.1
  unfold lig
  omega
theorem envB_of {L : Lb} {H : Hl} (hL : WfL L) (hH : WfH L H) {r d s k : Int} (hr : 0 ≤ r ∧ r < nR L) (hd : mil d) (hs : mil s) (hk : mil k) : envB L (H 8 0) r d s k 0 0 := ⟨⟨by have := hH.1; omega, by have := hH.1; omega⟩, hd, hs, hk, by decide, by decide, hr⟩
theorem S_X9_light {k : Nat} {P : Option Nat} {I : Nat → Nat → Int32} {J : Nat → Nat → Int64} {Q : Option AV → Mem → Prop} {L : Lb} {R : Rl} {H : Hl} {t d : Int} (hk : 6 ≤ k) (hX : CX I L R H) (ht : inR t) (hd : mil d) (hQ : ∀ I', Fr [37, 38] [] I I' → Q (some (vI (lig L R H t d))) (mem (rv0 P) I' J)) : WPm k LAY m_X9_lightAt [vR (some 36), vI t, vI d] (mem (rv0 P) I J) Q := by
  have hL := hX.1.2.2.2.1
  have hR6 := hL.2.2.1
  have hs := sit_bd H hL t
  refine WPm.of k_X9_lightAt.1 (Nat.le_of_ble_eq_true rfl) (B_X9_lightAt_0 (by omega) ?_)
  refine S_X2_sit (by omega) hX ht ⟨_, _, _, rfl, rfl, ?_⟩
  have loop : ∀ (e r : Nat) (x y : Int) (I' : Nat → Nat → Int32), r + e = (nR L).toNat → x = r → y = smi r (fun r => if H 1 (r : Int) = t then burS L R (H 8 0) r d (sit L H t) (pop (kn H r)) else 0) → Fr [37, 38] [] I I' → WP k LAY m_X9_lightAt 15 [(0, vR (some 36)), (1, vI t), (2, vI d), (3, vI y), (4, vI (sit L H t)), (5, vI x)] [] (mem (rv0 P) I' J) Q := by
    intro e
    induction e with
    | zero =>
      intro r x y I' hr hx hy hF
      have hX' := hX.fr (hF.cx (by decide) (by decide))
      refine B_X9_lightAt_15 (by omega) ?_
      rw [cx_n hX']
      refine ⟨⟨by omega, by omega⟩, fun _ => ?_, fun q => absurd q (by omega)⟩
      exact Qat (hQ I' hF) (by rw [hy]; unfold lig; rw [show (nR L).toNat = r by omega])
    | succ e ih =>
      intro r x y I' hr hx hy hF
      have hX' := hX.fr (hF.cx (by decide) (by decide))
      have hrr : (0 : Int) ≤ r ∧ (r : Int) < nR L := ⟨by omega, by omega⟩
      refine B_X9_lightAt_15 (by omega) ?_
      subst hx
      have hkl := (kn_lt hL hX'.2.2 hrr).2
      have hpo := pop_le (kn H r)
      rw [cx_n hX', cx_1 hX' hrr, cx_kn hX' hrr, bc_pop hkl, cx_L5 hX' hrr, cx_L6 hX' hrr, cx_inch hX', cx_8 hX']
      have es : smi (r + 1) (fun r => if H 1 (r : Int) = t then burS L R (H 8 0) r d (sit L H t) (pop (kn H r)) else 0) = smi r (fun r => if H 1 (r : Int) = t then burS L R (H 8 0) r d (sit L H t) (pop (kn H r)) else 0) + (if H 1 (r : Int) = t then burS L R (H 8 0) r d (sit L H t) (pop (kn H r)) else 0) := rfl
      refine ⟨⟨by omega, by omega⟩, fun q => absurd q (by omega), fun _ => ⟨⟨by omega, by omega⟩, ht, fun q => ?_, fun q => ⟨⟨by omega, by omega⟩, ⟨by omega, by omega⟩, ⟨by omega, by omega⟩, ?_⟩⟩⟩
      · refine ih (r + 1) _ _ _ (by omega) (by omega) ?_ hF
        rw [es, if_neg q]
        omega
      · have w5 := (hL.2.2.2.2.2.2.2.2.1 r hrr.1 hrr.2)
        have w25 := hL.2.2.2.2.2.1
        have wn := hX'.2.2.1
        have hF7 : Fr [37, 38] [] I' (si (si (si (si (si (si (si I' 38 7 (L 5 r)) 38 8 (L 6 r)) 38 16 (pop (kn H r))) 38 10 d) 38 17 (sit L H t)) 38 11 (L 25 0)) 38 18 (H 8 0)) := by
          refine Fr.up (Fr.up (Fr.up (Fr.up (Fr.up (Fr.up (Fr.up (Fr.rf _ _ _) _ _ _ ?_) _ _ _ ?_) _ _ _ ?_) _ _ _ ?_) _ _ _ ?_) _ _ _ ?_) _ _ _ ?_ <;> exact Or.inl (by decide)
        refine S_X9_inch (L := L) (R := R) (by omega) (hX'.fr (hF7.cx (by decide) (by decide))).1 (vals_set rfl rfl rfl ⟨by omega, by omega⟩ ⟨by omega, by omega⟩ ⟨by omega, by omega⟩ ⟨by omega, by omega⟩ ⟨by omega, by omega⟩ ⟨by omega, by omega⟩ ⟨by omega, by omega⟩) (envB_of hL hX'.2.2 hrr hd ⟨by omega, by omega⟩ ⟨by omega, by omega⟩) (fun I2 hF2 => ⟨_, _, _, rfl, rfl, ?_⟩)
        refine ih (r + 1) _ _ _ (by omega) (by omega) ?_ ((hF.tr hF7).tr hF2)
        rw [es, if_pos q]
        omega
  exact loop _ 0 0 0 I (Nat.zero_add _) rfl rfl (Fr.rf _ _ _)
theorem S_X9_now {k : Nat} {P : Option Nat} {I : Nat → Nat → Int32} {J : Nat → Nat → Int64} {Q : Option AV → Mem → Prop} {L : Lb} {R : Rl} {H : Hl} {r : Int} (hk : 3 ≤ k) (hX : CX I L R H) (hr : 0 ≤ r ∧ r < nR L) (hQ : ∀ I', Fr [37, 38] [] I I' → vals I' L (H 8 0) r (L 7 (H 1 r)) (sit L H (H 1 r)) (pop (kn H r)) → Q none (mem (rv0 P) I' J)) : WPm k LAY m_X9_setNow [vR (some 36), vI r] (mem (rv0 P) I J) Q := by
  have hL := hX.1.2.2.2.1
  have hR6 := hL.2.2.1
  have hT5 := hL.2.2.2.1
  have hw := (hX.2.2.2.2 r hr.1 hr.2).1
  have hs := sit_bd H hL (H 1 r)
  have hkl := (kn_lt hL hX.2.2 hr).2
  have hpo := pop_le (kn H r)
  have w5 := (hL.2.2.2.2.2.2.2.2.1 r hr.1 hr.2)
  have w7 := (hL.2.2.2.2.2.2.2.2.2 (H 1 r) hw.1 hw.2)
  have w25 := hL.2.2.2.2.2.1
  have wn := hX.2.2.1
  refine WPm.of k_X9_setNow.1 (Nat.le_of_ble_eq_true rfl) (B_X9_setNow_0 (by omega) ?_)
  rw [cx_1 hX hr]
  refine ⟨⟨by omega, by omega⟩, ⟨by omega, by omega⟩, S_X2_sit (by omega) hX ⟨by omega, by omega⟩ ⟨_, _, _, rfl, rfl, ⟨by omega, by omega⟩, ⟨by omega, by omega⟩, ⟨by omega, by omega⟩, ?_⟩⟩
  rw [cx_kn hX hr, bc_pop hkl, cx_L5 hX hr, cx_L6 hX hr, cx_inch hX, cx_8 hX, cx_L7 hX hw]
  refine hQ _ ?_ (vals_set rfl rfl rfl ⟨by omega, by omega⟩ ⟨by omega, by omega⟩ ⟨by omega, by omega⟩ ⟨by omega, by omega⟩ ⟨by omega, by omega⟩ ⟨by omega, by omega⟩ ⟨by omega, by omega⟩)
  refine Fr.up (Fr.up (Fr.up (Fr.up (Fr.up (Fr.up (Fr.up (Fr.rf _ _ _) _ _ _ ?_) _ _ _ ?_) _ _ _ ?_) _ _ _ ?_) _ _ _ ?_) _ _ _ ?_) _ _ _ ?_ <;> exact Or.inl (by decide)
end CSUM

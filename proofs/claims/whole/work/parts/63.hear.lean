section HEARS
/-! ===== what may be told ===== -/
theorem S_X9_hear {k : Nat} {P : Option Nat} {I : Nat → Nat → Int32} {J : Nat → Nat → Int64} {Q : Option AV → Mem → Prop} {L : Lb} {R : Rl} {night r d s kn p : Int} (hk : 4 ≤ k) (hC : CL I L R) (hv : vals I L night r d s kn) (hp : 0 ≤ p ∧ p < nP L) (hB : envB L night r d s kn 0 0) (hQ : ∀ I' v, Fr [37, 38] [] I I' → (v = 1 ∧ telS L R night r p d s kn ∨ v = 0 ∧ ¬ telS L R night r p d s kn) → Q (some (vI v)) (mem (rv0 P) I' J)) : WPm k LAY m_X9_mayHear [vR (some 36), vI p] (mem (rv0 P) I J) Q := by
  have hL := hC.2.2.2.1
  have e2 : gi I 9 (p).toNat = L 2 p := by
    rw [← hC.1]
    exact (tr_in (by rw [← hC.1] at hp; exact hp)).symm
  have e3 : gi I 10 (p).toNat = L 3 p := by
    rw [← hC.1]
    exact (tr_in (by rw [← hC.1] at hp; exact hp)).symm
  have hP := hL.2.2.2.2.2.2.2.1 p hp.1 hp.2
  have hn := hL.2.1
  refine WPm.of k_X9_mayHear.1 (Nat.le_of_ble_eq_true rfl) (B_X9_mayHear_0 (by omega) ?_)
  rw [e2, e3]
  refine ⟨fun q => ⟨⟨by omega, by omega⟩, ?_⟩, fun q => ?_⟩
  · have q0 : 0 < gi I 18 2 := q
    have hF := Fr2 I (L 2 p) (L 3 p)
    obtain ⟨w1, w2, w3⟩ := vals_2 (a := L 2 p) (b := L 3 p) ⟨by omega, by omega⟩ ⟨by omega, by omega⟩ hv
    refine S_X9_run (L := L) (R := R) 2 (by omega) (by decide) (by rw [gi_row (hF.cell 18 (by decide) (by simp))]; exact q0) (hC.fr (hF.lib (by decide) (by decide))) w1 w2 w3 ⟨hB.1, hB.2.1, hB.2.2.1, hB.2.2.2.1, ⟨by omega, by omega⟩, ⟨by omega, by omega⟩, hB.2.2.2.2.2.2⟩ (fun hne hmi _ I' hF' => ⟨_, _, _, rfl, rfl, ⟨by omega, by omega⟩, fun w => ?_, fun w => ?_⟩)
    · exact hQ I' 0 (hF.tr (hF'.mono (by simp) (by simp))) (Or.inr ⟨rfl, fun t => t.elim hne (fun u => u w)⟩)
    · exact hQ I' 1 (hF.tr (hF'.mono (by simp) (by simp))) (Or.inl ⟨rfl, Or.inr w⟩)
  · have e : R 2 = [] := (RC_none hC 2 (by decide)).mpr q
    exact hQ I 1 (Fr.rf _ _ _) (Or.inl ⟨rfl, Or.inl e⟩)
def telN (L : Lb) (R : Rl) (H : Hl) (y p : Int) : Prop := (kn H y).testBit p.toNat = false ∧ dif (ndN L p.toNat) (kn H y) = 0 ∧ telS L R (H 8 0) y p (L 7 (H 1 y)) (sit L H (H 1 y)) (pop (kn H y))
def canT (L : Lb) (R : Rl) (H : Hl) (x y p : Int) : Prop := H 1 x = H 1 y ∧ (H 2 x).toNat.testBit p.toNat = true ∧ telN L R H y p
theorem S_X11_mayTell {k : Nat} {P : Option Nat} {I : Nat → Nat → Int32} {J : Nat → Nat → Int64} {Q : Option AV → Mem → Prop} {L : Lb} {R : Rl} {H : Hl} {x y p : Int} (hk : 6 ≤ k) (hX : CX I L R H) (hx : 0 ≤ x ∧ x < nR L) (hy : 0 ≤ y ∧ y < nR L) (hp : 0 ≤ p ∧ p < nP L) (hQ : ∀ I' v, Fr [37, 38] [] I I' → (v = 1 ∧ canT L R H x y p ∨ v = 0 ∧ ¬ canT L R H x y p) → Q (some (vI v)) (mem (rv0 P) I' J)) : WPm k LAY m_X11_mayTell [vR (some 0), vI x, vI y, vI p] (mem (rv0 P) I J) Q := by
  have hL := hX.1.2.2.2.1
  have hH := hX.2.2
  have hR6 := hL.2.2.1
  have hP := hL.2.1
  have hw := hH.2.2 x hx.1 hx.2
  have h2lt : (H 2 x).toNat < 16384 := Nat.lt_of_lt_of_le hw.2.1.2 (pow_le14 (by omega))
  have hkl := (kn_lt hL hH hy).2
  have b2 : and32 (H 2 x) (shl32 1 p) = 0 ↔ (H 2 x).toNat.testBit p.toNat = false := by
    have := bit_iff (p := p) ⟨hp.1, by omega⟩ h2lt
    rwa [Int.toNat_of_nonneg hw.2.1.1] at this
  have no : ∀ v, v = 0 → ¬ canT L R H x y p → Q (some (vI v)) (mem (rv0 P) I J) := fun v e n => hQ I v (Fr.rf _ _ _) (Or.inr ⟨e, n⟩)
  refine WPm.of k_X11_mayTell.1 (Nat.le_of_ble_eq_true rfl) (B_X11_mayTell_0 (by omega) ?_)
  rw [cx_1 hX hx, cx_1 hX hy, cx_2 hX hx]
  refine ⟨⟨by omega, by omega⟩, ⟨by omega, by omega⟩, fun q => no 0 rfl (fun c => q c.1), fun q => ⟨⟨by omega, by omega⟩, fun q2 => ⟨⟨by omega, by omega⟩, ⟨by omega, by omega⟩, fun z hz => ?_⟩, fun q2 => no 0 rfl (fun c => ?_)⟩⟩
  · rw [cx_kn hX hy] at hz
    subst hz
    rw [bit_iff ⟨hp.1, by omega⟩ hkl, show gi I 11 ((p : Int)).toNat = L 4 p from cx_L4 hX hp, may_iff hL hp hkl]
    refine ⟨fun q3 => no 0 rfl (fun c => q3 c.2.2.1), fun q3 => ⟨⟨by omega, by omega⟩, fun q4 => ?_, fun q4 => no 0 rfl (fun c => q4 c.2.2.2.1)⟩⟩
    refine S_X9_now (by omega) hX hy (fun I9 hF hv => ⟨_, _, rfl, rfl, ?_⟩)
    have hX9 := hX.fr (hF.cx (by decide) (by decide))
    refine S_X9_hear (by omega) hX9.1 hv hp (envN hX hy) (fun I12 v hF2 hv2 => ⟨_, _, _, rfl, rfl, by omega, hQ I12 v (hF.tr hF2) ?_⟩)
    rcases hv2 with ⟨e, t⟩ | ⟨e, t⟩
    · refine Or.inl ⟨e, q, ?_, q3, q4, t⟩
      rw [b2] at q2
      cases h : (H 2 x).toNat.testBit p.toNat
      · exact absurd h q2
      · rfl
    · exact Or.inr ⟨e, fun c => t c.2.2.2.2⟩
  · have c2 := c.2.1
    rw [b2.mp q2] at c2
    exact Bool.noConfusion c2
theorem S_X12_hear {k : Nat} {P : Option Nat} {I : Nat → Nat → Int32} {J : Nat → Nat → Int64} {Q : Option AV → Mem → Prop} {L : Lb} {R : Rl} {H : Hl} {y p : Int} (hk : 4 ≤ k) (hX : RX I 0 L R H) (hy : 0 ≤ y ∧ y < nR L) (hp : 0 ≤ p ∧ p < nP L) (h72 : gi I 74 72 = -1) (h73 : gi I 74 73 = -1) (hQ : ∀ I' J' v, Fr [] SA I I' → Fr [121] [] J J' → (v = 1 ∧ telN L R H y p ∨ v = 0 ∧ ¬ telN L R H y p) → Q (some (vI v)) (mem (rv0 P) I' J')) : WPm k LAY m_X12_mayHear [vR (some 74), vI y, vI p] (mem (rv0 P) I J) Q := by
  have hL := hX.1.2.2.2.2.1
  have hH := hX.2.2.1
  have hR6 := hL.2.2.1
  have hP := hL.2.1
  have hPp := hL.2.2.2.2.2.2.2.1 p hp.1 hp.2
  have hb := rx_b hX
  have hkl := (kn_lt hL hH hy).2
  have hpn : p = ((p.toNat : Nat) : Int) := (Int.toNat_of_nonneg hp.1).symm
  have hbt : and32 (shr32 ((kn H y : Nat) : Int) p) 1 = 1 ↔ (kn H y).testBit p.toNat = true := by
    have := has_iff (x := kn H y) (by omega) (k := p.toNat) (by omega)
    rwa [← hpn] at this
  have hpp := pop_le (kn H y)
  refine WPm.of k_X12_mayHear.1 (Nat.le_of_ble_eq_true rfl) (B_X12_mayHear_0 (by omega) ?_)
  rw [rx_kn hX hy, hbt, rx_L4 hX hp, may_iff hL hp hkl]
  have no : ¬ telN L R H y p → Q (some (vI 0)) (mem (rv0 P) I J) := fun n => hQ I J 0 (Fr.rf _ _ _) (Fr.rf _ _ _) (Or.inr ⟨rfl, n⟩)
  have hF := FrA I 0 y p
  have ed : dr L (-1) (H 1 y) = L 7 (H 1 y) := by
    have := dr_no (L := L) h73 (t := H 1 y) (hH.2.2 y hy.1 hy.2).1.1
    rwa [h73] at this
  refine ⟨⟨by omega, by omega⟩, fun q => no (fun c => by rw [c.1] at q; exact Bool.noConfusion q), fun q => ⟨⟨by omega, by omega⟩, fun q2 => no (fun c => q2 c.2.1), fun q2 => ⟨hb, fun q3 => ?_, fun q3 => ?_⟩⟩⟩
  · have hne : R 2 = [] := (RR_none hX.1 2 (by decide)).mpr q3
    refine hQ _ J 1 hF (Fr.rf _ _ _) (Or.inl ⟨rfl, ?_, q2, Or.inl hne⟩)
    cases h : (kn H y).testBit p.toNat
    · rfl
    · exact absurd h q
  · have hne : ¬ R 2 = [] := fun z => q3 ((RR_none hX.1 2 (by decide)).mp z)
    have hX' := hX.fr (hF.rx (by decide) (by decide))
    obtain ⟨g1, g2, g3⟩ := gi_A (I := I) (a := 0) (b := y) (c := p) (by decide) ⟨by omega, by omega⟩ ⟨by omega, by omega⟩
    have c72 := hF.gv 74 72 (by decide) (by decide)
    have c73 := hF.gv 74 73 (by decide) (by decide)
    have cb := hF.gv 74 13 (by decide) (by decide)
    refine S_X12_reck (v := 0) (L := L) (R := R) (H := H) (r := y) (kk := pop (kn H y)) (ln := L 2 p) (pr := L 3 p) 2 (by omega) (by decide) hX' hy ⟨g1, g2, ?_, ?_⟩ hne (envR_ok hL hH hy ⟨by omega, by omega⟩ ⟨by omega, by omega⟩ ⟨by omega, by omega⟩) ?_ ?_ (fun hmi h01 J' hJ => ⟨_, _, _, rfl, rfl, ?_⟩)
    · rw [g3]
      exact Or.inr ⟨hp, rfl, rfl⟩
    · rw [c72]
      exact Or.inl ⟨h72, rfl⟩
    · rw [cb, gi_row (hF.cell 93 (by decide) (by decide))]
    · rw [cb, gi_row (hF.cell 94 (by decide) (by decide))]
    · rw [c73, h73] at hmi h01 ⊢
      have o := h01 rfl
      have hte : telS L R (H 8 0) y p (L 7 (H 1 y)) (sit L H (H 1 y)) (pop (kn H y)) ↔ ¬ ev (envR L H (-1) y (pop (kn H y)) (L 2 p) (L 3 p)) (R 2) = 0 := by
        unfold telS envR
        rw [ed]
        exact ⟨fun t => t.elim (fun u => absurd u hne) id, fun t => Or.inr t⟩
      have q' : (kn H y).testBit p.toNat = false := by
        cases h : (kn H y).testBit p.toNat
        · rfl
        · exact absurd h q
      refine ⟨⟨by omega, by omega⟩, fun w => hQ _ J' 0 hF hJ (Or.inr ⟨rfl, fun c => ?_⟩), fun w => hQ _ J' 1 hF hJ (Or.inl ⟨rfl, q', q2, hte.mpr (by rw [w]; decide)⟩)⟩
      have := hte.mp c.2.2
      rcases o with o | o
      · exact this o
      · exact w o
/-- what a call may ask of working rows leaves all that acts change -/
theorem VH.scr {I I' : Nat → Nat → Int32} (hV : VH I) (h : scrS I I') : VH I' ∧ LC I' = LC I ∧ RC I' = RC I ∧ HC I' = HC I := by
  obtain ⟨⟨hC, hR, h72, h73⟩, hVP, hK, hrn⟩ := hV
  have hL := hC.1.2.2.2.1
  have hC' := hC.fr h.cx
  have eL : LC I' = LC I := hC'.1.1
  have eR : RC I' = RC I := hC'.1.2.1
  have eH : HC I' = HC I := hC'.2.1
  have e83 : ∀ k, gi I' 83 k = gi I 83 k := fun k => h.gv 83 k (by decide) ((scrC_lo (Or.inr (by decide))).2 k)
  have e13 : gi I' 74 13 = gi I 74 13 := h.gv 74 13 (by decide) (by decide)
  have e20 : ∀ k, gi I' 20 k = gi I 20 k := fun k => h.gv 20 k (by decide) (by simp [scrF])
  have e19 : gi I' 19 2 = gi I 19 2 := h.gv 19 2 (by decide) (by decide)
  refine ⟨⟨⟨by rw [eL, eR, eH]; exact hC', by rw [eL, eR, eH]; exact hR.fr0 h, (h.gv 74 72 (by decide) (by decide)).trans h72, (h.gv 74 73 (by decide) (by decide)).trans h73⟩, ?_, ?_, by rw [eL, eH, e19]; exact hrn⟩, eL, eR, eH⟩
  · rw [eL]
    refine VP.fr hL (rx_n hR) hVP (h.gv 4 4 (by decide) (by decide)) (h.gv 4 5 (by decide) (by decide)) (h.gv 74 65 (by decide) (by decide)) (h.gv 74 66 (by decide) (by decide)) (h.cell 21 (by decide) (fun k => by simp [scrF])) (by rw [e13, e83]) (fun v v2 v22 => lay_ns (fun c k hc s2 _ => h c k (scr_hi hc) s2) v2) (fun j _ => e20 j) (by rw [e19]; exact Int.le_refl _)
  · rw [e19]
    refine KP0_fr hK (h.gv 117 0 (by decide) (by decide)) (fun c k hc hk => h.gv c k (scr_hi (by omega)) ?_) (fun j _ => e20 j)
    unfold scrF
    simp
    omega
end HEARS

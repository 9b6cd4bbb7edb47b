section RSTM
/-! ===== the reference: a whole statement, and how it ends ===== -/
def RuleF (k : Nat) (P : Option Nat) (ρ : Nat) (x : Int) (I : Nat → Nat → Int32) (J : Nat → Nat → Int64) (Q : Option AV → Mem → Prop) : Prop := (0 ≤ gi I 74 40 ∧ gi I 74 40 < 2) ∧ ((gi I (89 + 2 * ρ) (gi I 74 40).toNat = (-1) → (WPm (k - 1) LAY m_X12_counts [vR (some 74), vI 0] (mem (P, some 5, some 22) I J) (retI (fun v2 I3 J4 => inR v2 ∧ ((¬ v2 = 0 → ((0 ≤ gi I3 74 40 ∧ gi I3 74 40 < 2) ∧ (WPm (k - 1) LAY m_X12_reads [vR (some 74), vI x] (mem (P, some 5, some 22) (si I3 (89 + 2 * ρ) (gi I3 74 40).toNat (gi I3 74 39)) J4) (retV (fun I8 J9 => (0 ≤ gi I8 74 40 ∧ gi I8 74 40 < 2) ∧ (Q none (mem (P, some 5, some 22) (si I8 (90 + 2 * ρ) (gi I8 74 40).toNat (gi I8 74 39)) J9))) (P, some 5, some 22))))) ∧ (v2 = 0 → (Q none (mem (P, some 5, some 22) I3 J4))))) (P, some 5, some 22)))) ∧ (¬ gi I (89 + 2 * ρ) (gi I 74 40).toNat = (-1) → (WPm (k - 1) LAY m_X12_counts [vR (some 74), vI 1] (mem (P, some 5, some 22) I J) (retI (fun v2 I3 J4 => inR v2 ∧ ((¬ v2 = 0 → ((0 ≤ gi I3 74 40 ∧ gi I3 74 40 < 2) ∧ (WPm (k - 1) LAY m_X12_reads [vR (some 74), vI x] (mem (P, some 5, some 22) (si I3 (89 + 2 * ρ) (gi I3 74 40).toNat (gi I3 74 39)) J4) (retV (fun I8 J9 => (0 ≤ gi I8 74 40 ∧ gi I8 74 40 < 2) ∧ (Q none (mem (P, some 5, some 22) (si I8 (90 + 2 * ρ) (gi I8 74 40).toNat (gi I8 74 39)) J9))) (P, some 5, some 22))))) ∧ (v2 = 0 → (Q none (mem (P, some 5, some 22) I3 J4))))) (P, some 5, some 22)))))
theorem R_ruleF {k ρ : Nat} {P : Option Nat} {I : Nat → Nat → Int32} {J : Nat → Nat → Int64} {Q : Option AV → Mem → Prop} {tst g : Bool} {bud dep : Nat} {cx lo x : Int} {fol : Nat → Prop} {T : Nat → Int} {n p b cd : Nat} {L : Lt} {N : Nt} {R : Rt} {r : Res} (hk : 22 ≤ k) (hX : TX T n) (hp : p ≤ n) (hb2 : b < 2) (hk1 : kR T n p = 1) (hρ : ρ < 3) (hx : x = if tst then 1 else 0) (hlo : 1 ≤ lo) (hfol : ∀ q, fol q → if tst then fO T n q else fS T n q) (hr : RN tst bud cx lo T n 0 (tE T n p) r) (hgd : gdx g dep n (tE T n p) fol r) (hT : RT I J T n p) (h8 : gi I 74 8 = 0) (h40 : gi I 74 40 = (b : Int)) (hS : SRs I J b L N R cd) (hcd : cd ≤ p) (hQ : RSo I J Q P T n b (ci (R ρ ≠ []) (.inl (6, tS T n p)) (ruleR L N R ρ r))) : RuleF k P ρ x I J Q := by
  have hg := tE_gt (T := T) hp (by omega)
  have g89 : gi I (89 + 2 * ρ) b = -1 ↔ R ρ = [] := by
    rcases hS.2.2.2.2.2.1 ρ hρ with ⟨d1, d2⟩ | ⟨d1, a, d2, d3⟩
    · exact ⟨fun _ => d1, fun _ => d2⟩
    · exact ⟨fun q => by omega, fun q => absurd q d1⟩
  unfold RuleF
  rw [h40, Int.toNat_natCast, g89]
  refine ⟨by omega, fun q => ?_, fun q => ?_⟩
  · rw [ci_n (fun t => t q)] at hQ
    refine R_counts (by omega) hX hp hT h8 (Or.inl rfl) (fun _ I1 J1 a1 a2 a3 => ⟨_, _, _, rfl, rfl, by decide, fun _ => ?_, fun c => absurd c (by decide)⟩) (fun c => absurd c (by decide))
    obtain ⟨r1, r2, r3, r4⟩ := rfr a2
    have h41 : gi I1 74 40 = (b : Int) := r3.trans h40
    rw [h41, Int.toNat_natCast]
    exact ⟨by omega, R_rule1 (by omega) hX hg.2.1 hb2 hρ hx hlo hfol hr hgd a1 (r2.trans h8) h41 (hS.ah a2 a3) (by omega) (a2.q.b b) (a3.j b) hQ⟩
  · rw [ci_y q] at hQ
    refine R_counts (by omega) hX hp hT h8 (Or.inr rfl) (fun c => absurd c (by decide)) (fun _ I1 hE => ⟨_, _, _, rfl, rfl, by decide, fun c => absurd rfl c, fun _ => ?_⟩)
    exact hQ _ _ hE.2.1 hE.2.2 (hE.b b) (FrJ.rf _ _)
theorem stm_w {T : Nat → Int} {n p : Nat} {L : Lt} {N : Nt} {R : Rt} {rs rt : Nat → Res} {w : Int} {C : Prop} {r : St} (hb : bd T n p = -1) (hw : wd T n p w) (hm : roomP L R w ≠ -1) (hC : C ↔ roomP L R w = 0) (hr : stmB T n L N R rs rt w (tE T n p) = r) : stm T n L N R rs rt p = ci C (.inl (6, tS T n p)) r := by
  unfold stm
  rw [hw.2, hr, ci_y ⟨hb, hw.1, hm⟩]
  by_cases h : C
  · rw [ci_y h, ci_y (hC.mp h)]
  · rw [ci_n h, ci_n (fun t => h (hC.mpr t))]
set_option maxHeartbeats 2000000 in
theorem R_stm {T : Nat → Int} {n p b cd k : Nat} {P : Option Nat} {I : Nat → Nat → Int32} {J : Nat → Nat → Int64} {Q : Option AV → Mem → Prop} {L : Lt} {N : Nt} {R : Rt} {rs rt : Nat → Res} (hk : 42 ≤ k) (hX : TX T n) (hp : p ≤ n) (hb2 : b < 2) (hW : WL L N R) (hR : RR2 T n rs rt) (hT : RT I J T n p) (h8 : gi I 74 8 = 0) (h40 : gi I 74 40 = (b : Int)) (hS : SRs I J b L N R cd) (hcd : cd ≤ p) (hQ : RSo I J Q P T n b (stm T n L N R rs rt p)) : WPm k LAY m_X12_statement [vR (some 74)] (mem (P, some 5, some 22) I J) Q := by
  have h12 : gi I 74 12 = bd T n p := hT.2.2.2.2.1
  obtain ⟨z0, z1, z2, z3, z4, -⟩ := hW.1
  refine WPm.of k_X12_statement.1 (Nat.le_of_ble_eq_true rfl) (B_X12_statement_0 (by omega) ?_)
  rw [hT.w hp (w := 0) (c := 1651470187) (by decide) (by decide +kernel), hT.w hp (w := 1) (c := 1885431653) (by decide) (by decide +kernel), hT.w hp (w := 5) (c := 474147546227) (by decide) (by decide +kernel), hT.w hp (w := 6) (c := 125779751232882) (by decide) (by decide +kernel), hT.w hp (w := 9) (c := 499850046565) (by decide) (by decide +kernel), hT.w hp (w := 11) (c := 1768842088) (by decide) (by decide +kernel), hT.w hp (w := 12) (c := 422877228659) (by decide) (by decide +kernel), hT.w hp (w := 13) (c := 499850634611) (by decide) (by decide +kernel), hT.w hp (w := 14) (c := 499917810803) (by decide) (by decide +kernel)]
  refine ⟨fun e12 => ⟨fun _ => ?_, fun q => absurd (by omega) q⟩, fun e12 => ⟨fun _ => ?_, fun q => absurd (by omega) q⟩⟩
  · have hb : bd T n p = -1 := h12.symm.trans e12
    have mv : ∀ {md : MD} {r : St}, RSt md T n b L N R p r → stm T n L N R rs rt p = r → WPm (k - 1) LAY md [vR (some 74)] (mem (P, some 5, some 22) I J) (retV (fun I2 J3 => Q none (mem (P, some 5, some 22) I2 J3)) (P, some 5, some 22)) := fun {md r} h1 h2 => by
      rw [h2] at hQ
      refine h1 (k - 1) P I J _ cd (by omega) hT h8 h40 hS hcd ?_
      cases r with
      | inl e => exact fun I' J' a1 a2 a3 a4 => ⟨_, _, rfl, rfl, hQ I' J' a1 a2 a3 a4⟩
      | inr c => exact ⟨fun I' J' cd' a1 a2 a3 a4 a5 a6 a7 => ⟨_, _, rfl, rfl, hQ.1 I' J' cd' a1 a2 a3 a4 a5 a6 a7⟩, fun q I' J' a1 a2 a3 a4 => ⟨_, _, rfl, rfl, hQ.2 q I' J' a1 a2 a3 a4⟩⟩
    have mr : ∀ {r : St}, stm T n L N R rs rt p = r → RSo I J (retV (fun I2 J3 => Q none (mem (P, some 5, some 22) I2 J3)) (P, some 5, some 22)) P T n b r := fun {r} h2 => by
      rw [h2] at hQ
      cases r with
      | inl e => exact fun I' J' a1 a2 a3 a4 => ⟨_, _, rfl, rfl, hQ I' J' a1 a2 a3 a4⟩
      | inr c => exact ⟨fun I' J' cd' a1 a2 a3 a4 a5 a6 a7 => ⟨_, _, rfl, rfl, hQ.1 I' J' cd' a1 a2 a3 a4 a5 a6 a7⟩, fun q I' J' a1 a2 a3 a4 => ⟨_, _, rfl, rfl, hQ.2 q I' J' a1 a2 a3 a4⟩⟩
    have gE : kR T n p = 1 → p < tE T n p ∧ tE T n p ≤ n := fun h1 => by
      have hg := tE_gt (T := T) hp (by rw [h1]; decide)
      exact ⟨by omega, hg.2.1⟩
    have rl : ∀ ρ, (if R ρ = [] then (1 : Int) else 0) ≠ -1 ∧ (R ρ ≠ [] ↔ (if R ρ = [] then (1 : Int) else 0) = 0) := fun ρ => by
      by_cases e : R ρ = []
      · rw [if_pos e]
        exact ⟨by decide, fun q => absurd e q, fun q => absurd q (by decide)⟩
      · rw [if_neg e]
        exact ⟨by decide, fun _ => rfl, fun _ => e⟩
    refine ⟨fun n0 => ⟨fun n1 => ⟨fun n5 => ⟨fun n6 => ⟨fun n9 => ⟨fun n11 => ⟨fun n12 => ⟨fun n13 => ⟨fun n14 => ⟨fun _ => ?_, fun q => absurd (by omega) q⟩, fun e => ?_⟩, fun e => ?_⟩, fun e => ?_⟩, fun e => ?_⟩, fun e => ?_⟩, fun e => ?_⟩, fun e => ?_⟩, fun e => ?_⟩, fun e => ?_⟩
    · have hr : ¬ (bd T n p = -1 ∧ kR T n p = 1 ∧ roomP L R (ow T n p) ≠ -1) := fun t => by
        rcases room_w t.2.2 with e | e | e | e | e | e | e | e | e
        · exact n0 ⟨t.2.1, e⟩
        · exact n1 ⟨t.2.1, e⟩
        · exact n5 ⟨t.2.1, e⟩
        · exact n6 ⟨t.2.1, e⟩
        · exact n9 ⟨t.2.1, e⟩
        · exact n11 ⟨t.2.1, e⟩
        · exact n12 ⟨t.2.1, e⟩
        · exact n13 ⟨t.2.1, e⟩
        · exact n14 ⟨t.2.1, e⟩
      unfold stm at hQ
      rw [ci_n hr] at hQ
      have e9 := ER.at hT hb
      exact hQ _ _ e9.2.1 e9.2.2 (e9.b b) (FrJ.rf _ _)
    · have hg := gE e.1
      refine WPm.of k_X12_telling.1 (Nat.le_of_ble_eq_true rfl) (B_X12_telling_0 (by omega) (R_ruleF (k := k - 1) (ρ := 2) (x := 1) (tst := true) (by omega) hX hp hb2 e.1 (by decide) rfl (by decide) (fun q h => h) (hR _ hg.2).2.2.2 (hR _ hg.2).2.1 hT h8 h40 hS hcd (mr (stm_w hb e (rl 2).1 (rl 2).2 rfl))))
    · have hg := gE e.1
      refine WPm.of k_X12_taking.1 (Nat.le_of_ble_eq_true rfl) (B_X12_taking_0 (by omega) (R_ruleF (k := k - 1) (ρ := 1) (x := 0) (tst := false) (by omega) hX hp hb2 e.1 (by decide) rfl (by decide) (fun q h => h) (hR _ hg.2).1.2.2 (hR _ hg.2).1.1 hT h8 h40 hS hcd (mr (stm_w hb e (rl 1).1 (rl 1).2 rfl))))
    · have hg := gE e.1
      refine WPm.of k_X12_burning.1 (Nat.le_of_ble_eq_true rfl) (B_X12_burning_0 (by omega) (R_ruleF (k := k - 1) (ρ := 0) (x := 0) (tst := false) (by omega) hX hp hb2 e.1 (by decide) rfl (by decide) (fun q h => h) (hR _ hg.2).1.2.2 (hR _ hg.2).1.1 hT h8 h40 hS hcd (mr (stm_w hb e (rl 0).1 (rl 0).2 rfl))))
    · exact mv (R_inch hX hp hb2 e.1) ((stm_w (C := False) hb e (by show (1 : Int) ≠ -1; decide) (by show False ↔ (1 : Int) = 0; decide) rfl).trans (ci_n id))
    · exact mv (R_table hX hp hb2 hW e.1) (stm_w hb e (by show 5 - L 0 3 ≠ -1; omega) (by show L 0 3 = 5 ↔ 5 - L 0 3 = 0; omega) rfl)
    · exact mv (R_reader hX hp hb2 hW e.1) (stm_w hb e (by show 6 - L 0 2 ≠ -1; omega) (by show L 0 2 = 6 ↔ 6 - L 0 2 = 0; omega) rfl)
    · exact mv (R_need hX hp hb2 hW e.1) (stm_w hb e (by show 20 - L 0 4 ≠ -1; omega) (by show L 0 4 = 20 ↔ 20 - L 0 4 = 0; omega) rfl)
    · exact mv (R_page hX hp hb2 hW e.1) (stm_w hb e (by show 14 - L 0 1 ≠ -1; omega) (by show L 0 1 = 14 ↔ 14 - L 0 1 = 0; omega) rfl)
    · exact mv (R_book hX hp hb2 hW e.1) (stm_w hb e (by show 5 - L 0 0 ≠ -1; omega) (by show L 0 0 = 5 ↔ 5 - L 0 0 = 0; omega) rfl)
  · have hb : bd T n p ≠ -1 := fun t => e12 (h12.trans t)
    unfold stm at hQ
    rw [ci_n (fun t => hb t.1)] at hQ
    have e9 := ER.lex hT hb
    exact hQ _ _ e9.2.1 e9.2.2 (e9.b b) (FrJ.rf _ _)
end RSTM

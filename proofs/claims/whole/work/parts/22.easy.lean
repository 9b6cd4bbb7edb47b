section EASY
/-! ===== the calls that only read: status, octet ===== -/
def V_st (I : Nat → Nat → Int32) : Prop := ∀ j : Nat, j < 6 → gi I 73 j = gi I 107 j
def V_oc (I : Nat → Nat → Int32) : Prop := gi I 70 2 = gi I 74 87 ∧ (0 ≤ gi I 70 2 ∧ gi I 70 2 ≤ 107) ∧ ∀ j : Nat, (j : Int) < gi I 70 2 → gi I 71 j = gi I 131 j
theorem Cpl2.here {V : Cpl} {P : Option Nat} {I : Nat → Nat → Int32} {J : Nat → Nat → Int64} (h : V I J) : Cpl2 V (mem (rv0 P) I J) := Or.inl ⟨P, I, J, rfl, h⟩
/-- a class's answer, and the reference's contract behind it -/
theorem Step.put {V : Cpl} {mR : MD} {as : List Int} {M : Mem} {z : Int} (hz : inR z) (hM : M.1 = LAY) (h : WPm 900 LAY mR (vR (some 74) :: as.map vI) M (fun r2 M2 => r2 = some (vI z) ∧ Cpl2 V M2)) : ∃ z', some (vI z) = some (vI z') ∧ inR z' ∧ M.1 = LAY ∧ WPm 900 LAY mR (vR (some 74) :: as.map vI) M (fun r2 M2 => r2 = some (vI z') ∧ Cpl2 V M2) := ⟨z, rfl, hz, hM, h⟩
theorem step_status {V V' : Cpl} (hV : ∀ I J, V I J → V_st I) (hm : ∀ I J, V I J → V' I J) (x : Int) (hx : inR x) : Step V V' m_X11_status m_X12_status [x] := by
  intro P I J h
  have hs := hV I J h
  have hR : ∀ z, (0 ≤ x ∧ x ≤ 5 → gi I 107 x.toNat = z) → (¬ (0 ≤ x ∧ x ≤ 5) → -1 = z) → WPm 900 LAY m_X12_status (vR (some 74) :: [x].map vI) (mem (rv0 P) I J) (fun r2 M2 => r2 = some (vI z) ∧ Cpl2 V' M2) := by
    intro z h1 h2
    refine WPm.of k_X12_status.1 (Nat.le_of_ble_eq_true rfl) (B_X12_status_0 (by omega) ⟨hx, fun q => ?_, fun q => ⟨⟨by omega, by omega⟩, ?_⟩⟩)
    · exact ⟨by rw [h2 q], Cpl2.here (hm _ _ h)⟩
    · exact ⟨by rw [h1 q], Cpl2.here (hm _ _ h)⟩
  refine WPm.of k_X11_status.1 (Nat.le_of_ble_eq_true rfl) (B_X11_status_0 (by omega) ⟨hx, fun q => ?_, fun q => ⟨fun q2 => ?_, fun q2 => ⟨⟨by omega, by omega⟩, ?_⟩⟩⟩)
  · exact Step.put (by decide) rfl (hR _ (fun z => by omega) (fun _ => rfl))
  · exact Step.put (by decide) rfl (hR _ (fun z => by omega) (fun _ => rfl))
  · exact Step.put (gi_in _ _ _) rfl (hR _ (fun z => (hs x.toNat (by omega)).symm) (fun z => absurd ⟨by omega, by omega⟩ z))
theorem step_octet {V V' : Cpl} (hV : ∀ I J, V I J → V_oc I) (hm : ∀ I J, V I J → V' I J) (x : Int) (hx : inR x) : Step V V' m_X11_octet m_X12_octet [x] := by
  intro P I J h
  obtain ⟨h1, h2, h3⟩ := hV I J h
  have hR : ∀ z, (0 ≤ x ∧ x < gi I 70 2 → gi I 131 x.toNat = z) → (¬ (0 ≤ x ∧ x < gi I 70 2) → -1 = z) → WPm 900 LAY m_X12_octet (vR (some 74) :: [x].map vI) (mem (rv0 P) I J) (fun r2 M2 => r2 = some (vI z) ∧ Cpl2 V' M2) := by
    intro z e1 e2
    refine WPm.of k_X12_octet.1 (Nat.le_of_ble_eq_true rfl) (B_X12_octet_0 (by omega) ⟨hx, ?_, fun q => ?_, fun q => ⟨⟨by omega, by omega⟩, ?_⟩⟩)
    · exact ⟨by omega, by omega⟩
    · exact ⟨by rw [e2 (by omega)], Cpl2.here (hm _ _ h)⟩
    · exact ⟨by rw [e1 (by omega)], Cpl2.here (hm _ _ h)⟩
  refine WPm.of k_X11_octet.1 (Nat.le_of_ble_eq_true rfl) (B_X11_octet_0 (by omega) ⟨hx, fun q => ?_, fun q => ⟨fun q2 => ?_, fun q2 => ⟨⟨by omega, by omega⟩, ?_⟩⟩⟩)
  · exact Step.put (by decide) rfl (hR _ (fun z => by omega) (fun _ => rfl))
  · exact Step.put (by decide) rfl (hR _ (fun z => by omega) (fun _ => rfl))
  · refine Step.put (gi_in _ _ _) rfl (hR _ (fun z => ?_) (fun z => absurd ⟨by omega, by omega⟩ z))
    exact (h3 x.toNat (by omega)).symm
/-! a refusal counted on both sides -/
def refI (I : Nat → Nat → Int32) (j : Nat) : Nat → Nat → Int32 := si (si I 73 j (gi I 73 j + 1)) 107 j (gi I 107 j + 1)
theorem gi_si_same (I I' : Nat → Nat → Int32) (c c' k k' : Nat) {z z' : Int} (h : z = z') : gi (si I c k z) c k = gi (si I' c' k' z') c' k' := by
  subst h
  simp [gi, si, up2]
theorem V_st_ref {I : Nat → Nat → Int32} (h : V_st I) (j : Nat) (hj : j < 6) : V_st (refI I j) := by
  intro k hk
  unfold refI
  by_cases e : k = j
  · subst e
    rw [gi_cell _ _ _ _ (by decide)]
    exact gi_si_same _ _ _ _ _ _ (by rw [h k hk])
  · rw [gi_cell _ _ _ _ (by decide), gi_idx _ _ _ e, gi_idx _ _ _ e, gi_cell _ _ _ _ (by decide)]
    exact h k hk
theorem step_end {V V' : Cpl} (hT : ∀ I J, V I J → gi I 1 1 = gi I 74 1) (hput : ∀ I J x, V I J → inR x → 0 ≤ x → x ≤ gi I 1 1 → V' (si (si I 1 1 x) 74 1 x) J) (hno : ∀ I J j, V I J → j < 6 → V' (refI I j) J) (x : Int) (hx : inR x) : Step V V' m_X11_end m_X12_end [x] := by
  intro P I J h
  have ht := hT I J h
  have hN : ¬ (0 ≤ x ∧ x ≤ gi I 1 1) → WPm 900 LAY m_X12_end (vR (some 74) :: [x].map vI) (mem (rv0 P) (si I 73 0 (gi I 73 0 + 1)) J) (fun r2 M2 => r2 = some (vI 0) ∧ Cpl2 V' M2) := by
    intro hn
    have e1 : gi (si I 73 0 (gi I 73 0 + 1)) 74 1 = gi I 74 1 := gi_cell _ _ _ _ (by decide)
    have e2 : gi (si I 73 0 (gi I 73 0 + 1)) 107 0 = gi I 107 0 := gi_cell _ _ _ _ (by decide)
    refine WPm.of k_X12_end.1 (Nat.le_of_ble_eq_true rfl) (B_X12_end_0 (by omega) ?_)
    rw [e1, e2]
    exact ⟨hx, fun q => ⟨rfl, Cpl2.here (hno I J 0 h (by decide))⟩, fun q => ⟨fun q2 => absurd ⟨by omega, by omega⟩ hn, fun q2 => ⟨rfl, Cpl2.here (hno I J 0 h (by decide))⟩⟩⟩
  have hY : 0 ≤ x → x ≤ gi I 1 1 → WPm 900 LAY m_X12_end (vR (some 74) :: [x].map vI) (mem (rv0 P) (si I 1 1 x) J) (fun r2 M2 => r2 = some (vI 1) ∧ Cpl2 V' M2) := by
    intro h0 h1
    have e1 : gi (si I 1 1 x) 74 1 = gi I 74 1 := gi_cell _ _ _ _ (by decide)
    refine WPm.of k_X12_end.1 (Nat.le_of_ble_eq_true rfl) (B_X12_end_0 (by omega) ?_)
    rw [e1]
    exact ⟨hx, fun q => absurd h0 (by omega), fun q => ⟨fun q2 => ⟨rfl, Cpl2.here (hput I J x h hx h0 h1)⟩, fun q2 => absurd h1 (by omega)⟩⟩
  refine WPm.of k_X11_end.1 (Nat.le_of_ble_eq_true rfl) (B_X11_end_0 (by omega) ⟨hx, fun q => ?_, fun q => ⟨fun q2 => ?_, fun q2 => ?_⟩⟩)
  · exact Step.put (by decide) rfl (hN (by omega))
  · exact Step.put (by decide) rfl (hY (by omega) q2)
  · exact Step.put (by decide) rfl (hN (by omega))
end EASY

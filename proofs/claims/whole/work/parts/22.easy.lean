section EASY
/-! ===== the calls that only read: status, octet ===== -/
def V_st (I : Nat → Nat → Int32) : Prop := ∀ j : Nat, j < 6 → gi I 73 j = gi I 107 j
def V_oc (I : Nat → Nat → Int32) : Prop := gi I 70 2 = gi I 74 87 ∧ (0 ≤ gi I 70 2 ∧ gi I 70 2 ≤ 107) ∧ ∀ j : Nat, (j : Int) < gi I 70 2 → gi I 71 j = gi I 131 j
theorem Cpl2.here {V : Cpl} {P : Option Nat} {I : Nat → Nat → Int32} {J : Nat → Nat → Int64} (h : V I J) : Cpl2 V (mem (rv0 P) I J) := Or.inl ⟨P, I, J, rfl, h⟩
/-- a class's answer, and the reference's contract behind it -/
theorem Step.put {V : Cpl} {mR : MD} {as : List Int} {M : Mem} {z : Int} (hz : inR z) (hM : M.1 = LAY) (h : WPm 900 LAY mR (vR (some 74) :: as.map vI) M (fun r2 M2 => r2 = some (vI z) ∧ Cpl2 V M2)) : ∃ z', some (vI z) = some (vI z') ∧ inR z' ∧ M.1 = LAY ∧ WPm 900 LAY mR (vR (some 74) :: as.map vI) M (fun r2 M2 => r2 = some (vI z') ∧ Cpl2 V M2) := ⟨z, rfl, hz, hM, h⟩
theorem step_status {V : Cpl} (hV : ∀ I J, V I J → V_st I) (x : Int) (hx : inR x) : Step V m_X11_status m_X12_status [x] := by
  intro P I J h
  have hs := hV I J h
  have hR : ∀ z, (0 ≤ x ∧ x ≤ 5 → gi I 107 x.toNat = z) → (¬ (0 ≤ x ∧ x ≤ 5) → -1 = z) → WPm 900 LAY m_X12_status (vR (some 74) :: [x].map vI) (mem (rv0 P) I J) (fun r2 M2 => r2 = some (vI z) ∧ Cpl2 V M2) := by
    intro z h1 h2
    refine WPm.of k_X12_status.1 (Nat.le_of_ble_eq_true rfl) (B_X12_status_0 (by omega) ⟨hx, fun q => ?_, fun q => ⟨⟨by omega, by omega⟩, ?_⟩⟩)
    · exact ⟨by rw [h2 q], Cpl2.here h⟩
    · exact ⟨by rw [h1 q], Cpl2.here h⟩
  refine WPm.of k_X11_status.1 (Nat.le_of_ble_eq_true rfl) (B_X11_status_0 (by omega) ⟨hx, fun q => ?_, fun q => ⟨fun q2 => ?_, fun q2 => ⟨⟨by omega, by omega⟩, ?_⟩⟩⟩)
  · exact Step.put (by decide) rfl (hR _ (fun z => by omega) (fun _ => rfl))
  · exact Step.put (by decide) rfl (hR _ (fun z => by omega) (fun _ => rfl))
  · exact Step.put (gi_in _ _ _) rfl (hR _ (fun z => (hs x.toNat (by omega)).symm) (fun z => absurd ⟨by omega, by omega⟩ z))
theorem step_octet {V : Cpl} (hV : ∀ I J, V I J → V_oc I) (x : Int) (hx : inR x) : Step V m_X11_octet m_X12_octet [x] := by
  intro P I J h
  obtain ⟨h1, h2, h3⟩ := hV I J h
  have hR : ∀ z, (0 ≤ x ∧ x < gi I 70 2 → gi I 131 x.toNat = z) → (¬ (0 ≤ x ∧ x < gi I 70 2) → -1 = z) → WPm 900 LAY m_X12_octet (vR (some 74) :: [x].map vI) (mem (rv0 P) I J) (fun r2 M2 => r2 = some (vI z) ∧ Cpl2 V M2) := by
    intro z e1 e2
    refine WPm.of k_X12_octet.1 (Nat.le_of_ble_eq_true rfl) (B_X12_octet_0 (by omega) ⟨hx, ?_, fun q => ?_, fun q => ⟨⟨by omega, by omega⟩, ?_⟩⟩)
    · exact ⟨by omega, by omega⟩
    · exact ⟨by rw [e2 (by omega)], Cpl2.here h⟩
    · exact ⟨by rw [e1 (by omega)], Cpl2.here h⟩
  refine WPm.of k_X11_octet.1 (Nat.le_of_ble_eq_true rfl) (B_X11_octet_0 (by omega) ⟨hx, fun q => ?_, fun q => ⟨fun q2 => ?_, fun q2 => ⟨⟨by omega, by omega⟩, ?_⟩⟩⟩)
  · exact Step.put (by decide) rfl (hR _ (fun z => by omega) (fun _ => rfl))
  · exact Step.put (by decide) rfl (hR _ (fun z => by omega) (fun _ => rfl))
  · refine Step.put (gi_in _ _ _) rfl (hR _ (fun z => ?_) (fun z => absurd ⟨by omega, by omega⟩ z))
    exact (h3 x.toNat (by omega)).symm
end EASY

section NIGHTS
/-! ===== a night ===== -/
theorem rem_19 (I : Nat → Nat → Int32) (k : Nat) : gi (remI I) 19 k = gi I 19 k := gi_eq (rem_at I (by decide) (by omega))
theorem rem_cx {I : Nat → Nat → Int32} {L : Lb} {R : Rl} {H : Hl} (hX : CX I L R H) : CX (remI I) L R H := hX.fr (fun c a b => funext fun k => rem_at I (by omega) (by omega))
/-- the reference keeps what is now: its record stays -/
theorem kee_rx {I I1 : Nat → Nat → Int32} {L : Lb} {R : Rl} {H : Hl} (hR : RX I 0 L R H) (h1 : ∀ c k, 74 ≤ c → I1 c k = remI I c k) : RX (keeI I1) 0 L R H := by
  have e1 : ∀ c k, 74 ≤ c → I1 c k = I c k := fun c k p => (h1 c k p).trans (rem_at I (by omega) (by omega))
  have hrl : sameRL I (keeI I1) := ⟨fun c a b => funext fun k => (kee_at I1 (by omega) (by omega)).trans (e1 c k (by omega)), gi_eq ((kee_at I1 (by decide) (by decide)).trans (e1 74 13 (by decide)))⟩
  have ly : LayEq I 0 I1 0 := ⟨fun c hc => e1 c 0 (by omega), fun c i hc hi => e1 c _ (by omega), fun i hi => e1 _ _ (by omega), fun c i hc hi => e1 c _ (by omega)⟩
  exact hR.l0 hrl (ly.tr ((kee_lay I1).2 0 (by omega)))
theorem kee_kp {I I1 : Nat → Nat → Int32} (h1 : ∀ c k, 74 ≤ c → I1 c k = remI I c k) (h117 : 0 ≤ gi I 117 0 ∧ gi I 117 0 ≤ 60) : kpL (keeI I1) 0 = kpL I 0 ∧ gi (keeI I1) 117 0 = gi I 117 0 ∧ gi (keeI I1) 74 72 = gi I 74 72 ∧ gi (keeI I1) 74 73 = gi I 74 73 := by
  have e1 : ∀ c k, 74 ≤ c → I1 c k = I c k := fun c k p => (h1 c k p).trans (rem_at I (by omega) (by omega))
  have ly : LayEq I 0 I1 0 := ⟨fun c hc => e1 c 0 (by omega), fun c i hc hi => e1 c _ (by omega), fun i hi => e1 _ _ (by omega), fun c i hc hi => e1 c _ (by omega)⟩
  have ly2 := ly.tr ((kee_lay I1).2 0 (by omega))
  exact ⟨kpL_lay ly2 h117, gi_eq (ly2.1 117 (Or.inr (Or.inr rfl))), gi_eq ((kee_at I1 (by decide) (by decide)).trans (e1 74 72 (by decide))), gi_eq ((kee_at I1 (by decide) (by decide)).trans (e1 74 73 (by decide)))⟩
theorem lay_tch {c k : Nat} (s1 : scrC c = false) (s2 : scrF c k = false) (l0 : ¬ lay0 c k) : ¬ tchA 0 c k := by
  intro t
  unfold tchA at t
  unfold lay0 at l0
  simp [scrF] at s2
  simp [scrC] at s1
  omega
theorem lay_89 {c k : Nat} (l0 : ¬ lay0 c k) : ¬ ((c = 108 ∨ c = 109) ∧ k = 0) := by
  unfold lay0 at l0
  omega
theorem tch0_7 {k : Nat} (hk : k = 72 ∨ k = 73) : ¬ tchA 0 74 k := by
  unfold tchA
  omega
theorem step_night {V V' : Cpl} (hA : Vact V V') : Step V V' m_X11_night m_X12_night [] := by
  intro P I J hV
  obtain ⟨hH, hst⟩ := hA.1 I J hV
  have hH0 := hH
  obtain ⟨⟨hC, hR, h72, h73⟩, hVP, hK, hrn⟩ := hH
  have hL := hC.1.2.2.2.1
  have hHh := hC.2.2
  obtain ⟨p1, p2, p3, p4, -, -⟩ := hVP
  have e190 : gi I 19 0 = HC I 8 0 := cx_8 hC
  have e108 : gi I 108 0 = HC I 8 0 := rx_8 hR
  have hh0 := hHh.1
  have h117 : 0 ≤ gi I 117 0 ∧ gi I 117 0 ≤ 60 := by
    have h1 := hK.1
    have h2 : gi I 117 0 = min 60 (gi I 19 2) := hK.2.1
    omega
  refine WPm.of k_X11_night.1 (Nat.le_of_ble_eq_true rfl) (B_X11_night_0 (by omega) ⟨fun q => ⟨⟨by omega, by omega⟩, ⟨by omega, by omega⟩, ?_⟩, fun q => ?_⟩)
  · change WPm (900 - 1) LAY m_X11_passNight [vR (some 0), vI (-1)] (mem (rv0 P) (remI I) J) _
    have r2 : gi (remI I) 19 2 = gi I 19 2 := rem_19 I 2
    have b := allR_bd (R := RC I) hL hHh (cold := -1)
    refine S_X11_pass (L := LC I) (R := RC I) (H := HC I) (by omega) (rem_cx hC) (by decide) (by omega) (by rw [r2]; exact ⟨hK.1.1, hrn⟩) (fun I1 hP => ⟨_, _, _, rfl, rfl, Step.put ⟨by omega, by omega⟩ rfl ?_⟩)
    obtain ⟨a1, a1', a2, a3, a4, a5⟩ := hP
    have h998 : HC I 8 0 ≤ 998 := by omega
    have f108 : gi I1 108 0 = HC I 8 0 := (gi_eq ((a1' 108 0 (by decide)).trans (rem_at I (by decide) (by decide)))).trans e108
    have f65 : gi I1 74 65 = gi I 74 65 := gi_eq ((a1' 74 65 (by decide)).trans (rem_at I (by decide) (by decide)))
    have f66 : gi I1 74 66 = gi I 74 66 := gi_eq ((a1' 74 66 (by decide)).trans (rem_at I (by decide) (by decide)))
    obtain ⟨k1, k2, k3, k4⟩ := kee_kp a1' h117
    refine WPm.of k_X12_night.1 (Nat.le_of_ble_eq_true rfl) (B_X12_night_0 (by omega) ⟨fun _ => ?_, fun w => absurd w (by omega)⟩)
    refine S_X12_keeps (by omega) (by omega) (by omega) ⟨_, _, rfl, rfl, ?_⟩
    refine S_X12_nightGoes (cold := -1) (by decide) (kee_rx hR a1') (k3.trans h72) (k4.trans h73) h998 (by rw [k2]; exact h117) (fun I' J' hPR hJ => ⟨_, _, _, rfl, rfl, rfl, ?_⟩)
    obtain ⟨c1, c2, c3, c4⟩ := hPR
    have hb : ∀ k, gi (remI I) 20 k = gi I 20 k := fun k => gi_eq (rem_at I (by decide) (by omega))
    have hkl := (KP_l.mp hK).2.2
    have hrd := nit_rd (R := RC I) hL hHh (-1)
    have fin := VH.nights (I := I) (I1 := I1) (I' := I') (H' := nitH (LC I) (RC I) (HC I) (-1)) (l' := kpN (LC I) (RC I) (HC I) (-1) (kpL I 0) (nR (LC I)).toNat) hH0 hst a1 a1' a2 ⟨by rw [a3, r2]; omega, by rw [a3, r2, hrd]; omega⟩ (fun j hj => (a4 j (by rw [r2]; exact hj)).trans (hb j)) (a5 _ (by rw [r2]; exact KPl_mv hkl (fun j _ => hb j))) (fun c k s1 s2 l0 => c1 c k (lay_tch s1 s2 l0) (lay_89 l0)) c2 ⟨c3.trans (by rw [k1]), c4.1⟩ ⟨?_, ?_⟩
    · exact Cpl2.here (hA.2.1 I J I' J' hV fin.1 fin.2.1 fin.2.2.1 fin.2.2.2 (J1_scr hJ))
    · exact (gi_eq (c1 74 72 (tch0_7 (Or.inl rfl)) (by decide))).trans (k3.trans h72)
    · exact (gi_eq (c1 74 73 (tch0_7 (Or.inr rfl)) (by decide))).trans (k4.trans h73)
  · refine Step.put (by decide) rfl (ref_R 3 (by decide) (hA.2.2 I J 3 hV (by decide)) (fun Q hQ => ?_))
    have e1 : gi (si I 73 3 (gi I 73 3 + 1)) 108 0 = gi I 108 0 := gi_cell _ _ _ _ (by decide)
    refine WPm.of k_X12_night.1 (Nat.le_of_ble_eq_true rfl) (B_X12_night_0 (by omega) ?_)
    rw [e1]
    exact ⟨fun w => absurd w (by omega), fun _ => hQ⟩
end NIGHTS

section STEPS
/-! ===== what no call's answer rests on: the working rows ===== -/
def scrC (c : Nat) : Bool := (37 ≤ c && c ≤ 38) || (40 ≤ c && c ≤ 41) || (43 ≤ c && c ≤ 50) || c == 72 || (122 ≤ c && c ≤ 130)
def scrF (c k : Nat) : Bool := (c == 39 && (k == 4 || k == 5)) || (c == 70 && k == 3) || (c == 74 && (k == 69 || k == 70 || k == 71 || k == 77 || k == 82 || k == 83)) || ((c == 108 || c == 109 || c == 117) && k == 1) || (110 ≤ c && c ≤ 115 && 6 ≤ k && k < 12) || (c == 116 && 48 ≤ k && k < 96) || (118 ≤ c && c ≤ 120 && 60 ≤ k && k < 120)
def scrS (I I' : Nat → Nat → Int32) : Prop := ∀ c k, scrC c = false → scrF c k = false → I' c k = I c k
def scrJ (J J' : Nat → Nat → Int64) : Prop := ∀ c k, ¬ (c = 121 ∨ c = 68 ∨ c = 69) → J' c k = J c k
theorem scrS.rf (I : Nat → Nat → Int32) : scrS I I := fun _ _ _ _ => rfl
theorem scrJ.rf (J : Nat → Nat → Int64) : scrJ J J := fun _ _ _ => rfl
theorem scrS.tr {I I' I'' : Nat → Nat → Int32} (h : scrS I I') (h' : scrS I' I'') : scrS I I'' := fun c k a b => (h' c k a b).trans (h c k a b)
theorem scrJ.tr {I I' I'' : Nat → Nat → Int64} (h : scrJ I I') (h' : scrJ I' I'') : scrJ I I'' := fun c k a => (h' c k a).trans (h c k a)
theorem Fr.scr {cs : List Nat} {fs : List (Nat × Nat)} {I I' : Nat → Nat → Int32} (h : Fr cs fs I I') (h1 : ∀ c ∈ cs, scrC c = true) (h2 : ∀ q ∈ fs, scrC q.1 = true ∨ scrF q.1 q.2 = true) : scrS I I' := fun c k a b => h c k (fun q => absurd (h1 c q) (by rw [a]; decide)) (fun q => (h2 _ q).elim (fun z => absurd z (by rw [a]; decide)) (fun z => absurd z (by rw [b]; decide)))
theorem Fr.scrJ {cs : List Nat} {fs : List (Nat × Nat)} {J J' : Nat → Nat → Int64} (h : Fr cs fs J J') (h1 : ∀ c ∈ cs, c = 121 ∨ c = 68 ∨ c = 69) (h2 : fs = []) : scrJ J J' := fun c k a => h c k (fun q => a (h1 c q)) (by rw [h2]; simp)
theorem scrS.cell {I I' : Nat → Nat → Int32} (h : scrS I I') (c : Nat) (h1 : scrC c = false) (h2 : ∀ k, scrF c k = false) : I' c = I c := funext fun k => h c k h1 (h2 k)
theorem scrS.gv {I I' : Nat → Nat → Int32} (h : scrS I I') (c k : Nat) (h1 : scrC c = false) (h2 : scrF c k = false) : gi I' c k = gi I c k := congrArg Int32.toInt (h c k h1 h2)
theorem scrC_lo {c : Nat} (h : 5 ≤ c ∧ c ≤ 19 ∨ 76 ≤ c ∧ c ≤ 107) : scrC c = false ∧ ∀ k, scrF c k = false := by
  constructor
  · unfold scrC
    simp
    omega
  · intro k
    unfold scrF
    simp
    omega
theorem scrS.cx {I I' : Nat → Nat → Int32} (h : scrS I I') : sameC I I' := fun c a b => h.cell c (scrC_lo (Or.inl ⟨a, b⟩)).1 (scrC_lo (Or.inl ⟨a, b⟩)).2
theorem scrS.rl {I I' : Nat → Nat → Int32} (h : scrS I I') : sameRL I I' := ⟨fun c a b => h.cell c (scrC_lo (Or.inr ⟨a, by omega⟩)).1 (scrC_lo (Or.inr ⟨a, by omega⟩)).2, h.gv 74 13 (by decide) (by decide)⟩
theorem scrS.g0 {I I' : Nat → Nat → Int32} (h : scrS I I') {c k : Nat} (hc : 110 ≤ c ∧ c ≤ 115) (hk : k < 6) : gi I' c k = gi I c k := by
  refine h.gv c k ?_ ?_
  · unfold scrC
    simp
    omega
  · unfold scrF
    simp
    omega
theorem scrS.g1 {I I' : Nat → Nat → Int32} (h : scrS I I') {k : Nat} (hk : k < 48) : gi I' 116 k = gi I 116 k := by
  refine h.gv 116 k (by decide) ?_
  unfold scrF
  simp
  omega
theorem HR0_key {I I' : Nat → Nat → Int32} (h : scrS I I') (hn : gi I 83 (gi I 74 13).toNat ≤ 6) (c : Nat) (i : Int) (hc : 110 ≤ c ∧ c ≤ 115) : tr (gi I 83 (gi I 74 13).toNat) (gi I' c ((6 * 0) + i).toNat) i = tr (gi I 83 (gi I 74 13).toNat) (gi I c ((6 * 0) + i).toNat) i := by
  by_cases hi : 0 ≤ i ∧ i < gi I 83 (gi I 74 13).toNat
  · rw [tr_in hi, tr_in hi, h.g0 hc (by omega)]
  · rw [tr_out hi, tr_out hi]
theorem HR0_lst {I I' : Nat → Nat → Int32} (h : scrS I I') (hn : gi I 83 (gi I 74 13).toNat ≤ 6) (h8 : ∀ r : Int, 0 ≤ r → r < gi I 83 (gi I 74 13).toNat → gi I 115 ((6 * 0) + r).toNat ≤ 8) (i : Int) : tr (gi I 83 (gi I 74 13).toNat) (tr (gi I' 115 ((6 * 0) + (i / 8)).toNat) (gi I' 116 ((8 * ((6 * 0) + (i / 8))) + i % 8).toNat) (i % 8)) (i / 8) = tr (gi I 83 (gi I 74 13).toNat) (tr (gi I 115 ((6 * 0) + (i / 8)).toNat) (gi I 116 ((8 * ((6 * 0) + (i / 8))) + i % 8).toNat) (i % 8)) (i / 8) := by
  by_cases hi : 0 ≤ i / 8 ∧ i / 8 < gi I 83 (gi I 74 13).toNat
  · rw [tr_in hi, tr_in hi, h.g0 (c := 115) (by decide) (by omega)]
    have e8 := h8 (i / 8) hi.1 hi.2
    by_cases hj : 0 ≤ i % 8 ∧ i % 8 < gi I 115 ((6 * 0) + (i / 8)).toNat
    · rw [tr_in hj, tr_in hj, h.g1 (by omega)]
    · rw [tr_out hj, tr_out hj]
  · rw [tr_out hi, tr_out hi]
theorem HR_big (I : Nat → Nat → Int32) (v i : Int) {f : Nat} (hf : f = 0 ∨ 10 ≤ f) : HR I v f i = 0 := by
  unfold HR
  split <;> first | omega | rfl
theorem HR0_fr {I I' : Nat → Nat → Int32} (h : scrS I I') (hn : gi I 83 (gi I 74 13).toNat ≤ 6) (h8 : ∀ r : Int, 0 ≤ r → r < gi I 83 (gi I 74 13).toNat → gi I 115 ((6 * 0) + r).toNat ≤ 8) : HR I' 0 = HR I 0 := by
  have hb := h.gv 74 13 (by decide) (by decide)
  have h83 : gi I' 83 = gi I 83 := gi_row (h.cell 83 (by decide) (scrC_lo (Or.inr (by decide))).2)
  have c8 := h.gv 108 0 (by decide) (by decide)
  have c9 := h.gv 109 0 (by decide) (by decide)
  have key : ∀ (c : Nat) (i : Int), 110 ≤ c ∧ c ≤ 115 → tr (gi I' 83 (gi I' 74 13).toNat) (gi I' c ((6 * 0) + i).toNat) i = tr (gi I 83 (gi I 74 13).toNat) (gi I c ((6 * 0) + i).toNat) i := by
    intro c i hc
    rw [hb, h83]
    exact HR0_key h hn c i hc
  have e1 : ∀ i, HR I' 0 1 i = HR I 0 1 i := fun i => key 110 i (by decide)
  have e2 : ∀ i, HR I' 0 2 i = HR I 0 2 i := fun i => key 111 i (by decide)
  have e3 : ∀ i, HR I' 0 3 i = HR I 0 3 i := fun i => key 112 i (by decide)
  have e4 : ∀ i, HR I' 0 4 i = HR I 0 4 i := fun i => key 113 i (by decide)
  have e5 : ∀ i, HR I' 0 5 i = HR I 0 5 i := fun i => key 114 i (by decide)
  have e6 : ∀ i, HR I' 0 6 i = HR I 0 6 i := fun i => key 115 i (by decide)
  have e7 : ∀ i, HR I' 0 7 i = HR I 0 7 i := by
    intro i
    have q := HR0_lst h hn h8 i
    show tr (gi I' 83 (gi I' 74 13).toNat) (tr (gi I' 115 ((6 * 0) + (i / 8)).toNat) (gi I' 116 ((8 * ((6 * 0) + (i / 8))) + i % 8).toNat) (i % 8)) (i / 8) = tr (gi I 83 (gi I 74 13).toNat) (tr (gi I 115 ((6 * 0) + (i / 8)).toNat) (gi I 116 ((8 * ((6 * 0) + (i / 8))) + i % 8).toNat) (i % 8)) (i / 8)
    rw [hb, h83]
    exact q
  have e8 : ∀ i, HR I' 0 8 i = HR I 0 8 i := fun i => c8
  have e9 : ∀ i, HR I' 0 9 i = HR I 0 9 i := fun i => c9
  funext f i
  by_cases hf : f = 0 ∨ 10 ≤ f
  · rw [HR_big I' 0 i hf, HR_big I 0 i hf]
  · have hc : f = 1 ∨ f = 2 ∨ f = 3 ∨ f = 4 ∨ f = 5 ∨ f = 6 ∨ f = 7 ∨ f = 8 ∨ f = 9 := by omega
    rcases hc with rfl | rfl | rfl | rfl | rfl | rfl | rfl | rfl | rfl
    · exact e1 i
    · exact e2 i
    · exact e3 i
    · exact e4 i
    · exact e5 i
    · exact e6 i
    · exact e7 i
    · exact e8 i
    · exact e9 i
theorem RX.fr0 {I I' : Nat → Nat → Int32} {L : Lb} {R : Rl} {H : Hl} (hX : RX I 0 L R H) (h : scrS I I') : RX I' 0 L R H := by
  refine ⟨hX.1.fr h.rl, (HR0_fr h ?_ ?_).trans hX.2.1, hX.2.2⟩
  · rw [rx_n hX]
    exact hX.1.2.2.2.2.1.2.2.1.2
  · intro r h0 h1
    rw [rx_n hX] at h1
    rw [rx_6 hX ⟨h0, h1⟩]
    exact (hX.2.2.1.2.2 r h0 h1).2.2.2.2.1.2
/-- both objects tell the same, and no night is cold -/
def VA (I : Nat → Nat → Int32) : Prop := CX I (LC I) (RC I) (HC I) ∧ RX I 0 (LC I) (RC I) (HC I) ∧ gi I 74 72 = -1 ∧ gi I 74 73 = -1
/-- a coupling that the working rows don't touch -/
def Vsc (V V' : Cpl) : Prop := ∀ I J I' J', V I J → scrS I I' → scrJ J J' → V' I' J'
/-- a call that changes nothing but working rows: its answer on both sides -/
theorem Step.rd {V V' : Cpl} {mC mR : MD} {as : List Int} (hS : Vsc V V') (h : ∀ I J, V I J → ∃ z, inR z ∧ (∀ P (Q : Option AV → Mem → Prop), (∀ I', scrS I I' → ∀ J', scrJ J J' → Q (some (vI z)) (mem (rv0 P) I' J')) → WPm 900 LAY mC (vR (some 0) :: as.map vI) (mem (rv0 P) I J) Q) ∧ (∀ P I1 J1, scrS I I1 → scrJ J J1 → ∀ (Q : Option AV → Mem → Prop), (∀ I', scrS I1 I' → ∀ J', scrJ J1 J' → Q (some (vI z)) (mem (rv0 P) I' J')) → WPm 900 LAY mR (vR (some 74) :: as.map vI) (mem (rv0 P) I1 J1) Q)) : Step V V' mC mR as := by
  intro P I J hV
  obtain ⟨z, hz, hC, hR⟩ := h I J hV
  refine hC P _ (fun I1 h1 J1 k1 => Step.put hz rfl (hR P I1 J1 h1 k1 _ (fun I2 h2 J2 k2 => ⟨rfl, Cpl2.here (hS I J I2 J2 hV (h1.tr h2) (k1.tr k2))⟩)))
theorem SA_scr {I I' : Nat → Nat → Int32} (h : Fr [] SA I I') : scrS I I' := h.scr (by decide) (by decide)
theorem S3_scr {I I' : Nat → Nat → Int32} (h : Fr [37, 38] [] I I') : scrS I I' := h.scr (by decide) (by decide)
theorem J1_scr {J J' : Nat → Nat → Int64} (h : Fr [121] [] J J') : scrJ J J' := h.scrJ (by decide) rfl
/-! the simplest calls -/
theorem step_fault {V V' : Cpl} (hS : Vsc V V') (hF : ∀ I J, V I J → gi I 3 2 = gi I 74 10 ∧ gi I 3 3 = gi I 74 11) (x : Int) (hx : inR x) : Step V V' m_X11_fault m_X12_fault [x] := by
  refine Step.rd hS (fun I J hV => ?_)
  obtain ⟨h2, h3⟩ := hF I J hV
  refine ⟨if x = 0 then gi I 3 2 else if x = 1 then gi I 3 3 else -1, ?_, fun P Q hQ => ?_, fun P I1 J1 h1 k1 Q hQ => ?_⟩
  · split
    · exact gi_in _ _ _
    · split
      · exact gi_in _ _ _
      · decide
  · have hq := hQ I (scrS.rf I) J (scrJ.rf J)
    refine WPm.of k_X11_fault.1 (Nat.le_of_ble_eq_true rfl) (B_X11_fault_0 (by omega) ⟨hx, fun q => ?_, fun q => ⟨fun q2 => ?_, fun q2 => ?_⟩⟩)
    · rw [if_pos q] at hq; exact hq
    · rw [if_neg q, if_pos q2] at hq; exact hq
    · rw [if_neg q, if_neg q2] at hq; exact hq
  · have hq := hQ I1 (scrS.rf I1) J1 (scrJ.rf J1)
    have e2 := h1.gv 74 10 (by decide) (by decide)
    have e3 := h1.gv 74 11 (by decide) (by decide)
    refine WPm.of k_X12_fault.1 (Nat.le_of_ble_eq_true rfl) (B_X12_fault_0 (by omega) ⟨hx, fun q => ⟨fun q2 => ?_, fun q2 => ?_⟩, fun q => ?_⟩)
    · rw [if_neg q, if_neg q2] at hq; exact hq
    · rw [if_neg q, if_pos q2] at hq; exact Qat hq (by omega)
    · rw [if_pos q] at hq; exact Qat hq (by omega)
theorem kk_of {L : Lb} {I : Nat → Nat → Int32} (H : Hl) (r : Int) (h : gi I 74 72 = -1) : kkR I H r (pop (kn H r)) := by
  have := pop_le (kn H r)
  exact ⟨⟨by omega, by omega⟩, Or.inl ⟨h, rfl⟩⟩
theorem dr_no {L : Lb} {I : Nat → Nat → Int32} (h : gi I 74 73 = -1) {t : Int} (ht : 0 ≤ t) : dr L (gi I 74 73) t = L 7 t := by
  unfold dr
  rw [if_neg (by omega)]
  omega
theorem mil_7 {L : Lb} (hL : WfL L) {t : Int} (ht : 0 ≤ t ∧ t < nT L) : mil (L 7 t) := by
  have := hL.2.2.2.2.2.2.2.2.2 t ht.1 ht.2
  omega
theorem envN {L : Lb} {R : Rl} {H : Hl} {I : Nat → Nat → Int32} (hX : CX I L R H) {r : Int} (hr : 0 ≤ r ∧ r < nR L) : envB L (H 8 0) r (L 7 (H 1 r)) (sit L H (H 1 r)) (pop (kn H r)) 0 0 := by
  have hL := hX.1.2.2.2.1
  have hs := sit_bd H hL (H 1 r)
  have hp := pop_le (kn H r)
  exact envB_of hL hX.2.2 hr (mil_7 hL (hX.2.2.2.2 r hr.1 hr.2).1) ⟨by omega, by omega⟩ ⟨by omega, by omega⟩
theorem step_burns {V V' : Cpl} (hS : Vsc V V') (hA : ∀ I J, V I J → VA I) (x : Int) (hx : inR x) : Step V V' m_X11_burns m_X12_burns [x] := by
  refine Step.rd hS (fun I J hV => ?_)
  obtain ⟨hC, hR, h72, h73⟩ := hA I J hV
  generalize LC I = L at hC hR
  generalize RC I = R at hC hR
  generalize HC I = H at hC hR
  have hL := hC.1.2.2.2.1
  refine ⟨if 0 ≤ x ∧ x < nR L then burS L R (H 8 0) x (L 7 (H 1 x)) (sit L H (H 1 x)) (pop (kn H x)) else -1, ?_, fun P Q hQ => ?_, fun P I1 J1 h1 k1 Q hQ => ?_⟩
  · have := burS_in (R := R) hL (night := H 8 0) (r := x) (d := L 7 (H 1 x)) (s := sit L H (H 1 x)) (k := pop (kn H x))
    split
    · exact ⟨by omega, by omega⟩
    · decide
  · have e2 : gi I 6 (2 : Int).toNat = nR L := cx_n hC
    refine WPm.of k_X11_burns.1 (Nat.le_of_ble_eq_true rfl) (B_X11_burns_0 (by omega) ?_)
    rw [e2]
    refine ⟨hx, fun q => ?_, fun q => ?_⟩
    · rw [if_pos q] at hQ
      refine S_X9_now (by omega) hC q (fun I2 hF2 hv => ⟨_, _, rfl, rfl, ?_⟩)
      have hC2 := hC.fr (hF2.cx (by decide) (by decide))
      exact S_X9_inch (by omega) hC2.1 hv (envN hC q) (fun I3 hF3 => ⟨_, _, _, rfl, rfl, hQ I3 (S3_scr (hF2.tr hF3)) J (scrJ.rf J)⟩)
    · rw [if_neg q] at hQ
      exact hQ I (scrS.rf I) J (scrJ.rf J)
  · have hR1 := hR.fr0 h1
    refine WPm.of k_X12_burns.1 (Nat.le_of_ble_eq_true rfl) (B_X12_burns_0 (by omega) ?_)
    rw [rx_n hR1]
    refine ⟨rx_b hR1, hx, fun q => ?_, fun q => ?_⟩
    · rw [if_neg q] at hQ
      exact hQ I1 (scrS.rf I1) J1 (scrJ.rf J1)
    · rw [if_pos q] at hQ
      have c72 := h1.gv 74 72 (by decide) (by decide)
      have c73 := h1.gv 74 73 (by decide) (by decide)
      refine S_X12_burn (by omega) hR1 q (kk_of (L := L) H x (by omega)) (fun I3 J3 hF3 hJ3 => ⟨_, _, _, rfl, rfl, ?_⟩)
      have hq := hQ I3 (SA_scr hF3) J3 (J1_scr hJ3)
      unfold burR
      rw [dr_no (by omega) (hC.2.2.2.2 x q.1 q.2).1.1]
      exact hq
theorem step_takes {V V' : Cpl} (hS : Vsc V V') (hA : ∀ I J, V I J → VA I) (x y : Int) (hx : inR x) (hy : inR y) : Step V V' m_X11_takes m_X12_takes [x, y] := by
  refine Step.rd hS (fun I J hV => ?_)
  obtain ⟨hC, hR, h72, h73⟩ := hA I J hV
  generalize LC I = L at hC hR
  generalize RC I = R at hC hR
  generalize HC I = H at hC hR
  have hL := hC.1.2.2.2.1
  refine ⟨if (0 ≤ x ∧ x < nR L) ∧ (0 ≤ y ∧ y < nP L) then takS L R (H 8 0) x y (L 7 (H 1 x)) (sit L H (H 1 x)) (pop (kn H x)) else -1, ?_, fun P Q hQ => ?_, fun P I1 J1 h1 k1 Q hQ => ?_⟩
  · by_cases q : (0 ≤ x ∧ x < nR L) ∧ (0 ≤ y ∧ y < nP L)
    · rw [if_pos q]
      have := takS_in (R := R) hL (night := H 8 0) (r := x) (p := y) (d := L 7 (H 1 x)) (s := sit L H (H 1 x)) (k := pop (kn H x)) q.2
      exact ⟨by omega, by omega⟩
    · rw [if_neg q]
      decide
  · have e2 : gi I 6 (2 : Int).toNat = nR L := cx_n hC
    have e1 : gi I 6 (1 : Int).toNat = nP L := cx_p hC
    refine WPm.of k_X11_takes.1 (Nat.le_of_ble_eq_true rfl) (B_X11_takes_0 (by omega) ?_)
    rw [e2, e1]
    refine ⟨hx, fun q => ?_, fun q => ⟨hy, fun q2 => ?_, fun q2 => ?_⟩⟩
    · rw [if_neg (fun z => q z.1)] at hQ
      exact hQ I (scrS.rf I) J (scrJ.rf J)
    · rw [if_pos ⟨q, q2⟩] at hQ
      refine S_X9_now (by omega) hC q (fun I2 hF2 hv => ⟨_, _, rfl, rfl, ?_⟩)
      have hC2 := hC.fr (hF2.cx (by decide) (by decide))
      exact S_X9_page (by omega) hC2.1 hv q2 (envN hC q) (fun I3 hF3 => ⟨_, _, _, rfl, rfl, hQ I3 (S3_scr (hF2.tr hF3)) J (scrJ.rf J)⟩)
    · rw [if_neg (fun z => q2 z.2)] at hQ
      exact hQ I (scrS.rf I) J (scrJ.rf J)
  · have hR1 := hR.fr0 h1
    refine WPm.of k_X12_takes.1 (Nat.le_of_ble_eq_true rfl) (B_X12_takes_0 (by omega) ?_)
    rw [rx_n hR1, rx_p hR1]
    refine ⟨rx_b hR1, hx, fun q => ?_, fun q => ⟨hy, fun q2 => ?_, fun q2 => ?_⟩⟩
    · rw [if_neg (fun z => q z.1)] at hQ
      exact hQ I1 (scrS.rf I1) J1 (scrJ.rf J1)
    · rw [if_neg (fun z => q2 z.2)] at hQ
      exact hQ I1 (scrS.rf I1) J1 (scrJ.rf J1)
    · rw [if_pos ⟨q, q2⟩] at hQ
      have c72 := h1.gv 74 72 (by decide) (by decide)
      have c73 := h1.gv 74 73 (by decide) (by decide)
      refine S_X12_long (by omega) hR1 q q2 (kk_of (L := L) H x (by omega)) (fun I3 J3 hF3 hJ3 => ⟨_, _, _, rfl, rfl, ?_⟩)
      have hq := hQ I3 (SA_scr hF3) J3 (J1_scr hJ3)
      unfold takR
      rw [dr_no (by omega) (hC.2.2.2.2 x q.1 q.2).1.1]
      exact hq
theorem step_table {V V' : Cpl} (hS : Vsc V V') (hA : ∀ I J, V I J → VA I) (x y : Int) (hx : inR x) (hy : inR y) : Step V V' m_X11_table m_X12_table [x, y] := by
  refine Step.rd hS (fun I J hV => ?_)
  obtain ⟨hC, hR, h72, h73⟩ := hA I J hV
  generalize LC I = L at hC hR
  generalize RC I = R at hC hR
  generalize HC I = H at hC hR
  have hL := hC.1.2.2.2.1
  have hT := hL.2.2.2.1
  refine ⟨if 0 ≤ x ∧ x < nT L then (if y = 0 then L 7 x else if y = 1 then sit L H x else if y = 2 then lig L R H x (L 7 x) else -1) else -1, ?_, fun P Q hQ => ?_, fun P I1 J1 h1 k1 Q hQ => ?_⟩
  · have b1 := sit_bd H hL x
    have b2 := lig_bd (R := R) H hL x (L 7 x)
    by_cases q : 0 ≤ x ∧ x < nT L
    · rw [if_pos q]
      have b3 := mil_7 hL q
      split
      · exact ⟨by omega, by omega⟩
      · split
        · exact ⟨by omega, by omega⟩
        · split
          · exact ⟨by omega, by omega⟩
          · decide
    · rw [if_neg q]
      decide
  · have e2 : gi I 6 (3 : Int).toNat = nT L := cx_t hC
    refine WPm.of k_X11_table.1 (Nat.le_of_ble_eq_true rfl) (B_X11_table_0 (by omega) ?_)
    rw [e2]
    refine ⟨hx, fun q => ⟨hy, fun q2 => ⟨⟨by omega, by omega⟩, ?_⟩, fun q2 => ⟨fun q3 => ?_, fun q3 => ⟨fun q4 => ⟨⟨by omega, by omega⟩, ?_⟩, fun q4 => ?_⟩⟩⟩, fun q => ?_⟩
    · rw [if_pos q, if_pos q2] at hQ
      rw [cx_L7 hC q]
      exact hQ I (scrS.rf I) J (scrJ.rf J)
    · rw [if_pos q, if_neg q2, if_pos q3] at hQ
      exact S_X2_sit (by omega) hC hx ⟨_, _, _, rfl, rfl, hQ I (scrS.rf I) J (scrJ.rf J)⟩
    · rw [if_pos q, if_neg q2, if_neg q3, if_pos q4] at hQ
      rw [cx_L7 hC q]
      exact S_X9_light (by omega) hC hx (mil_7 hL q) (fun I3 hF3 => ⟨_, _, _, rfl, rfl, hQ I3 (S3_scr hF3) J (scrJ.rf J)⟩)
    · rw [if_pos q, if_neg q2, if_neg q3, if_neg q4] at hQ
      exact hQ I (scrS.rf I) J (scrJ.rf J)
    · rw [if_neg q] at hQ
      exact hQ I (scrS.rf I) J (scrJ.rf J)
  · have hR1 := hR.fr0 h1
    have hb := rx_b hR1
    refine WPm.of k_X12_table.1 (Nat.le_of_ble_eq_true rfl) (B_X12_table_0 (by omega) ?_)
    rw [rx_t hR1]
    refine ⟨rx_b hR1, hx, fun q => ⟨hy, fun q2 => ⟨fun q3 => ⟨fun q4 => ?_, fun q4 => ?_⟩, fun q3 => ?_⟩, fun q2 => ⟨⟨by omega, by omega⟩, ?_⟩⟩, fun q => ?_⟩
    · rw [if_pos q, if_neg q2, if_neg q3, if_neg q4] at hQ
      exact hQ I1 (scrS.rf I1) J1 (scrJ.rf J1)
    · rw [if_pos q, if_neg q2, if_neg q3, if_pos q4] at hQ
      have c72 := h1.gv 74 72 (by decide) (by decide)
      have c73 := h1.gv 74 73 (by decide) (by decide)
      refine S_X12_light (by omega) hR1 hx (by omega) (fun I3 J3 hF3 hJ3 => ⟨_, _, _, rfl, rfl, ?_⟩)
      rw [dr_no (by omega) q.1]
      exact hQ I3 (SA_scr hF3) J3 (J1_scr hJ3)
    · rw [if_pos q, if_neg q2, if_pos q3] at hQ
      exact S_X12_sit hR1 hx ⟨_, _, _, rfl, rfl, hQ I1 (scrS.rf I1) J1 (scrJ.rf J1)⟩
    · rw [if_pos q, if_pos q2] at hQ
      rw [rx_L7 hR1 q]
      exact hQ I1 (scrS.rf I1) J1 (scrJ.rf J1)
    · rw [if_neg q] at hQ
      exact hQ I1 (scrS.rf I1) J1 (scrJ.rf J1)
end STEPS

section LIBS
/-! ===== the call library ===== -/
/-- what the reference may write while it reads a text -/
def lr (b : Nat) (A B : Nat → Nat → Int32) : Prop := ∀ c k, ¬ inb b c k → ¬ (101 ≤ c ∧ c ≤ 106) → ¬ (c = 74 ∧ k ≤ 50 ∧ k ≠ 13) → B c k = A c k
theorem of_gi {A B : Nat → Nat → Int32} {c k c' k' : Nat} (h : gi B c k = gi A c' k') : B c k = A c' k' := (iI_gi B c k).symm.trans ((congrArg iI h).trans (iI_gi A c' k'))
theorem lr_of {b : Nat} {A I1 I2 F : Nat → Nat → Int32} (h1 : Fr CSl FLl A I1) (h1' : ∀ c j, c ∈ CSl → j ≠ b → gi I1 c j = gi A c j) (h2 : Fr [] FLr I1 I2) (h3 : FrBe b I2 F) : lr b A F := fun c k x y z => by
  have e3 : F c k = I2 c k := h3 c k x y (fun t => by
    simp only [List.mem_cons, List.not_mem_nil, or_false, Prod.mk.injEq] at t
    omega)
  have e2 : I2 c k = I1 c k := h2 c k (fun t => by cases t) (fun t => by
    simp only [List.mem_cons, List.not_mem_nil, or_false, Prod.mk.injEq] at t
    omega)
  have e1 : I1 c k = A c k := by
    by_cases hc : c ∈ CSl
    · refine of_gi (h1' c k hc (fun t => x ?_))
      simp only [List.mem_cons, List.not_mem_nil, or_false] at hc
      unfold inb
      omega
    · exact h1 c k hc (fun t => by
        simp only [List.mem_cons, List.not_mem_nil, or_false, Prod.mk.injEq] at t
        omega)
  rw [e3, e2, e1]
theorem gi_eq2 {A B : Nat → Nat → Int32} {c k c' k' : Nat} (h : B c k = A c' k') : gi B c k = gi A c' k' := congrArg Int32.toInt h
/-- what the class may write while it reads a text -/
def cf (I A : Nat → Nat → Int32) : Prop := ∀ c k, ¬ (c = 1 ∨ c = 3) → ¬ (22 ≤ c ∧ c ≤ 35) → A c k = I c k
theorem cf_of {I A : Nat → Nat → Int32} (h : Fr CSc FLce I A) : cf I A := fun c k x y => h c k (fun t => by
  simp only [List.mem_cons, List.not_mem_nil, or_false] at t
  omega) (fun t => by
  simp only [List.mem_cons, List.not_mem_nil, or_false, Prod.mk.injEq] at t
  omega)
set_option maxHeartbeats 1000000 in
/-- refused: both stand as they stood -/
theorem lib_no {n n' b : Nat} {I I2 A I' : Nat → Nat → Int32} {J J' : Nat → Nat → Int64} {e : Int × Int} (h : VN n I J) (hn : n ≤ n') (hb : b < 2) (h13 : gi I 74 13 = 1 - (b : Int)) (hc : cf I I2) (c2 : gi I2 3 2 = e.1) (c3 : gi I2 3 3 = e.2) (hA : A = si (si I2 1 1 0) 73 1 (gi (si I2 1 1 0) 73 1 + 1)) (hl : lr b A I') (l1 : gi I' 74 1 = 0) (l8 : gi I' 74 8 = e.1) (l9 : gi I' 74 9 = e.2) (hj : FrJ b J J') : VN n' (si (si (si I' 74 10 (gi I' 74 8)) 74 11 (gi I' 74 9)) 107 1 ((gi (si (si I' 74 10 (gi I' 74 8)) 74 11 (gi I' 74 9)) 107 1) + 1)) J' := by
  generalize hX : si (si I' 74 10 (gi I' 74 8)) 74 11 (gi I' 74 9) = X
  generalize hF : si X 107 1 (gi X 107 1 + 1) = F
  have x1 : ∀ c k, ¬ (c = 74 ∧ (k = 10 ∨ k = 11)) → X c k = I' c k := fun c k p => by
    rw [← hX, si_at, if_neg (by omega), si_at, if_neg (by omega)]
  have f1 : ∀ c k, ¬ (c = 107 ∧ k = 1) → F c k = X c k := fun c k p => by rw [← hF, si_at, if_neg p]
  have a1 : ∀ c k, ¬ (c = 1 ∧ k = 1) → ¬ (c = 73 ∧ k = 1) → A c k = I2 c k := fun c k p q => by rw [hA, si_at, if_neg q, si_at, if_neg p]
  have fA : ∀ c k, ¬ inb b c k → ¬ (101 ≤ c ∧ c ≤ 106) → ¬ (c = 74 ∧ k ≤ 50 ∧ k ≠ 13) → ¬ (c = 107 ∧ k = 1) → F c k = A c k := fun c k x y z w => (f1 c k w).trans ((x1 c k (by omega)).trans (hl c k x y z))
  have ev : ∀ c k, ¬ inb b c k → ¬ (101 ≤ c ∧ c ≤ 106) → ¬ (c = 74 ∧ k ≤ 50 ∧ k ≠ 13) → ¬ (c = 107 ∧ k = 1) → ¬ (c = 1 ∨ c = 3) → ¬ (c = 73 ∧ k = 1) → ¬ (22 ≤ c ∧ c ≤ 35) → F c k = I c k := fun c k x y z w p q r => (fA c k x y z w).trans ((a1 c k (by omega) q).trans (hc c k p r))
  have q : ∀ c k, (c = 0 ∨ (4 ≤ c ∧ c ≤ 21) ∨ (36 ≤ c ∧ c ≤ 72) ∨ c = 2 ∨ c = 75 ∨ (108 ≤ c ∧ c ≤ 131) ∨ (c = 73 ∧ k ≠ 1) ∨ (c = 107 ∧ k ≠ 1) ∨ (c = 74 ∧ (k = 13 ∨ 50 < k))) → F c k = I c k := fun c k hq => ev c k (by unfold inb; omega) (by omega) (by omega) (by omega) (by omega) (by omega) (by omega)
  obtain ⟨b1, b2, b3, b4, b5, b6, b7, b8, b9, b10, b11, b12, b13⟩ := h
  have hL := b5.1.1.1.2.2.2.1
  obtain ⟨v1, v2, v3, v4⟩ := b5.bank (F := F) hb h13 (fun c k hx => by
    by_cases h7 : 76 ≤ c ∧ c ≤ 96
    · refine ev c k ?_ (by omega) (by omega) (by omega) (by omega) (by omega) (by omega)
      unfold vhC at hx
      intro t
      have hx' : 76 ≤ c ∧ c ≤ 96 ∧ ¬ inb b c k := by
        rcases hx with u | u | u | u | u
        · exfalso; omega
        · exfalso; omega
        · exact u
        · exfalso; omega
        · exfalso; omega
      exact hx'.2.2 t
    · refine q c k ?_
      unfold vhC at hx
      rcases hx with u | u | u | u | u
      · omega
      · omega
      · exact absurd ⟨u.1, u.2.1⟩ h7
      · omega
      · omega)
  have h46 : gi F 4 6 = gi I 4 6 := gi_eq (q 4 6 (by decide))
  have x73 : gi F 73 1 = gi I 73 1 + 1 ∨ True := Or.inr trivial
  clear x73
  have g73 : gi F 73 1 = gi F 107 1 := by
    have e1 : gi F 73 1 = gi A 73 1 := gi_eq (fA 73 1 (by unfold inb; omega) (by decide) (by decide) (by decide))
    have e2 : gi (si I2 1 1 0) 73 1 = gi I 73 1 := by
      rw [gi_cell _ _ _ _ (by decide)]
      exact gi_eq (hc 73 1 (by decide) (by decide))
    have e3 : gi X 107 1 = gi I 107 1 := by
      refine gi_eq ((x1 107 1 (by decide)).trans ((hl 107 1 (by unfold inb; omega) (by decide) (by decide)).trans ((a1 107 1 (by decide) (by decide)).trans (hc 107 1 (by decide) (by decide)))))
    rw [e1, hA, ← hF]
    exact gi_si_same _ _ _ _ _ _ (by rw [e2, e3, b1 1 (by decide)])
  refine ⟨fun j hj6 => ?_, b2.fr (gi_eq (q 70 2 (by decide))) (gi_eq (q 74 87 (by decide))) (fun k => gi_eq (q 71 k (by omega))) (fun k => gi_eq (q 131 k (by omega))), ?_, ?_, v1, fun p hp => ?_, ?_, ?_, b9.fr v2 v3 v4 h46 (fun k _ => gi_eq (q 51 k (by omega))), b10.fr v2 v3 v4 h46 (fun k _ => gi_eq (q 51 k (by omega))), b11.fr v2 v3 v4 h46 (fun c i e => gi_eq (q c i (by omega))), b12.fr v2 v3 v4 h46 (fun c i e => gi_eq (q c i (by omega))), by rw [h46]; omega⟩
  · by_cases e1 : j = 1
    · rw [e1]; exact g73
    · rw [gi_eq (q 73 j (by omega)), gi_eq (q 107 j (by omega))]
      exact b1 j hj6
  · have g1 : gi F 1 1 = 0 := by
      rw [gi_eq (fA 1 1 (by unfold inb; omega) (by decide) (by decide) (by decide)), hA, gi_cell _ _ _ _ (by decide), gi_same _ _ _ (by decide)]
    have g2 : gi F 74 1 = 0 := by
      rw [gi_eq (f1 74 1 (by decide)), gi_eq (x1 74 1 (by decide))]
      exact l1
    exact ⟨by rw [g1, g2], by rw [g1]; decide, fun j hj => by rw [g1] at hj; omega⟩
  · have g2 : gi F 3 2 = e.1 := by
      rw [gi_eq (fA 3 2 (by unfold inb; omega) (by decide) (by decide) (by decide)), gi_eq (a1 3 2 (by decide) (by decide))]
      exact c2
    have g3 : gi F 3 3 = e.2 := by
      rw [gi_eq (fA 3 3 (by unfold inb; omega) (by decide) (by decide) (by decide)), gi_eq (a1 3 3 (by decide) (by decide))]
      exact c3
    have g10 : gi F 74 10 = e.1 := by
      rw [gi_eq (f1 74 10 (by decide)), ← hX, gi_idx _ _ _ (by decide), gi_same _ _ _ (gi_in _ _ _)]
      exact l8
    have g11 : gi F 74 11 = e.2 := by
      rw [gi_eq (f1 74 11 (by decide)), ← hX, gi_same _ _ _ (gi_in _ _ _)]
      exact l9
    exact ⟨g2.trans g10.symm, g3.trans g11.symm⟩
  · rw [v2] at hp ⊢
    rw [gi_eq (q 12 p (by omega))]
    exact b6 p hp
  · rw [gi_eq (q 0 11 (by decide)), show gl J' 74 67 = gl J 74 67 from congrArg Int64.toInt (hj 74 67 (by unfold inJ; omega))]
    exact b7
  · exact b8.fr hb h13 hL (fun k => gi_eq (q 6 k (by omega))) (fun k => gi_eq (q 7 k (by omega))) (gi_eq (q 74 13 (by decide))) (fun c k _ _ z => congrArg Int64.toInt (hj c k z))
set_option maxHeartbeats 1000000 in
/-- told: both hold what the text tells, and all readers begin -/
theorem lib_ok {n n' b q cd : Nat} {I Ic I3 I4 Ir F : Nat → Nat → Int32} {J Jr : Nat → Nat → Int64} {L : Lt} {N : Nt} {R : Rt} (h : VN n I J) (hn : n + 1 ≤ n') (hb : b < 2) (hW : WL L N R) (hf : L 0 2 ≤ 0 ∨ L 0 3 ≠ 0)
    (hc : cf I Ic) (c2 : gi Ic 3 2 = 0) (c3 : gi Ic 3 3 = -1) (hS : SCs Ic L N R q) (hq : q ≤ 1600) (h3 : Fr [29] [] Ic I3) (n29 : ∀ p : Nat, (p : Int) < L 0 1 → gi I3 29 p = ((nal (Lq L) p : Nat) : Int)) (h4 : Fr [19] [(4, 4), (4, 5), (4, 6)] (si I3 1 1 0) I4) (g44 : gi I4 4 4 = 0) (g45 : gi I4 4 5 = 0) (g46 : gi I4 4 6 = gi (si I3 1 1 0) 4 6 + 1) (g19 : ∀ i : Nat, i < 87 → gi I4 19 i = rw0 i)
    (hl : lr b (swI I4) Ir) (l1 : gi Ir 74 1 = 0) (l8 : gi Ir 74 8 = 0) (l9 : gi Ir 74 9 = -1) (l40 : gi Ir 74 40 = (b : Int)) (hR : SRs Ir Jr b L N R cd) (hcd : cd ≤ 1600) (hj : FrJ b (swI J) Jr)
    (hF : Fr [110, 111, 112, 113, 114, 115] [(108, 0), (109, 0), (117, 0), (74, 66)] (si (si (si Ir 74 10 (gi Ir 74 8)) 74 11 (gi Ir 74 9)) 74 13 (gi Ir 74 40)) F) (f8 : gi F 108 0 = 0) (f9 : gi F 109 0 = 0) (f117 : gi F 117 0 = 0) (f66 : gi F 74 66 = 0) (fr : ∀ c r : Nat, 110 ≤ c → c ≤ 115 → r < 6 → gi F c r = if c = 113 then -1 else 0) : VN n' F Jr := by
  have ib : inR (b : Int) := ⟨by omega, by omega⟩
  generalize hB : si (si (si Ir 74 10 (gi Ir 74 8)) 74 11 (gi Ir 74 9)) 74 13 (gi Ir 74 40) = B at hF
  have b1 : ∀ c k, ¬ (c = 74 ∧ (k = 10 ∨ k = 11 ∨ k = 13)) → B c k = Ir c k := fun c k p => by
    rw [← hB, si_at, if_neg (by omega), si_at, if_neg (by omega), si_at, if_neg (by omega)]
  have b10 : gi B 74 10 = 0 := by
    rw [← hB, gi_idx _ _ _ (by decide), gi_idx _ _ _ (by decide), gi_same _ _ _ (gi_in _ _ _)]
    exact l8
  have b11 : gi B 74 11 = -1 := by
    rw [← hB, gi_idx _ _ _ (by decide), gi_same _ _ _ (gi_in _ _ _)]
    exact l9
  have b13 : gi B 74 13 = (b : Int) := by
    rw [← hB, gi_same _ _ _ (gi_in _ _ _)]
    exact l40
  have fB : ∀ c k, ¬ (108 ≤ c ∧ c ≤ 117) → ¬ (c = 74 ∧ k = 66) → F c k = B c k := fun c k p r => hF c k (fun t => by
    simp only [List.mem_cons, List.not_mem_nil, or_false] at t
    omega) (fun t => by
    simp only [List.mem_cons, List.not_mem_nil, or_false, Prod.mk.injEq] at t
    omega)
  have fIr : ∀ c k, ¬ (108 ≤ c ∧ c ≤ 117) → ¬ c = 74 → F c k = Ir c k := fun c k p r => (fB c k p (by omega)).trans (b1 c k (by omega))
  -- the class's cells, behind the change of shelves
  have fs : ∀ c k, c ≤ 73 → F c k = I4 (sg c) k := fun c k p => (fIr c k (by omega) (by omega)).trans (hl c k (by unfold inb; omega) (by omega) (by omega))
  have i43 : ∀ c k, ¬ c = 19 → ¬ c = 4 → ¬ (c = 1 ∧ k = 1) → I4 c k = I3 c k := fun c k p r s => (h4 c k (fun t => by
    simp only [List.mem_cons, List.not_mem_nil, or_false] at t
    omega) (fun t => by
    simp only [List.mem_cons, List.not_mem_nil, or_false, Prod.mk.injEq] at t
    omega)).trans (by rw [si_at, if_neg s])
  have i3c : ∀ c k, ¬ c = 29 → I3 c k = Ic c k := fun c k p => h3 c k (fun t => by
    simp only [List.mem_cons, List.not_mem_nil, or_false] at t
    omega) (fun t => by cases t)
  have sgo : ∀ c, ¬ (5 ≤ c ∧ c < 19) → ¬ (22 ≤ c ∧ c < 36) → sg c = c := fun c p r => sg_off p r
  have sgu : ∀ c, 5 ≤ c → c ≤ 18 → sg c = c + 17 := fun c p r => by
    unfold sg
    rw [if_pos ⟨p, by omega⟩]
  have up : upS F Ic := fun c k hc5 => by
    refine gi_eq2 ((fs c k (by omega)).trans ?_)
    rw [sgu c hc5.1 hc5.2.1, i43 _ _ (by omega) (by omega) (by omega), i3c _ _ (by omega)]
  have qt : ∀ c k, (c = 0 ∨ c = 3 ∨ (51 ≤ c ∧ c ≤ 73)) → F c k = Ic c k := fun c k p => by
    rw [fs c k (by omega), sgo c (by omega) (by omega), i43 _ _ (by omega) (by omega) (by omega), i3c _ _ (by omega)]
  have qi : ∀ c k, (c = 0 ∨ (51 ≤ c ∧ c ≤ 73)) → F c k = I c k := fun c k p => (qt c k (by omega)).trans (hc c k (by omega) (by omega))
  have hi : ∀ c k, c = 107 ∨ c = 131 ∨ (c = 74 ∧ 51 ≤ k ∧ k ≠ 66) → F c k = I c k := fun c k p => by
    rw [fB c k (by omega) (by omega), b1 c k (by omega), hl c k (by unfold inb; omega) (by omega) (by omega)]
    show I4 (sg c) k = I c k
    rw [sgo c (by omega) (by omega), i43 _ _ (by omega) (by omega) (by omega), i3c _ _ (by omega)]
    exact hc c k (by omega) (by omega)
  have g4 : ∀ k, gi F 4 k = gi I4 4 k := fun k => gi_eq ((fs 4 k (by decide)).trans (by rw [sgo 4 (by decide) (by decide)]))
  have g19' : ∀ i : Nat, i < 87 → gi F 19 i = rw0 i := fun i hi87 => (gi_eq ((fs 19 i (by decide)).trans (by rw [sgo 19 (by decide) (by decide)]))).trans (g19 i hi87)
  have h46 : gi F 4 6 = gi I 4 6 + 1 := by
    rw [g4, g46, gi_cell _ _ _ _ (by decide), gi_eq (i3c 4 6 (by decide)), gi_eq (hc 4 6 (by decide) (by decide))]
  have f13 : gi F 74 13 = (b : Int) := (gi_eq (fB 74 13 (by decide) (by decide))).trans b13
  have hRF : SRs F Jr b L N R cd := hR.fr (fun c k x y => gi_eq (fIr c k (by omega) (by omega))) (fun _ _ _ _ => rfl) (gi_eq ((fB 74 39 (by decide) (by decide)).trans (b1 74 39 (by decide))))
  have eL := LC_q up hS hW
  obtain ⟨eR, rg⟩ := RC_q up hS hq
  have eL' := LR_q f13 hRF
  obtain ⟨eR', rg'⟩ := RR_q f13 hRF hcd
  obtain ⟨a1, a2, a3, a4, a5, a6, a7, a8, a9, a10, a11, a12, a13⟩ := h
  have h72 := a5.1.2.2.1
  have h73 := a5.1.2.2.2
  have h65 := a5.2.1.2.1
  refine ⟨a1.fr (fun k => gi_eq (qi 73 k (by omega))) (fun k => gi_eq (hi 107 k (by omega))), a2.fr (gi_eq (qi 70 2 (by decide))) (gi_eq (hi 74 87 (by decide))) (fun k => gi_eq (qi 71 k (by omega))) (fun k => gi_eq (hi 131 k (by omega))), ?_, ?_, ?_, fun p hp => ?_, ?_, nmS_q up hS hRF hW f13, V_mo.old a9.1 h46 (gi_eq (qi 51 11 (by decide))), V_wa.old a10.1 h46 (gi_eq (qi 51 14 (by decide))), V_sh.old a11.1 h46 (gi_eq (qi 54 5 (by decide))), V_se.old a12.1 h46 (gi_eq (qi 63 9 (by decide))), by rw [h46]; omega⟩
  · have g1 : gi F 1 1 = 0 := by
      rw [gi_eq2 (fs 1 1 (by decide)), sgo 1 (by decide) (by decide), h4.gv 1 1 (by decide) (by decide), gi_same _ _ _ (by decide)]
    have g2 : gi F 74 1 = 0 := by
      rw [gi_eq (fB 74 1 (by decide) (by decide)), gi_eq (b1 74 1 (by decide))]
      exact l1
    exact ⟨by rw [g1, g2], by rw [g1]; decide, fun j hj => by rw [g1] at hj; omega⟩
  · rw [gi_eq (qt 3 2 (by decide)), gi_eq (qt 3 3 (by decide)), gi_eq (fB 74 10 (by decide) (by decide)), gi_eq (fB 74 11 (by decide) (by decide)), c2, c3, b10, b11]
    exact ⟨rfl, rfl⟩
  · exact VH_new eL eR rg eL' eR' rg' (by rw [f13]; omega) (Lq_wf hW hf) (Rq_wf hW) g19' f8 f9 f117 (fun c r x y z => fr c r x y (by
      have z' : (r : Int) < L 0 2 := z
      have := hW.1.2.2.1.2
      omega)) ((gi_eq (hi 74 72 (by decide))).trans h72) ((gi_eq (hi 74 73 (by decide))).trans h73) (by rw [g4]; exact g44) (by rw [g4]; exact g45) f66 (by rw [gi_eq (hi 74 65 (by decide))]; exact h65)
  · rw [eL] at hp ⊢
    rw [gi_eq2 (fs 12 p (by decide)), show sg 12 = 29 from rfl, gi_eq (i43 29 p (by decide) (by decide) (by omega))]
    exact n29 p hp
  · rw [gi_eq (qi 0 11 (by decide)), show gl Jr 74 67 = gl J 74 67 from congrArg Int64.toInt ((hj 74 67 (by unfold inJ; omega)).trans (by
      show J (sg 74) 67 = J 74 67
      rw [sgo 74 (by decide) (by decide)]))]
    exact a7
set_option maxHeartbeats 1000000 in
theorem step_library {n : Nat} (h3 : n ≤ 4000) : Step (VN n) (VN (n + 6)) m_X11_library m_X12_library [] := by
  intro P I J h
  have hb' := rx_b h.2.2.2.2.1.1.2.1
  obtain ⟨t1, t2, t3⟩ := h.2.2.1
  have h46 := h.2.2.2.2.2.2.2.2.2.2.2.2
  have hb : (1 - gi I 74 13).toNat < 2 := by omega
  have h13 : gi I 74 13 = 1 - (((1 - gi I 74 13).toNat : Nat) : Int) := by omega
  generalize hbe : (1 - gi I 74 13).toNat = b at hb h13
  have hX : TX (gi I 75) (gi I 1 1).toNat := ⟨by omega, fun i hi => (t3 i (by omega)).2⟩
  have hT : TI I (gi I 75) (gi I 1 1).toNat := ⟨by omega, fun i hi => (t3 i (by omega)).1⟩
  have hm : (((gi I 1 1).toNat : Nat) : Int) = gi I 1 1 := by omega
  have hm16 : (gi I 1 1).toNat ≤ 1600 := by omega
  obtain ⟨r, hg, hcl, hrl⟩ := lib_all hX
  refine WPm.of k_X11_library.1 (Nat.le_of_ble_eq_true rfl) (W_X11_library_0 (by omega) ?_)
  refine S_X3_parse (by omega) hX hT hcl (fun I1 hF1 z2 z3 => ?_)
  cases r with
  | inl e =>
    intro I2 y2 y3 hF2
    refine ⟨_, _, _, rfl, rfl, by decide, fun t => absurd rfl t, fun _ => ?_⟩
    have hc : cf I I2 := cf_of (hF1.tr hF2)
    generalize hA : si (si I2 1 1 0) 73 1 (gi (si I2 1 1 0) 73 1 + 1) = A
    have gA : ∀ c k, c ≠ 73 → c ≠ 1 → c ≠ 3 → ¬ (22 ≤ c ∧ c ≤ 35) → gi A c k = gi I c k := fun c k p q s u => by
      rw [← hA, gi_cell _ _ _ _ p, gi_cell _ _ _ _ q]
      exact gi_eq (hc c k (by omega) u)
    refine Step.put (by decide) rfl ?_
    refine R_lib (b := b) (by omega) hX ((gA 74 1 (by decide) (by decide) (by decide) (by decide)).trans (t1.symm.trans hm.symm)) (fun i hi => gA 75 i (by decide) (by decide) (by decide) (by decide)) hb ((gA 74 13 (by decide) (by decide) (by decide) (by decide)).trans h13) hrl (fun I5 J5 r1 r2 r3 I6 r4 r5 => ?_)
    intro I7 J7 l8 l9 l10 l11
    have hl : lr b A I7 := lr_of r1 r2 r4 l10
    have l1 : gi I7 74 1 = 0 := by
      rw [gi_eq (l10 74 1 (by unfold inb; omega) (by decide) (by decide)), r4.gv 74 1 (by decide) (by decide)]
      exact r3.2
    exact ⟨rfl, Cpl2.here (lib_no h (by omega) hb h13 hc y2 y3 hA.symm hl l1 l8 l9 ((r5.j b).tr l11))⟩
  | inr c =>
    obtain ⟨hW, s0, s80, hf⟩ := hg
    intro I2 q y4 hS hq hF2
    have hF12 : Fr CSc FLce I I2 := hF1.tr hF2.ce
    refine S_gather (by omega) hS hW hf (fun I3 h3 n29 => ⟨_, _, rfl, rfl, ?_⟩)
    dsimp only
    refine ⟨_, _, _, rfl, rfl, ⟨by omega, by omega⟩, fun _ => ?_, fun t => absurd t (by omega)⟩
    have e46 : gi (si I3 1 1 0) 4 6 = gi I 4 6 := by
      rw [gi_cell _ _ _ _ (by decide), h3.gv 4 6 (by decide) (by decide)]
      exact gi_eq (cf_of hF12 4 6 (by decide) (by decide))
    refine S_open (by omega) (by rw [e46]; omega) (fun I4 h4 g44 g45 g46 g19 => ⟨_, _, rfl, rfl, ?_⟩)
    refine Step.put ⟨by omega, by omega⟩ rfl ?_
    refine WPm_sw (V := VN (n + 6)) ?_
    have gA : ∀ c k, c ≠ 1 → c ≠ 3 → c ≠ 4 → ¬ (5 ≤ c ∧ c ≤ 35) → gi (swI I4) c k = gi I c k := fun c k p q s u => by
      have e : gi (swI I4) c k = gi I4 c k := gi_eq (by
        show I4 (sg c) k = I4 c k
        rw [sg_off (by omega) (by omega)])
      rw [e, h4.gv c k (fun t => by
        simp only [List.mem_cons, List.not_mem_nil, or_false] at t
        omega) (fun t => by
        simp only [List.mem_cons, List.not_mem_nil, or_false, Prod.mk.injEq] at t
        omega), gi_cell _ _ _ _ p, h3.gv c k (fun t => by
        simp only [List.mem_cons, List.not_mem_nil, or_false] at t
        omega) (fun t => by cases t)]
      exact gi_eq (cf_of hF12 c k (by omega) (by omega))
    refine R_lib (b := b) (by omega) hX ((gA 74 1 (by decide) (by decide) (by decide) (by decide)).trans (t1.symm.trans hm.symm)) (fun i hi => gA 75 i (by decide) (by decide) (by decide) (by decide)) hb ((gA 74 13 (by decide) (by decide) (by decide) (by decide)).trans h13) hrl (fun I5 J5 r1 r2 r3 I6 r4 r5 => ?_)
    intro I7 J7 cd l8 l40 hR hcd l10 l11
    have hl : lr b (swI I4) I7 := lr_of r1 r2 r4 l10.e
    have l1 : gi I7 74 1 = 0 := by
      rw [gi_eq (l10 74 1 (by unfold inb; omega) (by decide) (by decide)), r4.gv 74 1 (by decide) (by decide)]
      exact r3.2
    have l9 : gi I7 74 9 = -1 := by
      rw [gi_eq (l10 74 9 (by unfold inb; omega) (by decide) (by decide)), r4.gv 74 9 (by decide) (by decide)]
      exact r3.1
    have c2 : gi I2 3 2 = 0 := by
      rw [hF2.gv 3 2 (by decide) (by decide)]
      exact z2
    have c3 : gi I2 3 3 = -1 := by
      rw [hF2.gv 3 3 (by decide) (by decide)]
      exact z3
    refine S_begin (fun F hF f8 f9 f117 f66 fr => ⟨_, _, rfl, rfl, rfl, _, _, _, rfl, ?_⟩)
    exact lib_ok h (by omega) hb hW hf (cf_of hF12) c2 c3 hS (by omega) h3 n29 h4 g44 g45 g46 g19 hl l1 l8 l9 l40 hR (by omega) ((r5.j b).tr l11) hF f8 f9 f117 f66 fr
end LIBS

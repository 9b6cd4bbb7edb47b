section RFACT
/-! ===== the reference reads a fact ===== -/
theorem si_swap (I : Nat → Nat → Int32) {c c' : Nat} (k k' : Nat) (z z' : Int) (h : c ≠ c') : si (si I c k z) c' k' z' = si (si I c' k' z') c k z := by
  funext a b
  by_cases h1 : a = c'
  · subst h1
    have h2 : ¬ a = c := fun e => h e.symm
    simp [si, up2, h2, h]
  · by_cases h2 : a = c
    · subst h2
      simp [si, up2, h1]
    · simp [si, up2, h1, h2]
theorem RS.p2 {I : Nat → Nat → Int32} {J : Nat → Nat → Int64} {T : Nat → Int} {n p b f o m cd : Nat} (h : RS I J T n p b f o m cd) : RS (si I 102 f 2) J T n p b f o m cd ∧ (∀ w hi, RK I (si I 102 f 2) f m w hi) ∧ gi (si I 102 f 2) 102 f = 2 ∧ gi (si I 102 f 2) 103 f = gi I 103 f := by
  have hF : Fr [102] [] I (si I 102 f 2) := (Fr.rf _ _ _).up 102 _ _ (Or.inl (by decide))
  have e : ∀ j, gi (si I 102 f 2) 74 j = gi I 74 j := fun j => gi_cell _ _ _ _ (by decide)
  refine ⟨⟨h.1.fr hF (by decide) (by decide) rfl, by rw [e]; exact h.2.1, by rw [e]; exact h.2.2.1, by rw [e]; exact h.2.2.2.1, by rw [e]; exact h.2.2.2.2.1, by rw [e]; exact h.2.2.2.2.2.1, by rw [e]; exact h.2.2.2.2.2.2⟩, fun w hi => ⟨⟨hF.mono (fun t ht => by
      simp only [List.mem_cons, List.not_mem_nil, or_false] at ht ⊢
      subst ht
      simp) (fun q hq => by cases hq), fun i _ => ⟨hF.gvc i (by decide) (by decide), hF.gvc i (by decide) (by decide)⟩⟩, fun i _ => ⟨hF.gvc i (by decide) (by decide), hF.gvc i (by decide) (by decide), hF.gvc i (by decide) (by decide)⟩, fun i q => ⟨gi_idx _ _ _ (by omega), hF.gvc i (by decide) (by decide)⟩, fun i _ => hF.gvc i (by decide) (by decide)⟩, by rw [gi_si _ _ _ _ _ (by decide), if_pos ⟨rfl, rfl⟩], gi_cell _ _ _ _ (by decide)⟩
/-- a fact's first token, good, in a state where one may begin -/
theorem R_fact {T : Nat → Int} {n o p : Nat} {r : Res} (hb : bd T n p = -1) (h : ∀ (k : Nat) (P : Option Nat) (I : Nat → Nat → Int32) (J : Nat → Nat → Int64) (Q : Option AV → Mem → Prop) (b f m cd : Nat), 12 ≤ k → RG I J T n p b f o m cd 2 4 → fcn I T n p f true → RO true k P I J Q T n b f o m cd 3 r → WP (k - 1) LAY m_X12_operand 46 [(0, vR (some 74)), (1, vI (f : Int))] [vI 1] (mem (P, some 5, some 22) I J) (OQ k P Q)) : RN true 2 4 3 T n o p r := by
  intro k P I J Q b f m cd hk hG hfc hO
  have hG' := hG
  obtain ⟨hS, h50, hb2, hfo, ho, hm, hcm, hpn, hcx⟩ := hG
  refine rd_op (by omega) h50 (op_in (f := f) (by omega) hS.1 hS.2.1 hS.2.2.2.1 (by omega) hb (fun s hs => ?_))
  rcases hs with ⟨rfl, -, -⟩ | ⟨-, q⟩
  · exact h k P I J Q b f m cd hk hG' hfc hO
  · exact absurd ⟨hfc.1, hfc.2.2⟩ q
theorem R_not7 {T : Nat → Int} {n p : Nat} (hp : p ≤ n) (hb : bd T n p = -1) (hw : wd T n p 21) : RN true 2 4 3 T n 7 p (.inl (5, tS T n p)) := by
  refine R_fact hb (fun k P I J Q b f m cd hk hG hfc hO => ?_)
  obtain ⟨hS, h50, hb2, hfo, ho, hm, hcm, hpn, hcx⟩ := hG
  have w21 : (gi I 74 3 = 1 ∧ gl J 74 7 = 7237492) ↔ wd T n p 21 := hS.1.w hp (w := 21) (by decide) (by decide +kernel)
  have e1 := RE.five (J := J) (1600 * b + cd) (1600 * b + 1600) hS.1
  have h8 := hS.2.1
  have h47 : gi I 74 47 = 7 := hS.2.2.2.2.1
  refine B_X12_operand_46 (by omega) ⟨by decide, fun c => absurd c (by decide), fun _ => ⟨fun c => absurd (w21.mpr hw) c, fun _ => ⟨fun c => absurd h47 c, fun _ => ⟨fun _ => ?_, fun q => absurd (by omega) q⟩⟩⟩⟩
  exact OQ.n (by omega) (Or.inr rfl) (fun q => absurd (e1.2.1.symm.trans q) (show ¬ ((5 : Int) = 0) by decide)) (hO _ _ e1.s50)
set_option maxHeartbeats 1000000 in
theorem R_not {T : Nat → Int} {n o p : Nat} {r : Res} (hX : TX T n) (hp : p ≤ n) (hb : bd T n p = -1) (hw : wd T n p 21) (ho7 : o < 7) (h : RN true 2 4 3 T n (o + 1) (tE T n p) r) : RN true 2 4 3 T n o p (notR r) := by
  refine R_fact hb (fun k P I J Q b f m cd hk hG hfc hO => ?_)
  obtain ⟨hS, h50, hb2, hfo, ho, hm, hcm, hpn, hcx⟩ := hG
  have hg := tE_gt (T := T) hp (by rw [hw.1]; decide)
  have w21 : (gi I 74 3 = 1 ∧ gl J 74 7 = 7237492) ↔ wd T n p 21 := hS.1.w hp (w := 21) (by decide) (by decide +kernel)
  have h8 := hS.2.1
  have h47 : gi I 74 47 = (o : Int) := hS.2.2.2.2.1
  have h49 : gi I 74 49 = (m : Int) := hS.2.2.2.2.2.1
  have e49 : gi (si I 74 47 ((o : Int) + 1)) 74 49 = (m : Int) := by rw [gi_idx _ _ _ (by decide), h49]
  refine B_X12_operand_46 (by omega) ?_
  rw [h47, e49, Int.toNat_natCast]
  refine ⟨by decide, fun c => absurd c (by decide), fun _ => ⟨fun c => absurd (w21.mpr hw) c, fun _ => ⟨fun _ => ⟨fun _ => ⟨by omega, ?_⟩, fun q => absurd (by omega) q⟩, fun c => by omega⟩⟩⟩
  generalize hA : si (si (si I 74 47 ((o : Int) + 1)) 106 m 22) 74 49 ((m : Int) + 1) = A
  have hFA : Fr [106] [(74, 47), (74, 49)] I A := by
    rw [← hA]
    exact (((Fr.rf _ _ _).up 74 47 _ (Or.inr (by decide))).up 106 _ _ (Or.inl (by decide))).up 74 49 _ (Or.inr (by decide))
  have a47 : gi A 74 47 = ((o + 1 : Nat) : Int) := by
    rw [← hA, gi_idx _ _ _ (by decide), gi_cell _ _ _ _ (by decide), gi_si _ _ _ _ _ (by unfold inR; omega), if_pos ⟨rfl, rfl⟩]
    rfl
  have a49 : gi A 74 49 = ((m + 1 : Nat) : Int) := by
    rw [← hA, gi_si _ _ _ _ _ (by unfold inR; omega), if_pos ⟨rfl, rfl⟩]
    rfl
  have a106 : ∀ i, gi A 106 i = if i = m then 22 else gi I 106 i := fun i => by
    rw [← hA, gi_cell _ _ _ _ (by decide), gi_si _ _ _ _ _ (by decide), gi_cell _ _ _ _ (by decide)]
    by_cases e : i = m
    · rw [if_pos ⟨rfl, e⟩, if_pos e]
    · rw [if_neg (fun t => e t.2), if_neg e]
  refine ahead_of (by omega) hX hp (hS.1.fr hFA (by decide) (by decide) rfl) (fun I3 J3 hT3 hF3 hJ3 => ⟨_, _, rfl, rfl, ?_⟩)
  have hF4 : Fr [] FLq A (si I3 74 50 0) := hF3.q.up 74 50 _ (Or.inr (by decide))
  have hF5 : Fr [] [(74, 50)] I3 (si I3 74 50 0) := (Fr.rf _ _ _).up 74 50 _ (Or.inr (by decide))
  have e1 : ∀ j, (74, j) ∉ FLr → j ≠ 50 → gi (si I3 74 50 0) 74 j = gi A 74 j := fun j hj h50 => by rw [gi_idx _ _ _ h50, hF3.gv 74 j (by decide) hj]
  have eA : ∀ j, j ≠ 47 → j ≠ 49 → gi A 74 j = gi I 74 j := fun j q1 q2 => hFA.gv 74 j (by decide) (by
    simp only [List.mem_cons, List.not_mem_nil, or_false, Prod.mk.injEq, true_and, not_or]
    exact ⟨q1, q2⟩)
  have g8 : gi I3 74 8 = 0 := by rw [hF3.gv 74 8 (by decide) (by decide), eA 8 (by decide) (by decide)]; exact h8
  have hS4 : RS (si I3 74 50 0) J3 T n (tE T n p) b f (o + 1) (m + 1) cd := ⟨hT3.fr hF5 (by decide) (by decide) rfl, by rw [gi_idx _ _ _ (by decide)]; exact g8, by rw [e1 40 (by decide) (by decide), eA 40 (by decide) (by decide)]; exact hS.2.2.1, by rw [e1 46 (by decide) (by decide), eA 46 (by decide) (by decide)]; exact hS.2.2.2.1, by rw [e1 47 (by decide) (by decide)]; exact a47, by rw [e1 49 (by decide) (by decide)]; exact a49, by rw [e1 39 (by decide) (by decide), eA 39 (by decide) (by decide)]; exact hS.2.2.2.2.2.2⟩
  have hK : RK I (si I3 74 50 0) f m (1600 * b + cd) (1600 * b + 1600) := RK.tr (f' := f) (m' := m) (w' := 1600 * b + cd) (I1 := A) ⟨⟨hFA.mono (fun t ht => by
      simp only [List.mem_cons, List.not_mem_nil, or_false] at ht ⊢
      subst ht
      simp) (fun q hq => Or.inl (by
      simp only [List.mem_cons, List.not_mem_nil, or_false] at hq ⊢
      rcases hq with e | e <;> subst e <;> simp)), fun i _ => ⟨hFA.gvc i (by decide) (by decide), hFA.gvc i (by decide) (by decide)⟩⟩, fun i _ => ⟨hFA.gvc i (by decide) (by decide), hFA.gvc i (by decide) (by decide), hFA.gvc i (by decide) (by decide)⟩, fun i _ => ⟨hFA.gvc i (by decide) (by decide), hFA.gvc i (by decide) (by decide)⟩, fun i q => by rw [a106, if_neg (by omega)]⟩ (RK.fl f m _ _ hF4) (Nat.le_refl _) (Nat.le_refl _) (Nat.le_refl _)
  have h106 : gi (si I3 74 50 0) 106 m = 22 := by rw [hF4.gvc m (by decide) (by decide), a106, if_pos rfl]
  have h102 : gi (si I3 74 50 0) 102 f = gi I 102 f := by rw [hF4.gvc f (by decide) (by decide), hFA.gvc f (by decide) (by decide)]
  have h103 : gi (si I3 74 50 0) 103 f = gi I 103 f := by rw [hF4.gvc f (by decide) (by decide), hFA.gvc f (by decide) (by decide)]
  refine OQ.y (Or.inl rfl) g8 ?_
  have hc1 := hcx.1
  have hc2 := hcx.2.1
  refine h k P (si I3 74 50 0) J3 Q b f (m + 1) cd hk ⟨hS4, by rw [gi_si _ _ _ _ _ (by decide), if_pos ⟨rfl, rfl⟩], hb2, by omega, by omega, by omega, by omega, hg.2.1, ?_⟩ ⟨by rw [hK.ph]; exact hfc.1, by rw [h102]; exact hfc.2.1, by rw [h103]; exact hfc.2.2⟩ ?_
  · unfold ctx
    rw [(hK.2.1 f (Nat.le_refl f)).2.2]
    refine ⟨hc1, by omega, Or.inr ?_⟩
    rw [Nat.add_sub_cancel, h106]
    decide
  · cases r with
    | inl e => exact fun I5 J5 hE => RO.er (I1 := si I3 74 50 0) (J1 := J3) hO hK.1 hJ3 hE (Nat.le_refl _)
    | inr c =>
      intro I5 J5 hA5 hK5 hp5 hJ5
      have hpu := RA.push (c := []) (lo := 3) (x := 22) hA5 (by rw [hK5.2.2.2 m (Nat.lt_succ_self m)]; exact h106) trivial (by decide) (by decide) (Or.inr ⟨rfl, Int.le_refl _, rfl⟩)
      exact hO I5 J5 hpu (hK.tr hK5 (Nat.le_refl _) (Nat.le_succ m) (Nat.le_refl _)) hp5 (hJ3.tr hJ5)
theorem R_brk0 {T : Nat → Int} {n o p : Nat} {r : Res} (hX : TX T n) (hp : p ≤ n) (h91 : sgn T n p 91) (h : ∀ (k : Nat) (P : Option Nat) (I : Nat → Nat → Int32) (J : Nat → Nat → Int64) (Q : Option AV → Mem → Prop) (b f m cd : Nat), 12 ≤ k → RG I J T n p b f o m cd 2 4 → gi I 103 f = 0 → RO true k P I J Q T n b f o m cd 3 r → WPm (k - 1 - 1) LAY m_X12_opens [vR (some 74), vI 5] (mem (P, some 5, some 22) I J) (retV (fun I4 J5 => OQ k P Q (some (vI 0)) (mem (P, some 5, some 22) I4 J5)) (P, some 5, some 22))) : RN true 2 4 3 T n o p r := by
  refine R_fact (bd_3 (Or.inl h91.1)) (fun k P I J Q b f m cd hk hG hfc hO => ?_)
  obtain ⟨hS, h50, hb2, hfo, ho, hm, hcm, hpn, hcx⟩ := hG
  have hk1 := h91.1
  obtain ⟨b1, b2, b3, b4, b5⟩ := hS.b0
  have h3 : gi I 74 3 = 3 := by rw [hS.1.2.1, hk1]; rfl
  refine B_X12_operand_46 (by omega) ⟨by decide, fun c => absurd c (by decide), fun _ => ⟨fun _ => ?_, fun q => absurd (h3.symm.trans q.1) (by decide)⟩⟩
  refine B_X12_operand_110 (by omega) ⟨by omega, by decide, fun c => absurd c (by decide), fun _ => ?_⟩
  rw [Int.toNat_natCast, b1.1.s 91]
  refine ⟨fun q => absurd h91 q, fun _ => ?_⟩
  exact h k P (si I 103 f 0) J Q b f m cd hk ⟨b1, by rw [b5]; exact h50, hb2, hfo, ho, hm, hcm, hpn, hcx.rk (b3 0 0) hcx.pos⟩ b2 (hO.mv (b3 _ _) (Fr.rf _ _ _) (fun q => absurd q (by decide)))
theorem R_brk7 {T : Nat → Int} {n p : Nat} (hX : TX T n) (hp : p ≤ n) (h91 : sgn T n p 91) : RN true 2 4 3 T n 7 p (.inl (5, tS T n p)) := by
  refine R_brk0 hX hp h91 (fun k P I J Q b f m cd hk hG hbe hO => ?_)
  obtain ⟨hS, h50, hb2, hfo, ho, hm, hcm, hpn, hcx⟩ := hG
  have e1 := RE.five (J := J) (1600 * b + cd) (1600 * b + 1600) hS.1
  exact S_opens (by omega) hX hp (by decide) hS hfo ho (by omega) (fun _ => ⟨_, _, rfl, rfl, OQ.n (by omega) (Or.inl rfl) (fun q => absurd (e1.2.1.symm.trans q) (show ¬ ((5 : Int) = 0) by decide)) (hO _ _ e1.s50)⟩) (fun q => absurd q (by decide))
set_option maxHeartbeats 1000000 in
theorem R_brk {T : Nat → Int} {n o p : Nat} {r : Res} (hX : TX T n) (hp : p ≤ n) (h91 : sgn T n p 91) (ho7 : o < 7) (h : RN true 0 1 1 T n (o + 1) (tE T n p) r) (hfw : ∀ c, r = .inr c → ¬ (bd T n c.2 = -1 ∧ wd T n c.2 20) ∧ ¬ (bd T n c.2 = -1 ∧ wd T n c.2 19)) : RN true 2 4 3 T n o p (cloR T n 93 r) := by
  refine R_brk0 hX hp h91 (fun k P I J Q b f m cd hk hG hbe hO => ?_)
  obtain ⟨hS, h50, hb2, hfo, ho, hm, hcm, hpn, hcx⟩ := hG
  have hk1 := h91.1
  have hg := tE_gt (T := T) hp (by omega)
  refine S_opens (by omega) hX hp (by decide) hS hfo ho (by omega) (fun q => by omega) (fun _ I1 J1 hB => ⟨_, _, rfl, rfl, OQ.y (Or.inl rfl) hB.1.2.1 ?_⟩)
  have hJ1 := hB.2.2.2.2.2.2.2.2
  obtain ⟨g1, g2, g3, g4, g5, g6, g7⟩ := hB.g (bud := 0) (cx := 1) hb2 hfo ho7 (by omega) (by omega) hg.2.1
  have hcb1 : ctx (si I1 74 50 0) (f + 1) m 1 := ⟨by rw [g6]; omega, by rw [g6]; exact Int.le_refl _, Or.inl g6⟩
  refine h k P (si I1 74 50 0) J1 Q b (f + 1) m cd hk g1 ⟨Or.inr g3, g4, by rw [g5]; decide⟩ ?_
  cases r with
  | inl e => exact fun I2 J2 hE => hO.er (g2 (1600 * b + cd) (1600 * b + 1600)).1 hJ1 hE (Nat.le_refl _)
  | inr c =>
    intro I2 J2 hA hK hpc hJ2
    have hfw' := hfw c rfl
    have hpc' : (gi I2 102 (f + 1) = 1 ∧ ¬ pOp T n c.2 ∧ ¬ sOp T n c.2) ∨ gi I2 102 (f + 1) = 2 := hpc
    have hkd : gi I2 101 (f + 1) = 5 := by rw [hK.ph, g3]
    have hph : gi I2 102 (f + 1) ≠ 0 := by
      rcases hpc' with q | q
      · rw [q.1]; decide
      · rw [q]; decide
    have hRK : RFq I I2 f m (1600 * b + cd) (1600 * b + 1600) := (g2 _ _).tr hK.rf1 (Nat.le_refl _) (Nat.le_refl _)
    by_cases hs : sgn T n c.2 93
    · rw [cloR_y hs] at hO
      refine L_close5 hph hk hX hb2 hfo (by omega) (by omega) (by decide) hA (hcb1.rk hK hcb1.pos) hkd hs (by rw [(hRK.2.1 f (Nat.le_refl f)).2.2]; exact hbe) (fun I3 J3 a1 a2 a3 a4 => ?_)
      exact hO I3 J3 (a1.lo (by decide)) (hRK.k.tr a2 (Nat.le_refl _) (Nat.le_refl _) (Nat.le_refl _)) (Or.inr a3) ((hJ1.tr hJ2).tr a4)
    · rw [cloR_n hs] at hO
      refine L_nocl hk (by omega) hA (fun hb => ⟨fun q => ?_, fun q => absurd q.2.1 hph, fun q => ?_⟩) (by rw [hkd]; decide) (fun _ => hph) (by rw [hkd]; exact hs) (1600 * b + cd) (1600 * b + 1600) (fun I3 hE => hO.er hRK.1 (hJ1.tr hJ2) hE (Nat.le_refl _))
      · rcases hpc' with ⟨-, q1, q2⟩ | q1
        · unfold pOp at q1
          unfold sOp at q2
          omega
        · omega
      · rcases q.2.2 with t | t
        · exact hfw'.1 ⟨hb, q.2.1, t⟩
        · exact hfw'.2 ⟨hb, q.2.1, t⟩
set_option maxHeartbeats 1000000 in
theorem R_all {T : Nat → Int} {n o p : Nat} (hX : TX T n) (hp : p ≤ n) (hb : bd T n p = -1) (hw : wd T n p 22) : RN true 2 4 3 T n o p (.inr ([1], tE T n p)) := by
  refine R_fact hb (fun k P I J Q b f m cd hk hG hfc hO => ?_)
  obtain ⟨hS, h50, hb2, hfo, ho, hm, hcm, hpn, hcx⟩ := hG
  have hn := hX.1
  have hk1 := hw.1
  have hw2 := hw.2
  have hg := tE_gt (T := T) hp (by omega)
  obtain ⟨b1, b2, b3, b4, b5⟩ := hS.b0
  have h3 : gi I 74 3 = 1 := by rw [hS.1.2.1, hk1]; rfl
  have w21 : (gi I 74 3 = 1 ∧ gl J 74 7 = 7237492) ↔ wd T n p 21 := hS.1.w hp (w := 21) (by decide) (by decide +kernel)
  have w22 : (gi (si I 103 f 0) 74 3 = 1 ∧ gl J 74 7 = 6384748) ↔ wd T n p 22 := b1.1.w hp (w := 22) (by decide) (by decide +kernel)
  have h8 := b1.2.1
  refine B_X12_operand_46 (by omega) ⟨by decide, fun c => absurd c (by decide), fun _ => ⟨fun _ => ?_, fun q => ?_⟩⟩
  rotate_left
  · have := (w21.mp q).2
    omega
  refine B_X12_operand_110 (by omega) ⟨by omega, by decide, fun c => absurd c (by decide), fun _ => ?_⟩
  rw [Int.toNat_natCast, b1.1.s 91]
  refine ⟨fun _ => ?_, fun q => absurd q.1 (by omega)⟩
  have e40 := b1.2.2.1
  have e39 := b1.2.2.2.2.2.2
  refine B_X12_operand_137 (by omega) ?_
  rw [w22, e40, e39, show (1600 * (b : Int) + (cd : Int)).toNat = 1600 * b + cd by omega, Int.toNat_natCast]
  refine ⟨by decide, fun c => absurd c (by decide), fun _ => ⟨fun q => absurd hw q, fun _ => ⟨by omega, by omega, ?_⟩⟩⟩
  rw [si_swap _ _ _ _ _ (show (74 : Nat) ≠ 102 by decide), si_swap _ _ _ _ _ (show (96 : Nat) ≠ 102 by decide), si_swap _ _ _ _ _ (show (95 : Nat) ≠ 102 by decide)]
  obtain ⟨c1, c2, c3, c4⟩ := b1.p2
  have hFA : Fr [95, 96] [(74, 39)] (si (si I 103 f 0) 102 f 2) (si (si (si (si (si I 103 f 0) 102 f 2) 95 (1600 * b + cd) 30) 96 (1600 * b + cd) 0) 74 39 ((cd : Int) + 1)) := (((Fr.rf _ _ _).up 95 _ _ (Or.inl (by decide))).up 96 _ _ (Or.inl (by decide))).up 74 39 _ (Or.inr (by decide))
  refine ahead_of (by omega) hX hp (c1.1.fr hFA (by decide) (by decide) rfl) (fun I3 J3 hT3 hF3 hJ3 => ⟨_, _, rfl, rfl, ?_⟩)
  have hl := leafR (s := 30) (v := 0) (z := 1) hX c1 hg.1 hg.2.1 hcm hb2 ho (by decide) (by decide) rfl (c4.trans b2) hT3 hF3
  have g8 : gi I3 74 8 = 0 := by rw [hF3.gv 74 8 (by decide) (by decide), hFA.gv 74 8 (by decide) (by decide)]; exact c1.2.1
  exact OQ.y (Or.inr rfl) g8 (hO _ _ (hl.1.lo (by decide)) (((b3 _ _).tr (c2 (1600 * b + cd) (1600 * b + 1600)) (Nat.le_refl _) (Nat.le_refl _) (Nat.le_refl _)).tr hl.2.1 (Nat.le_refl _) (Nat.le_refl _) (Nat.le_refl _)) (Or.inr (hl.2.2.trans c3)) hJ3)
set_option maxHeartbeats 1000000 in
theorem R_cmp {T : Nat → Int} {n o p : Nat} {r1 r2 : Res} (hX : TX T n) (hfs : ¬ (bd T n p = -1 ∧ (wd T n p 21 ∨ sgn T n p 91 ∨ wd T n p 22))) (h1 : RN false 3 5 5 T n o p r1) (hf1 : ∀ c, r1 = .inr c → ¬ pOp T n c.2 ∧ ¬ sOp T n c.2) (h2 : ∀ c, r1 = .inr c → tOp T n c.2 → RN false 3 5 5 T n o (tE T n c.2) r2) (hf2 : ∀ c, r2 = .inr c → ¬ pOp T n c.2 ∧ ¬ sOp T n c.2) : RN true 2 4 3 T n o p (cmpR T n r1 r2) := by
  intro k P I J Q b f m cd hk hG hfc hO
  obtain ⟨hS, h50, hb2, hfo, ho, hm, hcm, hpn, hcx⟩ := hG
  refine h1 k P I J Q b f m cd hk ⟨hS, h50, hb2, hfo, ho, by omega, hcm, hpn, hcx.up (by decide)⟩ ⟨by rw [hfc.2.1]; decide, Or.inr (Or.inr hfs)⟩ ?_
  cases r1 with
  | inl e => exact fun I1 J1 hE => hO I1 J1 hE
  | inr c =>
    intro I1 J1 hA hK hpc hJ1
    have hpc' : gi I1 102 f = 0 := Eq.trans hpc hfc.2.1
    have hfw := hf1 c rfl
    have hts : gi I1 101 f = 1 ∨ gi I1 101 f = 5 := by rw [hK.ph]; exact hfc.1
    by_cases ht : tOp T n c.2
    · obtain ⟨-, -, -, -, -, hp1, hl1, -⟩ := hA.cz
      have hk3 : kR T n c.2 = 3 := opT_3 (by unfold tOp at ht; omega)
      have hg := tE_gt (T := T) hp1 (by rw [hk3]; decide)
      have htr := ht
      unfold tOp at htr
      have hrx : rk (opT T n c.2 - 10090) = 4 := by
        unfold rk
        rw [if_neg (by omega), if_neg (by omega), if_neg (by omega), if_pos (by omega)]
      have hcx1 := hcx.rk hK hcx.pos
      refine L_cmp hk hX hb2 hfo ho (by omega) hA (hcx1.up (by decide)) hts hpc' ht (fun I2 J2 hN => ?_)
      obtain ⟨a1, a2, a3, a4, a5, a6, a7, a8⟩ := hN
      have hK2 := hK.tr a6 (Nat.le_refl _) (Nat.le_refl _) (Nat.le_refl _)
      have hw : 1600 * b + cd ≤ 1600 * b + (cd + c.1.length) := by omega
      refine h2 c rfl ht k P I2 J2 Q b f (m + 1) (cd + c.1.length) hk ⟨a1, a3, hb2, hfo, ho, by omega, by omega, hg.2.1, ?_⟩ ⟨by rw [a4]; decide, Or.inr (Or.inl a5)⟩ ?_
      · have d1 := hcx1.1
        have d2 := hcx1.2.1
        unfold ctx
        rw [(a6.2.1 f (Nat.le_refl f)).2.2]
        refine ⟨d1, by omega, Or.inr ?_⟩
        rw [Nat.add_sub_cancel, a2, hrx]
        decide
      · cases r2 with
        | inl e =>
          rw [cmpR_e ht] at hO
          exact fun I3 J3 hE => RO.er (I1 := I2) (J1 := J2) hO hK2.1 (hJ1.tr a8) hE hw
        | inr d =>
          rw [cmpR_y ht] at hO
          intro I3 J3 hA3 hK3 hpc3 hJ3
          have hfw3 := hf2 d rfl
          have hcd3 : cds (encR I3) (1600 * b + cd) c.1 := cds_congr (fun i x y => by
            unfold encR
            have := hK3.1.2 i (Or.inl (by omega))
            rw [this.1, this.2]) a7
          have hpu := hA3.push (lo := 3) (x := opT T n c.2 - 10090) (by rw [hK3.2.2.2 m (Nat.lt_succ_self m)]; exact a2) hcd3 (by omega) (by rw [hrx]; decide) (Or.inl ⟨by decide, by omega, rfl⟩)
          have ez : (10090 : Int) + (opT T n c.2 - 10090) = opT T n c.2 := by omega
          rw [ez] at hpu
          exact hO I3 J3 hpu (hK2.tr hK3 (Nat.le_refl _) (Nat.le_succ m) hw) (Or.inl ⟨Eq.trans hpc3 a4, hfw3⟩) ((hJ1.tr a8).tr hJ3)
    · rw [cmpR_n ht] at hO
      exact L_ph0 hk (by omega) hA hts hpc' hfw.1 hfw.2 ht (1600 * b + cd) (1600 * b + 1600) (fun I2 hE => hO.er hK.1 hJ1 hE (Nat.le_refl _))
end RFACT

section RPART
/-! ===== the reference reads a part ===== -/
theorem R_bad {T : Nat → Int} {n o p : Nat} (hb : bd T n p ≠ -1) : RN false 5 7 7 T n o p (.inl (1, pl T n p)) := by
  intro k P I J Q b f m cd hk hG hfc hO
  obtain ⟨hS, h50, hb2, hfo, ho, hm, hcm, hp, hcx⟩ := hG
  have e1 := RE.lex (J := J) (1600 * b + cd) (1600 * b + 1600) hS.1 hb
  exact rd_op (by omega) h50 (op_bad (by omega) hS.1 hS.2.1 hb (OQ.n (by omega) (Or.inr rfl) (fun q => absurd (e1.2.1.symm.trans q) (show ¬ ((1 : Int) = 0) by decide)) (hO _ _ e1.s50)))
theorem enc_w {w : Int} (hw : isV (10000 + w)) : ∃ s : Int, 1 ≤ s ∧ s ≤ 9 ∧ ∀ v, enc s v = 10000 + w := by
  unfold isV at hw
  have h : w = 3 ∨ w = 7 ∨ w = 8 ∨ w = 10 ∨ w = 11 ∨ w = 15 ∨ w = 16 ∨ w = 17 ∨ w = 18 := by omega
  rcases h with e | e | e | e | e | e | e | e | e <;> subst e
  · exact ⟨1, by decide, by decide, fun v => rfl⟩
  · exact ⟨3, by decide, by decide, fun v => rfl⟩
  · exact ⟨4, by decide, by decide, fun v => rfl⟩
  · exact ⟨6, by decide, by decide, fun v => rfl⟩
  · exact ⟨8, by decide, by decide, fun v => rfl⟩
  · exact ⟨2, by decide, by decide, fun v => rfl⟩
  · exact ⟨5, by decide, by decide, fun v => rfl⟩
  · exact ⟨7, by decide, by decide, fun v => rfl⟩
  · exact ⟨9, by decide, by decide, fun v => rfl⟩
set_option maxHeartbeats 2000000 in
theorem o171 {k : Nat} {P : Option Nat} {I : Nat → Nat → Int32} {J : Nat → Nat → Int64} {Q : Option AV → Mem → Prop} {T : Nat → Int} {n p : Nat} (hk : 2 ≤ k) (hp : p ≤ n) (hT : RT I J T n p)
    (h40 : sgn T n p 40 → WPm (k - 1) LAY m_X12_opens [vR (some 74), vI 2] (mem (P, some 5, some 22) I J) (retV (fun I2 J3 => Q (some (vI 0)) (mem (P, some 5, some 22) I2 J3)) (P, some 5, some 22)))
    (hmm : wd T n p 23 ∨ wd T n p 24 → WP k LAY m_X12_operand 207 [(0, vR (some 74))] [] (mem (P, some 5, some 22) I J) Q)
    (h2 : kR T n p = 2 → WP k LAY m_X12_operand 420 [(0, vR (some 74))] [vI 0] (mem (P, some 5, some 22) I J) Q)
    (hv : ∀ s : Int, 1 ≤ s → s ≤ 9 → (∀ v, enc s v = 10000 + ow T n p) → kR T n p = 1 → isV (10000 + ow T n p) → WP k LAY m_X12_operand 420 [(0, vR (some 74))] [vI s] (mem (P, some 5, some 22) I J) Q)
    (hn : ¬ kR T n p = 2 → ¬ sgn T n p 40 → ¬ wd T n p 23 → ¬ wd T n p 24 → ¬ (kR T n p = 1 ∧ isV (10000 + ow T n p)) → WP k LAY m_X12_operand 420 [(0, vR (some 74))] [vI (-1)] (mem (P, some 5, some 22) I J) Q) : WP k LAY m_X12_operand 171 [(0, vR (some 74))] [] (mem (P, some 5, some 22) I J) Q := by
  have w23 : (gi I 74 3 = 1 ∧ gl J 74 7 = 7170414) ↔ wd T n p 23 := hT.w hp (w := 23) (by decide) (by decide +kernel)
  have w24 : (gi I 74 3 = 1 ∧ gl J 74 7 = 7168376) ↔ wd T n p 24 := hT.w hp (w := 24) (by decide) (by decide +kernel)
  have w3 : (gi I 74 3 = 1 ∧ gl J 74 7 = 465625310579) ↔ wd T n p 3 := hT.w hp (w := 3) (by decide) (by decide +kernel)
  have w15 : (gi I 74 3 = 1 ∧ gl J 74 7 = 482955849332) ↔ wd T n p 15 := hT.w hp (w := 15) (by decide) (by decide +kernel)
  have w7 : (gi I 74 3 = 1 ∧ gl J 74 7 = 1885430629) ↔ wd T n p 7 := hT.w hp (w := 7) (by decide) (by decide +kernel)
  have w8 : (gi I 74 3 = 1 ∧ gl J 74 7 = 1702454643) ↔ wd T n p 8 := hT.w hp (w := 8) (by decide) (by decide +kernel)
  have w16 : (gi I 74 3 = 1 ∧ gl J 74 7 = 461414299507) ↔ wd T n p 16 := hT.w hp (w := 16) (by decide) (by decide +kernel)
  have w10 : (gi I 74 3 = 1 ∧ gl J 74 7 = 431415715444) ↔ wd T n p 10 := hT.w hp (w := 10) (by decide) (by decide +kernel)
  have w17 : (gi I 74 3 = 1 ∧ gl J 74 7 = 32485571211914855) ↔ wd T n p 17 := hT.w hp (w := 17) (by decide) (by decide +kernel)
  have w11 : (gi I 74 3 = 1 ∧ gl J 74 7 = 1768842088) ↔ wd T n p 11 := hT.w hp (w := 11) (by decide) (by decide +kernel)
  have w18 : (gi I 74 3 = 1 ∧ gl J 74 7 = 474214787188) ↔ wd T n p 18 := hT.w hp (w := 18) (by decide) (by decide +kernel)
  have e3 : (gi I 74 3 = 2) ↔ kR T n p = 2 := by rw [hT.2.1]; omega
  refine B_X12_operand_171 (by omega) ?_
  rw [hT.s 40, w23, w24, w3, w15, w7, w8, w16, w10, w17, w11, w18, e3]
  have go : ∀ (s w : Int), 1 ≤ s → s ≤ 9 → (∀ v, enc s v = 10000 + w) → isV (10000 + w) → wd T n p w → WP k LAY m_X12_operand 420 [(0, vR (some 74))] [vI s] (mem (P, some 5, some 22) I J) Q := fun s w a b c d q => hv s a b (by rw [q.2]; exact c) q.1 (by rw [q.2]; exact d)
  refine ⟨fun n40 => ⟨fun q => hmm (Or.inl q), fun n23 => ⟨fun n24 => ⟨fun n2 => ⟨fun q3 => ⟨fun q15 => ⟨fun q7 => ⟨fun q8 => ⟨fun q16 => ⟨fun q10 => ⟨fun q17 => ⟨fun q11 => ⟨fun q18 => hn n2 n40 n23 n24 ?_, go 9 18 (by decide) (by decide) (fun _ => rfl) (by unfold isV; decide)⟩, go 8 11 (by decide) (by decide) (fun _ => rfl) (by unfold isV; decide)⟩, go 7 17 (by decide) (by decide) (fun _ => rfl) (by unfold isV; decide)⟩, go 6 10 (by decide) (by decide) (fun _ => rfl) (by unfold isV; decide)⟩, go 5 16 (by decide) (by decide) (fun _ => rfl) (by unfold isV; decide)⟩, go 4 8 (by decide) (by decide) (fun _ => rfl) (by unfold isV; decide)⟩, go 3 7 (by decide) (by decide) (fun _ => rfl) (by unfold isV; decide)⟩, go 2 15 (by decide) (by decide) (fun _ => rfl) (by unfold isV; decide)⟩, go 1 3 (by decide) (by decide) (fun _ => rfl) (by unfold isV; decide)⟩, h2⟩, fun q => hmm (Or.inr q)⟩⟩, h40⟩
  intro q
  unfold isV at q
  unfold wd at q3 q15 q7 q8 q16 q10 q17 q11 q18
  omega
/-- a part of one token -/
theorem o420 {k : Nat} {P : Option Nat} {I0 : Nat → Nat → Int32} {J : Nat → Nat → Int64} {Q : Option AV → Mem → Prop} {T : Nat → Int} {n p b f o m cd : Nat} {s z : Int} (hk : 12 ≤ k) (hX : TX T n) (hp : p ≤ n) (hS : RS I0 J T n p b f o m cd) (h0 : p < tE T n p) (hcm : cd + m ≤ p) (hb : b < 2) (ho : o ≤ 7) (is : inR s) (hs : s ≠ -1) (hz : enc s (gi I0 74 6) = z) (hbe : gi I0 103 f = 0) (hQ : ∀ I' J', RA I' J' T n (tE T n p) b f o m cd 7 [z] → RK I0 I' f m (1600 * b + cd) (1600 * b + 1600) → gi I' 102 f = gi I0 102 f → Fr [] [(74, 7)] J J' → WP k LAY m_X12_reads 43 [(0, vR (some 74)), (2, vI 1)] [] (mem (P, some 5, some 22) I' J') Q) : WP (k - 1) LAY m_X12_operand 420 [(0, vR (some 74))] [vI s] (mem (P, some 5, some 22) I0 J) (OQ k P Q) := by
  have hn := hX.1
  have hr := tE_rng (T := T) hp
  refine B_X12_operand_420 (by omega) ⟨is, fun _ => ⟨fun _ => ?_, fun q => absurd (by have := hS.2.1; omega) q⟩, fun q => absurd q hs⟩
  have e40 := hS.2.2.1
  have e39 := hS.2.2.2.2.2.2
  rw [e40, e39, show (1600 * (b : Int) + (cd : Int)).toNat = 1600 * b + cd by omega]
  refine ⟨by omega, ?_⟩
  have hFA : Fr [95, 96] [(74, 39)] I0 (si (si (si I0 95 (1600 * b + cd) s) 96 (1600 * b + cd) (gi I0 74 6)) 74 39 ((cd : Int) + 1)) := (((Fr.rf _ _ _).up 95 _ _ (Or.inl (by decide))).up 96 _ _ (Or.inl (by decide))).up 74 39 _ (Or.inr (by decide))
  refine ahead_of (by omega) hX hp (hS.1.fr hFA (by decide) (by decide) rfl) (fun I3 J3 hT3 hF3 hJ3 => ⟨_, _, rfl, rfl, ?_⟩)
  have hl := leafR hX hS h0 hr.2.1 hcm hb ho is (gi_in _ _ _) hz hbe hT3 hF3
  have h8 : gi I3 74 8 = 0 := by rw [hF3.gv 74 8 (by decide) (by decide), hFA.gv 74 8 (by decide) (by decide)]; exact hS.2.1
  exact OQ.y (Or.inr rfl) h8 (hQ _ _ hl.1 hl.2.1 hl.2.2 hJ3)
theorem RS.b0 {I : Nat → Nat → Int32} {J : Nat → Nat → Int64} {T : Nat → Int} {n p b f o m cd : Nat} (h : RS I J T n p b f o m cd) : RS (si I 103 f 0) J T n p b f o m cd ∧ gi (si I 103 f 0) 103 f = 0 ∧ (∀ w hi, RK I (si I 103 f 0) f m w hi) ∧ gi (si I 103 f 0) 102 f = gi I 102 f ∧ gi (si I 103 f 0) 74 50 = gi I 74 50 := by
  have hF : Fr [103] [] I (si I 103 f 0) := (Fr.rf _ _ _).up 103 _ _ (Or.inl (by decide))
  have e : ∀ j, gi (si I 103 f 0) 74 j = gi I 74 j := fun j => gi_cell _ _ _ _ (by decide)
  refine ⟨⟨h.1.fr hF (by decide) (by decide) rfl, by rw [e]; exact h.2.1, by rw [e]; exact h.2.2.1, by rw [e]; exact h.2.2.2.1, by rw [e]; exact h.2.2.2.2.1, by rw [e]; exact h.2.2.2.2.2.1, by rw [e]; exact h.2.2.2.2.2.2⟩, by rw [gi_si _ _ _ _ _ (by decide), if_pos ⟨rfl, rfl⟩], fun w hi => ⟨⟨hF.mono (fun t ht => by
      simp only [List.mem_cons, List.not_mem_nil, or_false] at ht ⊢
      subst ht
      simp) (fun q hq => by cases hq), fun i _ => ⟨hF.gvc i (by decide) (by decide), hF.gvc i (by decide) (by decide)⟩⟩, fun i _ => ⟨hF.gvc i (by decide) (by decide), hF.gvc i (by decide) (by decide), hF.gvc i (by decide) (by decide)⟩, fun i q => ⟨hF.gvc i (by decide) (by decide), gi_idx _ _ _ (by omega)⟩, fun i _ => hF.gvc i (by decide) (by decide)⟩, gi_cell _ _ _ _ (by decide), e 50⟩
/-- a part's first token, good: what comes of it -/
theorem R_part {T : Nat → Int} {n o p : Nat} {r : Res} (hp : p ≤ n) (hb : bd T n p = -1) (h : ∀ (k : Nat) (P : Option Nat) (I : Nat → Nat → Int32) (J : Nat → Nat → Int64) (Q : Option AV → Mem → Prop) (b f m cd : Nat), 12 ≤ k → RG I J T n p b f o m cd 5 7 → gi I 103 f = 0 → RO false k P I J Q T n b f o m cd 7 r → WP (k - 1) LAY m_X12_operand 171 [(0, vR (some 74))] [] (mem (P, some 5, some 22) I J) (OQ k P Q)) : RN false 5 7 7 T n o p r := by
  intro k P I J Q b f m cd hk hG hfc hO
  obtain ⟨hS, h50, hb2, hfo, ho, hm, hcm, hpn, hcx⟩ := hG
  obtain ⟨b1, b2, b3, b4, b5⟩ := hS.b0
  refine rd_op (by omega) h50 (op_171 (f := f) (by omega) hp hS.1 hS.2.1 hS.2.2.2.1 (by omega) hb hfc.2 ?_)
  exact h k P (si I 103 f 0) J Q b f m cd hk ⟨b1, by rw [b5]; exact h50, hb2, hfo, ho, hm, hcm, hpn, hcx.rk (b3 0 0) hcx.pos⟩ b2 (hO.mv (b3 _ _) (Fr.rf _ _ _) (fun _ => b4))
theorem R_num {T : Nat → Int} {n o p : Nat} (hX : TX T n) (hp : p ≤ n) (hb : bd T n p = -1) (h2 : kR T n p = 2) : RN false 5 7 7 T n o p (.inr ([vl T n p], tE T n p)) := by
  refine R_part hp hb (fun k P I J Q b f m cd hk hG hbe hO => ?_)
  obtain ⟨hS, h50, hb2, hfo, ho, hm, hcm, hpn, hcx⟩ := hG
  have hg := tE_gt (T := T) hp (by omega)
  have hv := vl_d (T := T) hp h2
  refine o171 (by omega) hp hS.1 (fun q => absurd q.1 (by omega)) (fun q => absurd (q.elim (fun t => t.1) (fun t => t.1)) (by omega)) (fun _ => ?_) (fun s _ _ _ q _ => by omega) (fun q => absurd h2 q)
  refine o420 hk hX hp hS hg.1 hcm hb2 ho (by decide) (by decide) ?_ hbe (fun I' J' a1 a2 a3 a4 => hO I' J' a1 a2 a3 a4)
  rw [hS.1.2.2.2.2.2.1 (Or.inl h2)]
  unfold enc
  rw [if_pos rfl, if_pos hv]
theorem R_val {T : Nat → Int} {n o p : Nat} (hX : TX T n) (hp : p ≤ n) (hb : bd T n p = -1) (h1 : kR T n p = 1) (hv : isV (10000 + ow T n p)) : RN false 5 7 7 T n o p (.inr ([10000 + ow T n p], tE T n p)) := by
  refine R_part hp hb (fun k P I J Q b f m cd hk hG hbe hO => ?_)
  obtain ⟨hS, h50, hb2, hfo, ho, hm, hcm, hpn, hcx⟩ := hG
  have hg := tE_gt (T := T) hp (by omega)
  refine o171 (by omega) hp hS.1 (fun q => absurd q.1 (by omega)) (fun q => ?_) (fun q => by omega) (fun s a c d _ _ => ?_) (fun _ _ _ _ q => absurd ⟨h1, hv⟩ q)
  · unfold isV at hv
    unfold wd at q
    omega
  · exact o420 hk hX hp hS hg.1 hcm hb2 ho (by unfold inR; omega) (by omega) (d _) hbe (fun I' J' a1 a2 a3 a4 => hO I' J' a1 a2 a3 a4)
theorem R_none {T : Nat → Int} {n o p : Nat} (hp : p ≤ n) (hb : bd T n p = -1) (h2 : kR T n p ≠ 2) (h40 : ¬ sgn T n p 40) (hm : ¬ (wd T n p 23 ∨ wd T n p 24)) (hv : ¬ (kR T n p = 1 ∧ isV (10000 + ow T n p))) : RN false 5 7 7 T n o p (.inl (1, pl T n p)) := by
  refine R_part hp hb (fun k P I J Q b f m cd hk hG hbe hO => ?_)
  obtain ⟨hS, h50, hb2, hfo, ho, hm', hcm, hpn, hcx⟩ := hG
  have e1 := RE.at (J := J) (1600 * b + cd) (1600 * b + 1600) hS.1 hb
  have h8 := hS.2.1
  refine o171 (by omega) hp hS.1 (fun q => absurd q h40) (fun q => absurd q hm) (fun q => absurd q h2) (fun s _ _ _ q1 q2 => absurd ⟨q1, q2⟩ hv) (fun _ _ _ _ _ => ?_)
  refine B_X12_operand_420 (by omega) ⟨by decide, fun q => absurd rfl q, fun _ => ⟨fun _ => ?_, fun q => absurd (by omega) q⟩⟩
  exact OQ.n (by omega) (Or.inr rfl) (fun q => absurd (e1.2.1.symm.trans q) (show ¬ ((1 : Int) = 0) by decide)) (hO _ _ e1.s50)
theorem R_par7 {T : Nat → Int} {n p : Nat} (hX : TX T n) (hp : p ≤ n) (h40 : sgn T n p 40) : RN false 5 7 7 T n 7 p (.inl (5, tS T n p)) := by
  refine R_part hp (bd_3 (Or.inl h40.1)) (fun k P I J Q b f m cd hk hG hbe hO => ?_)
  obtain ⟨hS, h50, hb2, hfo, ho, hm, hcm, hpn, hcx⟩ := hG
  have e1 := RE.five (J := J) (1600 * b + cd) (1600 * b + 1600) hS.1
  have hk1 := h40.1
  refine o171 (by omega) hp hS.1 (fun _ => ?_) (fun q => absurd (q.elim (fun t => t.1) (fun t => t.1)) (by omega)) (fun q => by omega) (fun s _ _ _ q _ => by omega) (fun _ q => absurd h40 q)
  exact S_opens (by omega) hX hp (by decide) hS hfo ho (by omega) (fun _ => ⟨_, _, rfl, rfl, OQ.n (by omega) (Or.inl rfl) (fun q => absurd (e1.2.1.symm.trans q) (show ¬ ((5 : Int) = 0) by decide)) (hO _ _ e1.s50)⟩) (fun q => absurd q (by decide))
/-- a new frame's first state -/
theorem RB0.g {I I' : Nat → Nat → Int32} {J J' : Nat → Nat → Int64} {T : Nat → Int} {n p b f o m cd bud : Nat} {kd cx : Int} (h : RB0 I I' J J' T n p b f o m cd kd) (hb2 : b < 2) (hfo : f ≤ o) (ho : o < 7) (hm : m ≤ 5 * f + o + 5) (hcm : cd + m ≤ p) (hp : p ≤ n) : RG (si I' 74 50 0) J' T n p b (f + 1) (o + 1) m cd bud cx ∧ (∀ w hi, RFq I (si I' 74 50 0) f m w hi) ∧ gi (si I' 74 50 0) 101 (f + 1) = kd ∧ gi (si I' 74 50 0) 102 (f + 1) = 0 ∧ gi (si I' 74 50 0) 103 (f + 1) = 1 ∧ gi (si I' 74 50 0) 105 (f + 1) = (m : Int) ∧ (∀ i, encR (si I' 74 50 0) i = encR I i) := by
  obtain ⟨hS, k1, k2, k3, k5, hR, hc, h50, hJ⟩ := h
  have hF : Fr [] [(74, 50)] I' (si I' 74 50 0) := (Fr.rf _ _ _).up 74 50 _ (Or.inr (by decide))
  have hFq : Fr [] FLq I' (si I' 74 50 0) := (Fr.rf _ _ _).up 74 50 _ (Or.inr (by decide))
  have e : ∀ j, j ≠ 50 → gi (si I' 74 50 0) 74 j = gi I' 74 j := fun j hj => gi_idx _ _ _ hj
  have eo : ∀ c i, c ≠ 74 → gi (si I' 74 50 0) c i = gi I' c i := fun c i hj => gi_cell _ _ _ _ hj
  refine ⟨⟨⟨hS.1.fr hF (by decide) (by decide) rfl, by rw [e 8 (by decide)]; exact hS.2.1, by rw [e 40 (by decide)]; exact hS.2.2.1, by rw [e 46 (by decide)]; exact hS.2.2.2.1, by rw [e 47 (by decide)]; exact hS.2.2.2.2.1, by rw [e 49 (by decide)]; exact hS.2.2.2.2.2.1, by rw [e 39 (by decide)]; exact hS.2.2.2.2.2.2⟩, by rw [gi_si _ _ _ _ _ (by decide), if_pos ⟨rfl, rfl⟩], hb2, by omega, by omega, by omega, hcm, hp, ?_⟩, fun w hi => (hR w hi).tr (RK.fl (f + 1) m w hi hFq).rf1 (Nat.le_refl _) (Nat.le_refl _), by rw [eo _ _ (by decide)]; exact k1, by rw [eo _ _ (by decide)]; exact k2, by rw [eo _ _ (by decide)]; exact k3, by rw [eo _ _ (by decide)]; exact k5, fun i => ?_⟩
  · unfold ctx
    rw [eo _ _ (by decide), k5]
    exact ⟨by omega, Int.le_refl _, Or.inl rfl⟩
  · unfold encR
    rw [eo _ _ (by decide), eo _ _ (by decide)]
    exact hc i
end RPART

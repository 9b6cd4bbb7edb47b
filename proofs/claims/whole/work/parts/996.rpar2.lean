section RPAR2
/-! ===== the reference reads ( SUM ), min, max ===== -/
set_option maxHeartbeats 1000000 in
theorem R_par {T : Nat → Int} {n o p : Nat} {r : Res} (hX : TX T n) (hp : p ≤ n) (h40 : sgn T n p 40) (ho7 : o < 7) (h : RN false 3 5 5 T n (o + 1) (tE T n p) r) (hfw : ∀ c, r = .inr c → ¬ pOp T n c.2 ∧ ¬ sOp T n c.2) : RN false 5 7 7 T n o p (cloR T n 41 r) := by
  refine R_part hp (bd_3 (Or.inl h40.1)) (fun k P I J Q b f m cd hk hG hbe hO => ?_)
  obtain ⟨hS, h50, hb2, hfo, ho, hm, hcm, hpn, hcx⟩ := hG
  have hk1 := h40.1
  have hg := tE_gt (T := T) hp (by omega)
  refine o171 (by omega) hp hS.1 (fun _ => ?_) (fun q => absurd (q.elim (fun t => t.1) (fun t => t.1)) (by omega)) (fun q => by omega) (fun s _ _ _ q _ => by omega) (fun _ q => absurd h40 q)
  refine S_opens (by omega) hX hp (by decide) hS hfo ho (by omega) (fun q => by omega) (fun _ I1 J1 hB => ⟨_, _, rfl, rfl, OQ.y (Or.inl rfl) hB.1.2.1 ?_⟩)
  have hJ1 := hB.2.2.2.2.2.2.2.2
  obtain ⟨g1, g2, g3, g4, g5, g6, g7⟩ := hB.g (bud := 3) (cx := 5) hb2 hfo ho7 hm (by omega) hg.2.1
  have gbe : gi (si I1 74 50 0) 103 f = 0 := by rw [((g2 0 0).2.1 f (Nat.le_refl f)).2.2]; exact hbe
  have gph : gi (si I1 74 50 0) 102 f = gi I 102 f := ((g2 0 0).2.1 f (Nat.le_refl f)).2.1
  have hcb := g1.2.2.2.2.2.2.2.2
  have hcb1 : ctx (si I1 74 50 0) (f + 1) m 1 := ⟨by rw [g6]; omega, by rw [g6]; exact Int.le_refl _, Or.inl g6⟩
  refine h k P (si I1 74 50 0) J1 Q b (f + 1) m cd hk g1 ⟨by rw [g4]; decide, Or.inl (by rw [g3]; decide)⟩ ?_
  cases r with
  | inl e => exact fun I2 J2 hE => hO.er (g2 (1600 * b + cd) (1600 * b + 1600)).1 hJ1 hE (Nat.le_refl _)
  | inr c =>
    intro I2 J2 hA hK hpc hJ2
    have hfw' := hfw c rfl
    have hpc' : gi I2 102 (f + 1) = 0 := Eq.trans hpc g4
    have hkd : gi I2 101 (f + 1) = 2 := by rw [hK.ph, g3]
    have hRK : RFq I I2 f m (1600 * b + cd) (1600 * b + 1600) := (g2 _ _).tr hK.rf1 (Nat.le_refl _) (Nat.le_refl _)
    by_cases hs : sgn T n c.2 41
    · rw [cloR_y hs] at hO
      refine L_close2 hk hX hb2 hfo (by omega) (by omega) (by decide) hA (hcb1.rk hK hcb1.pos) hkd hs (by rw [(hRK.2.1 f (Nat.le_refl f)).2.2]; exact hbe) (fun I3 J3 a1 a2 a3 a4 => ?_)
      exact hO I3 J3 a1 (hRK.k.tr a2 (Nat.le_refl _) (Nat.le_refl _) (Nat.le_refl _)) (by show gi I3 102 f = gi I 102 f; rw [a3, (hRK.2.1 f (Nat.le_refl f)).2.1]) ((hJ1.tr hJ2).tr a4)
    · rw [cloR_n hs] at hO
      refine L_nocl hk (by omega) hA (fun _ => ⟨fun q => ?_, fun q => ?_, fun q => ?_⟩) (by rw [hkd]; decide) (fun q => absurd (hkd.symm.trans q) (by decide)) (by rw [hkd]; exact hs) (1600 * b + cd) (1600 * b + 1600) (fun I3 hE => hO.er hRK.1 (hJ1.tr hJ2) hE (Nat.le_refl _))
      · unfold pOp sOp at hfw'
        omega
      · rw [hkd] at q; omega
      · rw [hkd] at q; omega
theorem bad251 {k : Nat} {P : Option Nat} {I4 : Nat → Nat → Int32} {J : Nat → Nat → Int64} {Q : Option AV → Mem → Prop} {y : Int} (hk : 12 ≤ k) (h8 : gi I4 74 8 = 1) (h : Q none (mem (P, some 5, some 22) (si I4 74 50 0) J)) : WP (k - 1) LAY m_X12_operand 251 [(0, vR (some 74)), (3, vI y)] [] (mem (P, some 5, some 22) I4 J) (OQ k P Q) := by
  have en : OQ k P Q (some (vI 0)) (mem (P, some 5, some 22) I4 J) := OQ.n (by omega) (Or.inl rfl) (by rw [h8]; decide) h
  refine B_X12_operand_251 (by omega) ?_
  refine WPm.of k_X12_opens.1 (Nat.le_of_ble_eq_true rfl) (B_X12_opens_0 (by omega) ?_)
  have out : retV (fun I2 J3 => (¬ (gi I2 74 8) = 0 → (WP (k - 1) LAY m_X12_operand 275 [] [] (mem (P, some 5, some 22) I2 J3) (OQ k P Q))) ∧ ((gi I2 74 8) = 0 → ((0 ≤ ((gi I2 74 46) - 1) ∧ ((gi I2 74 46) - 1) < 20) ∧ (WP (k - 1) LAY m_X12_operand 275 [] [] (mem (P, some 5, some 22) (si I2 104 ((gi I2 74 46) - 1).toNat y) J3) (OQ k P Q))))) (P, some 5, some 22) none (mem (P, some 5, some 22) I4 J) := ⟨_, _, rfl, rfl, fun _ => B_X12_operand_275 (Nat.zero_le _) en, fun q => absurd (h8.symm.trans q) (by decide)⟩
  exact ⟨fun _ => ⟨fun q => absurd q (by omega), fun _ => out⟩, fun _ => ⟨fun q => absurd q (by omega), fun _ => ⟨fun q => absurd q (by omega), fun _ => out⟩⟩⟩
set_option maxHeartbeats 1000000 in
/-- min and max, up to the sign behind them -/
theorem o207 {k : Nat} {P : Option Nat} {I : Nat → Nat → Int32} {J : Nat → Nat → Int64} {Q : Option AV → Mem → Prop} {T : Nat → Int} {n p : Nat} {w z : Int} (W hi : Nat) (hk : 8 ≤ k) (hX : TX T n) (hp : p ≤ n) (hT : RT I J T n p) (h8 : gi I 74 8 = 0) (hw : wd T n p w) (hz : (w = 23 ∧ z = 15) ∨ (w = 24 ∧ z = 16)) (h : ∀ I2 J2, RT I2 J2 T n (tE T n p) → Fr [] FLr I I2 → Fr [] [(74, 7)] J J2 → (bd T n (tE T n p) = -1 → sgn T n (tE T n p) 40 → WP k LAY m_X12_operand 251 [(0, vR (some 74)), (3, vI z)] [] (mem (P, some 5, some 22) I2 J2) Q) ∧ (¬ (bd T n (tE T n p) = -1 ∧ sgn T n (tE T n p) 40) → ∀ I4, RE I2 I4 J2 J2 W hi (1, pl T n (tE T n p)) → WP k LAY m_X12_operand 251 [(0, vR (some 74)), (3, vI z)] [] (mem (P, some 5, some 22) I4 J2) Q)) : WP k LAY m_X12_operand 207 [(0, vR (some 74))] [] (mem (P, some 5, some 22) I J) Q := by
  have w23 : (gi I 74 3 = 1 ∧ gl J 74 7 = 7170414) ↔ wd T n p 23 := hT.w hp (w := 23) (by decide) (by decide +kernel)
  have hw2 := hw.2
  refine B_X12_operand_207 (by omega) ?_
  rw [w23]
  refine ⟨fun q => ?_, fun q => ?_⟩
  · have ez : z = 16 := by
      rcases hz with ⟨e, -⟩ | ⟨-, e⟩
      · exact absurd (e ▸ hw) q
      · exact e
    subst ez
    refine ahead_of (by omega) hX hp hT (fun I2 J2 a1 a2 a3 => ⟨_, _, rfl, rfl, ?_⟩)
    dsimp only
    have hh := h I2 J2 a1 a2 a3
    have g8 : gi I2 74 8 = 0 := by rw [a2.gv 74 8 (by decide) (by decide)]; exact h8
    have g12 := a1.2.2.2.2.1
    have hF4 : Fr [] [(74, 8), (74, 9)] I2 (si (si I2 74 8 1) 74 9 (gi I2 74 12)) := ((Fr.rf _ _ _).up 74 8 _ (Or.inr (by decide))).up 74 9 _ (Or.inr (by decide))
    have a4 := a1.fr (J' := J2) hF4 (by decide) (by decide) rfl
    have f8 : gi (si (si I2 74 8 1) 74 9 (gi I2 74 12)) 74 8 = 1 := by rw [gi_idx _ _ _ (by decide), gi_si _ _ _ _ _ (by decide), if_pos ⟨rfl, rfl⟩]
    rw [a1.s 40, a4.s 40]
    refine ⟨fun q12 => ⟨fun s => hh.1 (by omega) s, fun ns => ⟨fun _ => hh.2 (fun t => ns t.2) _ (RE.at W hi a1 (by omega)), fun t => absurd (by omega) t⟩⟩, fun q12 => ⟨fun _ => ⟨fun _ => ?_, fun _ => ⟨fun t => absurd t (by omega), fun _ => ?_⟩⟩, fun t => absurd (by omega) t⟩⟩
    · exact hh.2 (fun t => q12 (g12.trans t.1)) _ (RE.lex W hi a1 (fun t => q12 (g12.trans t)))
    · exact hh.2 (fun t => q12 (g12.trans t.1)) _ (RE.lex W hi a1 (fun t => q12 (g12.trans t)))
  · have ez : z = 15 := by
      have := q.2
      omega
    subst ez
    refine ahead_of (by omega) hX hp hT (fun I2 J2 a1 a2 a3 => ⟨_, _, rfl, rfl, ?_⟩)
    dsimp only
    have hh := h I2 J2 a1 a2 a3
    have g8 : gi I2 74 8 = 0 := by rw [a2.gv 74 8 (by decide) (by decide)]; exact h8
    have g12 := a1.2.2.2.2.1
    have hF4 : Fr [] [(74, 8), (74, 9)] I2 (si (si I2 74 8 1) 74 9 (gi I2 74 12)) := ((Fr.rf _ _ _).up 74 8 _ (Or.inr (by decide))).up 74 9 _ (Or.inr (by decide))
    have a4 := a1.fr (J' := J2) hF4 (by decide) (by decide) rfl
    have f8 : gi (si (si I2 74 8 1) 74 9 (gi I2 74 12)) 74 8 = 1 := by rw [gi_idx _ _ _ (by decide), gi_si _ _ _ _ _ (by decide), if_pos ⟨rfl, rfl⟩]
    rw [a1.s 40, a4.s 40]
    refine ⟨fun q12 => ⟨fun s => hh.1 (by omega) s, fun ns => ⟨fun _ => hh.2 (fun t => ns t.2) _ (RE.at W hi a1 (by omega)), fun t => absurd (by omega) t⟩⟩, fun q12 => ⟨fun _ => ⟨fun _ => ?_, fun _ => ⟨fun t => absurd t (by omega), fun _ => ?_⟩⟩, fun t => absurd (by omega) t⟩⟩
    · exact hh.2 (fun t => q12 (g12.trans t.1)) _ (RE.lex W hi a1 (fun t => q12 (g12.trans t)))
    · exact hh.2 (fun t => q12 (g12.trans t.1)) _ (RE.lex W hi a1 (fun t => q12 (g12.trans t)))
theorem RS.ah {I I2 : Nat → Nat → Int32} {J J2 : Nat → Nat → Int64} {T : Nat → Int} {n p p' b f o m cd : Nat} (hS : RS I J T n p b f o m cd) (a1 : RT I2 J2 T n p') (a2 : Fr [] FLr I I2) : RS I2 J2 T n p' b f o m cd := ⟨a1, by rw [a2.gv 74 8 (by decide) (by decide)]; exact hS.2.1, by rw [a2.gv 74 40 (by decide) (by decide)]; exact hS.2.2.1, by rw [a2.gv 74 46 (by decide) (by decide)]; exact hS.2.2.2.1, by rw [a2.gv 74 47 (by decide) (by decide)]; exact hS.2.2.2.2.1, by rw [a2.gv 74 49 (by decide) (by decide)]; exact hS.2.2.2.2.2.1, by rw [a2.gv 74 39 (by decide) (by decide)]; exact hS.2.2.2.2.2.2⟩
/-- what min or max begins with -/
theorem R_mm {T : Nat → Int} {n o p : Nat} {w z : Int} {r : Res} (hX : TX T n) (hp : p ≤ n) (hb : bd T n p = -1) (hw : wd T n p w) (hz : (w = 23 ∧ z = 15) ∨ (w = 24 ∧ z = 16)) (h : ∀ (k : Nat) (P : Option Nat) (I : Nat → Nat → Int32) (J : Nat → Nat → Int64) (Q : Option AV → Mem → Prop) (b f m cd : Nat), 12 ≤ k → RS I J T n (tE T n p) b f o m cd → b < 2 → f ≤ o → o ≤ 7 → m ≤ 5 * f + o + 5 → cd + m ≤ p → gi I 103 f = 0 → RO false k P I J Q T n b f o m cd 7 r → (bd T n (tE T n p) = -1 → sgn T n (tE T n p) 40 → WP (k - 1) LAY m_X12_operand 251 [(0, vR (some 74)), (3, vI z)] [] (mem (P, some 5, some 22) I J) (OQ k P Q))) (hn : ¬ (bd T n (tE T n p) = -1 ∧ sgn T n (tE T n p) 40) → r = .inl (1, pl T n (tE T n p))) : RN false 5 7 7 T n o p r := by
  refine R_part hp hb (fun k P I J Q b f m cd hk hG hbe hO => ?_)
  obtain ⟨hS, h50, hb2, hfo, ho, hm, hcm, hpn, hcx⟩ := hG
  have hk1 := hw.1
  have how := hw.2
  refine o171 (by omega) hp hS.1 (fun q => absurd q.1 (by omega)) (fun _ => ?_) (fun q => by omega) (fun s _ _ _ _ q => ?_) (fun _ _ q1 q2 _ => ?_)
  · refine o207 (1600 * b + cd) (1600 * b + 1600) (by omega) hX hp hS.1 hS.2.1 hw hz (fun I2 J2 a1 a2 a3 => ?_)
    have hO2 := hO.mv (RK.fl _ _ _ _ a2.q) a3 (fun _ => a2.gvc f (by decide) (by decide))
    refine ⟨h k P I2 J2 Q b f m cd hk (hS.ah a1 a2) hb2 hfo ho hm hcm (by rw [a2.gvc f (by decide) (by decide)]; exact hbe) hO2, fun q I4 hE => ?_⟩
    rw [hn q] at hO2
    exact bad251 hk hE.2.1 (hO2 _ _ hE.s50)
  · unfold isV at q
    omega
  · rcases hz with ⟨e, -⟩ | ⟨e, -⟩
    · exact absurd (e ▸ hw) q1
    · exact absurd (e ▸ hw) q2
theorem R_mina {T : Nat → Int} {n o p : Nat} {w z : Int} (hX : TX T n) (hp : p ≤ n) (hb : bd T n p = -1) (hw : wd T n p w) (hz : (w = 23 ∧ z = 15) ∨ (w = 24 ∧ z = 16)) (h40 : ¬ sgn T n (tE T n p) 40) : RN false 5 7 7 T n o p (.inl (1, pl T n (tE T n p))) := R_mm hX hp hb hw hz (fun _ _ _ _ _ _ _ _ _ _ _ _ _ _ _ _ _ _ _ q => absurd q h40) (fun _ => rfl)
theorem R_minb {T : Nat → Int} {n p : Nat} {w z : Int} (hX : TX T n) (hp : p ≤ n) (hb : bd T n p = -1) (hw : wd T n p w) (hz : (w = 23 ∧ z = 15) ∨ (w = 24 ∧ z = 16)) (h40 : sgn T n (tE T n p) 40) : RN false 5 7 7 T n 7 p (.inl (5, tS T n (tE T n p))) := by
  have hg := tE_gt (T := T) hp (by rw [hw.1]; decide)
  refine R_mm hX hp hb hw hz (fun k P I J Q b f m cd hk hS hb2 hfo ho hm hcm hbe hO _ _ => ?_) (fun q => absurd ⟨bd_3 (Or.inl h40.1), h40⟩ q)
  have e1 := RE.five (J := J) (1600 * b + cd) (1600 * b + 1600) hS.1
  have e8 : gi (si (si I 74 8 5) 74 9 (gi I 74 4)) 74 8 = 5 := e1.2.1
  refine B_X12_operand_251 (by omega) (S_opens (by omega) hX hg.2.1 (by decide) hS hfo ho (by omega) (fun _ => ⟨_, _, rfl, rfl, fun _ => B_X12_operand_275 (Nat.zero_le _) (OQ.n (by omega) (Or.inl rfl) (by rw [e8]; decide) (hO _ _ e1.s50)), fun q => absurd (e8.symm.trans q) (by decide)⟩) (fun q => absurd q (by decide)))
theorem RB0.p {I I' : Nat → Nat → Int32} {J J' : Nat → Nat → Int64} {T : Nat → Int} {n p b f o m cd : Nat} {kd z : Int} (hz : inR z) (h : RB0 I I' J J' T n p b f o m cd kd) : RB0 I (si I' 104 (f + 1) z) J J' T n p b f o m cd kd ∧ gi (si I' 104 (f + 1) z) 104 (f + 1) = z := by
  obtain ⟨hS, k1, k2, k3, k5, hR, hc, h50, hJ⟩ := h
  have hF : Fr [104] [] I' (si I' 104 (f + 1) z) := (Fr.rf _ _ _).up 104 _ _ (Or.inl (by decide))
  have eo : ∀ c i, c ≠ 104 → gi (si I' 104 (f + 1) z) c i = gi I' c i := fun c i hj => gi_cell _ _ _ _ hj
  refine ⟨⟨⟨hS.1.fr hF (by decide) (by decide) rfl, by rw [eo _ _ (by decide)]; exact hS.2.1, by rw [eo _ _ (by decide)]; exact hS.2.2.1, by rw [eo _ _ (by decide)]; exact hS.2.2.2.1, by rw [eo _ _ (by decide)]; exact hS.2.2.2.2.1, by rw [eo _ _ (by decide)]; exact hS.2.2.2.2.2.1, by rw [eo _ _ (by decide)]; exact hS.2.2.2.2.2.2⟩, by rw [eo _ _ (by decide)]; exact k1, by rw [eo _ _ (by decide)]; exact k2, by rw [eo _ _ (by decide)]; exact k3, by rw [eo _ _ (by decide)]; exact k5, fun w hi => (hR w hi).tr (m' := m) (w' := w) ⟨⟨hF.mono (fun t ht => by
      simp only [List.mem_cons, List.not_mem_nil, or_false] at ht ⊢
      subst ht
      simp) (fun q hq => by cases hq), fun i _ => ⟨eo _ _ (by decide), eo _ _ (by decide)⟩⟩, fun i q => ⟨⟨eo _ _ (by decide), gi_idx _ _ _ (by omega), eo _ _ (by decide)⟩, eo _ _ (by decide), eo _ _ (by decide)⟩, fun i _ => eo _ _ (by decide)⟩ (Nat.le_refl _) (Nat.le_refl _), fun i => ?_, by rw [eo _ _ (by decide)]; exact h50, hJ⟩, by rw [gi_si _ _ _ _ _ hz, if_pos ⟨rfl, rfl⟩]⟩
  unfold encR
  rw [eo _ _ (by decide), eo _ _ (by decide)]
  exact hc i
theorem RA.pre {I : Nat → Nat → Int32} {J : Nat → Nat → Int64} {T : Nat → Int} {n p b f o m cd : Nat} {lo : Int} {c c2 : List Int} (h : RA I J T n p b f o m (cd + c.length) lo c2) (hc : cds (encR I) (1600 * b + cd) c) : RA I J T n p b f o m cd lo (c ++ c2) := by
  obtain ⟨c1, ps, e, ok, hS, hP, hcd, h50, h103, hpn, hle, hlen, ho⟩ := h
  subst e
  refine ⟨c ++ c1, ps, by rw [List.append_assoc], ok, ?_, hP, cds_app.mpr ⟨hc, by rw [Nat.add_assoc]; exact hcd⟩, h50, h103, hpn, ?_, hlen, ho⟩
  · rw [List.length_append, ← Nat.add_assoc]
    exact hS
  · rw [List.length_append]
    omega
set_option maxHeartbeats 2000000 in
theorem R_min {T : Nat → Int} {n o p : Nat} {w z : Int} {r1 r2 : Res} (hX : TX T n) (hp : p ≤ n) (hb : bd T n p = -1) (hw : wd T n p w) (hz : (w = 23 ∧ z = 15) ∨ (w = 24 ∧ z = 16)) (h40 : sgn T n (tE T n p) 40) (ho7 : o < 7) (h1 : RN false 3 5 5 T n (o + 1) (tE T n (tE T n p)) r1) (hf1 : ∀ c, r1 = .inr c → ¬ pOp T n c.2 ∧ ¬ sOp T n c.2) (h2 : ∀ c, r1 = .inr c → sgn T n c.2 44 → RN false 3 5 5 T n (o + 1) (tE T n c.2) r2) (hf2 : ∀ c, r2 = .inr c → ¬ pOp T n c.2 ∧ ¬ sOp T n c.2) : RN false 5 7 7 T n o p (minR T n (10090 + z) r1 r2) := by
  have hg := tE_gt (T := T) hp (by rw [hw.1]; decide)
  have hg1 := tE_gt (T := T) hg.2.1 (by rw [h40.1]; decide)
  have hzr : 10 ≤ z ∧ z ≤ 22 := by omega
  refine R_mm hX hp hb hw hz (fun k P I J Q b f m cd hk hS hb2 hfo ho hm hcm hbe hO _ _ => ?_) (fun q => absurd ⟨bd_3 (Or.inl h40.1), h40⟩ q)
  refine B_X12_operand_251 (by omega) (S_opens (by omega) hX hg.2.1 (by decide) hS hfo ho (by omega) (fun q => by omega) (fun _ I0 J1 hB0 => ⟨_, _, rfl, rfl, fun q => absurd hB0.1.2.1 q, fun _ => ?_⟩))
  have e46 := hB0.1.2.2.2.1
  rw [e46, show ((f + 1 + 1 : Nat) : Int) - 1 = ((f + 1 : Nat) : Int) by omega, Int.toNat_natCast]
  refine ⟨by omega, B_X12_operand_275 (Nat.zero_le _) ?_⟩
  obtain ⟨hB, hpz⟩ := hB0.p (z := z) (by unfold inR; omega)
  generalize si I0 104 (f + 1) z = I1 at hB hpz
  refine OQ.y (Or.inl rfl) hB.1.2.1 ?_
  have hJ1 := hB.2.2.2.2.2.2.2.2
  obtain ⟨g1, g2, g3, g4, g5, g6, g7⟩ := hB.g (bud := 3) (cx := 5) hb2 hfo ho7 hm (by omega) hg1.2.1
  have gpz : gi (si I1 74 50 0) 104 (f + 1) = z := by rw [gi_cell _ _ _ _ (by decide)]; exact hpz
  have hcb1 : ctx (si I1 74 50 0) (f + 1) m 1 := ⟨by rw [g6]; omega, by rw [g6]; exact Int.le_refl _, Or.inl g6⟩
  refine h1 k P (si I1 74 50 0) J1 Q b (f + 1) m cd hk g1 ⟨by rw [g4]; decide, Or.inl (by rw [g3]; decide)⟩ ?_
  cases r1 with
  | inl e => exact fun I2 J2 hE => hO.er (g2 (1600 * b + cd) (1600 * b + 1600)).1 hJ1 hE (Nat.le_refl _)
  | inr c1 =>
    intro I2 J2 hA hK hpc hJ2
    have hfw' := hf1 c1 rfl
    have hpc' : gi I2 102 (f + 1) = 0 := Eq.trans hpc g4
    have hkd : gi I2 101 (f + 1) = 3 := by rw [hK.ph, g3]
    have hRK : RFq I I2 f m (1600 * b + cd) (1600 * b + 1600) := (g2 _ _).tr hK.rf1 (Nat.le_refl _) (Nat.le_refl _)
    have hcb2 := hcb1.rk hK hcb1.pos
    by_cases hs : sgn T n c1.2 44
    · obtain ⟨-, -, -, -, -, hp2, hl2, -⟩ := hA.cz
      have hg2 := tE_gt (T := T) hp2 (by rw [hs.1]; decide)
      refine L_comma hk hX hb2 hfo (by omega) (by omega) (by decide) hA hcb2 hkd hs (fun I3 J3 a1 a2 a3 a4 a5 a6 a7 a8 a9 a10 => ?_)
      have hRK3 : RFq I I3 f m (1600 * b + cd) (1600 * b + 1600) := hRK.tr a3 (Nat.le_refl _) (Nat.le_refl _)
      have b105 : gi I3 105 (f + 1) = (m : Int) := by rw [a7, (hK.2.1 (f + 1) (Nat.le_refl _)).2.2, g6]
      have hcb3 : ctx I3 (f + 1) m 1 := ⟨by rw [b105]; omega, by rw [b105]; exact Int.le_refl _, Or.inl b105⟩
      refine h2 c1 rfl hs k P I3 J3 Q b (f + 1) m (cd + c1.1.length) hk ⟨a1, a4, hb2, by omega, by omega, by omega, by omega, hg2.2.1, hcb3.up (by decide)⟩ ⟨by rw [a8, hpc']; decide, Or.inl (by rw [a5]; decide)⟩ ?_
      have hw3 : 1600 * b + cd ≤ 1600 * b + (cd + c1.1.length) := by omega
      cases r2 with
      | inl e =>
        rw [minR_e hs] at hO
        exact fun I4 J4 hE => hO.er hRK3.1 ((hJ1.tr hJ2).tr a10) hE hw3
      | inr c2 =>
        intro I4 J4 hA4 hK4 hpc4 hJ4
        have hfw4 := hf2 c2 rfl
        have hpc4' : gi I4 102 (f + 1) = 0 := (Eq.trans hpc4 a8).trans hpc'
        have hkd4 : gi I4 101 (f + 1) = 4 := by rw [hK4.ph, a5]
        have hRK4 : RFq I I4 f m (1600 * b + cd) (1600 * b + 1600) := hRK3.tr hK4.rf1 (Nat.le_refl _) hw3
        have hcd4 : cds (encR I4) (1600 * b + cd) c1.1 := cds_congr (fun i x y => by
          unfold encR
          have := hK4.1.2 i (Or.inl (by omega))
          rw [this.1, this.2]) a2
        have hAA := hA4.pre hcd4
        have hpz4 : gi I4 104 (f + 1) = z := by rw [(hK4.2.1 (f + 1) (Nat.le_refl _)).2.1, a6, (hK.2.1 (f + 1) (Nat.le_refl _)).2.1, gpz]
        have hJ14 := ((hJ1.tr hJ2).tr a10).tr hJ4
        by_cases hs2 : sgn T n c2.2 41
        · rw [minR_y hs hs2] at hO
          refine L_close4 hzr hpz4 hk hX hb2 hfo (by omega) (by omega) (by decide) hAA (hcb3.rk hK4 hcb3.pos) hkd4 hs2 (by rw [(hRK4.2.1 f (Nat.le_refl f)).2.2]; exact hbe) (fun I5 J5 d1 d2 d3 d4 => ?_)
          exact hO I5 J5 d1 (hRK4.k.tr d2 (Nat.le_refl _) (Nat.le_refl _) (Nat.le_refl _)) (by show gi I5 102 f = gi I 102 f; rw [d3, (hRK4.2.1 f (Nat.le_refl f)).2.1]) (hJ14.tr d4)
        · rw [minR_b hs hs2] at hO
          refine L_nocl hk (by omega) hAA (fun _ => ⟨fun q => ?_, fun q => ?_, fun q => ?_⟩) (by rw [hkd4]; decide) (fun q => absurd (hkd4.symm.trans q) (by decide)) (by rw [hkd4]; exact hs2) (1600 * b + cd) (1600 * b + 1600) (fun I5 hE => hO.er hRK4.1 hJ14 hE (Nat.le_refl _))
          · unfold pOp sOp at hfw4
            omega
          · rw [hkd4] at q; omega
          · rw [hkd4] at q; omega
    · rw [minR_n hs] at hO
      refine L_nocl hk (by omega) hA (fun _ => ⟨fun q => ?_, fun q => ?_, fun q => ?_⟩) (by rw [hkd]; decide) (fun q => absurd (hkd.symm.trans q) (by decide)) (by rw [hkd]; exact hs) (1600 * b + cd) (1600 * b + 1600) (fun I3 hE => hO.er hRK.1 (hJ1.tr hJ2) hE (Nat.le_refl _))
      · unfold pOp sOp at hfw'
        omega
      · rw [hkd] at q; omega
      · rw [hkd] at q; omega
end RPAR2

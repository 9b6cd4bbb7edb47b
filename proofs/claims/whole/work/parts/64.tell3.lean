section TELL3
theorem or_pow {a p : Nat} (ha : a < 2147483648) (hp : p < 14) : or32 (a : Int) (shl32 1 (p : Int)) = ((a ||| 2 ^ p : Nat) : Int) := by
  rw [shl1 (by omega), or32_nat ha (pow_lt31 (by omega))]
theorem step_tell {V V' : Cpl} (hA : Vact V V') (hS : Vsc V' V') (x y p : Int) (hx : inR x) (hy : inR y) (hp : inR p) : Step V V' m_X11_tell m_X12_tell [x, y, p] := by
  intro P I J hV
  obtain ⟨hH, hst⟩ := hA.1 I J hV
  have hH0 := hH
  obtain ⟨⟨hC, hR, h72, h73⟩, hVP, hK, hrn⟩ := hH
  have hL := hC.1.2.2.2.1
  have hHh := hC.2.2
  have hR6 := hL.2.2.1
  have hP := hL.2.1
  obtain ⟨p1, p2, p3, p4, -, -⟩ := hVP
  have e2 : gi I 6 (2 : Int).toNat = nR (LC I) := cx_n hC
  have e1 : gi I 6 (1 : Int).toNat = nP (LC I) := cx_p hC
  let can : Prop := (0 ≤ x ∧ x < nR (LC I)) ∧ (0 ≤ y ∧ y < nR (LC I)) ∧ (0 ≤ p ∧ p < nP (LC I)) ∧ canT (LC I) (RC I) (HC I) x y p
  -- the reference up to where it may go
  have refx : ∀ (I1 : Nat → Nat → Int32) (J1 : Nat → Nat → Int64) (Q : Option AV → Mem → Prop), RX I1 0 (LC I) (RC I) (HC I) → gi I1 74 72 = -1 → gi I1 74 73 = -1 → (¬ can → ∀ I8 J8, Fr [] SA I1 I8 → Fr [121] [] J1 J8 → Q (some (vI 0)) (mem (rv0 P) (si I8 107 2 (gi I8 107 2 + 1)) J8)) → (can → ¬ x = y → ∀ I8 J8, Fr [] SA I1 I8 → Fr [121] [] J1 J8 → WPm (900 - 1) LAY m_X12_keeps [vR (some 74)] (mem (P, some 5, some 22) I8 J8) (retV (fun I12 J13 => WPm (900 - 1) LAY m_X12_unlists [vR (some 74), vI y, vI p] (mem (P, some 5, some 22) (si I12 112 (y).toNat (or32 (gi I12 112 (y).toNat) (shl32 1 p))) J13) (retV (fun I15 J16 => (¬ (gi I15 113 (y).toNat) = p → (Q (some (vI 1)) (mem (P, some 5, some 22) I15 J16))) ∧ ((gi I15 113 (y).toNat) = p → (Q (some (vI 1)) (mem (P, some 5, some 22) (si (si I15 113 (y).toNat (-1)) 114 (y).toNat 0) J16)))) (P, some 5, some 22))) (P, some 5, some 22))) → WPm 900 LAY m_X12_tell (vR (some 74) :: [x, y, p].map vI) (mem (rv0 P) I1 J1) Q := by
    intro I1 J1 Q hR1 f72 f73 hno hyes
    have no : ¬ can → Q (some (vI 0)) (mem (rv0 P) (si I1 107 2 (gi I1 107 2 + 1)) J1) := fun n => hno n I1 J1 (Fr.rf _ _ _) (Fr.rf _ _ _)
    refine WPm.of k_X12_tell.1 (Nat.le_of_ble_eq_true rfl) (B_X12_tell_0 (by omega) ?_)
    rw [rx_n hR1, rx_p hR1]
    refine ⟨rx_b hR1, hx, fun q => no (fun c => q c.1), fun q => ⟨hy, fun q2 => no (fun c => q2 c.2.1), fun q2 => ⟨fun q3 => no (fun c => ?_), fun q3 => ⟨hp, fun q4 => no (fun c => q4 c.2.2.1), fun q4 => ⟨⟨by omega, by omega⟩, ⟨by omega, by omega⟩, ?_⟩⟩⟩⟩⟩
    · obtain ⟨-, -, -, -, t1, t2, -⟩ := c
      subst q3
      rw [Nat.testBit_or, t1, Bool.true_or] at t2
      exact Bool.noConfusion t2
    · have hw := hHh.2.2 x q.1 q.2
      have h2lt : (HC I 2 x).toNat < 16384 := Nat.lt_of_lt_of_le hw.2.1.2 (pow_le14 (by omega))
      have hbt : and32 (shr32 (HC I 2 x) p) 1 = 1 ↔ (HC I 2 x).toNat.testBit p.toNat = true := by
        have := has_iff (x := (HC I 2 x).toNat) (by omega) (k := p.toNat) (by omega)
        rwa [Int.toNat_of_nonneg hw.2.1.1, Int.toNat_of_nonneg q4.1] at this
      rw [rx_1' hR1 q, rx_1' hR1 q2, rx_2' hR1 q, hbt]
      refine ⟨fun q5 => no (fun c => q5 c.2.2.2.1), fun q5 => ⟨fun q6 => no (fun c => q6 c.2.2.2.2.1), fun q6 => ?_⟩⟩
      refine S_X12_hear (by omega) hR1 q2 q4 f72 f73 (fun I8 J8 v hF hJ hv => ⟨_, _, _, rfl, rfl, by omega, fun w => hno (fun c => ?_) I8 J8 hF hJ, fun w => hyes ?_ q3 I8 J8 hF hJ⟩)
      · rcases hv with ⟨e, -⟩ | ⟨-, t⟩
        · omega
        · exact t c.2.2.2.2.2
      · rcases hv with ⟨-, t⟩ | ⟨e, -⟩
        · exact ⟨q, q2, q4, q5, q6, t⟩
        · exact absurd e w
  have refuse : ∀ I5 : Nat → Nat → Int32, Fr [37, 38] [] I I5 → ¬ can → WPm 900 LAY m_X12_tell (vR (some 74) :: [x, y, p].map vI) (mem (rv0 P) (si I5 73 2 (gi I5 73 2 + 1)) J) (fun r2 M2 => r2 = some (vI 0) ∧ Cpl2 V' M2) := by
    intro I5 hF5 hn
    have hR5 : RX I5 0 (LC I) (RC I) (HC I) := hR.fr (hF5.rx (by decide) (by decide))
    have hR1 := rx_73 hR5 2 (gi I5 73 2 + 1)
    have g : ∀ c k, ¬ c = 73 → gi (si I5 73 2 (gi I5 73 2 + 1)) c k = gi I5 c k := fun c k n => gi_cell _ _ _ _ n
    refine refx _ J _ hR1 ((g 74 72 (by decide)).trans ((hF5.gv 74 72 (by decide) (by decide)).trans h72)) ((g 74 73 (by decide)).trans ((hF5.gv 74 73 (by decide) (by decide)).trans h73)) (fun _ I8 J8 hF hJ => ⟨rfl, ?_⟩) (fun c => absurd c hn)
    -- the base: as it was, with the working rows of now
    have e107 : gi I8 107 2 = gi I 107 2 := (hF.gv 107 2 (by decide) (by decide)).trans ((g 107 2 (by decide)).trans (hF5.gv 107 2 (by decide) (by decide)))
    have e73 : gi I5 73 2 = gi I 73 2 := hF5.gv 73 2 (by decide) (by decide)
    have hv := hA.2.2 I J 2 hV (by decide)
    have key : ∀ c k, scrC c = false → scrF c k = false → si I8 107 2 (gi I8 107 2 + 1) c k = refI I 2 c k := by
      intro c k s1 s2
      unfold refI
      rw [si_at, si_at, si_at, e107]
      by_cases q1 : c = 107 ∧ k = 2
      · rw [if_pos q1, if_pos q1]
      · rw [if_neg q1, if_neg q1]
        have e8 : I8 c k = si I5 73 2 (gi I5 73 2 + 1) c k := (SA_scr hF) c k s1 s2
        rw [e8, si_at, e73]
        by_cases q2 : c = 73 ∧ k = 2
        · rw [if_pos q2, if_pos q2]
        · rw [if_neg q2, if_neg q2]
          exact (S3_scr hF5) c k s1 s2
    exact Cpl2.here (hS (refI I 2) J _ J8 hv key (J1_scr hJ))
  refine WPm.of k_X11_tell.1 (Nat.le_of_ble_eq_true rfl) (B_X11_tell_0 (by omega) ?_)
  rw [e2, e1]
  refine ⟨hx, fun q => Step.put (by decide) rfl (refuse I (Fr.rf _ _ _) (fun c => q c.1)), fun q => ⟨hy, fun q2 => Step.put (by decide) rfl (refuse I (Fr.rf _ _ _) (fun c => q2 c.2.1)), fun q2 => ⟨hp, fun q3 => Step.put (by decide) rfl (refuse I (Fr.rf _ _ _) (fun c => q3 c.2.2.1)), fun q3 => ?_⟩⟩⟩
  refine S_X11_mayTell (by omega) hC q q2 q3 (fun I5 v hF5 hv => ⟨_, _, _, rfl, rfl, by omega, fun w => ?_, fun w => Step.put (by decide) rfl (refuse I5 hF5 (fun c => hv.elim (fun t => by have := t.1; omega) (fun t => t.2 c.2.2.2)))⟩)
  have hcT : canT (LC I) (RC I) (HC I) x y p := hv.elim (fun t => t.2) (fun t => absurd t.1 w)
  have hcan : can := ⟨q, q2, q3, hcT⟩
  have f5 : ∀ c k, ¬ (c = 37 ∨ c = 38) → I5 c k = I c k := fun c k n => hF5 c k (by simp; omega) (by simp)
  have g44 : gi I5 4 4 = gi I 4 4 := gi_eq (f5 4 4 (by decide))
  have g45 : gi I5 4 5 = gi I 4 5 := gi_eq (f5 4 5 (by decide))
  rw [g44, g45]
  refine ⟨⟨by omega, by omega⟩, ⟨by omega, by omega⟩, ⟨by omega, by omega⟩, ?_⟩
  rw [← g44, ← g45]
  have hw := hHh.2.2 y q2.1 q2.2
  have h3lt : (HC I 3 y).toNat < 16384 := Nat.lt_of_lt_of_le hw.2.2.1.2 (pow_le14 (by omega))
  have r19 : ∀ k : Nat, gi (remI I5) 19 k = gi I 19 k := fun k => (rem_19 I5 k).trans (gi_eq (f5 19 k (by decide)))
  have e3 : gi (remI I5) 19 ((3 + (y * 14)) + 2).toNat = HC I 3 y := (r19 _).trans (cx_3 hC q2)
  have eor : or32 (HC I 3 y) (shl32 1 p) = (((HC I 3 y).toNat ||| 2 ^ p.toNat : Nat) : Int) := by
    have := or_pow (a := (HC I 3 y).toNat) (p := p.toNat) (by omega) (by omega)
    rwa [Int.toNat_of_nonneg hw.2.2.1.1, Int.toNat_of_nonneg q3.1] at this
  have orr : inR (or32 (HC I 3 y) (shl32 1 p)) := or32_in _ _
  change WPm (900 - 1) LAY m_X2_strike [vR (some 4), vI y, vI p] (mem (rv0 P) (si (remI I5) 19 ((3 + (y * 14)) + 2).toNat (or32 (gi (remI I5) 19 ((3 + (y * 14)) + 2).toNat) (shl32 1 p))) J) _
  rw [e3]
  have s0 : ∀ c k, c ≠ 19 → si (remI I5) 19 ((3 + (y * 14)) + 2).toNat (or32 (HC I 3 y) (shl32 1 p)) c k = remI I5 c k := fun c k n => by rw [si_at, if_neg (fun t => n t.1)]
  have s19 : ∀ k : Nat, k ≠ ((3 + (y * 14)) + 2).toNat → gi (si (remI I5) 19 ((3 + (y * 14)) + 2).toNat (or32 (HC I 3 y) (shl32 1 p))) 19 k = gi I 19 k := fun k n => (gi_idx _ _ _ n).trans (r19 k)
  have s2 : gi (si (remI I5) 19 ((3 + (y * 14)) + 2).toNat (or32 (HC I 3 y) (shl32 1 p))) 19 ((3 + (y * 14)) + 2).toNat = or32 (HC I 3 y) (shl32 1 p) := gi_same _ _ _ orr
  generalize si (remI I5) 19 ((3 + (y * 14)) + 2).toNat (or32 (HC I 3 y) (shl32 1 p)) = Ia at s0 s19 s2 ⊢
  have q8 := hw.2.2.2.2.1
  have m6 := cx_6 hC q2
  have c8 : 0 ≤ cnC I y ∧ cnC I y ≤ 8 := by rw [show cnC I y = HC I 6 y from m6]; exact q8
  obtain ⟨la, ca⟩ := lsC_eq (I := I) (I' := Ia) q2.1 (fun k k0 k1 => s19 k (by omega)) c8
  have hls : lsC I y = lsH (HC I) y := (lsH_HC (by rw [cx_n hC]; exact q2) c8).symm
  refine S_X2_strike (by omega) ⟨q2.1, by omega⟩ hp (by rw [ca]; exact c8) (fun i j i0 ij j1 => ?_) (fun I1 hSt => ⟨_, _, rfl, rfl, Step.put (by decide) rfl ?_⟩)
  · rw [ca, show cnC I y = HC I 6 y from m6] at j1
    have t1 : enC Ia y i = HC I 7 (8 * y + i) := (s19 _ (by omega)).trans (cx_7 hC q2 ⟨i0, by omega⟩)
    have t2 : enC Ia y j = HC I 7 (8 * y + j) := (s19 _ (by omega)).trans (cx_7 hC q2 ⟨by omega, j1⟩)
    rw [t1, t2]
    exact (hw.2.2.2.2.2.1 j (by omega) j1).2.2 i i0 ij
  obtain ⟨u1, u2, u3, u4, u5, u6, u7⟩ := hSt
  rw [la, hls] at u3
  rw [show gi Ia 19 ((3 + (y * 14)) + 3).toNat = HC I 4 y from (s19 _ (by omega)).trans (cx_4 hC q2)] at u6 u7
  rw [show gi Ia 19 ((3 + (y * 14)) + 4).toNat = HC I 5 y from (s19 _ (by omega)).trans (cx_5 hC q2)] at u7
  have w1 : ∀ c k, c ≠ 19 → I1 c k = remI I5 c k := fun c k n => (u1 c k n).trans (s0 c k n)
  have x1 : ∀ c k, 74 ≤ c → I1 c k = I c k := fun c k n => (w1 c k (by omega)).trans ((rem_at I5 (by omega) (by omega)).trans (f5 c k (by omega)))
  have hR1 : RX I1 0 (LC I) (RC I) (HC I) := hR.fr ⟨⟨fun c a b => funext fun k => x1 c k (by omega), gi_eq (x1 74 13 (by decide))⟩, fun c a b => funext fun k => x1 c k (by omega)⟩
  refine refx I1 J _ hR1 ((gi_eq (x1 74 72 (by decide))).trans h72) ((gi_eq (x1 74 73 (by decide))).trans h73) (fun n => absurd hcan n) (fun _ hne I8 J8 hF hJ => ?_)
  have x8 : ∀ c k, ¬ (c = 74 ∧ (k = 69 ∨ k = 70 ∨ k = 71)) → I8 c k = I1 c k := fun c k n => hF c k (by simp) (by simp; omega)
  have f65 : gi I8 74 65 = gi I 74 65 := gi_eq ((x8 74 65 (by decide)).trans (x1 74 65 (by decide)))
  have f66 : gi I8 74 66 = gi I 74 66 := gi_eq ((x8 74 66 (by decide)).trans (x1 74 66 (by decide)))
  -- the base
  have hbase : ∃ Ib : Nat → Nat → Int32, (∀ c k, (c = 74 ∧ (k = 69 ∨ k = 70 ∨ k = 71)) → Ib c k = I8 c k) ∧ ∀ c k, ¬ (c = 74 ∧ (k = 69 ∨ k = 70 ∨ k = 71)) → Ib c k = I5 c k := ⟨fun c k => if c = 74 ∧ (k = 69 ∨ k = 70 ∨ k = 71) then I8 c k else I5 c k, fun c k n => if_pos n, fun c k n => if_neg n⟩
  obtain ⟨Ib, b1, b2⟩ := hbase
  have hsb : scrS I Ib := by
    intro c k t1 t2
    by_cases n : c = 74 ∧ (k = 69 ∨ k = 70 ∨ k = 71)
    · obtain ⟨rfl, n⟩ := n
      rcases n with rfl | rfl | rfl <;> exact absurd t2 (by decide)
    · rw [b2 c k n]
      exact (S3_scr hF5) c k t1 t2
  obtain ⟨hVb, eL, eR, eH⟩ := VH.scr hH0 hsb
  have h1 : ∀ c k, c ≠ 19 → I8 c k = remI Ib c k := by
    intro c k n
    by_cases e : c = 74 ∧ (k = 69 ∨ k = 70 ∨ k = 71)
    · rw [rem_at Ib (by omega) (by omega), b1 c k e]
    · rw [x8 c k e, w1 c k n]
      exact (rem_cg (fun k => b2 4 k (by omega)) (funext fun k => b2 19 k (by omega)) (funext fun k => b2 21 k (by omega)) (b2 c k e)).symm
  have gb : ∀ c k, scrC c = false → scrF c k = false → gi Ib c k = gi I c k := fun c k t1 t2 => gi_eq (hsb c k t1 t2)
  have gb19 : ∀ k, gi Ib 19 k = gi I 19 k := fun k => gb 19 k (by decide) (by simp [scrF])
  have g8 : ∀ k : Nat, gi I8 19 k = gi I1 19 k := fun k => gi_eq (x8 19 k (by omega))
  have n19 : ∀ k : Nat, ¬ (6 + 14 * y ≤ (k : Int) ∧ (k : Int) < 17 + 14 * y) → k ≠ ((3 + (y * 14)) + 2).toNat → gi I8 19 k = gi I 19 k := fun k a b => (g8 k).trans ((u2 k a).trans (s19 k b))
  have v2 : gi I8 19 ((3 + (y * 14)) + 2).toNat = or32 (HC I 3 y) (shl32 1 p) := (g8 _).trans ((u2 _ (by omega)).trans s2)
  have v3 : gi I8 19 ((3 + (y * 14)) + 3).toNat = (if HC I 4 y = p then -1 else HC I 4 y) := (g8 _).trans u6
  have v4 : gi I8 19 ((3 + (y * 14)) + 4).toNat = (if HC I 4 y = p then 0 else HC I 5 y) := (g8 _).trans u7
  obtain ⟨l8, c8'⟩ := lsC_eq (I := I1) (I' := I8) q2.1 (fun k _ _ => g8 k) u4
  rw [u3] at l8
  have e8e : ∀ k : Int, enC I8 y k = enC I1 y k := fun k => g8 _
  have l0 : ∀ c k, 110 ≤ c ∧ c ≤ 115 → k < 6 → gi (keeI I8) c k = gi I c k := fun c k hc hk => (gi_eq (kee_0 I8 hc hk)).trans (gi_eq ((x8 c k (by omega)).trans (x1 c k (by omega))))
  have l1 : ∀ k, k < 48 → gi (keeI I8) 116 k = gi I 116 k := fun k hk => (gi_eq (kee_1 I8 hk)).trans (gi_eq ((x8 116 k (by omega)).trans (x1 116 k (by omega))))
  refine S_X12_keeps (by omega) (by omega) (by omega) ⟨_, _, rfl, rfl, ?_⟩
  dsimp only
  rw [show gi (keeI I8) 112 (y).toNat = HC I 3 y from (l0 112 _ (by decide) (by omega)).trans (rx_3' hR q2)]
  have k0 : ∀ c k, ¬ (c = 112 ∧ k = (y).toNat) → si (keeI I8) 112 (y).toNat (or32 (HC I 3 y) (shl32 1 p)) c k = keeI I8 c k := fun c k n => by rw [si_at, if_neg n]
  have k2 : gi (si (keeI I8) 112 (y).toNat (or32 (HC I 3 y) (shl32 1 p))) 112 (y).toNat = or32 (HC I 3 y) (shl32 1 p) := gi_same _ _ _ orr
  generalize si (keeI I8) 112 (y).toNat (or32 (HC I 3 y) (shl32 1 p)) = Ik at k0 k2 ⊢
  have kc : cnR Ik y = HC I 6 y := (gi_eq (k0 115 _ (by omega))).trans ((l0 115 _ (by decide) (by omega)).trans (rx_6' hR q2))
  have kl : lsR Ik y = lsH (HC I) y := by
    unfold lsR lsH
    rw [kc]
    exact lsF_congr (fun k a b => (gi_eq (k0 116 _ (by omega))).trans ((l1 _ (by omega)).trans (rx_7' hR q2 ⟨a, by omega⟩)))
  refine S_X12_unlists ⟨q2.1, by omega⟩ hp (by rw [kc]; exact q8) (fun I15 z1 z2 z3 => ⟨_, _, rfl, rfl, ?_⟩)
  rw [kl] at z2
  have y113 : gi I15 113 (y).toNat = HC I 4 y := (gi_eq ((z1 113 _ (by omega) (by omega)).trans (k0 113 _ (by omega)))).trans ((l0 113 _ (by decide) (by omega)).trans (rx_4' hR q2))
  have y114 : gi I15 114 (y).toNat = HC I 5 y := (gi_eq ((z1 114 _ (by omega) (by omega)).trans (k0 114 _ (by omega)))).trans ((l0 114 _ (by decide) (by omega)).trans (rx_5' hR q2))
  have hcn : (cnC I8 y).toNat = (cnR I15 y).toNat ∧ ∀ k : Int, 0 ≤ k → k < ((cnC I8 y).toNat : Int) → enC I8 y k = enR I15 y k := lsF_inj (l8.trans z2.symm)
  have c88 : 0 ≤ cnC I8 y ∧ cnC I8 y ≤ 8 := by rw [c8']; exact u4
  have cc : cnR I15 y = cnC I8 y := by
    rw [← Int.toNat_of_nonneg c88.1, ← Int.toNat_of_nonneg z3.1, hcn.1]
  obtain ⟨t3, t4, t5, t6⟩ := hcT
  have hrg : ∀ v, v ∈ lsH (HC I) y → 0 ≤ v ∧ v < nP (LC I) := fun v hv => lsH_rng hw hv
  have hin : ∀ k : Int, 0 ≤ k → k < cnC I8 y → enC I8 y k ∈ wo p (lsH (HC I) y) := by
    intro k a b
    rw [← l8]
    exact lsF_mem.mpr ⟨k, a, by omega, rfl⟩
  have hor : (or32 (HC I 3 y) (shl32 1 p)).toNat = (HC I 3 y).toNat ||| 2 ^ p.toNat := by rw [eor, Int.toNat_natCast]
  obtain ⟨o1, o2, o3, o4, o5, o6, o7⟩ := hw.rc
  have knb : (HC I 2 y).toNat.testBit p.toNat = false ∧ (HC I 3 y).toNat.testBit p.toNat = false := by
    rw [Nat.testBit_or, Bool.or_eq_false_iff] at t5
    exact t5
  have hrec : WfRec (LC I) (HC I 1 y) (HC I 2 y) (or32 (HC I 3 y) (shl32 1 p)) (if HC I 4 y = p then -1 else HC I 4 y) (if HC I 4 y = p then 0 else HC I 5 y) (cnC I8 y) (enC I8 y) := by
    refine ⟨o1, o2, ⟨by rw [eor]; omega, by rw [hor]; exact or_lt14 o3.2 (Nat.pow_lt_pow_right (by decide) (by omega))⟩, ?_, c88, fun k a b => ?_, ?_⟩
    · rw [hor]
      refine Nat.eq_of_testBit_eq (fun i => ?_)
      have h0 : ((HC I 2 y).toNat &&& (HC I 3 y).toNat).testBit i = false := by rw [o4]; exact Nat.zero_testBit i
      rw [Nat.testBit_and] at h0
      rw [Nat.testBit_and, Nat.testBit_or, Nat.zero_testBit, Nat.testBit_two_pow]
      by_cases e : p.toNat = i
      · rw [← e, knb.1, Bool.false_and]
      · rw [decide_eq_false e, Bool.or_false]
        exact h0
    · have hm := List.mem_filter.mp (hin k a b)
      have hv := hrg _ hm.1
      have hne2 : ¬ enC I8 y k = p := of_decide_eq_true hm.2
      have hk := lsH_new hw hm.1
      rw [Nat.testBit_or, Bool.or_eq_false_iff] at hk
      refine ⟨hv, ?_, fun j a1 b1 => ?_⟩
      · rw [hor, Nat.testBit_or, Nat.testBit_or, hk.1, hk.2, Nat.testBit_two_pow, decide_eq_false (by omega)]
        rfl
      · rw [e8e, e8e]
        exact u5 j k a1 b1 (by rw [← c8']; exact b)
    · by_cases e : HC I 4 y = p
      · rw [if_pos e, if_pos e]
        exact Or.inl ⟨rfl, rfl⟩
      · rw [if_neg e, if_neg e]
        rcases o7 with o7 | ⟨o7, j, j0, j1, j2⟩
        · exact Or.inl o7
        · refine Or.inr ⟨o7, ?_⟩
          have : HC I 4 y ∈ wo p (lsH (HC I) y) := List.mem_filter.mpr ⟨lsF_mem.mpr ⟨j, j0, by omega, j2⟩, decide_eq_true e⟩
          rw [← l8] at this
          obtain ⟨j', a, b, c⟩ := lsF_mem.mp this
          exact ⟨j', a, by omega, c⟩
  have ins : inR (if HC I 4 y = p then -1 else HC I 4 y) ∧ inR (if HC I 4 y = p then 0 else HC I 5 y) := by
    rw [← v3, ← v4]
    exact ⟨gi_in _ _ _, gi_in _ _ _⟩
  -- what is left at the end, whichever way
  have key : ∀ I' : Nat → Nat → Int32, (∀ c k : Nat, ¬ ((c = 113 ∨ c = 114) ∧ k = (y).toNat) → I' c k = I15 c k) → gi I' 113 (y).toNat = (if HC I 4 y = p then -1 else HC I 4 y) → gi I' 114 (y).toNat = (if HC I 4 y = p then 0 else HC I 5 y) → Cpl2 V' (mem (rv0 P) I' J8) := by
    intro I' d1 d3 d4
    have z0 : ∀ c k : Nat, ¬ (110 ≤ c ∧ c ≤ 115 ∧ k = (y).toNat) → ¬ (c = 116 ∧ 8 * y ≤ (k : Int) ∧ (k : Int) < 8 * y + 8) → I' c k = keeI I8 c k := fun c k a b => (d1 c k (by omega)).trans ((z1 c k (by omega) (by omega)).trans (k0 c k (by omega)))
    have zc : cnR I' y = cnR I15 y := gi_eq (d1 115 _ (by omega))
    have fin := VH.act (I := Ib) (I1 := I8) (I' := I') (x := y) (l := enC I8 y) hVb (by rw [gb 4 6 (by decide) (by decide)]; exact hst) (by rw [eL]; exact q2) h1 (fun k hk => (n19 k (by omega) (by omega)).trans (gb19 k).symm) (fun c k hck => z0 c k (by omega) (by omega)) (fun c k hc hk kx => ?_) (fun k hk kx => ?_) ?_ (fun k _ _ => rfl) ?_ ((n19 _ (by omega) (by omega)).trans (gb19 _).symm)
    · exact Cpl2.here (hA.2.1 I J I' J8 hV fin.1 (fin.2.1.trans eL) (fin.2.2.1.trans eR) ⟨fun c k a b c1 c2 c3 => (fin.2.2.2.1 c k a b c1 c2 c3).trans (hsb c k a b), fin.2.2.2.2.trans (by rw [gb 4 6 (by decide) (by decide)])⟩ (J1_scr hJ))
    · rw [gi_eq (z0 c k (by omega) (by omega)), l0 c k hc hk]
      exact (gb c k (scr_hi (by omega)) (by unfold scrF; simp; omega)).symm
    · rw [gi_eq (z0 116 k (by omega) (by omega)), l1 k hk]
      exact (gb 116 k (by decide) (by unfold scrF; simp; omega)).symm
    · rw [eL, v2, v3, v4, n19 _ (by omega) (by omega), n19 _ (by omega) (by omega), cx_1 hC q2, cx_2 hC q2]
      exact hrec
    · have k19 : gi I' 19 = gi I8 19 := gi_row (funext fun k => (z0 19 k (by omega) (by omega)).trans (kee_at I8 (by decide) (by omega)))
      unfold Rec1
      rw [k19, v2, v3, v4, n19 _ (by omega) (by omega), n19 _ (by omega) (by omega), cx_1 hC q2, cx_2 hC q2, d3, d4]
      refine ⟨?_, ?_, ?_, rfl, rfl, ?_, fun k a b => ?_⟩
      · exact (gi_eq ((d1 110 _ (by omega)).trans ((z1 110 _ (by omega) (by omega)).trans (k0 110 _ (by omega))))).trans ((l0 110 _ (by decide) (by omega)).trans (rx_1' hR q2))
      · exact (gi_eq ((d1 111 _ (by omega)).trans ((z1 111 _ (by omega) (by omega)).trans (k0 111 _ (by omega))))).trans ((l0 111 _ (by decide) (by omega)).trans (rx_2' hR q2))
      · exact (gi_eq ((d1 112 _ (by omega)).trans (z1 112 _ (by omega) (by omega)))).trans k2
      · show cnR I' y = cnC I8 y
        exact zc.trans cc
      · show enR I' y k = enC I8 y k
        have b' : k < cnC I8 y := b
        rw [hcn.2 k a (by omega)]
        exact gi_eq (d1 116 _ (by omega))
  refine ⟨fun e => ⟨rfl, key I15 (fun _ _ _ => rfl) ?_ ?_⟩, fun e => ⟨rfl, key _ (fun c k n => ?_) ?_ ?_⟩⟩
  · rw [y113] at e ⊢
    rw [if_neg e]
  · rw [y113] at e
    rw [y114, if_neg e]
  · rw [si_at, if_neg (by omega), si_at, if_neg (by omega)]
  · rw [y113] at e
    rw [if_pos e, gi_cell _ _ _ _ (by decide)]
    exact gi_same _ _ _ (by decide)
  · rw [y113] at e
    rw [if_pos e]
    exact gi_same _ _ _ (by decide)
end TELL3

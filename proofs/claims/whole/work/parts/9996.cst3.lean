section CST3
/-! ===== the class: needs, rules, a statement ===== -/
set_option maxHeartbeats 1000000 in
theorem C_need {T : Nat → Int} {n p : Nat} {L : Lt} {N : Nt} {R : Rt} (hX : TX T n) (hp : p ≤ n) (hW : WL L N R) : CSt m_X3_tellNeed [] T n L N R p (rNeed T n L N R p) := by
  intro k I J Q q hk hC ho hS hq hQ
  unfold rNeed at hQ
  have hc1 := (hW.c (k := 1) (by decide))
  have hc14 : L 0 1 ≤ 14 := hc1.2
  have hn4 := hW.1.2.2.2.2.1
  refine WPm.of k_X3_tellNeed.1 (Nat.le_of_ble_eq_true rfl) (B_X3_tellNeed_0 (by omega) ?_)
  refine S_askName (s := 1) (cnt := L 0 1) (f := N 1) (by omega) hX hp hC (hS.1 1 (by decide)) hc1 (fun i hi => hS.2.2.2.2.2.2.2.1 1 i (by decide) hi) (fun i hi => hW.2.2.2.2.2.1 1 i (by decide) hi) (by decide) (fun h1 a h2 h3 => ⟨_, _, _, rfl, rfl, ?_⟩) (fun h1 h2 => ⟨_, _, _, rfl, rfl, by decide, fun c => absurd rfl c, fun _ => ?_⟩) (fun h1 => ⟨_, _, _, rfl, rfl, by decide, fun c => absurd rfl c, fun _ => ?_⟩)
  · rw [pA_y h1 h2] at hQ
    have hg := tE_gt (T := T) hp (by rw [h1.2.1]; decide)
    refine ⟨by unfold inR; omega, fun _ => ?_, fun c => by omega⟩
    refine S_step (by omega) hX hp hC (by rw [h1.2.1]; decide) h1.1 (fun I1 b1 b2 => ⟨_, _, rfl, rfl, ?_⟩)
    have hS1 := hS.fr b2 (fun c t => by cases t) (by decide)
    refine S_askName (s := 1) (cnt := L 0 1) (f := N 1) (by omega) hX hg.2.1 b1 (hS1.1 1 (by decide)) hc1 (fun i hi => hS1.2.2.2.2.2.2.2.1 1 i (by decide) hi) (fun i hi => hW.2.2.2.2.2.1 1 i (by decide) hi) (by decide) (fun h4 b h5 h6 => ⟨_, _, _, rfl, rfl, ?_⟩) (fun h4 h5 => ⟨_, _, _, rfl, rfl, by decide, fun c => absurd rfl c, fun _ => ?_⟩) (fun h4 => ⟨_, _, _, rfl, rfl, by decide, fun c => absurd rfl c, fun _ => ?_⟩)
    · rw [pA_y h4 h5] at hQ
      have hg2 := tE_gt (T := T) hg.2.1 (by rw [h4.2.1]; decide)
      have hWa := (hW.2.1 a h3).2.2.2
      have h28 : gi I1 28 a = (((L 4 a).toNat : Nat) : Int) := by rw [(hS1.2.2.2.1 a (by omega)).2]; omega
      have hlt : (L 4 a).toNat < 16384 := Nat.lt_of_lt_of_le hWa.2 (pow_le14 (by omega))
      have hand : and32 (((L 4 a).toNat : Nat) : Int) (shl32 1 (b : Int)) = 0 ↔ (L 4 a).toNat.testBit b = false := andp_iff (by omega) (by omega)
      have e3 : (a ≤ b ∨ (L 4 a).toNat.testBit b = true) → Q (some (vI 0)) (mem (some 22, some 5, some 22) (si (si I1 3 2 3) 3 3 (gi I1 1 3)) J) := fun t => by
        rw [ci_y t] at hQ
        exact hQ.ek (by decide) b2.c b1
      refine ⟨by unfold inR; omega, fun _ => ⟨fun c => e3 (Or.inl (by omega)), fun c => ⟨by omega, ?_⟩⟩, fun c => by omega⟩
      rw [Int.toNat_natCast, h28, hand]
      refine ⟨fun hf => ?_, fun ht => e3 (Or.inr (by simpa using ht))⟩
      rw [ci_n (show ¬ (a ≤ b ∨ (L 4 a).toNat.testBit b = true) by
        rintro (t | t)
        · omega
        · rw [hf] at t; exact absurd t (by decide))] at hQ
      have h2b : 2 ^ b < 16384 := Nat.lt_of_lt_of_le (Nat.pow_lt_pow_right (by decide) (show b < a by omega)) (pow_le14 (by omega))
      have hor : or32 (((L 4 a).toNat : Nat) : Int) (shl32 1 (b : Int)) = (((L 4 a).toNat ||| 2 ^ b : Nat) : Int) := by
        rw [shl1 (by omega), or32_nat (by omega) (by omega)]
      have horlt : (L 4 a).toNat ||| 2 ^ b < 2 ^ 14 := Nat.or_lt_two_pow (by omega) (by omega)
      rw [hor, hS1.2.1]
      generalize hI2 : si (si I1 28 a (((L 4 a).toNat ||| 2 ^ b : Nat) : Int)) 22 14 (L 0 4 + 1) = I2
      have hF2 : Fr [28] [(22, 14)] I1 I2 := by
        rw [← hI2]
        exact ((Fr.rf _ _ _).up 28 _ _ (Or.inl (by decide))).up 22 14 _ (Or.inr (by decide))
      have iO : inR ((((L 4 a).toNat ||| 2 ^ b : Nat)) : Int) := by unfold inR; omega
      have z28 : ∀ i, gi I2 28 i = if i = a then (((L 4 a).toNat ||| 2 ^ b : Nat) : Int) else gi I1 28 i := fun i => by
        rw [← hI2, gi_cell _ _ _ _ (by decide), gi_si _ _ _ _ _ iO]
        by_cases e : i = a
        · rw [if_pos ⟨rfl, e⟩, if_pos e]
        · rw [if_neg (fun t => e t.2), if_neg e]
      have z14 : gi I2 22 14 = L 0 4 + 1 := by rw [← hI2, gi_si _ _ _ _ _ (by unfold inR; omega), if_pos ⟨rfl, rfl⟩]
      have zo : ∀ c i, c ≠ 28 → (c, i) ≠ (22, 14) → gi I2 c i = gi I1 c i := fun c i y1 y2 => hF2.gv c i (by simpa using y1) (by simpa using y2)
      refine S_step (by omega) hX hg.2.1 (b1.fr hF2 (by decide) (by decide)) (by rw [h4.2.1]; decide) h4.1 (fun I3 c1 c2 => ⟨_, _, rfl, rfl, ?_⟩)
      have x3 := xfr c2
      have nl : ∀ f i, ¬ (f = 4 ∧ i = a) → ¬ (f = 0 ∧ i = 4) → needL L a b f i = L f i := fun f i y1 y2 => by
        unfold needL
        rw [putL_o _ _ y2, putL_o _ _ y1]
      have n4 : needL L a b 4 a = (((L 4 a).toNat ||| 2 ^ b : Nat) : Int) := by
        unfold needL
        rw [putL_o _ _ (by omega), putL_s]
      have n0 : needL L a b 0 4 = L 0 4 + 1 := by
        unfold needL
        rw [putL_s]
      obtain ⟨s1, s2, s3, s4, s5, s6, s7, s8, s9, s10⟩ := hS1
      refine hQ _ q c1 ?_ ?_ (by show q ≤ tE T n (tE T n p); omega) hg2.2.1 (b2.c.tr (Fr.tr (hF2.mono (fun c t => by
        simp only [List.mem_cons, List.not_mem_nil, or_false] at t ⊢
        subst t
        simp) (fun t ht => Or.inl (by
        simp only [List.mem_cons, List.not_mem_nil, or_false] at ht ⊢
        subst ht
        simp))) c2.c))
      · rw [x3 _ _ (by decide), zo _ _ (by decide) (by decide), xfr b2 _ _ (by decide)]
        exact ho
      · show SCs I3 (needL L a b) N R q
        refine ⟨fun j hj => ?_, ?_, ?_, fun i hi => ?_, fun i hi => ?_, fun i hi => ?_, fun i hi => ?_, fun s i hs hi j hj => ?_, fun ρ hρ => ?_, ?_⟩
        · rw [x3 _ _ (by decide), zo _ _ (by decide) (by simp), nl _ _ (by omega) (by omega)]
          exact s1 j hj
        · rw [x3 _ _ (by decide), z14, n0]
        · rw [x3 _ _ (by decide), zo _ _ (by decide) (by decide), nl _ _ (by omega) (by omega)]
          exact s3
        · rw [x3 _ _ (by decide), x3 _ _ (by decide), zo 27 i (by decide) (by simp), z28, nl 3 i (by omega) (by omega)]
          refine ⟨(s4 i hi).1, ?_⟩
          by_cases e : i = a
          · rw [if_pos e, e, n4]
          · rw [if_neg e, nl 4 i (fun t => e t.2) (by omega)]
            exact (s4 i hi).2
        · rw [nl 0 1 (by omega) (by omega)] at hi
          rw [x3 _ _ (by decide), x3 _ _ (by decide), zo 25 i (by decide) (by simp), zo 26 i (by decide) (by simp), nl 1 i (by omega) (by omega), nl 2 i (by omega) (by omega)]
          exact s5 i hi
        · rw [nl 0 2 (by omega) (by omega)] at hi
          rw [x3 _ _ (by decide), x3 _ _ (by decide), zo 30 i (by decide) (by simp), zo 31 i (by decide) (by simp), nl 5 i (by omega) (by omega), nl 6 i (by omega) (by omega)]
          exact s6 i hi
        · rw [nl 0 3 (by omega) (by omega)] at hi
          rw [x3 _ _ (by decide), zo 32 i (by decide) (by simp), nl 7 i (by omega) (by omega)]
          exact s7 i hi
        · rw [nl 0 s (by omega) (by omega)] at hi
          rw [x3 _ _ (by decide), zo 24 _ (by decide) (by simp)]
          exact s8 s i hs hi j hj
        · rcases s9 ρ hρ with ⟨d1, d2⟩ | ⟨d1, a', d2, d3, d4, d5⟩
          · exact Or.inl ⟨d1, by rw [x3 _ _ (by decide), zo 35 ρ (by decide) (by simp)]; exact d2⟩
          · exact Or.inr ⟨d1, a', by rw [x3 _ _ (by decide), zo 34 ρ (by decide) (by simp)]; exact d2, by rw [x3 _ _ (by decide), zo 35 ρ (by decide) (by simp)]; exact d3, d4, cds_congr (fun i _ _ => by rw [x3 _ _ (by decide), zo 33 i (by decide) (by simp)]) d5⟩
        · rw [x3 _ _ (by decide), zo 22 13 (by decide) (by simp)]
          exact s10
    · rw [pA_3 h4 h5] at hQ
      exact hQ.ek (by decide) b2.c b1
    · rw [pA_0 h4] at hQ
      exact hQ.e1 b2.c b1
  · rw [pA_3 h1 h2] at hQ
    exact hQ.ek (by decide) (Fr.rf _ _ _) hC
  · rw [pA_0 h1] at hQ
    exact hQ.e1 (Fr.rf _ _ _) hC
def QT (k : Nat) (J : Nat → Nat → Int64) (Q : Option AV → Mem → Prop) (F : (Nat → Nat → Int32) → (Nat → Nat → Int32)) : Option AV → Mem → Prop := retI (fun v I' J' => inR v ∧ ((v = 0 → (Q (some (vI 0)) (mem (some 22, some 5, some 22) I' J'))) ∧ (¬ v = 0 → (WPm (k - 1) LAY m_X3_wantSign [vR (some 3), vI 59] (mem (some 22, some 5, some 22) (F I') J') (retI (fun w I'' J'' => inR w ∧ ((w = 0 → (Q (some (vI 0)) (mem (some 22, some 5, some 22) I'' J''))) ∧ (¬ w = 0 → (Q (some (vI 1)) (mem (some 22, some 5, some 22) I'' J''))))) (some 22, some 5, some 22)))))) (some 22, some 5, some 22)
theorem C_tail {k : Nat} {md : MD} {as : List AV} {I I1 : Nat → Nat → Int32} {J : Nat → Nat → Int64} {Q : Option AV → Mem → Prop} {T : Nat → Int} {n p q : Nat} {L : Lt} {N : Nt} {R : Rt} {r : St} (hk : 202 ≤ k) (hX : TX T n) (h : CSt md as T n L N R p r) (hC : CT I1 T n p) (ho : gi I1 3 4 = 0) (hS : SCs I1 L N R q) (hq : q ≤ p) (hF : Fr CSc FLc I I1) (hQ : CSo I J Q T n (semi T n r)) : WPm (k - 1) LAY md (vR (some 3) :: as) (mem (some 22, some 5, some 22) I1 J) (QT k J Q (fun I' => I')) := by
  refine h (k - 1) I1 J _ q (by omega) hC ho hS hq ?_
  cases r with
  | inl e => exact fun I2 a b c => ⟨_, _, _, rfl, rfl, by decide, fun _ => hQ I2 a b (hF.ce.tr c), fun c => absurd rfl c⟩
  | inr c =>
    intro I2 q2 a1 a2 a3 a4 a5 a6
    refine ⟨_, _, _, rfl, rfl, by decide, fun c => absurd c (by decide), fun _ => ?_⟩
    have hQ' : CSo I J Q T n (ci (sgn T n c.2 59) (.inr (c.1, tE T n c.2)) (.inl (1, pl T n c.2))) := hQ
    refine S_want (by omega) hX a5 a1 (by decide) (fun hs I3 b1 b2 => ⟨_, _, _, rfl, rfl, by decide, fun c => absurd c (by decide), fun _ => ?_⟩) (fun hs => ⟨_, _, _, rfl, rfl, by decide, fun _ => ?_, fun c => absurd rfl c⟩)
    · rw [ci_y hs] at hQ'
      have hg := tE_gt (T := T) a5 (by rw [hs.1]; decide)
      exact hQ' I3 q2 b1 (by rw [xfr b2 _ _ (by decide)]; exact a2) (a3.fr b2 (fun c t => by cases t) (by decide)) (by show q2 ≤ tE T n c.2; omega) hg.2.1 ((hF.tr a6).tr b2.c)
    · rw [ci_n hs] at hQ'
      exact hQ'.e1 (hF.tr a6) a1
set_option maxHeartbeats 1000000 in
theorem C_rule {k ρ : Nat} {md : MD} {K : Nat} {I I1 : Nat → Nat → Int32} {J : Nat → Nat → Int64} {Q : Option AV → Mem → Prop} {T : Nat → Int} {n p q : Nat} {L : Lt} {N : Nt} {R : Rt} {r : Res} {g : Bool} {dep : Nat} {fol : Nat → Prop} (hk : 202 ≤ k) (hK : K ≤ 200) (hρ : ρ < 3) (hX : TX T n) (h : CN md K T n 0 p r) (hg' : gdx g dep n p fol r) (hC : CT I1 T n p) (ho : gi I1 3 4 = 0) (hS : SCs I1 L N R q) (hq : q ≤ p) (hF : Fr CSc FLc I I1) (hQ : CSo I J Q T n (semi T n (ruleR L N R ρ r))) : WPm (k - 1) LAY md [vR (some 3)] (mem (some 22, some 5, some 22) (si I1 34 ρ (gi I1 22 13)) J) (QT k J Q (fun I' => si I' 35 ρ (gi I' 22 13))) := by
  have hn := hX.1
  have hq13 := hS.2.2.2.2.2.2.2.2.2
  have hFs : Fr [34] [] I1 (si I1 34 ρ (gi I1 22 13)) := (Fr.rf _ _ _).up 34 _ _ (Or.inl (by decide))
  have c34 : ∀ j, gi (si I1 34 ρ (gi I1 22 13)) 34 j = if j = ρ then (q : Int) else gi I1 34 j := fun j => by
    rw [gi_si _ _ _ _ _ (gi_in _ _ _)]
    by_cases e : j = ρ
    · rw [if_pos ⟨rfl, e⟩, if_pos e, hq13]
    · rw [if_neg (fun t => e t.2), if_neg e]
  refine h (k - 1) (si I1 34 ρ (gi I1 22 13)) J _ q (by omega) (hC.fr hFs (by decide) (by decide)) (by rw [gi_cell _ _ _ _ (by decide)]; exact ho) (by rw [gi_cell _ _ _ _ (by decide)]; exact hq13) hq ?_
  have frp : ∀ I', Fr [33] FLp (si I1 34 ρ (gi I1 22 13)) I' → Fr CSc FLc I I' := fun I' a => (hF.up 34 _ _ (Or.inl (by decide))).tr (a.mono (fun c t => by
      simp only [List.mem_cons, List.not_mem_nil, or_false] at t ⊢
      subst t
      simp) (fun t ht => Or.inl (by
      simp only [List.mem_cons, List.not_mem_nil, or_false] at ht ⊢
      rcases ht with e | e | e | e | e | e | e <;> subst e <;> simp)))
  have frpe : ∀ I', Fr [33] FLpe (si I1 34 ρ (gi I1 22 13)) I' → Fr CSc FLce I I' := fun I' a => (hF.up 34 _ _ (Or.inl (by decide))).ce.tr (a.mono (fun c t => by
      simp only [List.mem_cons, List.not_mem_nil, or_false] at t ⊢
      subst t
      simp) (fun t ht => Or.inl (by
      simp only [List.mem_cons, List.not_mem_nil, or_false] at ht ⊢
      rcases ht with e | e | e | e | e | e | e | e | e <;> subst e <;> simp)))
  cases r with
  | inl e => exact fun I2 hE => ⟨_, _, _, rfl, rfl, by decide, fun _ => hQ I2 hE.1 hE.2.1 (frpe I2 hE.2.2.2), fun c => absurd rfl c⟩
  | inr c =>
    intro I2 h2
    obtain ⟨a1, a2, a3, a4, a5, a6, a7, a8⟩ := h2
    obtain ⟨g1, g2, g3, g4, g5⟩ := hg'
    have hc1 : 1 ≤ c.1.length := by
      cases hcl : c.1 with
      | nil => exact absurd hcl g3
      | cons x xs => rw [List.length_cons]; omega
    refine ⟨_, _, _, rfl, rfl, by decide, fun c => absurd c (by decide), fun _ => ?_⟩
    have hQ' : CSo I J Q T n (ci (sgn T n c.2 59) (.inr ((L, N, putR R ρ c.1), tE T n c.2)) (.inl (1, pl T n c.2))) := hQ
    have hFt : Fr [35] [] I2 (si I2 35 ρ (gi I2 22 13)) := (Fr.rf _ _ _).up 35 _ _ (Or.inl (by decide))
    have hCt := a1.fr hFt (by decide) (by decide)
    have hct := (frp I2 a6).up 35 ρ (gi I2 22 13) (Or.inl (by decide))
    have c35 : ∀ j, gi (si I2 35 ρ (gi I2 22 13)) 35 j = if j = ρ then ((q + c.1.length : Nat) : Int) else gi I2 35 j := fun j => by
      rw [gi_si _ _ _ _ _ (gi_in _ _ _)]
      by_cases e : j = ρ
      · rw [if_pos ⟨rfl, e⟩, if_pos e, a3]
      · rw [if_neg (fun t => e t.2), if_neg e]
    have e2 : ∀ cc k', cc ≠ 1 → cc ≠ 3 → cc ≠ 33 → cc ≠ 34 → cc ≠ 35 → (cc, k') ≠ (22, 13) → gi (si I2 35 ρ (gi I2 22 13)) cc k' = gi I1 cc k' := fun cc k' y1 y2 y3 y4 y5 y6 => by
      rw [gi_cell _ _ _ _ y5, a6.gv cc k' (by simpa using y3) (by
        simp only [List.mem_cons, List.not_mem_nil, or_false, Prod.mk.injEq, not_or, not_and]
        simp only [ne_eq, Prod.mk.injEq, not_and] at y6
        exact ⟨fun t => absurd t y1, fun t => absurd t y1, fun t => absurd t y1, fun t => absurd t y1, fun t => absurd t y1, fun t => absurd t y2, y6⟩), gi_cell _ _ _ _ y4]
    have hS2 : SCs (si I2 35 ρ (gi I2 22 13)) L N (putR R ρ c.1) (q + c.1.length) := by
      obtain ⟨s1, s2, s3, s4, s5, s6, s7, s8, s9, s10⟩ := hS
      refine ⟨fun j hj => ?_, ?_, ?_, fun i hi => ?_, fun i hi => ?_, fun i hi => ?_, fun i hi => ?_, fun s i hs hi j hj => ?_, fun σ hσ => ?_, ?_⟩
      · rw [e2 _ _ (by decide) (by decide) (by decide) (by decide) (by decide) (by simp)]; exact s1 j hj
      · rw [e2 _ _ (by decide) (by decide) (by decide) (by decide) (by decide) (by simp)]; exact s2
      · rw [e2 _ _ (by decide) (by decide) (by decide) (by decide) (by decide) (by simp)]; exact s3
      · rw [e2 _ _ (by decide) (by decide) (by decide) (by decide) (by decide) (by simp), e2 _ _ (by decide) (by decide) (by decide) (by decide) (by decide) (by simp)]; exact s4 i hi
      · rw [e2 _ _ (by decide) (by decide) (by decide) (by decide) (by decide) (by simp), e2 _ _ (by decide) (by decide) (by decide) (by decide) (by decide) (by simp)]; exact s5 i hi
      · rw [e2 _ _ (by decide) (by decide) (by decide) (by decide) (by decide) (by simp), e2 _ _ (by decide) (by decide) (by decide) (by decide) (by decide) (by simp)]; exact s6 i hi
      · rw [e2 _ _ (by decide) (by decide) (by decide) (by decide) (by decide) (by simp)]; exact s7 i hi
      · rw [e2 _ _ (by decide) (by decide) (by decide) (by decide) (by decide) (by simp)]; exact s8 s i hs hi j hj
      · by_cases e : σ = ρ
        · subst e
          refine Or.inr ⟨?_, q, ?_, ?_, ?_, ?_⟩
          · unfold putR; rw [if_pos rfl]; exact g3
          · rw [gi_cell _ _ _ _ (by decide), a6.gvc σ (by decide) (by decide), c34, if_pos rfl]
          · rw [c35, if_pos rfl]
            unfold putR
            rw [if_pos rfl]
          · unfold putR; rw [if_pos rfl]; exact Nat.le_refl _
          · unfold putR
            rw [if_pos rfl]
            exact cds_congr (fun i _ _ => (gi_cell _ _ _ _ (by decide)).symm) a5
        · have er : putR R ρ c.1 σ = R σ := by unfold putR; rw [if_neg e]
          rw [er]
          rcases s9 σ hσ with ⟨d1, d2⟩ | ⟨d1, a', d2, d3, d4, d5⟩
          · refine Or.inl ⟨d1, ?_⟩
            rw [c35, if_neg e, a6.gvc σ (by decide) (by decide), gi_cell _ _ _ _ (by decide)]
            exact d2
          · refine Or.inr ⟨d1, a', ?_, ?_, by omega, cds_congr (fun i x y => ?_) d5⟩
            · rw [gi_cell _ _ _ _ (by decide), a6.gvc σ (by decide) (by decide), c34, if_neg e]
              exact d2
            · rw [c35, if_neg e, a6.gvc σ (by decide) (by decide), gi_cell _ _ _ _ (by decide)]
              exact d3
            · rw [gi_cell _ _ _ _ (by decide), a4 i (by omega), gi_cell _ _ _ _ (by decide)]
      · rw [gi_cell _ _ _ _ (by decide), a3]
    refine S_want (by omega) hX a7 hCt (by decide) (fun hs I3 b1 b2 => ⟨_, _, _, rfl, rfl, by decide, fun c => absurd c (by decide), fun _ => ?_⟩) (fun hs => ⟨_, _, _, rfl, rfl, by decide, fun _ => ?_, fun c => absurd rfl c⟩)
    · rw [ci_y hs] at hQ'
      have hg := tE_gt (T := T) a7 (by rw [hs.1]; decide)
      refine hQ' I3 (q + c.1.length) b1 ?_ (hS2.fr b2 (fun c t => by cases t) (by decide)) (by show q + c.1.length ≤ tE T n c.2; omega) hg.2.1 (hct.tr b2.c)
      rw [xfr b2 _ _ (by decide), gi_cell _ _ _ _ (by decide)]
      exact a2
    · rw [ci_n hs] at hQ'
      exact hQ'.e1 hct hCt
end CST3

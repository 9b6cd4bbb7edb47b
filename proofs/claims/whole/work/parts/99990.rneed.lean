section RST4
/-! ===== the reference: needs ===== -/
set_option maxHeartbeats 2000000 in
theorem R_need {T : Nat → Int} {n p b : Nat} {L : Lt} {N : Nt} {R : Rt} (hX : TX T n) (hp : p ≤ n) (hb2 : b < 2) (hW : WL L N R) (hk1 : kR T n p = 1) : RSt m_X12_needing T n b L N R p (ci (L 0 4 = 20) (.inl (6, tS T n p)) (rNeed T n L N R (tE T n p))) := by
  intro k P I J Q cd hk hT h8 h40 hS hcd hQ
  have hg := tE_gt (T := T) hp (by omega)
  have h82 : gi I 82 b = L 0 4 := hS.1.2.2.2.2.1
  have hn4 := hW.1.2.2.2.2.1
  have hc14 : L 0 1 ≤ 14 := (hW.c (k := 1) (by decide)).2
  refine WPm.of k_X12_needing.1 (Nat.le_of_ble_eq_true rfl) (B_X12_needing_0 (by omega) ?_)
  rw [h40, Int.toNat_natCast, h82]
  refine ⟨by omega, fun q5 => ?_, fun q5 => ?_⟩
  · rw [ci_n q5] at hQ
    unfold rNeed at hQ
    refine R_counts (by omega) hX hp hT h8 (Or.inl rfl) (fun _ I1 J1 a1 a2 a3 => ⟨_, _, _, rfl, rfl, by decide, fun _ => ?_, fun c => absurd c (by decide)⟩) (fun c => absurd c (by decide))
    obtain ⟨r1, r2, r3, r4⟩ := rfr a2
    have h41 : gi I1 74 40 = (b : Int) := r3.trans h40
    have hS1 := hS.ah a2 a3
    have hB1 := a2.q.b b
    have hJ1 := a3.j b
    refine R_asked (s := 1) (by omega) hX hg.2.1 a1 (r2.trans h8) hS1 hW h41 hb2 (by decide) (fun h1 a h2 h3 I2 J2 c1 c2 c3 => ⟨_, _, _, rfl, rfl, ?_⟩) (fun h1 h2 I2 hE => ⟨_, _, _, rfl, rfl, ?_⟩) (fun h1 I2 hE => ⟨_, _, _, rfl, rfl, ?_⟩)
    · rw [pA_y h1 h2] at hQ
      have hg2 := tE_gt (T := T) hg.2.1 (by rw [h1.2.1]; decide)
      obtain ⟨s1, s2, s3, s4⟩ := rfr c2
      have e8 : gi I2 74 8 = 0 := s2.trans (r2.trans h8)
      have e40 : gi I2 74 40 = (b : Int) := s3.trans h41
      have hS2 := hS1.ah c2 c3
      have hB2 := hB1.tr (c2.q.b b)
      have hJ2 := hJ1.tr (c3.j b)
      refine R_looked (s := 1) (by omega) hg2.2.1 c1 e8 hS2 hW e40 hb2 (by decide) (fun h4 v h5 h6 => ⟨_, _, _, rfl, rfl, ?_⟩) (fun h4 h5 I3 hE => ⟨_, _, _, rfl, rfl, ?_⟩) (fun h4 I3 hE => ⟨_, _, _, rfl, rfl, ?_⟩)
      · rw [pA_y h4 h5] at hQ
        have hg3 := tE_gt (T := T) hg2.2.1 (by rw [h4.2.1]; decide)
        have hWa := (hW.2.1 a h3).2.2.2
        have h81 : gi I2 81 (14 * b + a) = (((L 4 a).toNat : Nat) : Int) := by rw [(hS2.2.1 a h3).2.2.2]; omega
        have hlt : (L 4 a).toNat < 16384 := Nat.lt_of_lt_of_le hWa.2 (pow_le14 (by omega))
        have hand : and32 (shr32 (((L 4 a).toNat : Nat) : Int) (v : Int)) 1 = 1 ↔ (L 4 a).toNat.testBit v = true := has_iff (by omega) (by omega)
        have eI : (14 * (b : Int) + (a : Int)).toNat = 14 * b + a := by omega
        have e3 : (a ≤ v ∨ (L 4 a).toNat.testBit v = true) → Q none (mem (P, some 5, some 22) (si (si I2 74 8 3) 74 9 (gi I2 74 4)) J2) := fun t => by
          rw [ci_y t] at hQ
          have e := ER.k c1 (kd := 3) (by decide)
          exact hQ _ _ e.2.1 e.2.2 (hB2.e.tr (e.b b)) hJ2
        try dsimp only
        rw [e40, eI, h81, hand]
        refine ⟨fun q => absurd e8 q, fun _ => ⟨by unfold inR; omega, by unfold inR; omega, fun hab => ⟨fun _ => e3 (Or.inl (by omega)), fun q => absurd (by omega) q⟩, fun hab => ⟨by omega, fun hh => ⟨fun _ => ?_, fun q => absurd (by omega) q⟩, fun hh => ⟨fun _ => e3 (Or.inr hh), fun q => absurd (by omega) q⟩⟩⟩⟩
        rw [ci_n (show ¬ (a ≤ v ∨ (L 4 a).toNat.testBit v = true) by
          rintro (t | t)
          · omega
          · exact hh t)] at hQ
        have h2b : 2 ^ v < 16384 := Nat.lt_of_lt_of_le (Nat.pow_lt_pow_right (by decide) (show v < a by omega)) (pow_le14 (by omega))
        have hor : or32 (((L 4 a).toNat : Nat) : Int) (shl32 1 (v : Int)) = (((L 4 a).toNat ||| 2 ^ v : Nat) : Int) := by
          rw [shl1 (by omega), or32_nat (by omega) (by omega)]
        have horlt : (L 4 a).toNat ||| 2 ^ v < 2 ^ 14 := Nat.or_lt_two_pow (by omega) (by omega)
        have iO : inR ((((L 4 a).toNat ||| 2 ^ v : Nat)) : Int) := by unfold inR; omega
        refine ahead_of (by omega) hX hg2.2.1 c1 (fun I3 J3 o1 o2 o3 => ⟨_, _, rfl, rfl, ?_⟩)
        obtain ⟨v1, v2, v3, v4⟩ := rfr o2
        have i40 : gi I3 74 40 = (b : Int) := v3.trans e40
        have hS3 := hS2.ah o2 o3
        have i81 : gi I3 81 (14 * b + a) = (((L 4 a).toNat : Nat) : Int) := (v1 _ _ (by decide)).trans h81
        have i82 : gi I3 82 b = L 0 4 := hS3.1.2.2.2.2.1
        try dsimp only
        rw [i40, eI, Int.toNat_natCast, i81, hor, i82]
        refine ⟨by omega, by omega, ?_⟩
        generalize hI4 : si (si I3 81 (14 * b + a) (((L 4 a).toNat ||| 2 ^ v : Nat) : Int)) 82 b (L 0 4 + 1) = I4
        have hF : Fr [81, 82] [] I3 I4 := by
          rw [← hI4]
          exact ((Fr.rf _ _ _).up 81 _ _ (Or.inl (by decide))).up 82 _ _ (Or.inl (by decide))
        have z81 : ∀ i, gi I4 81 i = if i = 14 * b + a then (((L 4 a).toNat ||| 2 ^ v : Nat) : Int) else gi I3 81 i := fun i => by
          rw [← hI4, gi_cell _ _ _ _ (by decide), gi_si _ _ _ _ _ iO]
          by_cases e : i = 14 * b + a
          · rw [if_pos ⟨rfl, e⟩, if_pos e]
          · rw [if_neg (fun t => e t.2), if_neg e]
        have z82 : gi I4 82 b = L 0 4 + 1 := by rw [← hI4, gi_si _ _ _ _ _ (by unfold inR; omega), if_pos ⟨rfl, rfl⟩]
        have zo : ∀ c i, c ≠ 81 → c ≠ 82 → gi I4 c i = gi I3 c i := fun c i y1 y2 => hF.gvc i (by simpa using ⟨y1, y2⟩) (fun q hq => by cases hq)
        have nl : ∀ f i, ¬ (f = 4 ∧ i = a) → ¬ (f = 0 ∧ i = 4) → needL L a v f i = L f i := fun f i y1 y2 => by
          unfold needL
          rw [putL_o _ _ y2, putL_o _ _ y1]
        have n4 : needL L a v 4 a = (((L 4 a).toNat ||| 2 ^ v : Nat) : Int) := by
          unfold needL
          rw [putL_o _ _ (by omega), putL_s]
        have n0 : needL L a v 0 4 = L 0 4 + 1 := by
          unfold needL
          rw [putL_s]
        have hB4 : FrB b I3 I4 := by
          rw [← hI4]
          exact ((FrB.rf b I3).up 81 _ _ (Or.inl (by unfold inb; omega))).up 82 b _ (Or.inl (by unfold inb; omega))
        refine hQ.1 I4 J3 cd (o1.fr hF (by decide) (by decide) rfl) (by rw [zo _ _ (by decide) (by decide), v2]; exact e8) ?_ (by show cd ≤ tE T n (tE T n (tE T n p)); omega) hg3.2.1 ((hB2.tr (o2.q.b b)).tr hB4) (hJ2.tr (o3.j b))
        show SRs I4 J3 b (needL L a v) N R cd
        obtain ⟨⟨t1, t2, t3, t4, t5, t6⟩, t7, t8, t9, t10, t11, t12⟩ := hS3
        refine ⟨⟨?_, ?_, ?_, ?_, ?_, ?_⟩, fun i hi => ?_, fun i hi => ?_, fun i hi => ?_, fun s i hs hi => ?_, fun ρ hρ => ?_, ?_⟩
        · rw [zo _ _ (by decide) (by decide), nl _ _ (by omega) (by omega)]; exact t1
        · rw [zo _ _ (by decide) (by decide), nl _ _ (by omega) (by omega)]; exact t2
        · rw [zo _ _ (by decide) (by decide), nl _ _ (by omega) (by omega)]; exact t3
        · rw [zo _ _ (by decide) (by decide), nl _ _ (by omega) (by omega)]; exact t4
        · rw [z82, n0]
        · rw [zo _ _ (by decide) (by decide), nl _ _ (by omega) (by omega)]; exact t6
        · rw [nl 0 1 (by omega) (by omega)] at hi
          obtain ⟨w1, w2, w3, w4⟩ := t7 i hi
          rw [zo 78 _ (by decide) (by decide), zo 79 _ (by decide) (by decide), zo 80 _ (by decide) (by decide), z81, nl 1 i (by omega) (by omega), nl 2 i (by omega) (by omega), nl 3 i (by omega) (by omega)]
          refine ⟨w1, w2, w3, ?_⟩
          by_cases e : i = a
          · rw [if_pos (by rw [e]), e, n4]
          · rw [if_neg (by omega), nl 4 i (by omega) (by omega)]
            exact w4
        · rw [nl 0 2 (by omega) (by omega)] at hi
          rw [zo _ _ (by decide) (by decide), zo _ _ (by decide) (by decide), nl 5 i (by omega) (by omega), nl 6 i (by omega) (by omega)]
          exact t8 i hi
        · rw [nl 0 3 (by omega) (by omega)] at hi
          rw [zo _ _ (by decide) (by decide), nl 7 i (by omega) (by omega)]
          exact t9 i hi
        · rw [nl 0 s (by omega) (by omega)] at hi
          exact t10 s i hs hi
        · rcases t11 ρ hρ with ⟨d1, d2⟩ | ⟨d1, a', d2, d3, d4, d5⟩
          · exact Or.inl ⟨d1, by rw [zo _ _ (by omega) (by omega)]; exact d2⟩
          · refine Or.inr ⟨d1, a', by rw [zo _ _ (by omega) (by omega)]; exact d2, by rw [zo _ _ (by omega) (by omega)]; exact d3, d4, cds_congr (fun i _ _ => ?_) d5⟩
            unfold encR
            rw [zo _ _ (by decide) (by decide), zo _ _ (by decide) (by decide)]
        · rw [zo _ _ (by decide) (by decide)]
          exact t12
      · rw [pA_3 h4 h5] at hQ
        have hf : fo b Q P I3 J2 := fo.of hQ (by decide) hE hB2 hJ2
        exact ⟨fun _ => ⟨fun q => absurd q (by have := hf.1; omega), fun _ => hf.q⟩, fun q => absurd q (by have := hf.1; omega)⟩
      · rw [pA_0 h4] at hQ
        have hf : fo b Q P I3 J2 := fo.of hQ (by decide) hE hB2 hJ2
        exact ⟨fun _ => ⟨fun q => absurd q (by have := hf.1; omega), fun _ => hf.q⟩, fun q => absurd q (by have := hf.1; omega)⟩
    · rw [pA_3 h1 h2] at hQ
      have hf : fo b Q P I2 J1 := fo.of hQ (by decide) hE hB1 hJ1
      exact R_lookedZ (by omega) hf.1 ⟨_, _, _, rfl, rfl, fun _ => ⟨fun q => absurd q (by have := hf.1; omega), fun _ => hf.q⟩, fun q => absurd q (by have := hf.1; omega)⟩
    · rw [pA_0 h1] at hQ
      have hf : fo b Q P I2 J1 := fo.of hQ (by decide) hE hB1 hJ1
      exact R_lookedZ (by omega) hf.1 ⟨_, _, _, rfl, rfl, fun _ => ⟨fun q => absurd q (by have := hf.1; omega), fun _ => hf.q⟩, fun q => absurd q (by have := hf.1; omega)⟩
  · rw [ci_y q5] at hQ
    refine R_counts (by omega) hX hp hT h8 (Or.inr rfl) (fun c => absurd c (by decide)) (fun _ I1 hE => ⟨_, _, _, rfl, rfl, by decide, fun c => absurd rfl c, fun _ => ?_⟩)
    exact hQ _ _ hE.2.1 hE.2.2 (hE.b b) (FrJ.rf _ _)
end RST4

section ONS
/-! ===== on ===== -/
theorem fr_scr {r : Nat} (hr : r < 6) {c k : Nat} (s1 : scrC c = false) (s2 : scrF c k = false) : ¬ frR r c k := by
  intro t
  unfold frR at t
  simp [scrF] at s2
  omega
theorem RecR.mv {I I' : Nat → Nat → Int32} {T : Nat → Int} {i r a : Nat} (h : RecR I T i a) (h8 : T (a + 8) ≤ 8) (hir : i ≠ r) (hf : ∀ c k : Nat, ¬ frR r c k → I' c k = I c k) : RecR I' T i a := by
  obtain ⟨a0, a1, a2, a3, a4, a5, a6⟩ := h
  have e : ∀ c, gi I' c (6 + i) = gi I c (6 + i) ∨ c = 116 := fun c => by
    by_cases q : c = 116
    · exact Or.inr q
    · exact Or.inl (gi_eq (hf c _ (by unfold frR; omega)))
  have e' : ∀ c, c ≠ 116 → gi I' c (6 + i) = gi I c (6 + i) := fun c hc => (e c).resolve_right hc
  exact ⟨(e' 110 (by decide)).trans a0, (e' 111 (by decide)).trans a1, (e' 112 (by decide)).trans a2, (e' 113 (by decide)).trans a3, (e' 114 (by decide)).trans a4, (e' 115 (by decide)).trans a5, fun j hj => (gi_eq (hf 116 _ (by unfold frR; omega))).trans (a6 j hj)⟩
def Lay1On (L : Lb) (T : Nat → Int) (I : Nat → Nat → Int32) : Prop := gi I 108 1 = w2 T 0 ∧ gi I 109 1 = w2 T 2 ∧ gi I 117 1 = 0 ∧ ∀ r, r < (nR L).toNat → RecR I T r (onQ T r)
theorem TpR.fr {I I' : Nat → Nat → Int32} {T : Nat → Int} {n : Nat} (h : TpR I T n) (h1 : I' 75 = I 75) : TpR I' T n := ⟨h.1, fun j hj => by rw [gi_row h1]; exact h.2 j hj⟩
theorem scr_75 {I I' : Nat → Nat → Int32} (h : scrS I I') : I' 75 = I 75 := h.cell 75 (by decide) (fun k => by simp [scrF])
theorem S_X12_comes {k : Nat} {P : Option Nat} {I : Nat → Nat → Int32} {J : Nat → Nat → Int64} {Q : Option AV → Mem → Prop} {L : Lb} {R : Rl} {T : Nat → Int} {n : Nat} (hk : 5 ≤ k) (hX : RL I L R) (hT : TpR I T n)
    (hQ : ∀ I' v, scrS I I' → (v = 0 ∧ ¬ onK L T n ∨ v = 1 ∧ onK L T n ∧ Lay1On L T I') → Q (some (vI v)) (mem (rv0 P) I' J)) : WPm k LAY m_X12_comesOn [vR (some 74), vI (n : Int)] (mem (rv0 P) I J) Q := by
  have hL := hX.2.2.2.2.1
  have hR6 := hL.2.2.1
  have hbk := hX.2.2.2.1
  have h16 := hT.1
  have no : ∀ I' : Nat → Nat → Int32, scrS I I' → ¬ onK L T n → Q (some (vI 0)) (mem (P, some 5, some 22) I' J) := fun I' h1 h2 => hQ I' 0 h1 (Or.inl ⟨rfl, h2⟩)
  refine WPm.of k_X12_comesOn.1 (Nat.le_of_ble_eq_true rfl) (B_X12_comesOn_0 (by omega) ⟨⟨by omega, by omega⟩, fun q => no I (scrS.rf I) (fun hK => by have := hK.1; omega), fun q => ?_⟩)
  have n5 : 5 ≤ n := by omega
  have tb : ∀ j, j < n → 0 ≤ T j ∧ T j ≤ 255 := fun j hj => (hT.2 j hj).2
  have wv : ∀ (X : Nat → Nat → Int32), TpR X T n → or32 (shl32 (gi X 75 0) 8) (gi X 75 ((0 + 1) : Int).toNat) = w2 T 0 ∧ or32 (shl32 (gi X 75 2) 8) (gi X 75 ((2 + 1) : Int).toNat) = w2 T 2 := by
    intro X hTX
    have g0 := (hTX.2 0 (by omega)).1
    have g1 := (hTX.2 1 (by omega)).1
    have g2 := (hTX.2 2 (by omega)).1
    have g3 := (hTX.2 3 (by omega)).1
    constructor
    · show or32 (shl32 (gi X 75 0) 8) (gi X 75 1) = w2 T 0
      rw [g0, g1]
      exact twb (tb 0 (by omega)) (tb 1 (by omega))
    · show or32 (shl32 (gi X 75 2) 8) (gi X 75 3) = w2 T 2
      rw [g2, g3]
      exact twb (tb 2 (by omega)) (tb 3 (by omega))
  rw [(wv I hT).1, (wv I hT).2]
  refine ⟨fun q2 => no I (scrS.rf I) (fun hK => by have := hK.2.1; omega), fun q2 => ⟨fun q3 => ?_, fun q3 => no I (scrS.rf I) (fun hK => q3 hK.2.2.1)⟩⟩
  -- the readers
  have loop : T (n - 1) = chT T (n - 1) → ∀ (d r : Nat) (x y : Int) (I2 : Nat → Nat → Int32), r + d = (nR L).toNat → x = r → scrS I I2 → ((y = ((onQ T r : Nat) : Int) ∧ onQ T r ≤ n - 1 ∧ ∀ i, i < r → onO L T (n - 1) (onQ T i) ∧ RecR I2 T i (onQ T i)) ∨ y = -1 ∧ ¬ onK L T n) → WP k LAY m_X12_comesOn 87 [(0, vR (some 74)), (1, vI (n : Int)), (3, vI y), (4, vI x)] [] (mem (P, some 5, some 22) I2 J) Q := by
    intro hsum d
    induction d with
    | zero =>
      intro r x y I2 hr hx hs hst
      have hX2 := hX.fr hs.rl
      have eN : gi I2 83 (gi I2 74 13).toNat = nR L := by rw [← hX2.1]; rfl
      have hT2 := hT.fr (scr_75 hs)
      have er : r = (nR L).toNat := by omega
      subst er
      have yr : inR y := by
        rcases hst with ⟨h1, h2, -⟩ | ⟨h1, -⟩
        · rw [h1]; exact ⟨by omega, by omega⟩
        · rw [h1]; decide
      refine B_X12_comesOn_87 (by omega) ?_
      rw [eN, (wv I2 hT2).1]
      have hTx : TpR (si I2 108 1 (w2 T 0)) T n := hT2.fr (funext fun c => by rw [si_at, if_neg (by omega)])
      rw [(wv _ hTx).2]
      refine ⟨hX2.2.2.2.1, ⟨by omega, by omega⟩, fun _ => ⟨yr, ⟨by omega, by omega⟩, fun q4 => ?_, fun q4 => no I2 hs (fun hK => ?_)⟩, fun q4 => absurd q4 (by omega)⟩
      · rcases hst with ⟨h1, h2, h3⟩ | ⟨h1, -⟩
        · have w0 : w2 T 0 = 256 * T 0 + T 1 := rfl
          have w22 : w2 T 2 = 256 * T 2 + T 3 := rfl
          have t0 := tb 0 (by omega)
          have t1 := tb 1 (by omega)
          have t2 := tb 2 (by omega)
          have t3 := tb 3 (by omega)
          have hsx : ∀ c k : Nat, ¬ ((c = 108 ∨ c = 109 ∨ c = 117) ∧ k = 1) → si (si (si I2 108 1 (w2 T 0)) 109 1 (w2 T 2)) 117 1 0 c k = I2 c k := fun c k h => by rw [si_at, if_neg (by omega), si_at, if_neg (by omega), si_at, if_neg (by omega)]
          refine hQ _ 1 (fun c k s1 s2 => ?_) (Or.inr ⟨rfl, ⟨n5, by omega, q3, fun i hi => (h3 i hi).1, by omega, hsum⟩, ?_, ?_, gi_same _ _ _ (by decide), fun i hi => ?_⟩)
          · rw [hsx c k (fun t => by
              obtain ⟨t, rfl⟩ := t
              rcases t with rfl | rfl | rfl <;> exact absurd s2 (by decide))]
            exact hs c k s1 s2
          · rw [gi_cell _ _ _ _ (by decide), gi_cell _ _ _ _ (by decide), gi_same _ _ _ ⟨by omega, by omega⟩]
          · rw [gi_cell _ _ _ _ (by decide), gi_same _ _ _ ⟨by omega, by omega⟩]
          · obtain ⟨o, b0, b1, b2, b3, b4, b5, b6⟩ := h3 i hi
            exact ⟨(gi_eq (hsx _ _ (by omega))).trans b0, (gi_eq (hsx _ _ (by omega))).trans b1, (gi_eq (hsx _ _ (by omega))).trans b2, (gi_eq (hsx _ _ (by omega))).trans b3, (gi_eq (hsx _ _ (by omega))).trans b4, (gi_eq (hsx _ _ (by omega))).trans b5, fun j hj => (gi_eq (hsx _ _ (by omega))).trans (b6 j hj)⟩
        · omega
      · rcases hst with ⟨h1, h2, h3⟩ | ⟨-, h2⟩
        · have := hK.2.2.2.2.1
          omega
        · exact h2 hK
    | succ d ih =>
      intro r x y I2 hr hx hs hst
      subst hx
      have hX2 := hX.fr hs.rl
      have eN : gi I2 83 (gi I2 74 13).toNat = nR L := by rw [← hX2.1]; rfl
      have hT2 := hT.fr (scr_75 hs)
      refine B_X12_comesOn_87 (by omega) ?_
      rw [eN]
      refine ⟨hX2.2.2.2.1, ⟨by omega, by omega⟩, fun q4 => absurd q4 (by omega), fun _ => ?_⟩
      rcases hst with ⟨h1, h2, h3⟩ | ⟨h1, h2⟩
      · subst h1
        refine ⟨⟨by omega, by omega⟩, fun w => absurd w (by omega), fun _ => ?_⟩
        refine S_X12_rdOn (r := r) (by omega) hX2 hT2 n5 h2 (by omega) (fun I8 v hf hv => ⟨_, _, _, rfl, rfl, ih (r + 1) _ v I8 (by omega) (by omega) (hs.tr (fun c k s1 s2 => hf c k (fr_scr (by omega) s1 s2))) ?_⟩)
        rcases hv with ⟨v1, v2⟩ | ⟨v1, v2, v3⟩
        · exact Or.inr ⟨v1, fun hK => v2 (hK.2.2.2.1 r (by omega))⟩
        · have s8 := v1.sz
          have l8 := v1.1
          have eQ : onQ T (r + 1) = onQ T r + 9 + (T (onQ T r + 8)).toNat := rfl
          refine Or.inl ⟨by rw [v2, eQ]; omega, by rw [eQ]; omega, fun i hi => ?_⟩
          by_cases e : i = r
          · rw [e]
            exact ⟨v1, v3⟩
          · obtain ⟨b1, b2⟩ := h3 i (by omega)
            exact ⟨b1, b2.mv b1.sz.2 e hf⟩
      · subst h1
        exact ⟨by decide, fun _ => ⟨⟨by omega, by omega⟩, fun w => absurd w (by omega), fun _ => no I2 hs h2⟩, fun w => absurd rfl w⟩
  -- the check
  have lp34 : ∀ (d m : Nat) (x c : Int), m + d = n - 1 → x = m → c = chT T m → WP k LAY m_X12_comesOn 34 [(0, vR (some 74)), (1, vI (n : Int)), (2, vI c), (3, vI x)] [] (mem (P, some 5, some 22) I J) Q := by
    intro d
    induction d with
    | zero =>
      intro m x c hm hx hc
      have em : m = n - 1 := by omega
      subst em
      subst hc
      have cb := chT_bd T (n - 1)
      have gn : gi I 75 ((n : Int) - 1).toNat = T (n - 1) := by
        rw [show ((n : Int) - 1).toNat = n - 1 by omega]
        exact (hT.2 (n - 1) (by omega)).1
      refine B_X12_comesOn_34 (by omega) ?_
      rw [gn]
      refine ⟨⟨by omega, by omega⟩, ⟨by omega, by omega⟩, fun _ => ⟨⟨by omega, by omega⟩, ⟨by omega, by omega⟩, fun q4 => ?_, fun q4 => no I (scrS.rf I) (fun hK => q4 hK.2.2.2.2.2)⟩, fun q4 => absurd q4 (by omega)⟩
      refine S_X12_copies (to := 1) (fr := 0) (by decide) (by decide) (by decide) ⟨_, _, rfl, rfl, ?_⟩
      exact loop q4 (nR L).toNat 0 0 4 _ (Nat.zero_add _) rfl (scr_cp I) (Or.inl ⟨rfl, by show 4 ≤ n - 1; omega, fun i hi => absurd hi (Nat.not_lt_zero _)⟩)
    | succ d ih =>
      intro m x c hm hx hc
      subst hx; subst hc
      have cb := chT_bd T m
      have tm := tb m (by omega)
      have gm : gi I 75 ((m : Int)).toNat = T m := (hT.2 m (by omega)).1
      refine B_X12_comesOn_34 (by omega) ?_
      rw [gm]
      refine ⟨⟨by omega, by omega⟩, ⟨by omega, by omega⟩, fun q4 => absurd q4 (by omega), fun _ => ⟨⟨by omega, by omega⟩, ih (m + 1) _ _ (by omega) (by omega) ?_⟩⟩
      rw [rem32_pos ⟨by omega, by omega⟩ (by decide)]
      rfl
  exact lp34 (n - 1) 0 0 83 (Nat.zero_add _) rfl rfl
def V_tp (I : Nat → Nat → Int32) : Prop := gi I 1 1 = gi I 74 1 ∧ (0 ≤ gi I 1 1 ∧ gi I 1 1 ≤ 1600) ∧ ∀ j : Nat, (j : Int) < gi I 1 1 → gi I 2 j = gi I 75 j ∧ 0 ≤ gi I 75 j ∧ gi I 75 j ≤ 255
/-- both hold what the tape told -/
theorem VH.on {Is F : Nat → Nat → Int32} {T : Nat → Int} {n : Nat} (hV : VH Is) (hst : 0 ≤ gi Is 4 6 ∧ gi Is 4 6 < 1000000) (hK : onK (LC Is) T n) (ht : ∀ j, j < n → 0 ≤ T j ∧ T j ≤ 255) (hrow : gi F 19 0 = w2 T 0 ∧ gi F 19 1 = w2 T 2 ∧ gi F 19 2 = 0) (hrC : ∀ r, r < (nR (LC Is)).toNat → gi F 19 (3 + 14 * r + 0) = T (onQ T r) ∧ gi F 19 (3 + 14 * r + 1) = w2 T (onQ T r + 1) ∧ gi F 19 (3 + 14 * r + 2) = w2 T (onQ T r + 3) ∧ gi F 19 (3 + 14 * r + 3) = T (onQ T r + 5) - 1 ∧ gi F 19 (3 + 14 * r + 4) = w2 T (onQ T r + 6) ∧ gi F 19 (3 + 14 * r + 5) = T (onQ T r + 8) ∧ ∀ j : Nat, (j : Int) < T (onQ T r + 8) → gi F 19 (3 + 14 * r + 6 + j) = T (onQ T r + 9 + j))
    (hlay : gi F 108 0 = w2 T 0 ∧ gi F 109 0 = w2 T 2 ∧ gi F 117 0 = 0) (hrR : ∀ r, r < (nR (LC Is)).toNat → gi F 110 r = T (onQ T r) ∧ gi F 111 r = w2 T (onQ T r + 1) ∧ gi F 112 r = w2 T (onQ T r + 3) ∧ gi F 113 r = T (onQ T r + 5) - 1 ∧ gi F 114 r = w2 T (onQ T r + 6) ∧ gi F 115 r = T (onQ T r + 8) ∧ ∀ j : Nat, (j : Int) < T (onQ T r + 8) → gi F 116 (8 * r + j) = T (onQ T r + 9 + j))
    (hring : gi F 4 4 = 0 ∧ gi F 4 5 = 0 ∧ gi F 74 66 = 0 ∧ gi F 74 65 = gi Is 74 65) (h46 : gi F 4 6 = gi Is 4 6 + 1)
    (hoth : ∀ c k, scrC c = false → scrF c k = false → ¬ (c = 19 ∨ c = 20 ∨ c = 21 ∨ (108 ≤ c ∧ c ≤ 120)) → ¬ (c = 4 ∧ (k = 4 ∨ k = 5 ∨ k = 6)) → ¬ (c = 74 ∧ (k = 65 ∨ k = 66)) → F c k = Is c k) : VH F ∧ LC F = LC Is ∧ RC F = RC Is ∧ actS Is F := by
  obtain ⟨⟨hC, hR, h72, h73⟩, hVP, hKP, hrn⟩ := hV
  have hL := hC.1.2.2.2.1
  have hR6 := hL.2.2.1
  have hl : sameL Is F := fun c a b => funext fun k => hoth c k (scrC_lo (Or.inl ⟨a, by omega⟩)).1 ((scrC_lo (Or.inl ⟨a, by omega⟩)).2 k) (by omega) (by omega) (by omega)
  have hrl : sameRL Is F := ⟨fun c a b => funext fun k => hoth c k (scrC_lo (Or.inr ⟨a, by omega⟩)).1 ((scrC_lo (Or.inr ⟨a, by omega⟩)).2 k) (by omega) (by omega) (by omega), gi_eq (hoth 74 13 (by decide) (by decide) (by decide) (by decide) (by decide))⟩
  have hb : gi F 83 (gi F 74 13).toNat = gi Is 83 (gi Is 74 13).toNat := by rw [hrl.2, gi_row (hrl.1 83 (by decide) (by decide))]
  have eL : LC F = LC Is := LC_fr hl
  have hC1 := hC.1.fr hl
  have eR : RC F = RC Is := hC1.2.1
  have n6 : gi F 6 2 = nR (LC Is) := by rw [gi_row (hl 6 (by decide) (by decide))]; exact cx_n hC
  have n83 : gi F 83 (gi F 74 13).toNat = nR (LC Is) := hb.trans (rx_n hR)
  have rec1 : ∀ x, 0 ≤ x → x < nR (LC Is) → Rec1 F x := by
    intro x x0 x1
    obtain ⟨c0, c1, c2, c3, c4, c5, c6⟩ := hrC x.toNat (by omega)
    obtain ⟨r0, r1, r2, r3, r4, r5, r6⟩ := hrR x.toNat (by omega)
    have i0 : ((3 + (x * 14)) + 0).toNat = 3 + 14 * x.toNat + 0 := by omega
    have i1 : ((3 + (x * 14)) + 1).toNat = 3 + 14 * x.toNat + 1 := by omega
    have i2 : ((3 + (x * 14)) + 2).toNat = 3 + 14 * x.toNat + 2 := by omega
    have i3 : ((3 + (x * 14)) + 3).toNat = 3 + 14 * x.toNat + 3 := by omega
    have i4 : ((3 + (x * 14)) + 4).toNat = 3 + 14 * x.toNat + 4 := by omega
    have i5 : ((3 + (x * 14)) + 5).toNat = 3 + 14 * x.toNat + 5 := by omega
    unfold Rec1
    rw [i0, i1, i2, i3, i4, i5, c0, c1, c2, c3, c4, c5]
    refine ⟨r0, r1, r2, r3, r4, r5, fun k k0 k1 => ?_⟩
    have i6 : ((3 + (x * 14)) + (6 + k)).toNat = 3 + 14 * x.toNat + 6 + k.toNat := by omega
    have i7 : ((8 * x) + k).toNat = 8 * x.toNat + k.toNat := by omega
    rw [i6, i7, c6 k.toNat (by omega), r6 k.toNat (by omega)]
  have eHH : HR F 0 = HC F := recs_eq n6 n83 rec1 (hlay.1.trans hrow.1.symm) (hlay.2.1.trans hrow.2.1.symm)
  have n5 := hK.1
  have t0 := ht 0 (by omega)
  have t1 := ht 1 (by omega)
  have t2 := ht 2 (by omega)
  have t3 := ht 3 (by omega)
  have w0 : w2 T 0 = 256 * T 0 + T 1 := rfl
  have w22 : w2 T 2 = 256 * T 2 + T 3 := rfl
  have k1 := hK.2.1
  have k2 := hK.2.2.1
  have wH : WfH (LC Is) (HC F) := by
    refine ⟨⟨?_, ?_⟩, ⟨?_, ?_⟩, fun x x0 x1 => ?_⟩
    · show 0 ≤ gi F 19 0
      omega
    · show gi F 19 0 ≤ 999
      omega
    · show 0 ≤ gi F 19 1
      omega
    · show gi F 19 1 ≤ 9999
      omega
    · have hrec := (hK.2.2.2.1 x.toNat (by omega)).2
      have h8 := (hK.2.2.2.1 x.toNat (by omega)).sz
      obtain ⟨c0, c1, c2, c3, c4, c5, c6⟩ := hrC x.toNat (by omega)
      obtain ⟨d1, d2, d3, d4, d5, d6⟩ := hc_f F (i := x) (by rw [n6]; exact ⟨x0, x1⟩)
      have i0 : ((3 + (x * 14)) + 0).toNat = 3 + 14 * x.toNat + 0 := by omega
      have i1 : ((3 + (x * 14)) + 1).toNat = 3 + 14 * x.toNat + 1 := by omega
      have i2 : ((3 + (x * 14)) + 2).toNat = 3 + 14 * x.toNat + 2 := by omega
      have i3 : ((3 + (x * 14)) + 3).toNat = 3 + 14 * x.toNat + 3 := by omega
      have i4 : ((3 + (x * 14)) + 4).toNat = 3 + 14 * x.toNat + 4 := by omega
      have i5 : ((3 + (x * 14)) + 5).toNat = 3 + 14 * x.toNat + 5 := by omega
      rw [i0] at d1
      rw [i1] at d2
      rw [i2] at d3
      rw [i3] at d4
      rw [i4] at d5
      rw [i5] at d6
      refine WfO.of hrec (d1.trans c0) (d2.trans c1) (d3.trans c2) (d4.trans c3) (d5.trans c4) (d6.trans c5) (fun k k0 kk => ?_)
      have i6 : ((3 + (x * 14)) + (6 + k)).toNat = 3 + 14 * x.toNat + 6 + k.toNat := by omega
      have e5 : gi F 19 ((3 + (x * 14)) + 5).toNat = T (onQ T x.toNat + 8) := by rw [i5]; exact c5
      rw [hc_7 F (by rw [n6]; exact ⟨x0, x1⟩) ⟨k0, by rw [e5]; exact kk⟩ (by omega), i6]
      exact c6 k.toNat (by omega)
  have rn0 : 0 ≤ rdN (LC Is) (HC F) := by
    have h := smi_bd (n := (nR (LC Is)).toNat) (f := fun r => (pop (HC F 2 (r : Int)).toNat : Int)) (b := 14) (by decide) (fun i hi => by
      have := pop_le (HC F 2 (i : Int)).toNat
      show 0 ≤ (pop (HC F 2 (i : Int)).toNat : Int) ∧ (pop (HC F 2 (i : Int)).toNat : Int) ≤ 14
      omega)
    exact h.1
  refine ⟨⟨⟨by rw [eL, eR]; exact ⟨hC1, rfl, wH⟩, by rw [eL, eR]; exact ⟨hR.1.fr hrl, eHH, wH, by decide⟩, ?_, ?_⟩, ?_, ?_, ?_⟩, eL, eR, hoth, h46⟩
  · exact (gi_eq (hoth 74 72 (by decide) (by decide) (by decide) (by decide) (by decide))).trans h72
  · exact (gi_eq (hoth 74 73 (by decide) (by decide) (by decide) (by decide) (by decide))).trans h73
  · obtain ⟨p1, p2, p3, p4, -, -⟩ := hVP
    refine ⟨by rw [hring.1]; decide, by rw [hring.2.2.2]; exact p2, by rw [hring.2.1]; decide, by rw [hring.2.2.1, hring.2.1], fun j h0 h1 => ?_, fun i j h0 h1 h2 => ?_⟩
    · rw [hring.2.1] at h1
      omega
    · rw [hring.2.1] at h2
      omega
  · rw [hrow.2.2]
    refine ⟨by decide, ?_, fun k k0 kk => ?_⟩
    · exact hlay.2.2
    · have : min 60 (0 : Int) = 0 := by decide
      omega
  · rw [eL, hrow.2.2]
    exact rn0
theorem step_on {V V' : Cpl} (hA : Vact V V') (hS : Vsc V' V') (hT : ∀ I J, V I J → V_tp I) (hput : ∀ I J, V I J → V (si (si I 1 1 0) 74 1 0) J) : Step V V' m_X11_on m_X12_on [] := by
  intro P I J hV
  obtain ⟨hH, -⟩ := hA.1 I J hV
  obtain ⟨tp1, tp2, tp3⟩ := hT I J hV
  obtain ⟨⟨hC, hR, h72, h73⟩, -⟩ := hH
  have hVs := hput I J hV
  have s0 : ∀ c k, ¬ (c = 1 ∧ k = 1) → ¬ (c = 74 ∧ k = 1) → si (si I 1 1 0) 74 1 0 c k = I c k := fun c k a b => by rw [si_at, if_neg b, si_at, if_neg a]
  have s11 : gi (si (si I 1 1 0) 74 1 0) 1 1 = 0 := by rw [gi_cell _ _ _ _ (by decide), gi_same _ _ _ (by decide)]
  have s74 : gi (si (si I 1 1 0) 74 1 0) 74 1 = 0 := gi_same _ _ _ (by decide)
  generalize si (si I 1 1 0) 74 1 0 = Is at hVs s0 s11 s74
  obtain ⟨hHs, hst⟩ := hA.1 Is J hVs
  have hCI : CX Is (LC I) (RC I) (HC I) := hC.fr (fun c a b => funext fun k => s0 c k (by omega) (by omega))
  have eLs : LC Is = LC I := hCI.1.1
  have i11 : Is 1 1 = iI 0 := by rw [← s11]; exact (iI_of _).symm
  have i74 : Is 74 1 = iI 0 := by rw [← s74]; exact (iI_of _).symm
  obtain ⟨n, hn⟩ : ∃ n : Nat, gi I 1 1 = (n : Int) := ⟨(gi I 1 1).toNat, by omega⟩
  have hTC : TpC I (fun j => gi I 75 j) n := ⟨hn, by omega, fun j hj => tp3 j (by omega)⟩
  have hTR : TpR I (fun j => gi I 75 j) n := ⟨by omega, fun j hj => ⟨rfl, (tp3 j (by omega)).2⟩⟩
  have hTt : ∀ j, j < n → 0 ≤ gi I 75 j ∧ gi I 75 j ≤ 255 := fun j hj => (tp3 j (by omega)).2
  generalize (fun j => gi I 75 j) = T at hTC hTR
  have hTb : ∀ j, j < n → 0 ≤ T j ∧ T j ≤ 255 := fun j hj => (hTR.2 j hj).2
  -- the reference, from what the class leaves
  have ref : ∀ (I1 : Nat → Nat → Int32) (Q : Option AV → Mem → Prop), (∀ c k, 74 ≤ c → I1 c k = I c k) → (∀ (I' : Nat → Nat → Int32) (v : Int), scrS (si I1 74 1 0) I' → (v = 0 ∧ ¬ onK (LC I) T n ∨ v = 1 ∧ onK (LC I) T n ∧ Lay1On (LC I) T I') → (v = 1 → Q (some (vI 1)) (mem (rv0 P) (si (cpL I' 0 1) 74 66 0) J)) ∧ (v = 0 → Q (some (vI 0)) (mem (rv0 P) (si I' 107 5 (gi I' 107 5 + 1)) J))) → WPm 900 LAY m_X12_on (vR (some 74) :: [].map vI) (mem (rv0 P) I1 J) Q := by
    intro I1 Q h1 hq
    have hRL1 : RL (si I1 74 1 0) (LC I) (RC I) := hR.1.fr ⟨fun c a b => funext fun k => by rw [si_at, if_neg (by omega)]; exact h1 c k (by omega), (gi_idx _ _ _ (by decide)).trans (gi_eq (h1 74 13 (by decide)))⟩
    have hT1 : TpR (si I1 74 1 0) T n := hTR.fr (funext fun k => by rw [si_at, if_neg (by omega)]; exact h1 75 k (by decide))
    refine WPm.of k_X12_on.1 (Nat.le_of_ble_eq_true rfl) (B_X12_on_0 (by omega) ?_)
    rw [show gi I1 74 1 = (n : Int) from (gi_eq (h1 74 1 (by decide))).trans (tp1.symm.trans hn)]
    refine S_X12_comes (by omega) hRL1 hT1 (fun I' v hs hv => ⟨_, _, _, rfl, rfl, by rcases hv with ⟨e, -⟩ | ⟨e, -⟩ <;> rw [e] <;> decide, fun w => ?_, fun w => (hq I' v hs hv).2 w⟩)
    have e1 : v = 1 := by
      rcases hv with ⟨e, -⟩ | ⟨e, -⟩
      · exact absurd e w
      · exact e
    exact S_X12_copies (to := 0) (fr := 1) (by decide) (by decide) (by decide) ⟨_, _, rfl, rfl, (hq I' v hs hv).1 e1⟩
  refine WPm.of k_X11_on.1 (Nat.le_of_ble_eq_true rfl) (B_X11_on_0 (by omega) ?_)
  refine S_X4_read (by omega) hC hTC (fun I2 v hF hv => ⟨_, _, _, rfl, rfl, by rcases hv with ⟨e, -⟩ | ⟨e, -⟩ <;> rw [e] <;> decide, fun w => ?_, fun w => ?_⟩)
  · -- it comes on
    obtain ⟨-, hK, hrow⟩ := hv.resolve_left (fun t => w t.1)
    refine Step.put (by decide) rfl ?_
    have f2 : ∀ c k, c ≠ 72 → ¬ (c = 70 ∧ k = 3) → I2 c k = I c k := fun c k a b => hF c k (by simp; exact a) (by simp; omega)
    have d46 : gi (fc (si I2 1 1 0) 72 0 19 0 87) 4 6 = gi I 4 6 := (gi_fcell _ _ _ _ _ _ (by decide)).trans ((gi_cell _ _ _ _ (by decide)).trans (gi_eq (f2 4 6 (by decide) (by decide))))
    rw [d46]
    have d1 : ∀ c k, c ≠ 19 → ¬ (c = 4 ∧ (k = 4 ∨ k = 5 ∨ k = 6)) → ¬ (c = 1 ∧ k = 1) → c ≠ 72 → ¬ (c = 70 ∧ k = 3) → si (si (si (fc (si I2 1 1 0) 72 0 19 0 87) 4 4 0) 4 5 0) 4 6 (gi I 4 6 + 1) c k = I c k := fun c k a b d e f => by
      rw [si_at, if_neg (by omega), si_at, if_neg (by omega), si_at, if_neg (by omega)]
      unfold fc
      rw [if_neg a, si_at, if_neg d]
      exact f2 c k e f
    have d11 : si (si (si (fc (si I2 1 1 0) 72 0 19 0 87) 4 4 0) 4 5 0) 4 6 (gi I 4 6 + 1) 1 1 = iI 0 := by
      rw [si_at, if_neg (by decide), si_at, if_neg (by decide), si_at, if_neg (by decide)]
      unfold fc
      rw [if_neg (by decide), si_at, if_pos (by decide)]
    have d19 : ∀ k : Nat, k < 87 → gi (si (si (si (fc (si I2 1 1 0) 72 0 19 0 87) 4 4 0) 4 5 0) 4 6 (gi I 4 6 + 1)) 19 k = gi I2 72 k := fun k hk => by
      rw [gi_cell _ _ _ _ (by decide), gi_cell _ _ _ _ (by decide), gi_cell _ _ _ _ (by decide), gi_fc, if_pos ⟨rfl, by omega, by omega⟩, gi_cell _ _ _ _ (by decide)]
      congr 1
      omega
    have d44 : gi (si (si (si (fc (si I2 1 1 0) 72 0 19 0 87) 4 4 0) 4 5 0) 4 6 (gi I 4 6 + 1)) 4 4 = 0 := by rw [gi_idx _ _ _ (by decide), gi_idx _ _ _ (by decide), gi_same _ _ _ (by decide)]
    have d45 : gi (si (si (si (fc (si I2 1 1 0) 72 0 19 0 87) 4 4 0) 4 5 0) 4 6 (gi I 4 6 + 1)) 4 5 = 0 := by rw [gi_idx _ _ _ (by decide), gi_same _ _ _ (by decide)]
    have hs46 : gi Is 4 6 = gi I 4 6 := gi_eq (s0 4 6 (by decide) (by decide))
    have d466 : gi (si (si (si (fc (si I2 1 1 0) 72 0 19 0 87) 4 4 0) 4 5 0) 4 6 (gi I 4 6 + 1)) 4 6 = gi I 4 6 + 1 := gi_same _ _ _ ⟨by omega, by omega⟩
    generalize si (si (si (fc (si I2 1 1 0) 72 0 19 0 87) 4 4 0) 4 5 0) 4 6 (gi I 4 6 + 1) = Ic at d1 d11 d19 d44 d45 d466 ⊢
    refine ref Ic _ (fun c k hc => d1 c k (by omega) (by omega) (by omega) (by omega) (by omega)) (fun I3 v3 hs3 hv3 => ⟨fun e => ⟨rfl, ?_⟩, fun e => absurd hK (hv3.resolve_right (fun t => by omega)).2⟩)
    obtain ⟨-, -, y0, y1, y2, yr⟩ := hv3.resolve_left (fun t => by omega)
    -- where all stands at the end
    have F0 : ∀ c k, ¬ (108 ≤ c ∧ c ≤ 120) → ¬ (c = 74 ∧ k = 66) → si (cpL I3 0 1) 74 66 0 c k = I3 c k := fun c k a b => by rw [si_at, if_neg b, cpL_cell a]
    have F1 : ∀ c k, scrC c = false → scrF c k = false → ¬ (108 ≤ c ∧ c ≤ 120) → ¬ (c = 74 ∧ (k = 66 ∨ k = 1)) → si (cpL I3 0 1) 74 66 0 c k = Ic c k := fun c k a1 a2 a b => by
      rw [F0 c k a (by omega), hs3 c k a1 a2, si_at, if_neg (by omega)]
    have F74 : si (cpL I3 0 1) 74 66 0 74 1 = iI 0 := by
      rw [F0 74 1 (by decide) (by decide), hs3 74 1 (by decide) (by decide), si_at, if_pos (by decide)]
    have F66 : gi (si (cpL I3 0 1) 74 66 0) 74 66 = 0 := gi_same _ _ _ (by decide)
    have ly : LayEq I3 1 (si (cpL I3 0 1) 74 66 0) 0 := by
      have l1 : LayEq I3 1 (cpL I3 0 1) 0 := cpL_lay
      refine l1.tr ⟨fun c hc => ?_, fun c i hc hi => ?_, fun i hi => ?_, fun c i hc hi => ?_⟩ <;> rw [si_at, if_neg (by omega)]
    have F19 : ∀ k : Nat, k < 87 → gi (si (cpL I3 0 1) 74 66 0) 19 k = gi I2 72 k := fun k hk => (gi_eq (F1 19 k (by decide) (by simp [scrF]) (by decide) (by omega))).trans (d19 k hk)
    have lyg : ∀ c i, 110 ≤ c ∧ c ≤ 115 → i < 6 → gi (si (cpL I3 0 1) 74 66 0) c i = gi I3 c (6 + i) := fun c i hc hi => by
      have := ly.2.1 c i hc hi
      rw [show 6 * 0 + i = i by omega, show 6 * 1 + i = 6 + i by omega] at this
      exact gi_eq this
    have lyl : ∀ i, i < 48 → gi (si (cpL I3 0 1) 74 66 0) 116 i = gi I3 116 (48 + i) := fun i hi => by
      have := ly.2.2.1 i hi
      rw [show 48 * 0 + i = i by omega, show 48 * 1 + i = 48 + i by omega] at this
      exact gi_eq this
    have l8 : ∀ c, c = 108 ∨ c = 109 ∨ c = 117 → gi (si (cpL I3 0 1) 74 66 0) c 0 = gi I3 c 1 := fun c hc => gi_eq (ly.1 c hc)
    generalize si (cpL I3 0 1) 74 66 0 = F at F1 F74 F66 F19 lyg lyl l8 ⊢
    have hR6 := hC.1.2.2.2.1.2.2.1
    have fin := VH.on (Is := Is) (F := F) (T := T) (n := n) hHs hst (by rw [eLs]; exact hK) hTb ⟨(F19 0 (by decide)).trans hrow.1, (F19 1 (by decide)).trans hrow.2.1, (F19 2 (by decide)).trans hrow.2.2.1⟩ (fun r hr => ?_) ⟨(l8 108 (Or.inl rfl)).trans y0, (l8 109 (Or.inr (Or.inl rfl))).trans y1, (l8 117 (Or.inr (Or.inr rfl))).trans y2⟩ (fun r hr => ?_) ⟨?_, ?_, F66, ?_⟩ ?_ (fun c k a1 a2 a b d => ?_)
    · exact Cpl2.here (hA.2.1 Is J F J hVs fin.1 fin.2.1 fin.2.2.1 fin.2.2.2 (scrJ.rf J))
    · rw [eLs] at hr
      obtain ⟨c0, c1, c2, c3, c4, c5, c6⟩ := hrow.2.2.2 r hr
      have s8 := (hK.2.2.2.1 r hr).sz
      exact ⟨(F19 _ (by omega)).trans c0, (F19 _ (by omega)).trans c1, (F19 _ (by omega)).trans c2, (F19 _ (by omega)).trans c3, (F19 _ (by omega)).trans c4, (F19 _ (by omega)).trans c5, fun j hj => (F19 _ (by omega)).trans (c6 j hj)⟩
    · rw [eLs] at hr
      obtain ⟨c0, c1, c2, c3, c4, c5, c6⟩ := yr r hr
      have s8 := (hK.2.2.2.1 r hr).sz
      have hr6 : r < 6 := by omega
      refine ⟨(lyg 110 r (by decide) hr6).trans c0, (lyg 111 r (by decide) hr6).trans c1, (lyg 112 r (by decide) hr6).trans c2, (lyg 113 r (by decide) hr6).trans c3, (lyg 114 r (by decide) hr6).trans c4, (lyg 115 r (by decide) hr6).trans c5, fun j hj => ?_⟩
      rw [lyl _ (by omega), show 48 + (8 * r + j) = 8 * (6 + r) + j by omega]
      exact c6 j hj
    · exact (gi_eq (F1 4 4 (by decide) (by decide) (by decide) (by decide))).trans d44
    · exact (gi_eq (F1 4 5 (by decide) (by decide) (by decide) (by decide))).trans d45
    · exact (gi_eq (F1 74 65 (by decide) (by decide) (by decide) (by decide))).trans ((gi_eq (d1 74 65 (by decide) (by decide) (by decide) (by decide) (by decide))).trans (gi_eq (s0 74 65 (by decide) (by decide))).symm)
    · rw [hs46]
      exact (gi_eq (F1 4 6 (by decide) (by decide) (by decide) (by decide))).trans d466
    · by_cases e1 : c = 1 ∧ k = 1
      · rw [e1.1, e1.2, F1 1 1 (by decide) (by decide) (by decide) (by decide), d11, i11]
      · by_cases e2 : c = 74 ∧ k = 1
        · rw [e2.1, e2.2, F74, i74]
        · have c72 : c ≠ 72 := fun t => by rw [t] at a1; exact absurd a1 (by decide)
          have c70 : ¬ (c = 70 ∧ k = 3) := fun t => by rw [t.1, t.2] at a2; exact absurd a2 (by decide)
          rw [F1 c k a1 a2 (by omega) (by omega), d1 c k (by omega) b e1 c72 c70]
          exact (s0 c k e1 e2).symm
  · -- refused
    have hnK := (hv.resolve_right (fun t => by omega)).2
    refine Step.put (by decide) rfl ?_
    have f2 : ∀ c k, c ≠ 72 → ¬ (c = 70 ∧ k = 3) → I2 c k = I c k := fun c k a b => hF c k (by simp; exact a) (by simp; omega)
    have d73 : gi (si I2 1 1 0) 73 5 = gi I 73 5 := (gi_cell _ _ _ _ (by decide)).trans (gi_eq (f2 73 5 (by decide) (by decide)))
    rw [d73]
    refine ref _ _ (fun c k hc => ?_) (fun I3 v3 hs3 hv3 => ⟨fun e => absurd (hv3.resolve_left (fun t => by omega)).2.1 hnK, fun e => ⟨rfl, Cpl2.here (hS (refI Is 5) J _ J (hA.2.2 Is J 5 hVs (by decide)) (fun c k a1 a2 => ?_) (scrJ.rf J))⟩⟩)
    · rw [si_at, if_neg (by omega), si_at, if_neg (by omega)]
      exact f2 c k (by omega) (by omega)
    · have e107 : gi I3 107 5 = gi I 107 5 := by
        rw [hs3.gv 107 5 (by decide) (by decide), gi_cell _ _ _ _ (by decide), gi_cell _ _ _ _ (by decide), gi_cell _ _ _ _ (by decide)]
        exact gi_eq (f2 107 5 (by decide) (by decide))
      have q107 : gi Is 107 5 = gi I 107 5 := gi_eq (s0 107 5 (by decide) (by decide))
      have q73 : gi Is 73 5 = gi I 73 5 := gi_eq (s0 73 5 (by decide) (by decide))
      unfold refI
      rw [e107, q107, q73, si_at, si_at (si Is _ _ _), si_at Is]
      by_cases z1 : c = 107 ∧ k = 5
      · rw [if_pos z1, if_pos z1]
      · rw [if_neg z1, if_neg z1, hs3 c k a1 a2, si_at, si_at, si_at]
        by_cases z2 : c = 74 ∧ k = 1
        · rw [if_pos z2, if_neg (by omega), z2.1, z2.2, i74]
        · rw [if_neg z2]
          by_cases z3 : c = 73 ∧ k = 5
          · rw [if_pos z3, if_pos z3]
          · rw [if_neg z3, if_neg z3]
            by_cases z4 : c = 1 ∧ k = 1
            · rw [if_pos z4, z4.1, z4.2, i11]
            · rw [if_neg z4, s0 c k z4 z2]
              refine f2 c k (fun t => ?_) (fun t => ?_)
              · rw [t] at a1
                exact absurd a1 (by decide)
              · rw [t.1, t.2] at a2
                exact absurd a2 (by decide)
end ONS

section ONCS
/-- two bytes, the higher first -/
theorem S_X4_take2 {k : Nat} {P : Option Nat} {I : Nat → Nat → Int32} {J : Nat → Nat → Int64} {Q : Option AV → Mem → Prop} {T : Nat → Int} {n a : Nat} (hk : 2 ≤ k) (hT : TpC I T n) (ha : gi I 70 3 = (a : Int)) (ha2 : a ≤ 100000) (hQ : ∀ I' v, Fr [] [(70, 3)] I I' → gi I' 70 3 = ((a + 2 : Nat) : Int) → (v = if a + 1 < n then w2 T a else -1) → Q (some (vI v)) (mem (rv0 P) I' J)) : WPm k LAY m_X4_takeTwo [vR (some 70), vR (some 1)] (mem (rv0 P) I J) Q := by
  have hn := hT.2.1
  have e11 := hT.1
  have e1 : byt I (gi I 70 3) = if a < n then T a else -1 := tpc_byt hT ha
  have c11 : gi (si I 70 3 (gi I 70 3 + 1)) 1 1 = gi I 1 1 := gi_cell _ _ _ _ (by decide)
  have c70 : gi (si I 70 3 (gi I 70 3 + 1)) 70 3 = ((a + 1 : Nat) : Int) := by
    rw [gi_same _ _ _ ⟨by omega, by omega⟩]
    omega
  have hT2 : TpC (si I 70 3 (gi I 70 3 + 1)) T n := hT.fr c11 (funext fun c => by rw [si_at, if_neg (by omega)])
  have e2 : byt (si I 70 3 (gi I 70 3 + 1)) (gi (si I 70 3 (gi I 70 3 + 1)) 70 3) = if a + 1 < n then T (a + 1) else -1 := tpc_byt hT2 c70
  have hF : Fr [] [(70, 3)] I (si (si I 70 3 (gi I 70 3 + 1)) 70 3 (gi (si I 70 3 (gi I 70 3 + 1)) 70 3 + 1)) := ((Fr.rf _ _ I).up 70 3 _ (Or.inr (by decide))).up 70 3 _ (Or.inr (by decide))
  have d70 : gi (si (si I 70 3 (gi I 70 3 + 1)) 70 3 (gi (si I 70 3 (gi I 70 3 + 1)) 70 3 + 1)) 70 3 = ((a + 2 : Nat) : Int) := by
    rw [gi_same _ _ _ ⟨by omega, by omega⟩, c70]
    omega
  refine WPm.of k_X4_takeTwo.1 (Nat.le_of_ble_eq_true rfl) (B_X4_takeTwo_0 (by omega) ⟨by omega, by omega, fun y hy => ?_⟩)
  rw [e2] at hy
  rw [e1]
  by_cases q : a + 1 < n
  · have t0 := hT.2.2 a (by omega)
    have t1 := hT.2.2 (a + 1) q
    rw [if_pos q] at hy
    rw [if_pos (show a < n by omega)]
    refine ⟨fun w => absurd w (by omega), fun _ => ⟨fun _ => hQ _ _ hF d70 ?_, fun w => absurd w (by omega)⟩⟩
    rw [if_pos q, hy]
    unfold w2
    omega
  · rw [if_neg q] at hy
    have hm : Q (some (vI (-1))) (mem (P, some 5, some 22) (si (si I 70 3 (gi I 70 3 + 1)) 70 3 (gi (si I 70 3 (gi I 70 3 + 1)) 70 3 + 1)) J) := hQ _ _ hF d70 (by rw [if_neg q])
    exact ⟨fun _ => hm, fun _ => ⟨fun w => absurd hy w, fun _ => hm⟩⟩
def RecOn (I : Nat → Nat → Int32) (T : Nat → Int) (r a : Nat) : Prop := gi I 72 (3 + 14 * r + 0) = T a ∧ gi I 72 (3 + 14 * r + 1) = w2 T (a + 1) ∧ gi I 72 (3 + 14 * r + 2) = w2 T (a + 3) ∧ gi I 72 (3 + 14 * r + 3) = T (a + 5) - 1 ∧ gi I 72 (3 + 14 * r + 4) = w2 T (a + 6) ∧ gi I 72 (3 + 14 * r + 5) = T (a + 8) ∧ ∀ j : Nat, (j : Int) < T (a + 8) → gi I 72 (3 + 14 * r + 6 + j) = T (a + 9 + j)
def llO (T : Nat → Int) (a j : Nat) (ll : Int) : Prop := ll = 1 ∧ (∃ i, i < j ∧ T (a + 9 + i) = T (a + 5) - 1) ∨ ll = 0 ∧ ¬ ∃ i, i < j ∧ T (a + 9 + i) = T (a + 5) - 1
theorem lt_pow_iff {v : Int} {m : Nat} (h0 : 0 ≤ v) : v ≤ ((2 ^ m : Nat) : Int) - 1 ↔ v.toNat < 2 ^ m := by omega
theorem S_X4_one {k : Nat} {P : Option Nat} {I : Nat → Nat → Int32} {J : Nat → Nat → Int64} {Q : Option AV → Mem → Prop} {L : Lb} {R : Rl} {H : Hl} {T : Nat → Int} {n a r : Nat} (hk : 4 ≤ k) (hX : CX I L R H) (hT : TpC I T n) (ha : gi I 70 3 = (a : Int)) (ha2 : a ≤ 10000) (hr : r < 6)
    (hQ : ∀ I' v, Fr [72] [(70, 3)] I I' → (∀ k : Nat, ¬ (3 + 14 * r ≤ k ∧ k < 3 + 14 * r + 14) → gi I' 72 k = gi I 72 k) → (v = 0 ∧ ¬ onO L T n a ∨ v = 1 ∧ onO L T n a ∧ gi I' 70 3 = (a : Int) + 9 + T (a + 8) ∧ RecOn I' T r a) → Q (some (vI v)) (mem (rv0 P) I' J)) : WPm k LAY m_X4_readOne [vR (some 70), vR (some 1), vR (some 5), vI (3 + ((r : Int) * 14))] (mem (rv0 P) I J) Q := by
  have hL := hX.1.2.2.2.1
  have hP := hL.2.1
  have hT5 := hL.2.2.2.1
  have hn := hT.2.1
  have hp14 := pow_le14 (p := (nP L).toNat) (by omega)
  have hpos := Nat.two_pow_pos (nP L).toNat
  -- what any way leaves
  have frm : ∀ I' : Nat → Nat → Int32, Fr [72] [(70, 3)] I I' → TpC I' T n ∧ gi I' 6 1 = nP L ∧ gi I' 6 3 = nT L := fun I' hF => ⟨hT.fr (hF.gv 1 1 (by decide) (by decide)) (hF.cell 2 (by decide) (by decide)), (hF.gv 6 1 (by decide) (by decide)).trans (cx_p hX), (hF.gv 6 3 (by decide) (by decide)).trans (cx_t hX)⟩
  have no : ∀ I' : Nat → Nat → Int32, Fr [72] [(70, 3)] I I' → (∀ k : Nat, ¬ (3 + 14 * r ≤ k ∧ k < 3 + 14 * r + 14) → gi I' 72 k = gi I 72 k) → ¬ onO L T n a → Q (some (vI 0)) (mem (P, some 5, some 22) I' J) := fun I' h1 h2 h3 => hQ I' 0 h1 h2 (Or.inl ⟨rfl, h3⟩)
  refine WPm.of k_X4_readOne.1 (Nat.le_of_ble_eq_true rfl) (B_X4_readOne_0 (by omega) ?_)
  have e11 := hT.1
  rw [tpc_byt hT ha, cx_p hX]
  refine ⟨by omega, ?_⟩
  have hF1 : Fr [72] [(70, 3)] I (si I 70 3 (gi I 70 3 + 1)) := (Fr.rf _ _ I).up 70 3 _ (Or.inr (by decide))
  have a1 : gi (si I 70 3 (gi I 70 3 + 1)) 70 3 = ((a + 1 : Nat) : Int) := by
    rw [gi_same _ _ _ ⟨by omega, by omega⟩]
    omega
  have r1 : ∀ k, gi (si I 70 3 (gi I 70 3 + 1)) 72 k = gi I 72 k := fun k => gi_cell _ _ _ _ (by decide)
  generalize si I 70 3 (gi I 70 3 + 1) = I1 at hF1 a1 r1 ⊢
  refine S_X4_take2 (by omega) (frm I1 hF1).1 a1 (by omega) (fun I3 v2 hF3 a3 h2 => ⟨_, _, _, rfl, rfl, ?_⟩)
  have hF3' : Fr [72] [(70, 3)] I I3 := hF1.tr (hF3.mono (by simp) (by simp))
  refine S_X4_take2 (by omega) (frm I3 hF3').1 a3 (by omega) (fun I6 v5 hF6 a6 h5 => ⟨_, _, _, rfl, rfl, ?_⟩)
  have hF6' : Fr [72] [(70, 3)] I I6 := hF3'.tr (hF6.mono (by simp) (by simp))
  have hT6 := (frm I6 hF6').1
  dsimp only
  rw [tpc_byt hT6 a6]
  refine ⟨by have := hT6.1; omega, ?_⟩
  have hF7 : Fr [72] [(70, 3)] I (si I6 70 3 (gi I6 70 3 + 1)) := hF6'.up 70 3 _ (Or.inr (by decide))
  have a7 : gi (si I6 70 3 (gi I6 70 3 + 1)) 70 3 = ((a + 6 : Nat) : Int) := by
    rw [gi_same _ _ _ ⟨by omega, by omega⟩]
    omega
  have r7 : ∀ k, gi (si I6 70 3 (gi I6 70 3 + 1)) 72 k = gi I 72 k := fun k => (gi_cell _ _ _ _ (by decide)).trans ((hF6.gv 72 k (by decide) (by simp)).trans ((hF3.gv 72 k (by decide) (by simp)).trans (r1 k)))
  generalize si I6 70 3 (gi I6 70 3 + 1) = I7 at hF7 a7 r7 ⊢
  refine S_X4_take2 (by omega) (frm I7 hF7).1 a7 (by omega) (fun I10 v9 hF10 a10 h9 => ⟨_, _, _, rfl, rfl, ?_⟩)
  have hF10' : Fr [72] [(70, 3)] I I10 := hF7.tr (hF10.mono (by simp) (by simp))
  obtain ⟨hT10, p10, t10⟩ := frm I10 hF10'
  dsimp only
  rw [tpc_byt hT10 a10, t10]
  have hF11 : Fr [72] [(70, 3)] I (si I10 70 3 (gi I10 70 3 + 1)) := hF10'.up 70 3 _ (Or.inr (by decide))
  have r11 : ∀ k, gi (si I10 70 3 (gi I10 70 3 + 1)) 72 k = gi I 72 k := fun k => (gi_cell _ _ _ _ (by decide)).trans ((hF10.gv 72 k (by decide) (by simp)).trans (r7 k))
  have a11 : gi (si I10 70 3 (gi I10 70 3 + 1)) 70 3 = ((a + 9 : Nat) : Int) := by
    rw [gi_same _ _ _ ⟨by omega, by omega⟩]
    omega
  generalize si I10 70 3 (gi I10 70 3 + 1) = I11 at hF11 r11 a11 ⊢
  have no11 : ¬ onO L T n a → Q (some (vI 0)) (mem (P, some 5, some 22) I11 J) := no I11 hF11 (fun k _ => r11 k)
  have esh : shl32 1 (nP L) - 1 = ((2 ^ (nP L).toNat : Nat) : Int) - 1 := by rw [shl_p ⟨by omega, by omega⟩]
  rw [esh]
  refine ⟨by have := hT10.1; omega, ⟨by omega, by omega⟩, ?_⟩
  by_cases hin : a + 8 < n
  · -- the head stands on the tape
    have tb : ∀ j, j < 9 → 0 ≤ T (a + j) ∧ T (a + j) ≤ 255 := fun j hj => (hT.2.2 (a + j) (by omega)).2
    have t0 := tb 0 (by decide)
    have t1 := tb 1 (by decide)
    have t2 := tb 2 (by decide)
    have t3 := tb 3 (by decide)
    have t4 := tb 4 (by decide)
    have t5 := tb 5 (by decide)
    have t6 := tb 6 (by decide)
    have t7 := tb 7 (by decide)
    have t8 := tb 8 (by decide)
    rw [if_pos (show a + 1 + 1 < n by omega)] at h2
    rw [if_pos (show a + 1 + 2 + 1 < n by omega)] at h5
    rw [if_pos (show a + 6 + 1 < n by omega)] at h9
    rw [if_pos (show a < n by omega), if_pos (show a + 1 + 2 + 2 < n by omega), if_pos (show a + 6 + 2 < n by omega)]
    rw [show a + 1 + 2 = a + 3 by omega] at h5
    rw [show a + 1 + 2 + 2 = a + 5 by omega, show a + 6 + 2 = a + 8 by omega]
    have w1 : w2 T (a + 1) = 256 * T (a + 1) + T (a + 2) := rfl
    have w3 : w2 T (a + 3) = 256 * T (a + 3) + T (a + 4) := rfl
    have w6 : w2 T (a + 6) = 256 * T (a + 6) + T (a + 7) := rfl
    have ta : T (a + 0) = T a := rfl
    rw [ta] at t0
    have hiff := wfrec_iff (L := L) (s1 := T a) (s2 := w2 T (a + 1)) (s3 := w2 T (a + 3)) (s4 := T (a + 5) - 1) (s5 := w2 T (a + 6)) (s6 := T (a + 8)) (l := fun k => T (a + 9 + k.toNat)) t8.1
    have hl0 : (fun k : Nat => (fun k : Int => T (a + 9 + k.toNat)) (k : Int)) = fun k : Nat => T (a + 9 + k) := funext fun k => by
      show T (a + 9 + ((k : Int)).toNat) = T (a + 9 + k)
      rw [Int.toNat_natCast]
    rw [hl0] at hiff
    rw [h2, h5, h9]
    refine ⟨fun q => no11 (fun o => q (by have := (hiff.mp o.2).1; omega)), fun q => ⟨fun q2 => ⟨⟨by omega, by omega⟩, ⟨by omega, by omega⟩, fun q3 => no11 (fun o => q3 ?_), fun q3 => ⟨⟨by omega, by omega⟩, fun q4 => no11 (fun o => q4 ?_), fun q4 => ⟨fun q5 => ?_, fun q5 => no11 (fun o => q5 ?_)⟩⟩⟩, fun q2 => no11 (fun o => q2 ⟨t8.1, (hiff.mp o.2).2.2.2.2.1⟩)⟩⟩
    · have := (hiff.mp o.2).2.1
      exact ⟨this.1, (lt_pow_iff this.1).mpr this.2⟩
    · have := (hiff.mp o.2).2.2.1
      exact ⟨this.1, (lt_pow_iff this.1).mpr this.2⟩
    · -- the list
      have k2 := (lt_pow_iff (m := (nP L).toNat) q3.1).mp q3.2
      have k3 := (lt_pow_iff (m := (nP L).toNat) q4.1).mp q4.2
      have e2 : w2 T (a + 1) = (((w2 T (a + 1)).toNat : Nat) : Int) := (Int.toNat_of_nonneg q3.1).symm
      have e3 : w2 T (a + 3) = (((w2 T (a + 3)).toNat : Nat) : Int) := (Int.toNat_of_nonneg q4.1).symm
      have dj : (w2 T (a + 1)).toNat &&& (w2 T (a + 3)).toNat = 0 := by
        rw [e2, e3, and32_nat (by omega) (by omega)] at q5
        exact Int.natCast_eq_zero.mp q5
      have base : or32 (w2 T (a + 1)) (w2 T (a + 3)) = (((w2 T (a + 1)).toNat ||| (w2 T (a + 3)).toNat : Nat) : Int) := by
        rw [← or32_nat (by omega) (by omega), ← e2, ← e3]
      have hb14 : (w2 T (a + 1)).toNat ||| (w2 T (a + 3)).toNat < 16384 := or_lt14 (n := 14) (by omega) (by omega)
      rw [base]
      refine ⟨⟨by omega, by omega⟩, ⟨by omega, by omega⟩, ⟨by omega, by omega⟩, ⟨by omega, by omega⟩, ⟨by omega, by omega⟩, ⟨by omega, by omega⟩, ?_⟩
      rw [show (3 + (r : Int) * 14 + 0).toNat = 3 + 14 * r + 0 by omega, show (3 + (r : Int) * 14 + 1).toNat = 3 + 14 * r + 1 by omega, show (3 + (r : Int) * 14 + 2).toNat = 3 + 14 * r + 2 by omega, show (3 + (r : Int) * 14 + 3).toNat = 3 + 14 * r + 3 by omega, show (3 + (r : Int) * 14 + 4).toNat = 3 + 14 * r + 4 by omega, show (3 + (r : Int) * 14 + 5).toNat = 3 + 14 * r + 5 by omega]
      have hFz : Fr [72] [(70, 3)] I (si (si (si (si (si (si I11 72 (3 + 14 * r + 0) (T a)) 72 (3 + 14 * r + 1) (w2 T (a + 1))) 72 (3 + 14 * r + 2) (w2 T (a + 3))) 72 (3 + 14 * r + 3) (T (a + 5) - 1)) 72 (3 + 14 * r + 4) (w2 T (a + 6))) 72 (3 + 14 * r + 5) (T (a + 8))) := (((((hF11.up 72 _ _ (Or.inl (by decide))).up 72 _ _ (Or.inl (by decide))).up 72 _ _ (Or.inl (by decide))).up 72 _ _ (Or.inl (by decide))).up 72 _ _ (Or.inl (by decide))).up 72 _ _ (Or.inl (by decide))
      have z0 : gi (si (si (si (si (si (si I11 72 (3 + 14 * r + 0) (T a)) 72 (3 + 14 * r + 1) (w2 T (a + 1))) 72 (3 + 14 * r + 2) (w2 T (a + 3))) 72 (3 + 14 * r + 3) (T (a + 5) - 1)) 72 (3 + 14 * r + 4) (w2 T (a + 6))) 72 (3 + 14 * r + 5) (T (a + 8))) 72 (3 + 14 * r + 0) = T a := by rw [gi_idx _ _ _ (by omega), gi_idx _ _ _ (by omega), gi_idx _ _ _ (by omega), gi_idx _ _ _ (by omega), gi_idx _ _ _ (by omega), gi_same _ _ _ ⟨by omega, by omega⟩]
      have z1 : gi (si (si (si (si (si (si I11 72 (3 + 14 * r + 0) (T a)) 72 (3 + 14 * r + 1) (w2 T (a + 1))) 72 (3 + 14 * r + 2) (w2 T (a + 3))) 72 (3 + 14 * r + 3) (T (a + 5) - 1)) 72 (3 + 14 * r + 4) (w2 T (a + 6))) 72 (3 + 14 * r + 5) (T (a + 8))) 72 (3 + 14 * r + 1) = w2 T (a + 1) := by rw [gi_idx _ _ _ (by omega), gi_idx _ _ _ (by omega), gi_idx _ _ _ (by omega), gi_idx _ _ _ (by omega), gi_same _ _ _ ⟨by omega, by omega⟩]
      have z2 : gi (si (si (si (si (si (si I11 72 (3 + 14 * r + 0) (T a)) 72 (3 + 14 * r + 1) (w2 T (a + 1))) 72 (3 + 14 * r + 2) (w2 T (a + 3))) 72 (3 + 14 * r + 3) (T (a + 5) - 1)) 72 (3 + 14 * r + 4) (w2 T (a + 6))) 72 (3 + 14 * r + 5) (T (a + 8))) 72 (3 + 14 * r + 2) = w2 T (a + 3) := by rw [gi_idx _ _ _ (by omega), gi_idx _ _ _ (by omega), gi_idx _ _ _ (by omega), gi_same _ _ _ ⟨by omega, by omega⟩]
      have z3 : gi (si (si (si (si (si (si I11 72 (3 + 14 * r + 0) (T a)) 72 (3 + 14 * r + 1) (w2 T (a + 1))) 72 (3 + 14 * r + 2) (w2 T (a + 3))) 72 (3 + 14 * r + 3) (T (a + 5) - 1)) 72 (3 + 14 * r + 4) (w2 T (a + 6))) 72 (3 + 14 * r + 5) (T (a + 8))) 72 (3 + 14 * r + 3) = T (a + 5) - 1 := by rw [gi_idx _ _ _ (by omega), gi_idx _ _ _ (by omega), gi_same _ _ _ ⟨by omega, by omega⟩]
      have z4 : gi (si (si (si (si (si (si I11 72 (3 + 14 * r + 0) (T a)) 72 (3 + 14 * r + 1) (w2 T (a + 1))) 72 (3 + 14 * r + 2) (w2 T (a + 3))) 72 (3 + 14 * r + 3) (T (a + 5) - 1)) 72 (3 + 14 * r + 4) (w2 T (a + 6))) 72 (3 + 14 * r + 5) (T (a + 8))) 72 (3 + 14 * r + 4) = w2 T (a + 6) := by rw [gi_idx _ _ _ (by omega), gi_same _ _ _ ⟨by omega, by omega⟩]
      have z5 : gi (si (si (si (si (si (si I11 72 (3 + 14 * r + 0) (T a)) 72 (3 + 14 * r + 1) (w2 T (a + 1))) 72 (3 + 14 * r + 2) (w2 T (a + 3))) 72 (3 + 14 * r + 3) (T (a + 5) - 1)) 72 (3 + 14 * r + 4) (w2 T (a + 6))) 72 (3 + 14 * r + 5) (T (a + 8))) 72 (3 + 14 * r + 5) = T (a + 8) := gi_same _ _ _ ⟨by omega, by omega⟩
      have zo : ∀ k : Nat, ¬ (3 + 14 * r ≤ k ∧ k < 3 + 14 * r + 14) → gi (si (si (si (si (si (si I11 72 (3 + 14 * r + 0) (T a)) 72 (3 + 14 * r + 1) (w2 T (a + 1))) 72 (3 + 14 * r + 2) (w2 T (a + 3))) 72 (3 + 14 * r + 3) (T (a + 5) - 1)) 72 (3 + 14 * r + 4) (w2 T (a + 6))) 72 (3 + 14 * r + 5) (T (a + 8))) 72 k = gi I 72 k := fun k hk => by rw [gi_idx _ _ _ (by omega), gi_idx _ _ _ (by omega), gi_idx _ _ _ (by omega), gi_idx _ _ _ (by omega), gi_idx _ _ _ (by omega), gi_idx _ _ _ (by omega), r11 k]
      have za : gi (si (si (si (si (si (si I11 72 (3 + 14 * r + 0) (T a)) 72 (3 + 14 * r + 1) (w2 T (a + 1))) 72 (3 + 14 * r + 2) (w2 T (a + 3))) 72 (3 + 14 * r + 3) (T (a + 5) - 1)) 72 (3 + 14 * r + 4) (w2 T (a + 6))) 72 (3 + 14 * r + 5) (T (a + 8))) 70 3 = ((a + 9 + 0 : Nat) : Int) := by rw [gi_cell _ _ _ _ (by decide), gi_cell _ _ _ _ (by decide), gi_cell _ _ _ _ (by decide), gi_cell _ _ _ _ (by decide), gi_cell _ _ _ _ (by decide), gi_cell _ _ _ _ (by decide), a11]
      generalize si (si (si (si (si (si I11 72 (3 + 14 * r + 0) (T a)) 72 (3 + 14 * r + 1) (w2 T (a + 1))) 72 (3 + 14 * r + 2) (w2 T (a + 3))) 72 (3 + 14 * r + 3) (T (a + 5) - 1)) 72 (3 + 14 * r + 4) (w2 T (a + 6))) 72 (3 + 14 * r + 5) (T (a + 8)) = Iz at hFz z0 z1 z2 z3 z4 z5 zo za ⊢
      clear ha e11 hF1 a1 r1 hF3 a3 h2 hF3' hF6 a6 h5 hF6' hT6 hF7 a7 r7 hF10 a10 h9 hF10' hT10 p10 t10 hF11 r11 a11 no11 esh e2 e3 base t0 t1 t2 t3 t4 ta tb hl0 w1 w3 hT5
      have loop : ∀ (d j : Nat) (x ll tk : Int) (I2 : Nat → Nat → Int32), j + d = (T (a + 8)).toNat → x = j → tk = ((tkO ((w2 T (a + 1)).toNat ||| (w2 T (a + 3)).toNat) (fun k => T (a + 9 + k)) j : Nat) : Int) → llO T a j ll → lsOk L ((w2 T (a + 1)).toNat ||| (w2 T (a + 3)).toNat) (fun k => T (a + 9 + k)) j → a + 9 + j ≤ n → Fr [72] [(70, 3)] I I2 → gi I2 70 3 = ((a + 9 + j : Nat) : Int) → (∀ k : Nat, ¬ (3 + 14 * r + 6 ≤ k ∧ k < 3 + 14 * r + 14) → gi I2 72 k = gi Iz 72 k) → (∀ i : Nat, i < j → gi I2 72 (3 + 14 * r + 6 + i) = T (a + 9 + i)) → WP k LAY m_X4_readOne 191 [(0, vR (some 70)), (1, vR (some 1)), (3, vI (3 + (r : Int) * 14)), (4, vI (nP L)), (8, vI (T (a + 5) - 1)), (9, vI (w2 T (a + 6))), (10, vI (T (a + 8))), (11, vI tk), (12, vI ll), (13, vI x)] [] (mem (P, some 5, some 22) I2 J) Q := by
        intro d
        induction d with
        | zero =>
          intro j x ll tk I2 hj hx htk hll hls haj hF2 ha2' ho hli
          have ej : j = (T (a + 8)).toNat := by omega
          have e9 : gi I2 70 3 = (a : Int) + 9 + T (a + 8) := by omega
          have e9n : (a : Int) + 9 + T (a + 8) ≤ (n : Int) := by omega
          have llr : inR ll := by
            rcases hll with ⟨u, -⟩ | ⟨u, -⟩ <;> subst u <;> decide
          have ij : ∀ i : Nat, (i : Int) < T (a + 8) → i < j := fun i hi => by omega
          have oth : ∀ k : Nat, ¬ (3 + 14 * r ≤ k ∧ k < 3 + 14 * r + 14) → gi I2 72 k = gi I 72 k := fun k hk => (ho k (by omega)).trans (zo k hk)
          have no2 : ¬ onO L T n a → Q (some (vI 0)) (mem (P, some 5, some 22) I2 J) := no I2 hF2 oth
          have yes : (T (a + 5) - 1 = -1 ∧ w2 T (a + 6) = 0 ∨ (1 ≤ w2 T (a + 6) ∧ w2 T (a + 6) ≤ 499) ∧ ∃ k : Nat, k < (T (a + 8)).toNat ∧ T (a + 9 + k) = T (a + 5) - 1) → Q (some (vI 1)) (mem (P, some 5, some 22) I2 J) := by
            intro hl
            refine hQ I2 1 hF2 oth (Or.inr ⟨rfl, ⟨e9n, hiff.mpr ⟨⟨q.1, by omega⟩, ⟨q3.1, k2⟩, ⟨q4.1, k3⟩, dj, q2.2, by rw [← ej]; exact hls, ?_⟩⟩, e9, (ho _ (by omega)).trans z0, (ho _ (by omega)).trans z1, (ho _ (by omega)).trans z2, (ho _ (by omega)).trans z3, (ho _ (by omega)).trans z4, (ho _ (by omega)).trans z5, fun i hi => hli i (ij i hi)⟩)
            rcases hl with hl | ⟨hl, i, i1, i2⟩
            · exact Or.inl hl
            · exact Or.inr ⟨hl, i, i1, by rw [Int.toNat_natCast]; exact i2⟩
          have lst : onO L T n a → (T (a + 5) - 1 = -1 ∧ w2 T (a + 6) = 0 ∨ (1 ≤ w2 T (a + 6) ∧ w2 T (a + 6) ≤ 499) ∧ ∃ k : Nat, k < (T (a + 8)).toNat ∧ T (a + 9 + k) = T (a + 5) - 1) := fun o => by
            rcases (hiff.mp o.2).2.2.2.2.2.2 with hl | ⟨hl, i, i1, i2⟩
            · exact Or.inl hl
            · exact Or.inr ⟨hl, i, i1, by rw [Int.toNat_natCast] at i2; exact i2⟩
          have lpos : ∀ i, i < j → 0 ≤ T (a + 9 + i) := fun i hi => (hls i hi).1.1
          refine B_X4_readOne_191 (by omega) ⟨⟨by omega, by omega⟩, ⟨by omega, by omega⟩, fun _ => ⟨⟨by omega, by omega⟩, fun s1 => ⟨llr, fun s2 => no2 (fun o => ?_), fun s2 => ⟨⟨by omega, by omega⟩, fun s3 => no2 (fun o => ?_), fun s3 => ⟨fun s4 => no2 (fun o => ?_), fun s4 => yes (Or.inr ⟨⟨by omega, by omega⟩, ?_⟩)⟩⟩⟩, fun s1 => ⟨⟨by omega, by omega⟩, fun s2 => no2 (fun o => ?_), fun s2 => yes (Or.inl ⟨s1, s2⟩)⟩⟩, fun w => absurd w (by omega)⟩
          · rcases lst o with t | ⟨-, t⟩
            · exact s1 t.1
            · rcases hll with ⟨u1, -⟩ | ⟨-, u2⟩
              · omega
              · exact u2 (by rw [ej]; exact t)
          · rcases lst o with t | ⟨t, -⟩
            · exact s1 t.1
            · omega
          · rcases lst o with t | ⟨t, -⟩
            · exact s1 t.1
            · omega
          · rcases hll with ⟨-, u2⟩ | ⟨u1, -⟩
            · rw [ej] at u2
              exact u2
            · exact absurd u1 s2
          · rcases lst o with t | ⟨-, i, i1, i2⟩
            · exact s2 t.2
            · have := lpos i (by omega)
              omega
        | succ d ih =>
          intro j x ll tk I2 hj hx htk hll hls haj hF2 ha2' ho hli
          subst hx; subst htk
          have oth : ∀ (I3 : Nat → Nat → Int32), (∀ k : Nat, gi I3 72 k = gi I2 72 k) → ∀ k : Nat, ¬ (3 + 14 * r ≤ k ∧ k < 3 + 14 * r + 14) → gi I3 72 k = gi I 72 k := fun I3 h3 k hk => (h3 k).trans ((ho k (by omega)).trans (zo k hk))
          have hT2 := (frm I2 hF2).1
          have hFn : Fr [72] [(70, 3)] I (si I2 70 3 (gi I2 70 3 + 1)) := hF2.up 70 3 _ (Or.inr (by decide))
          have no2 : ¬ onO L T n a → Q (some (vI 0)) (mem (P, some 5, some 22) (si I2 70 3 (gi I2 70 3 + 1)) J) := no _ hFn (oth _ (fun k => gi_cell _ _ _ _ (by decide)))
          have htl := tkO_lt (l := fun k => T (a + 9 + k)) hb14 j (fun i hi => by have b1 : 0 ≤ T (a + 9 + i) ∧ T (a + 9 + i) < nP L := (hls i hi).1; show 0 ≤ T (a + 9 + i) ∧ T (a + 9 + i) < 14; omega)
          refine B_X4_readOne_191 (by omega) ?_
          rw [tpc_byt hT2 ha2']
          refine ⟨⟨by omega, by omega⟩, ⟨by omega, by omega⟩, fun w => absurd w (by omega), fun _ => ⟨by have := hT2.1; omega, ⟨by omega, by omega⟩, ?_⟩⟩
          by_cases hin2 : a + 9 + j < n
          · rw [if_pos hin2]
            have tj := (hT.2.2 (a + 9 + j) hin2).2
            refine ⟨fun s1 => no2 (fun o => s1 ?_), fun s1 => ⟨fun s2 => ?_, fun s2 => no2 (fun o => s2 ?_)⟩⟩
            · have this : 0 ≤ T (a + 9 + j) ∧ T (a + 9 + j) < nP L := ((hiff.mp o.2).2.2.2.2.2.1 j (by omega)).1
              exact ⟨this.1, by omega⟩
            · rw [bit_iff ⟨by omega, by omega⟩ htl] at s2
              have hls2 : lsOk L ((w2 T (a + 1)).toNat ||| (w2 T (a + 3)).toNat) (fun k => T (a + 9 + k)) (j + 1) := hls.up ⟨s1.1, by show T (a + 9 + j) < nP L; omega⟩ s2
              have ntk : or32 ((tkO ((w2 T (a + 1)).toNat ||| (w2 T (a + 3)).toNat) (fun k => T (a + 9 + k)) j : Nat) : Int) (shl32 1 (T (a + 9 + j))) = ((tkO ((w2 T (a + 1)).toNat ||| (w2 T (a + 3)).toNat) (fun k => T (a + 9 + k)) (j + 1) : Nat) : Int) := by
                have := or_pow (a := tkO ((w2 T (a + 1)).toNat ||| (w2 T (a + 3)).toNat) (fun k => T (a + 9 + k)) j) (p := (T (a + 9 + j)).toNat) (by omega) (by omega)
                rw [Int.toNat_of_nonneg s1.1] at this
                exact this
              have hFm : Fr [72] [(70, 3)] I (si (si I2 70 3 (gi I2 70 3 + 1)) 72 ((3 + (r : Int) * 14 + 6) + (j : Int)).toNat (T (a + 9 + j))) := hFn.up 72 _ _ (Or.inl (by decide))
              have m70 : gi (si (si I2 70 3 (gi I2 70 3 + 1)) 72 ((3 + (r : Int) * 14 + 6) + (j : Int)).toNat (T (a + 9 + j))) 70 3 = ((a + 9 + (j + 1) : Nat) : Int) := by
                rw [gi_cell _ _ _ _ (by decide), gi_same _ _ _ ⟨by omega, by omega⟩, ha2']
                omega
              have m72 : ∀ k : Nat, k ≠ 3 + 14 * r + 6 + j → gi (si (si I2 70 3 (gi I2 70 3 + 1)) 72 ((3 + (r : Int) * 14 + 6) + (j : Int)).toNat (T (a + 9 + j))) 72 k = gi I2 72 k := fun k hk => by rw [gi_idx _ _ _ (by omega), gi_cell _ _ _ _ (by decide)]
              have ms : gi (si (si I2 70 3 (gi I2 70 3 + 1)) 72 ((3 + (r : Int) * 14 + 6) + (j : Int)).toNat (T (a + 9 + j))) 72 (3 + 14 * r + 6 + j) = T (a + 9 + j) := by
                rw [show 3 + 14 * r + 6 + j = ((3 + (r : Int) * 14 + 6) + (j : Int)).toNat by omega]
                exact gi_same _ _ _ ⟨by omega, by omega⟩
              generalize si (si I2 70 3 (gi I2 70 3 + 1)) 72 ((3 + (r : Int) * 14 + 6) + (j : Int)).toNat (T (a + 9 + j)) = Im at hFm m70 m72 ms ⊢
              have go : ∀ ll' : Int, llO T a (j + 1) ll' → WP k LAY m_X4_readOne 191 [(0, vR (some 70)), (1, vR (some 1)), (3, vI (3 + (r : Int) * 14)), (4, vI (nP L)), (8, vI (T (a + 5) - 1)), (9, vI (w2 T (a + 6))), (10, vI (T (a + 8))), (11, vI (or32 ((tkO ((w2 T (a + 1)).toNat ||| (w2 T (a + 3)).toNat) (fun k => T (a + 9 + k)) j : Nat) : Int) (shl32 1 (T (a + 9 + j))))), (12, vI ll'), (13, vI ((j : Int) + 1))] [] (mem (P, some 5, some 22) Im J) Q := fun ll' hl' => ih (j + 1) _ ll' _ Im (by omega) rfl ntk hl' hls2 (by omega) hFm m70 (fun k hk => (m72 k (by omega)).trans (ho k hk)) (fun i hi => by
                by_cases e : i = j
                · rw [e]
                  exact ms
                · rw [m72 _ (by omega)]
                  exact hli i (by omega))
              have llr2 : inR ll := by
                rcases hll with ⟨u, -⟩ | ⟨u, -⟩ <;> subst u <;> decide
              refine ⟨llr2, fun s0 => ⟨⟨by omega, by omega⟩, go 1 ?_⟩, fun s0 => ⟨⟨by omega, by omega⟩, fun s3 => ⟨⟨by omega, by omega⟩, go 0 ?_⟩, fun s3 => ⟨⟨by omega, by omega⟩, go 1 ?_⟩⟩⟩
              · rcases hll with ⟨-, i, i1, i2⟩ | ⟨u, -⟩
                · exact Or.inl ⟨rfl, i, by omega, i2⟩
                · exact absurd u s0
              · rcases hll with ⟨u, -⟩ | ⟨-, u2⟩
                · exact absurd (u.symm.trans s0) (by decide)
                · refine Or.inr ⟨rfl, fun ⟨i, i1, i2⟩ => ?_⟩
                  by_cases e : i = j
                  · rw [e] at i2
                    exact s3 i2
                  · exact u2 ⟨i, by omega, i2⟩
              · exact Or.inl ⟨rfl, j, by omega, s3⟩
            · rw [bit_iff ⟨by omega, by omega⟩ htl]
              exact lsOk.no (hiff.mp o.2).2.2.2.2.2.1 (show j < (T (a + 8)).toNat by omega)
          · rw [if_neg hin2]
            exact ⟨fun _ => no2 (fun o => by have := o.1; omega), fun s1 => absurd s1.1 (by decide)⟩
      exact loop (T (a + 8)).toNat 0 0 0 _ Iz (Nat.zero_add _) rfl rfl (Or.inr ⟨rfl, fun ⟨i, hi, _⟩ => absurd hi (Nat.not_lt_zero _)⟩) (fun i hi => absurd hi (Nat.not_lt_zero _)) (by omega) hFz za (fun _ _ => rfl) (fun i hi => absurd hi (Nat.not_lt_zero _))
    · have := (hiff.mp o.2)
      rw [show w2 T (a + 1) = (((w2 T (a + 1)).toNat : Nat) : Int) from (Int.toNat_of_nonneg this.2.1.1).symm, show w2 T (a + 3) = (((w2 T (a + 3)).toNat : Nat) : Int) from (Int.toNat_of_nonneg this.2.2.1.1).symm, and32_nat (by omega) (by omega), this.2.2.2.1]
      rfl
  · -- the head is cut
    have bad : ¬ onO L T n a := fun o => by
      have h1 := o.1
      have h2 := o.2.2.2.2.2.1
      omega
    rw [if_neg (show ¬ a + 6 + 2 < n by omega)]
    exact ⟨fun _ => no11 bad, fun _ => ⟨fun q2 => absurd q2.1 (by decide), fun _ => no11 bad⟩⟩
end ONCS

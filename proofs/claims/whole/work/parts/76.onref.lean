section ONREFS
/-! ===== the reference: an image comes on ===== -/
theorem gq_110_75 (X : Nat → Nat → Int32) (k k' : Nat) (z : Int) : gi (si X 110 k z) 75 k' = gi X 75 k' := gi_cell _ _ _ _ (by decide)
theorem gq_110_74 (X : Nat → Nat → Int32) (k k' : Nat) (z : Int) : gi (si X 110 k z) 74 k' = gi X 74 k' := gi_cell _ _ _ _ (by decide)
theorem gq_110_77 (X : Nat → Nat → Int32) (k k' : Nat) (z : Int) : gi (si X 110 k z) 77 k' = gi X 77 k' := gi_cell _ _ _ _ (by decide)
theorem gq_110_86 (X : Nat → Nat → Int32) (k k' : Nat) (z : Int) : gi (si X 110 k z) 86 k' = gi X 86 k' := gi_cell _ _ _ _ (by decide)
theorem gq_111_75 (X : Nat → Nat → Int32) (k k' : Nat) (z : Int) : gi (si X 111 k z) 75 k' = gi X 75 k' := gi_cell _ _ _ _ (by decide)
theorem gq_111_74 (X : Nat → Nat → Int32) (k k' : Nat) (z : Int) : gi (si X 111 k z) 74 k' = gi X 74 k' := gi_cell _ _ _ _ (by decide)
theorem gq_111_77 (X : Nat → Nat → Int32) (k k' : Nat) (z : Int) : gi (si X 111 k z) 77 k' = gi X 77 k' := gi_cell _ _ _ _ (by decide)
theorem gq_111_86 (X : Nat → Nat → Int32) (k k' : Nat) (z : Int) : gi (si X 111 k z) 86 k' = gi X 86 k' := gi_cell _ _ _ _ (by decide)
theorem gq_112_75 (X : Nat → Nat → Int32) (k k' : Nat) (z : Int) : gi (si X 112 k z) 75 k' = gi X 75 k' := gi_cell _ _ _ _ (by decide)
theorem gq_112_74 (X : Nat → Nat → Int32) (k k' : Nat) (z : Int) : gi (si X 112 k z) 74 k' = gi X 74 k' := gi_cell _ _ _ _ (by decide)
theorem gq_112_77 (X : Nat → Nat → Int32) (k k' : Nat) (z : Int) : gi (si X 112 k z) 77 k' = gi X 77 k' := gi_cell _ _ _ _ (by decide)
theorem gq_112_86 (X : Nat → Nat → Int32) (k k' : Nat) (z : Int) : gi (si X 112 k z) 86 k' = gi X 86 k' := gi_cell _ _ _ _ (by decide)
theorem gq_113_75 (X : Nat → Nat → Int32) (k k' : Nat) (z : Int) : gi (si X 113 k z) 75 k' = gi X 75 k' := gi_cell _ _ _ _ (by decide)
theorem gq_113_74 (X : Nat → Nat → Int32) (k k' : Nat) (z : Int) : gi (si X 113 k z) 74 k' = gi X 74 k' := gi_cell _ _ _ _ (by decide)
theorem gq_113_77 (X : Nat → Nat → Int32) (k k' : Nat) (z : Int) : gi (si X 113 k z) 77 k' = gi X 77 k' := gi_cell _ _ _ _ (by decide)
theorem gq_113_86 (X : Nat → Nat → Int32) (k k' : Nat) (z : Int) : gi (si X 113 k z) 86 k' = gi X 86 k' := gi_cell _ _ _ _ (by decide)
theorem gq_114_75 (X : Nat → Nat → Int32) (k k' : Nat) (z : Int) : gi (si X 114 k z) 75 k' = gi X 75 k' := gi_cell _ _ _ _ (by decide)
theorem gq_114_74 (X : Nat → Nat → Int32) (k k' : Nat) (z : Int) : gi (si X 114 k z) 74 k' = gi X 74 k' := gi_cell _ _ _ _ (by decide)
theorem gq_114_77 (X : Nat → Nat → Int32) (k k' : Nat) (z : Int) : gi (si X 114 k z) 77 k' = gi X 77 k' := gi_cell _ _ _ _ (by decide)
theorem gq_114_86 (X : Nat → Nat → Int32) (k k' : Nat) (z : Int) : gi (si X 114 k z) 86 k' = gi X 86 k' := gi_cell _ _ _ _ (by decide)
theorem gq_115_75 (X : Nat → Nat → Int32) (k k' : Nat) (z : Int) : gi (si X 115 k z) 75 k' = gi X 75 k' := gi_cell _ _ _ _ (by decide)
theorem gq_115_74 (X : Nat → Nat → Int32) (k k' : Nat) (z : Int) : gi (si X 115 k z) 74 k' = gi X 74 k' := gi_cell _ _ _ _ (by decide)
theorem gq_115_77 (X : Nat → Nat → Int32) (k k' : Nat) (z : Int) : gi (si X 115 k z) 77 k' = gi X 77 k' := gi_cell _ _ _ _ (by decide)
theorem gq_115_86 (X : Nat → Nat → Int32) (k k' : Nat) (z : Int) : gi (si X 115 k z) 86 k' = gi X 86 k' := gi_cell _ _ _ _ (by decide)
theorem twb {h l : Int} (hh : 0 ≤ h ∧ h ≤ 255) (hl : 0 ≤ l ∧ l ≤ 255) : or32 (shl32 h 8) l = 256 * h + l := by
  have k8 : ∀ q : Nat, q < 256 → shl32 (q : Int) 8 = ((256 * q : Nat) : Int) := by decide +kernel
  have e1 : shl32 h 8 = ((256 * h.toNat : Nat) : Int) := by
    have := k8 h.toNat (by omega)
    rwa [Int.toNat_of_nonneg hh.1] at this
  have e2 : l = ((l.toNat : Nat) : Int) := (Int.toNat_of_nonneg hl.1).symm
  have e3 : 2 ^ 8 * h.toNat ||| l.toNat = 2 ^ 8 * h.toNat + l.toNat := (Nat.two_pow_add_eq_or_of_lt (i := 8) (by omega) _).symm
  have e4 : or32 ((256 * h.toNat : Nat) : Int) ((l.toNat : Nat) : Int) = ((256 * h.toNat ||| l.toNat : Nat) : Int) := or32_nat (by omega) (by omega)
  have e5 : 256 * h.toNat ||| l.toNat = 256 * h.toNat + l.toNat := e3
  rw [e1, e2, e4, e5]
  omega
def TpR (I : Nat → Nat → Int32) (T : Nat → Int) (n : Nat) : Prop := n ≤ 1600 ∧ ∀ j : Nat, j < n → gi I 75 j = T j ∧ 0 ≤ T j ∧ T j ≤ 255
def RecR (I : Nat → Nat → Int32) (T : Nat → Int) (r a : Nat) : Prop := gi I 110 (6 + r) = T a ∧ gi I 111 (6 + r) = w2 T (a + 1) ∧ gi I 112 (6 + r) = w2 T (a + 3) ∧ gi I 113 (6 + r) = T (a + 5) - 1 ∧ gi I 114 (6 + r) = w2 T (a + 6) ∧ gi I 115 (6 + r) = T (a + 8) ∧ ∀ j : Nat, (j : Int) < T (a + 8) → gi I 116 (8 * (6 + r) + j) = T (a + 9 + j)
def lfO (T : Nat → Int) (a : Nat) : Prop := T (a + 5) - 1 = -1 ∧ w2 T (a + 6) = 0 ∨ (1 ≤ w2 T (a + 6) ∧ w2 T (a + 6) ≤ 499) ∧ ∃ k : Nat, k < (T (a + 8)).toNat ∧ T (a + 9 + k) = T (a + 5) - 1
def frR (r c k : Nat) : Prop := (110 ≤ c ∧ c ≤ 115 ∧ k = 6 + r) ∨ (c = 116 ∧ 8 * (6 + r) ≤ k ∧ k < 8 * (6 + r) + 8)
theorem S_X12_rdOn {k : Nat} {P : Option Nat} {I : Nat → Nat → Int32} {J : Nat → Nat → Int64} {Q : Option AV → Mem → Prop} {L : Lb} {R : Rl} {T : Nat → Int} {n a r : Nat} (hk : 3 ≤ k) (hX : RL I L R) (hT : TpR I T n) (hn5 : 5 ≤ n) (ha : a ≤ n - 1) (hr : r < 6)
    (hQ : ∀ I' v, (∀ c k : Nat, ¬ frR r c k → I' c k = I c k) → (v = -1 ∧ ¬ onO L T (n - 1) a ∨ onO L T (n - 1) a ∧ v = (a : Int) + 9 + T (a + 8) ∧ RecR I' T r a) → Q (some (vI v)) (mem (rv0 P) I' J)) : WPm k LAY m_X12_readerOn [vR (some 74), vI (r : Int), vI (a : Int), vI ((n : Int) - 1)] (mem (rv0 P) I J) Q := by
  have hL := hX.2.2.2.2.1
  have hP := hL.2.1
  have hT5 := hL.2.2.2.1
  have hbk := hX.2.2.2.1
  have h16 := hT.1
  have hpos := Nat.two_pow_pos (nP L).toNat
  have hp14 := pow_le14 (p := (nP L).toNat) (by omega)
  have eP : gi I 77 (gi I 74 13).toNat = nP L := by rw [← hX.1]; rfl
  have eT : gi I 86 (gi I 74 13).toNat = nT L := by rw [← hX.1]; rfl
  have no0 : ¬ onO L T (n - 1) a → Q (some (vI (-1))) (mem (P, some 5, some 22) I J) := fun h => hQ I (-1) (fun _ _ _ => rfl) (Or.inl ⟨rfl, h⟩)
  refine WPm.of k_X12_readerOn.1 (Nat.le_of_ble_eq_true rfl) (B_X12_readerOn_0 (by omega) ?_)
  simp only [gq_110_75, gq_110_74, gq_110_77, gq_110_86, gq_111_75, gq_111_74, gq_111_77, gq_111_86, gq_112_75, gq_112_74, gq_112_77, gq_112_86, gq_113_75, gq_113_74, gq_113_77, gq_113_86, gq_114_75, gq_114_74, gq_114_77, gq_114_86, gq_115_75, gq_115_74, gq_115_77, gq_115_86]
  rw [eP, eT, shl_p ⟨by omega, by omega⟩]
  refine ⟨⟨by omega, by omega⟩, ⟨by omega, by omega⟩, fun q => no0 (fun o => ?_), fun q => ?_⟩
  · have := o.1
    have := o.sz
    omega
  have tb : ∀ j, j < 9 → 0 ≤ T (a + j) ∧ T (a + j) ≤ 255 := fun j hj => (hT.2 (a + j) (by omega)).2
  have tg : ∀ j : Nat, j < 9 → gi I 75 ((a : Int) + (j : Int)).toNat = T (a + j) := fun j hj => by
    rw [show ((a : Int) + (j : Int)).toNat = a + j by omega]
    exact (hT.2 (a + j) (by omega)).1
  have g0 : gi I 75 ((a : Int)).toNat = T a := by
    have := tg 0 (by decide)
    rwa [show ((a : Int) + ((0 : Nat) : Int)) = (a : Int) by omega] at this
  have g1 : gi I 75 ((a : Int) + 1).toNat = T (a + 1) := tg 1 (by decide)
  have g2 : gi I 75 ((a : Int) + 1 + 1).toNat = T (a + 2) := by
    rw [show ((a : Int) + 1 + 1) = (a : Int) + ((2 : Nat) : Int) by omega]
    exact tg 2 (by decide)
  have g3 : gi I 75 ((a : Int) + 3).toNat = T (a + 3) := tg 3 (by decide)
  have g4 : gi I 75 ((a : Int) + 3 + 1).toNat = T (a + 4) := by
    rw [show ((a : Int) + 3 + 1) = (a : Int) + ((4 : Nat) : Int) by omega]
    exact tg 4 (by decide)
  have g5 : gi I 75 ((a : Int) + 5).toNat = T (a + 5) := tg 5 (by decide)
  have g6 : gi I 75 ((a : Int) + 6).toNat = T (a + 6) := tg 6 (by decide)
  have g7 : gi I 75 ((a : Int) + 6 + 1).toNat = T (a + 7) := by
    rw [show ((a : Int) + 6 + 1) = (a : Int) + ((7 : Nat) : Int) by omega]
    exact tg 7 (by decide)
  have g8 : gi I 75 ((a : Int) + 8).toNat = T (a + 8) := tg 8 (by decide)
  have t0 : 0 ≤ T a ∧ T a ≤ 255 := tb 0 (by decide)
  have t1 := tb 1 (by decide)
  have t2 := tb 2 (by decide)
  have t3 := tb 3 (by decide)
  have t4 := tb 4 (by decide)
  have t5 := tb 5 (by decide)
  have t6 := tb 6 (by decide)
  have t7 := tb 7 (by decide)
  have t8 := tb 8 (by decide)
  have w1 : w2 T (a + 1) = 256 * T (a + 1) + T (a + 2) := rfl
  have w3 : w2 T (a + 3) = 256 * T (a + 3) + T (a + 4) := rfl
  have w6 : w2 T (a + 6) = 256 * T (a + 6) + T (a + 7) := rfl
  rw [g0, g1, g2, g3, g4, g5, g6, g7, g8, twb t1 t2, twb t3 t4, twb t6 t7, ← w1, ← w3, ← w6]
  have e2 : w2 T (a + 1) = (((w2 T (a + 1)).toNat : Nat) : Int) := (Int.toNat_of_nonneg (by omega)).symm
  have e3 : w2 T (a + 3) = (((w2 T (a + 3)).toNat : Nat) : Int) := (Int.toNat_of_nonneg (by omega)).symm
  have base : or32 (w2 T (a + 1)) (w2 T (a + 3)) = (((w2 T (a + 1)).toNat ||| (w2 T (a + 3)).toNat : Nat) : Int) := by
    rw [← or32_nat (by omega) (by omega), ← e2, ← e3]
  have ander : and32 (w2 T (a + 1)) (w2 T (a + 3)) = (((w2 T (a + 1)).toNat &&& (w2 T (a + 3)).toNat : Nat) : Int) := by
    rw [← and32_nat (by omega) (by omega), ← e2, ← e3]
  rw [base, ander]
  have hiff := wfrec_iff (L := L) (s1 := T a) (s2 := w2 T (a + 1)) (s3 := w2 T (a + 3)) (s4 := T (a + 5) - 1) (s5 := w2 T (a + 6)) (s6 := T (a + 8)) (l := fun k => T (a + 9 + k.toNat)) t8.1
  have hl0 : (fun k : Nat => (fun k : Int => T (a + 9 + k.toNat)) (k : Int)) = fun k : Nat => T (a + 9 + k) := funext fun k => by
    show T (a + 9 + ((k : Int)).toNat) = T (a + 9 + k)
    rw [Int.toNat_natCast]
  rw [hl0] at hiff
  refine ⟨⟨by omega, by omega⟩, fun q2 => no0 (fun o => by have := o.sz; omega), fun q2 => ⟨⟨by omega, by omega⟩, fun q3 => ⟨⟨by omega, by omega⟩, ⟨by omega, by omega⟩, ⟨by omega, by omega⟩, ⟨by omega, by omega⟩, ⟨by omega, by omega⟩, ⟨by omega, by omega⟩, ⟨by omega, by omega⟩, ⟨by omega, by omega⟩, ⟨by omega, by omega⟩, fun y hy => ?_⟩, fun q3 => no0 (fun o => q3 (by have := o.1; omega))⟩⟩
  subst hy
  -- the record written
  have ix : ((6 : Int) + (r : Int)).toNat = 6 + r := by omega
  rw [ix]
  have hfr : ∀ c k : Nat, ¬ frR r c k → si (si (si (si (si (si I 110 (6 + r) (T a)) 111 (6 + r) (w2 T (a + 1))) 112 (6 + r) (w2 T (a + 3))) 113 (6 + r) (T (a + 5) - 1)) 114 (6 + r) (w2 T (a + 6))) 115 (6 + r) (T (a + 8)) c k = I c k := fun c k h => by
    unfold frR at h
    rw [si_at, if_neg (by omega), si_at, if_neg (by omega), si_at, if_neg (by omega), si_at, if_neg (by omega), si_at, if_neg (by omega), si_at, if_neg (by omega)]
  have z0 : gi (si (si (si (si (si (si I 110 (6 + r) (T a)) 111 (6 + r) (w2 T (a + 1))) 112 (6 + r) (w2 T (a + 3))) 113 (6 + r) (T (a + 5) - 1)) 114 (6 + r) (w2 T (a + 6))) 115 (6 + r) (T (a + 8))) 110 (6 + r) = T a := by rw [gi_cell _ _ _ _ (by decide), gi_cell _ _ _ _ (by decide), gi_cell _ _ _ _ (by decide), gi_cell _ _ _ _ (by decide), gi_cell _ _ _ _ (by decide), gi_same _ _ _ ⟨by omega, by omega⟩]
  have z1 : gi (si (si (si (si (si (si I 110 (6 + r) (T a)) 111 (6 + r) (w2 T (a + 1))) 112 (6 + r) (w2 T (a + 3))) 113 (6 + r) (T (a + 5) - 1)) 114 (6 + r) (w2 T (a + 6))) 115 (6 + r) (T (a + 8))) 111 (6 + r) = w2 T (a + 1) := by rw [gi_cell _ _ _ _ (by decide), gi_cell _ _ _ _ (by decide), gi_cell _ _ _ _ (by decide), gi_cell _ _ _ _ (by decide), gi_same _ _ _ ⟨by omega, by omega⟩]
  have z2 : gi (si (si (si (si (si (si I 110 (6 + r) (T a)) 111 (6 + r) (w2 T (a + 1))) 112 (6 + r) (w2 T (a + 3))) 113 (6 + r) (T (a + 5) - 1)) 114 (6 + r) (w2 T (a + 6))) 115 (6 + r) (T (a + 8))) 112 (6 + r) = w2 T (a + 3) := by rw [gi_cell _ _ _ _ (by decide), gi_cell _ _ _ _ (by decide), gi_cell _ _ _ _ (by decide), gi_same _ _ _ ⟨by omega, by omega⟩]
  have z3 : gi (si (si (si (si (si (si I 110 (6 + r) (T a)) 111 (6 + r) (w2 T (a + 1))) 112 (6 + r) (w2 T (a + 3))) 113 (6 + r) (T (a + 5) - 1)) 114 (6 + r) (w2 T (a + 6))) 115 (6 + r) (T (a + 8))) 113 (6 + r) = T (a + 5) - 1 := by rw [gi_cell _ _ _ _ (by decide), gi_cell _ _ _ _ (by decide), gi_same _ _ _ ⟨by omega, by omega⟩]
  have z4 : gi (si (si (si (si (si (si I 110 (6 + r) (T a)) 111 (6 + r) (w2 T (a + 1))) 112 (6 + r) (w2 T (a + 3))) 113 (6 + r) (T (a + 5) - 1)) 114 (6 + r) (w2 T (a + 6))) 115 (6 + r) (T (a + 8))) 114 (6 + r) = w2 T (a + 6) := by rw [gi_cell _ _ _ _ (by decide), gi_same _ _ _ ⟨by omega, by omega⟩]
  have z5 : gi (si (si (si (si (si (si I 110 (6 + r) (T a)) 111 (6 + r) (w2 T (a + 1))) 112 (6 + r) (w2 T (a + 3))) 113 (6 + r) (T (a + 5) - 1)) 114 (6 + r) (w2 T (a + 6))) 115 (6 + r) (T (a + 8))) 115 (6 + r) = T (a + 8) := gi_same _ _ _ ⟨by omega, by omega⟩
  generalize si (si (si (si (si (si I 110 (6 + r) (T a)) 111 (6 + r) (w2 T (a + 1))) 112 (6 + r) (w2 T (a + 3))) 113 (6 + r) (T (a + 5) - 1)) 114 (6 + r) (w2 T (a + 6))) 115 (6 + r) (T (a + 8)) = Iz at hfr z0 z1 z2 z3 z4 z5 ⊢
  have noz : ∀ I' : Nat → Nat → Int32, (∀ c k : Nat, ¬ frR r c k → I' c k = I c k) → ¬ onO L T (n - 1) a → Q (some (vI (-1))) (mem (P, some 5, some 22) I' J) := fun I' h1 h2 => hQ I' (-1) h1 (Or.inl ⟨rfl, h2⟩)
  clear g0 g1 g2 g3 g4 g5 g6 g7 g8 tg tb hl0 base ander no0 w1 w3 t1 t2 t3 t4
  refine ⟨hbk, fun q4 => B_X12_readerOn_202 (by omega) (noz Iz hfr (fun o => q4 (hiff.mp o.2).1)), fun q4 => ⟨fun q5 => B_X12_readerOn_202 (by omega) (noz Iz hfr (fun o => q5 (by rw [(hiff.mp o.2).2.2.2.1]; rfl))), fun q5 => ⟨hbk, fun q6 => ?_, fun q6 => B_X12_readerOn_202 (by omega) (noz Iz hfr (fun o => q6 ?_))⟩⟩⟩
  · have dj : (w2 T (a + 1)).toNat &&& (w2 T (a + 3)).toNat = 0 := Int.natCast_eq_zero.mp q5
    have kor : (w2 T (a + 1)).toNat ||| (w2 T (a + 3)).toNat < 2 ^ (nP L).toNat := by omega
    have k2 : (w2 T (a + 1)).toNat < 2 ^ (nP L).toNat := Nat.lt_of_le_of_lt Nat.left_le_or kor
    have k3 : (w2 T (a + 3)).toNat < 2 ^ (nP L).toNat := Nat.lt_of_le_of_lt Nat.right_le_or kor
    have p2 : 0 ≤ w2 T (a + 1) := by omega
    have p3 : 0 ≤ w2 T (a + 3) := by omega
    have hb14 : (w2 T (a + 1)).toNat ||| (w2 T (a + 3)).toNat < 16384 := by omega
    have loop : ∀ (d j : Nat) (x lb : Int) (I2 : Nat → Nat → Int32), j + d = (T (a + 8)).toNat → x = j → lb = ((tkO 0 (fun k => T (a + 9 + k)) j : Nat) : Int) → lsOk L ((w2 T (a + 1)).toNat ||| (w2 T (a + 3)).toNat) (fun k => T (a + 9 + k)) j → (∀ c k : Nat, ¬ frR r c k → I2 c k = I c k) → (∀ c, 110 ≤ c ∧ c ≤ 115 → gi I2 c (6 + r) = gi Iz c (6 + r)) → (∀ i : Nat, i < j → gi I2 116 (8 * (6 + r) + i) = T (a + 9 + i)) → WP k LAY m_X12_readerOn 210 [(0, vR (some 74)), (2, vI (a : Int)), (4, vI (6 + (r : Int))), (5, vI (((w2 T (a + 1)).toNat ||| (w2 T (a + 3)).toNat : Nat) : Int)), (6, vI lb), (7, vI x)] [] (mem (P, some 5, some 22) I2 J) Q := by
      intro d
      induction d with
      | zero =>
        intro j x lb I2 hj hx hlb hls hf2 h115 hli
        subst hlb
        have ej : j = (T (a + 8)).toNat := by omega
        have ij : ∀ i : Nat, (i : Int) < T (a + 8) → i < j := fun i hi => by omega
        have f3 : gi I2 113 (6 + r) = T (a + 5) - 1 := (h115 113 (by decide)).trans z3
        have f4 : gi I2 114 (6 + r) = w2 T (a + 6) := (h115 114 (by decide)).trans z4
        have f5 : gi I2 115 (6 + r) = T (a + 8) := (h115 115 (by decide)).trans z5
        have htl := tkO_lt (base := 0) (l := fun k => T (a + 9 + k)) (by decide) j (fun i hi => by have b1 : 0 ≤ T (a + 9 + i) ∧ T (a + 9 + i) < nP L := (hls i hi).1; show 0 ≤ T (a + 9 + i) ∧ T (a + 9 + i) < 14; omega)
        have len : (a : Int) + 9 + T (a + 8) ≤ ((n - 1 : Nat) : Int) := by
          clear hiff
          omega
        have lst : onO L T (n - 1) a → lfO T a := fun o => by
          rcases (hiff.mp o.2).2.2.2.2.2.2 with hl | ⟨hl, i, i1, i2⟩
          · exact Or.inl hl
          · exact Or.inr ⟨hl, i, i1, by rw [Int.toNat_natCast] at i2; exact i2⟩
        have lrg : ∀ i, i < (T (a + 8)).toNat → 0 ≤ T (a + 9 + i) ∧ T (a + 9 + i) < 14 := fun i hi => by
          have b1 : 0 ≤ T (a + 9 + i) ∧ T (a + 9 + i) < nP L := (hls i (by omega)).1
          omega
        have yes : lfO T a → WP k LAY m_X12_readerOn 360 [(0, vR (some 74)), (2, vI (a : Int)), (4, vI (6 + (r : Int)))] [] (mem (P, some 5, some 22) I2 J) Q := by
          intro hl
          refine B_X12_readerOn_360 (by omega) ⟨⟨by omega, by omega⟩, ?_⟩
          rw [ix, f5]
          refine hQ I2 _ hf2 (Or.inr ⟨⟨len, hiff.mpr ⟨q4, ⟨p2, k2⟩, ⟨p3, k3⟩, dj, Int.not_lt.mp q2, by rw [← ej]; exact hls, ?_⟩⟩, rfl, (h115 110 (by decide)).trans z0, (h115 111 (by decide)).trans z1, (h115 112 (by decide)).trans z2, f3, f4, f5, fun i hi => hli i (ij i hi)⟩)
          rcases hl with hl | ⟨hl, i, i1, i2⟩
          · exact Or.inl hl
          · exact Or.inr ⟨hl, i, i1, by rw [Int.toNat_natCast]; exact i2⟩
        refine B_X12_readerOn_210 (by omega) ?_
        rw [ix, f3, f4, f5]
        refine ⟨⟨by omega, by omega⟩, ⟨by omega, by omega⟩, fun _ => ⟨fun s1 => ⟨fun s2 => noz I2 hf2 (fun o => ?_), fun s2 => ?_⟩, fun s1 => ⟨fun s2 => yes (Or.inl ⟨s1, s2⟩), fun s2 => noz I2 hf2 (fun o => ?_)⟩⟩, fun w => absurd w (by omega)⟩
        · rcases lst o with t | ⟨-, i, i1, i2⟩
          · exact s1 t.1
          · have := lrg i i1
            omega
        · have hbt := has_iff (x := tkO 0 (fun k => T (a + 9 + k)) j) (by omega) (k := (T (a + 5) - 1).toNat) (by omega)
          rw [Int.toNat_of_nonneg (show 0 ≤ T (a + 5) - 1 by omega), tkO_bit] at hbt
          have hex : (Nat.testBit 0 (T (a + 5) - 1).toNat = true ∨ ∃ i, i < j ∧ (T (a + 9 + i)).toNat = (T (a + 5) - 1).toNat) ↔ ∃ i, i < (T (a + 8)).toNat ∧ T (a + 9 + i) = T (a + 5) - 1 := by
            rw [Nat.zero_testBit, ← ej]
            constructor
            · rintro (t | ⟨i, i1, i2⟩)
              · exact Bool.noConfusion t
              · have := lrg i (by rw [← ej]; exact i1)
                exact ⟨i, i1, by omega⟩
            · rintro ⟨i, i1, i2⟩
              exact Or.inr ⟨i, i1, by rw [i2]⟩
          have hbt2 := hbt.trans hex
          rw [hbt2]
          refine ⟨fun s3 => noz I2 hf2 (fun o => ?_), fun s3 => ⟨fun s4 => yes (Or.inr ⟨s4, s3⟩), fun s4 => noz I2 hf2 (fun o => ?_)⟩⟩
          · rcases lst o with t | ⟨-, t⟩
            · exact s1 t.1
            · exact s3 t
          · rcases lst o with t | ⟨t, -⟩
            · exact s1 t.1
            · exact s4 t
        · rcases lst o with t | ⟨-, i, i1, i2⟩
          · exact s2 t.2
          · have := lrg i i1
            omega
      | succ d ih =>
        intro j x lb I2 hj hx hlb hls hf2 h115 hli
        subst hx; subst hlb
        have f5 : gi I2 115 (6 + r) = T (a + 8) := (h115 115 (by decide)).trans z5
        have hT2 : gi I2 75 ((a : Int) + 9 + (j : Int)).toNat = T (a + 9 + j) := by
          rw [show ((a : Int) + 9 + (j : Int)).toNat = a + 9 + j by omega, gi_eq (hf2 75 _ (by unfold frR; omega))]
          exact (hT.2 (a + 9 + j) (by omega)).1
        have e13 : gi I2 74 13 = gi I 74 13 := gi_eq (hf2 74 13 (by unfold frR; omega))
        have e77 : gi I2 77 (gi I2 74 13).toNat = nP L := by
          rw [e13, gi_eq (hf2 77 _ (by unfold frR; omega))]
          exact eP
        have htl := tkO_lt (base := 0) (l := fun k => T (a + 9 + k)) (by decide) j (fun i hi => by have b1 : 0 ≤ T (a + 9 + i) ∧ T (a + 9 + i) < nP L := (hls i hi).1; show 0 ≤ T (a + 9 + i) ∧ T (a + 9 + i) < 14; omega)
        have tj := (hT.2 (a + 9 + j) (by omega)).2
        refine B_X12_readerOn_210 (by omega) ?_
        rw [ix, f5, hT2, e77, e13]
        refine ⟨⟨by omega, by omega⟩, ⟨by omega, by omega⟩, fun w => absurd w (by omega), fun _ => ⟨⟨by omega, by omega⟩, hbk, fun s1 => B_X12_readerOn_258 (by omega) (noz I2 hf2 (fun o => s1 ((hiff.mp o.2).2.2.2.2.2.1 j (by omega)).1)), fun s1 => ?_⟩⟩
        have both : (((w2 T (a + 1)).toNat ||| (w2 T (a + 3)).toNat) ||| tkO 0 (fun k => T (a + 9 + k)) j).testBit (T (a + 9 + j)).toNat = (tkO ((w2 T (a + 1)).toNat ||| (w2 T (a + 3)).toNat) (fun k => T (a + 9 + k)) j).testBit (T (a + 9 + j)).toNat := by
          refine Bool.eq_iff_iff.mpr ?_
          rw [Nat.testBit_or, Bool.or_eq_true, tkO_bit, tkO_bit, Nat.zero_testBit]
          exact ⟨fun t => t.imp id (fun u => u.elim (fun v => Bool.noConfusion v) id), fun t => t.imp id Or.inr⟩
        have hbt := has_iff (x := ((w2 T (a + 1)).toNat ||| (w2 T (a + 3)).toNat) ||| tkO 0 (fun k => T (a + 9 + k)) j) (by have := or_lt14 (n := 14) hb14 htl; omega) (k := (T (a + 9 + j)).toNat) (by omega)
        rw [Int.toNat_of_nonneg s1.1, both] at hbt
        rw [or32_nat (by omega) (by omega), hbt]
        refine ⟨fun s2 => ⟨⟨by omega, by omega⟩, ?_⟩, fun s2 => B_X12_readerOn_258 (by omega) (noz I2 hf2 (fun o => ?_))⟩
        · have hls2 : lsOk L ((w2 T (a + 1)).toNat ||| (w2 T (a + 3)).toNat) (fun k => T (a + 9 + k)) (j + 1) := hls.up s1 (by
            cases h : (tkO ((w2 T (a + 1)).toNat ||| (w2 T (a + 3)).toNat) (fun k => T (a + 9 + k)) j).testBit (T (a + 9 + j)).toNat
            · rfl
            · exact absurd h s2)
          have ntk : or32 ((tkO 0 (fun k => T (a + 9 + k)) j : Nat) : Int) (shl32 1 (T (a + 9 + j))) = ((tkO 0 (fun k => T (a + 9 + k)) (j + 1) : Nat) : Int) := by
            have := or_pow (a := tkO 0 (fun k => T (a + 9 + k)) j) (p := (T (a + 9 + j)).toNat) (by omega) (by omega)
            rw [Int.toNat_of_nonneg s1.1] at this
            exact this
          refine ih (j + 1) _ _ _ (by omega) rfl ntk hls2 (fun c k h => ?_) (fun c hc => ?_) (fun i hi => ?_)
          · unfold frR at h
            rw [si_at, if_neg (by omega)]
            exact hf2 c k (by unfold frR; exact h)
          · rw [gi_cell _ _ _ _ (by omega)]
            exact h115 c hc
          · by_cases e : i = j
            · rw [e, show 8 * (6 + r) + j = ((8 * (6 + (r : Int))) + (j : Int)).toNat by omega]
              exact gi_same _ _ _ ⟨by omega, by omega⟩
            · rw [gi_idx _ _ _ (by omega)]
              exact hli i (by omega)
        · have := lsOk.no (hiff.mp o.2).2.2.2.2.2.1 (show j < (T (a + 8)).toNat by omega)
          rw [this] at s2
          exact Bool.noConfusion s2
    exact loop (T (a + 8)).toNat 0 0 0 Iz (Nat.zero_add _) rfl rfl (fun i hi => absurd hi (Nat.not_lt_zero _)) hfr (fun _ _ => rfl) (fun i hi => absurd hi (Nat.not_lt_zero _))
  · have h := hiff.mp o.2
    have := or_lt14 h.2.1.2 h.2.2.1.2
    omega
end ONREFS

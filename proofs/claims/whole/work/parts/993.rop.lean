section ROP
/-! ===== the reference reads a value's beginning ===== -/
def fst (I : Nat → Nat → Int32) (T : Nat → Int) (n p f : Nat) : Prop := ¬ (gi I 101 f = 1 ∨ gi I 101 f = 5) ∨ gi I 103 f = 0 ∨ ¬ (bd T n p = -1 ∧ (wd T n p 21 ∨ sgn T n p 91 ∨ wd T n p 22))
theorem op_bad {k : Nat} {P : Option Nat} {I : Nat → Nat → Int32} {J : Nat → Nat → Int64} {Q : Option AV → Mem → Prop} {T : Nat → Int} {n p : Nat} (hk : 2 ≤ k) (hT : RT I J T n p) (h8 : gi I 74 8 = 0) (hb : bd T n p ≠ -1) (h : Q (some (vI 1)) (mem (P, some 5, some 22) (si (si I 74 8 1) 74 9 (gi I 74 12)) J)) : WPm k LAY m_X12_operand [vR (some 74)] (mem (P, some 5, some 22) I J) Q := by
  have h12 := hT.2.2.2.2.1
  exact WPm.of k_X12_operand.1 (Nat.le_of_ble_eq_true rfl) (B_X12_operand_0 hk ⟨fun c => absurd (h12.symm.trans c) hb, fun _ => ⟨fun _ => h, fun c => absurd (by omega) c⟩⟩)
theorem op_in {k : Nat} {P : Option Nat} {I : Nat → Nat → Int32} {J : Nat → Nat → Int64} {Q : Option AV → Mem → Prop} {T : Nat → Int} {n p f : Nat} (hk : 2 ≤ k) (hT : RT I J T n p) (h8 : gi I 74 8 = 0) (h46 : gi I 74 46 = ((f + 1 : Nat) : Int)) (hf : f < 20) (hb : bd T n p = -1) (h : ∀ s : Int, (s = 1 ∧ (gi I 101 f = 1 ∨ gi I 101 f = 5) ∧ gi I 103 f ≠ 0) ∨ (s = 0 ∧ ¬ ((gi I 101 f = 1 ∨ gi I 101 f = 5) ∧ gi I 103 f ≠ 0)) → WP k LAY m_X12_operand 46 [(0, vR (some 74)), (1, vI (f : Int))] [vI s] (mem (P, some 5, some 22) I J) Q) : WPm k LAY m_X12_operand [vR (some 74)] (mem (P, some 5, some 22) I J) Q := by
  have h12 : gi I 74 12 = -1 := by rw [hT.2.2.2.2.1, hb]
  refine WPm.of k_X12_operand.1 (Nat.le_of_ble_eq_true rfl) (B_X12_operand_0 hk ?_)
  rw [h46, show ((f + 1 : Nat) : Int) - 1 = (f : Int) by omega, Int.toNat_natCast]
  exact ⟨fun _ => ⟨fun _ => ⟨by omega, fun c => h 0 (Or.inr ⟨rfl, fun q => c q.1⟩), fun c => ⟨fun c2 => h 0 (Or.inr ⟨rfl, fun q => q.2 c2⟩), fun c2 => h 1 (Or.inl ⟨rfl, c, c2⟩)⟩⟩, fun c => absurd (by omega) c⟩, fun c => absurd h12 c⟩
theorem op_171 {k : Nat} {P : Option Nat} {I : Nat → Nat → Int32} {J : Nat → Nat → Int64} {Q : Option AV → Mem → Prop} {T : Nat → Int} {n p f : Nat} (hk : 2 ≤ k) (hp : p ≤ n) (hT : RT I J T n p) (h8 : gi I 74 8 = 0) (h46 : gi I 74 46 = ((f + 1 : Nat) : Int)) (hf : f < 20) (hb : bd T n p = -1) (hfs : fst I T n p f) (h : WP k LAY m_X12_operand 171 [(0, vR (some 74))] [] (mem (P, some 5, some 22) (si I 103 f 0) J) Q) : WPm k LAY m_X12_operand [vR (some 74)] (mem (P, some 5, some 22) I J) Q := by
  have w21 : (gi I 74 3 = 1 ∧ gl J 74 7 = 7237492) ↔ wd T n p 21 := hT.w hp (w := 21) (by decide) (by decide +kernel)
  have w22 : (gi I 74 3 = 1 ∧ gl J 74 7 = 6384748) ↔ wd T n p 22 := hT.w hp (w := 22) (by decide) (by decide +kernel)
  refine op_in hk hT h8 h46 hf hb (fun s hs => ?_)
  have fin : ∀ x2 : Int, inR x2 → (x2 = 0 ∨ ¬ wd T n p 22) → WP k LAY m_X12_operand 137 [(0, vR (some 74)), (1, vI (f : Int)), (2, vI x2)] [] (mem (P, some 5, some 22) (si I 103 f 0) J) Q := fun x2 hx q => by
    refine B_X12_operand_137 (by omega) ⟨hx, fun _ => h, fun c => ⟨fun _ => h, fun c2 => ?_⟩⟩
    rw [gi_cell _ _ _ _ (by decide), w22] at c2
    rcases q with q | q
    · exact absurd q c
    · exact absurd c2 q
  refine B_X12_operand_46 (by omega) ?_
  have n110 : ∀ x2 : Int, inR x2 → (x2 = 0 ∨ (¬ sgn T n p 91 ∧ ¬ wd T n p 22)) → WP k LAY m_X12_operand 110 [(0, vR (some 74)), (1, vI (f : Int)), (2, vI x2)] [] (mem (P, some 5, some 22) I J) Q := fun x2 hx q => by
    refine B_X12_operand_110 (by omega) ⟨by omega, hx, ?_⟩
    rw [Int.toNat_natCast, gi_cell _ _ _ _ (by decide), gi_cell _ _ _ _ (by decide), hT.s 91]
    refine ⟨fun c => fin x2 hx (Or.inl c), fun c => ⟨fun c2 => fin x2 hx (Or.inr (q.elim (fun t => absurd t c) (fun t => t.2))), fun c2 => ?_⟩⟩
    rcases q with q | q
    · exact absurd q c
    · exact absurd c2 q.1
  rcases hs with ⟨rfl, a, b⟩ | ⟨rfl, -⟩
  · rcases hfs with q | q | q
    · exact absurd a q
    · exact absurd q b
    · refine ⟨by decide, fun c => absurd c (by decide), fun _ => ⟨fun _ => n110 1 (by decide) (Or.inr ⟨fun t => q ⟨hb, Or.inr (Or.inl t)⟩, fun t => q ⟨hb, Or.inr (Or.inr t)⟩⟩), fun c => absurd ⟨hb, Or.inl (w21.mp c)⟩ q⟩⟩
  · exact ⟨by decide, fun _ => n110 0 (by decide) (Or.inl rfl), fun c => absurd rfl c⟩
/-- a code and the next token -/
theorem leafR {I I3 : Nat → Nat → Int32} {J J3 : Nat → Nat → Int64} {T : Nat → Int} {n p b f o m cd : Nat} {s v z : Int} (hX : TX T n) (hS : RS I J T n p b f o m cd) (h0 : p < tE T n p) (hn : tE T n p ≤ n) (hcm : cd + m ≤ p) (hb : b < 2) (ho : o ≤ 7) (is : inR s) (iv : inR v) (hz : enc s v = z) (hbe : gi I 103 f = 0) (hT3 : RT I3 J3 T n (tE T n p)) (hF3 : Fr [] FLr (si (si (si I 95 (1600 * b + cd) s) 96 (1600 * b + cd) v) 74 39 ((cd : Int) + 1)) I3) : RA (si I3 74 50 1) J3 T n (tE T n p) b f o m cd 7 [z] ∧ RK I (si I3 74 50 1) f m (1600 * b + cd) (1600 * b + 1600) ∧ gi (si I3 74 50 1) 102 f = gi I 102 f := by
  have hn1 := hX.1
  have hF4 : Fr [] FLq (si (si (si I 95 (1600 * b + cd) s) 96 (1600 * b + cd) v) 74 39 ((cd : Int) + 1)) (si I3 74 50 1) := hF3.q.up 74 50 _ (Or.inr (by decide))
  have hF5 : Fr [] [(74, 50)] I3 (si I3 74 50 1) := (Fr.rf _ _ _).up 74 50 _ (Or.inr (by decide))
  have hFA : Fr [95, 96] [(74, 39)] I (si (si (si I 95 (1600 * b + cd) s) 96 (1600 * b + cd) v) 74 39 ((cd : Int) + 1)) := (((Fr.rf _ _ _).up 95 _ _ (Or.inl (by decide))).up 96 _ _ (Or.inl (by decide))).up 74 39 _ (Or.inr (by decide))
  have e1 : ∀ j, (74, j) ∉ FLr → j ≠ 50 → j ≠ 39 → gi (si I3 74 50 1) 74 j = gi I 74 j := fun j hj h50 h39 => by rw [gi_idx _ _ _ h50, hF3.gv 74 j (by decide) hj, gi_idx _ _ _ h39, gi_cell _ _ _ _ (by decide), gi_cell _ _ _ _ (by decide)]
  have g8 : gi (si I3 74 50 1) 74 8 = 0 := by rw [e1 8 (by decide) (by decide) (by decide)]; exact hS.2.1
  have e95 : ∀ i, gi (si I3 74 50 1) 95 i = if i = 1600 * b + cd then s else gi I 95 i := fun i => by
    rw [hF4.gvc i (by decide) (by decide), gi_cell _ _ _ _ (by decide), gi_cell _ _ _ _ (by decide), gi_si _ _ _ _ _ is]
    by_cases e : i = 1600 * b + cd
    · rw [if_pos ⟨rfl, e⟩, if_pos e]
    · rw [if_neg (fun t => e t.2), if_neg e]
  have e96 : ∀ i, gi (si I3 74 50 1) 96 i = if i = 1600 * b + cd then v else gi I 96 i := fun i => by
    rw [hF4.gvc i (by decide) (by decide), gi_cell _ _ _ _ (by decide), gi_si _ _ _ _ _ iv, gi_cell _ _ _ _ (by decide)]
    by_cases e : i = 1600 * b + cd
    · rw [if_pos ⟨rfl, e⟩, if_pos e]
    · rw [if_neg (fun t => e t.2), if_neg e]
  have eo : ∀ c i, c ≠ 95 → c ≠ 96 → c ≠ 74 → gi (si I3 74 50 1) c i = gi I c i := fun c i h1 h2 h3 => by rw [gi_cell _ _ _ _ h3, hF3.gvc i (fun t => by cases t) (fun q hq => by
      simp only [List.mem_cons, List.not_mem_nil, or_false] at hq
      rcases hq with e | e | e | e | e <;> subst e <;> exact fun t => h3 t.symm), gi_cell _ _ _ _ h3, gi_cell _ _ _ _ h2, gi_cell _ _ _ _ h1]
  refine ⟨⟨[z], [], (List.append_nil _).symm, fun x hx => (by cases hx), ⟨hT3.fr hF5 (by decide) (by decide) rfl, g8, ?_, ?_, ?_, ?_, ?_⟩, trivial, ⟨?_, trivial⟩, ?_, ?_, hn, ?_, ?_, ho⟩, ⟨⟨?_, fun i q => ?_⟩, fun i _ => ⟨eo _ _ (by decide) (by decide) (by decide), eo _ _ (by decide) (by decide) (by decide), eo _ _ (by decide) (by decide) (by decide)⟩, fun i _ => ⟨eo _ _ (by decide) (by decide) (by decide), eo _ _ (by decide) (by decide) (by decide)⟩, fun i _ => eo _ _ (by decide) (by decide) (by decide)⟩, eo _ _ (by decide) (by decide) (by decide)⟩
  · rw [e1 40 (by decide) (by decide) (by decide)]; exact hS.2.2.1
  · rw [e1 46 (by decide) (by decide) (by decide)]; exact hS.2.2.2.1
  · rw [e1 47 (by decide) (by decide) (by decide)]; exact hS.2.2.2.2.1
  · rw [e1 49 (by decide) (by decide) (by decide)]; exact hS.2.2.2.2.2.1
  · rw [gi_idx _ _ _ (by decide), hF3.gv 74 39 (by decide) (by decide), gi_si _ _ _ _ _ (by unfold inR; omega), if_pos ⟨rfl, rfl⟩]
    rfl
  · unfold encR
    rw [e95, e96, if_pos rfl, if_pos rfl]
    exact hz
  · rw [gi_si _ _ _ _ _ (by decide), if_pos ⟨rfl, rfl⟩]
  · rw [eo _ _ (by decide) (by decide) (by decide)]; exact hbe
  · show cd + m + 1 ≤ tE T n p
    omega
  · show ((0 : Nat) : Int) + 7 ≤ ((0 : Nat) : Int) + 7
    omega
  · refine Fr.tr (hFA.mono (fun t ht => by
      simp only [List.mem_cons, List.not_mem_nil, or_false] at ht ⊢
      rcases ht with e | e <;> subst e <;> simp) (fun q hq => Or.inl (by
      simp only [List.mem_cons, List.not_mem_nil, or_false] at hq ⊢
      subst hq
      simp))) (hF4.mono (fun t ht => by cases ht) (fun q hq => Or.inl hq))
  · rw [e95, e96, if_neg (by omega), if_neg (by omega)]
    exact ⟨rfl, rfl⟩
/-- what begins a frame -/
def RB0 (I I' : Nat → Nat → Int32) (J J' : Nat → Nat → Int64) (T : Nat → Int) (n p b f o m cd : Nat) (kd : Int) : Prop := RS I' J' T n p b (f + 1) (o + 1) m cd ∧ gi I' 101 (f + 1) = kd ∧ gi I' 102 (f + 1) = 0 ∧ gi I' 103 (f + 1) = 1 ∧ gi I' 105 (f + 1) = (m : Int) ∧ (∀ w hi, RFq I I' f m w hi) ∧ (∀ i, encR I' i = encR I i) ∧ gi I' 74 50 = gi I 74 50 ∧ Fr [] [(74, 7)] J J'
theorem S_opens {k : Nat} {P : Option Nat} {I : Nat → Nat → Int32} {J : Nat → Nat → Int64} {Q : Option AV → Mem → Prop} {T : Nat → Int} {n p b f o m cd : Nat} {kd : Int} (hk : 7 ≤ k) (hX : TX T n) (hp : p ≤ n) (hkd : inR kd) (hS : RS I J T n p b f o m cd) (hf : f ≤ o) (ho : o ≤ 7) (hm : m ≤ 60) (h7 : o = 7 → Q none (mem (P, some 5, some 22) (si (si I 74 8 5) 74 9 (gi I 74 4)) J)) (h : o < 7 → ∀ I' J', RB0 I I' J J' T n (tE T n p) b f o m cd kd → Q none (mem (P, some 5, some 22) I' J')) : WPm k LAY m_X12_opens [vR (some 74), vI kd] (mem (P, some 5, some 22) I J) Q := by
  obtain ⟨hT, h8, h40, h46, h47, h49, h39⟩ := hS
  refine WPm.of k_X12_opens.1 (Nat.le_of_ble_eq_true rfl) (B_X12_opens_0 (by omega) ?_)
  rw [h47]
  refine ⟨fun c => ⟨fun _ => ?_, fun q => absurd (by omega) q⟩, fun c => ⟨fun _ => h7 (by omega), fun q => absurd (by omega) q⟩⟩
  have hF1 : Fr [] [(74, 47)] I (si I 74 47 ((o : Int) + 1)) := (Fr.rf _ _ _).up 74 47 _ (Or.inr (by decide))
  refine ahead_of (by omega) hX hp (hT.fr hF1 (by decide) (by decide) rfl) (fun I2 J2 hT2 hF2 hJ2 => ⟨_, _, rfl, rfl, ?_⟩)
  dsimp only
  have e46 : gi I2 74 46 = ((f + 1 : Nat) : Int) := by rw [hF2.gv 74 46 (by decide) (by decide), gi_idx _ _ _ (by decide), h46]
  have e49 : gi I2 74 49 = (m : Int) := by rw [hF2.gv 74 49 (by decide) (by decide), gi_idx _ _ _ (by decide), h49]
  rw [e46, e49, Int.toNat_natCast]
  refine ⟨by omega, h (by omega) _ _ ?_⟩
  have eo : ∀ c i, c ≠ 74 → gi I2 c i = gi I c i := fun c i h3 => by rw [hF2.gvc i (fun t => by cases t) (fun q hq => by
      simp only [List.mem_cons, List.not_mem_nil, or_false] at hq
      rcases hq with e | e | e | e | e <;> subst e <;> exact fun t => h3 t.symm), gi_cell _ _ _ _ h3]
  generalize hI3 : si (si (si (si (si I2 101 (f + 1) kd) 102 (f + 1) 0) 103 (f + 1) 1) 105 (f + 1) (m : Int)) 74 46 (((f + 1 : Nat) : Int) + 1) = I3
  have hF3 : Fr [101, 102, 103, 105] [(74, 46)] I2 I3 := by
    rw [← hI3]
    exact (((((Fr.rf _ _ _).up 101 _ _ (Or.inl (by decide))).up 102 _ _ (Or.inl (by decide))).up 103 _ _ (Or.inl (by decide))).up 105 _ _ (Or.inl (by decide))).up 74 46 _ (Or.inr (by decide))
  have hF0 : Fr [101, 102, 103, 105] FLq I I3 := Fr.tr (I' := I2) (Fr.tr (hF1.mono (fun t ht => by cases ht) (fun q hq => Or.inl (by
      simp only [List.mem_cons, List.not_mem_nil, or_false] at hq ⊢
      subst hq
      simp))) (hF2.q.mono (fun t ht => by cases ht) (fun q hq => Or.inl hq))) (hF3.mono (fun t ht => ht) (fun q hq => Or.inl (by
      simp only [List.mem_cons, List.not_mem_nil, or_false] at hq ⊢
      subst hq
      simp)))
  have e101 : ∀ i, gi I3 101 i = if i = f + 1 then kd else gi I 101 i := fun i => by
    rw [← hI3, gi_cell _ _ _ _ (by decide), gi_cell _ _ _ _ (by decide), gi_cell _ _ _ _ (by decide), gi_cell _ _ _ _ (by decide), gi_si _ _ _ _ _ hkd, eo _ _ (by decide)]
    by_cases e : i = f + 1
    · rw [if_pos ⟨rfl, e⟩, if_pos e]
    · rw [if_neg (fun t => e t.2), if_neg e]
  have e102 : ∀ i, gi I3 102 i = if i = f + 1 then 0 else gi I 102 i := fun i => by
    rw [← hI3, gi_cell _ _ _ _ (by decide), gi_cell _ _ _ _ (by decide), gi_cell _ _ _ _ (by decide), gi_si _ _ _ _ _ (by decide), gi_cell _ _ _ _ (by decide), eo _ _ (by decide)]
    by_cases e : i = f + 1
    · rw [if_pos ⟨rfl, e⟩, if_pos e]
    · rw [if_neg (fun t => e t.2), if_neg e]
  have e103 : ∀ i, gi I3 103 i = if i = f + 1 then 1 else gi I 103 i := fun i => by
    rw [← hI3, gi_cell _ _ _ _ (by decide), gi_cell _ _ _ _ (by decide), gi_si _ _ _ _ _ (by decide), gi_cell _ _ _ _ (by decide), gi_cell _ _ _ _ (by decide), eo _ _ (by decide)]
    by_cases e : i = f + 1
    · rw [if_pos ⟨rfl, e⟩, if_pos e]
    · rw [if_neg (fun t => e t.2), if_neg e]
  have e105 : ∀ i, gi I3 105 i = if i = f + 1 then (m : Int) else gi I 105 i := fun i => by
    rw [← hI3, gi_cell _ _ _ _ (by decide), gi_si _ _ _ _ _ (by unfold inR; omega), gi_cell _ _ _ _ (by decide), gi_cell _ _ _ _ (by decide), gi_cell _ _ _ _ (by decide), eo _ _ (by decide)]
    by_cases e : i = f + 1
    · rw [if_pos ⟨rfl, e⟩, if_pos e]
    · rw [if_neg (fun t => e t.2), if_neg e]
  refine ⟨⟨hT2.fr hF3 (by decide) (by decide) rfl, ?_, ?_, ?_, ?_, ?_, ?_⟩, by rw [e101, if_pos rfl], by rw [e102, if_pos rfl], by rw [e103, if_pos rfl], by rw [e105, if_pos rfl], fun w hi => ⟨⟨hF0.mono (fun t ht => by
      simp only [List.mem_cons, List.not_mem_nil, or_false] at ht ⊢
      rcases ht with e | e | e | e <;> subst e <;> simp) (fun q hq => Or.inl hq), fun i _ => ⟨hF0.gvc i (by decide) (by decide), hF0.gvc i (by decide) (by decide)⟩⟩, fun i q => ⟨⟨by rw [e101, if_neg (by omega)], hF0.gvc i (by decide) (by decide), by rw [e105, if_neg (by omega)]⟩, by rw [e102, if_neg (by omega)], by rw [e103, if_neg (by omega)]⟩, fun i _ => hF0.gvc i (by decide) (by decide)⟩, fun i => ?_, ?_, hJ2⟩
  · rw [hF3.gv 74 8 (by decide) (by decide), hF2.gv 74 8 (by decide) (by decide), gi_idx _ _ _ (by decide), h8]
  · rw [hF3.gv 74 40 (by decide) (by decide), hF2.gv 74 40 (by decide) (by decide), gi_idx _ _ _ (by decide), h40]
  · rw [← hI3, gi_si _ _ _ _ _ (by unfold inR; omega), if_pos ⟨rfl, rfl⟩]
    rfl
  · rw [hF3.gv 74 47 (by decide) (by decide), hF2.gv 74 47 (by decide) (by decide), gi_si _ _ _ _ _ (by unfold inR; omega), if_pos ⟨rfl, rfl⟩]
    rfl
  · rw [hF3.gv 74 49 (by decide) (by decide), e49]
  · rw [hF3.gv 74 39 (by decide) (by decide), hF2.gv 74 39 (by decide) (by decide), gi_idx _ _ _ (by decide), h39]
  · unfold encR
    rw [hF0.gvc i (by decide) (by decide), hF0.gvc i (by decide) (by decide)]
  · rw [hF3.gv 74 50 (by decide) (by decide), hF2.gv 74 50 (by decide) (by decide), gi_idx _ _ _ (by decide)]
end ROP

section STP
/-! ===== statements, purely ===== -/
abbrev St : Type := (Int × Int) ⊕ ((Lt × Nt × Rt) × Nat)
noncomputable def ci (P : Prop) (a b : St) : St := @ite St P (Classical.propDecidable P) a b
theorem ci_y {P : Prop} {a b : St} (h : P) : ci P a b = a := by unfold ci; rw [if_pos h]
theorem ci_n {P : Prop} {a b : St} (h : ¬ P) : ci P a b = b := by unfold ci; rw [if_neg h]
section
variable (T : Nat → Int) (n : Nat)
noncomputable def pW (w : Int) (p : Nat) (c : Nat → St) : St := ci (bd T n p = -1 ∧ wd T n p w) (c (tE T n p)) (.inl (1, pl T n p))
noncomputable def pNu (lo hi : Int) (p : Nat) (c : Int → Nat → St) : St := ci (bd T n p = -1 ∧ kR T n p = 2) (ci (lo ≤ vl T n p ∧ vl T n p ≤ hi) (c (vl T n p) (tE T n p)) (.inl (4, tS T n p))) (.inl (1, pl T n p))
noncomputable def pA (s : Nat) (L : Lt) (N : Nt) (p : Nat) (c : Nat → St) : St := ci (nmT T n p) (ci (fd (N s) (L 0 s) (lR T n p) = -1) (.inl (3, tS T n p)) (c (fd (N s) (L 0 s) (lR T n p)).toNat)) (.inl (1, pl T n p))
noncomputable def pG (L : Lt) (N : Nt) (p : Nat) (c : Nat → St) : St := ci (nmT T n p) (ci (newN L N (lR T n p)) (c (tE T n p)) (.inl (2, tS T n p))) (.inl (1, pl T n p))
end
section
variable {T : Nat → Int} {n : Nat}
theorem pW_y {w : Int} {p : Nat} {c : Nat → St} (h : bd T n p = -1 ∧ wd T n p w) : pW T n w p c = c (tE T n p) := ci_y h
theorem pW_n {w : Int} {p : Nat} {c : Nat → St} (h : ¬ (bd T n p = -1 ∧ wd T n p w)) : pW T n w p c = .inl (1, pl T n p) := ci_n h
theorem pNu_y {lo hi : Int} {p : Nat} {c : Int → Nat → St} (h : bd T n p = -1 ∧ kR T n p = 2) (h2 : lo ≤ vl T n p ∧ vl T n p ≤ hi) : pNu T n lo hi p c = c (vl T n p) (tE T n p) := (ci_y h).trans (ci_y h2)
theorem pNu_4 {lo hi : Int} {p : Nat} {c : Int → Nat → St} (h : bd T n p = -1 ∧ kR T n p = 2) (h2 : ¬ (lo ≤ vl T n p ∧ vl T n p ≤ hi)) : pNu T n lo hi p c = .inl (4, tS T n p) := (ci_y h).trans (ci_n h2)
theorem pNu_0 {lo hi : Int} {p : Nat} {c : Int → Nat → St} (h : ¬ (bd T n p = -1 ∧ kR T n p = 2)) : pNu T n lo hi p c = .inl (1, pl T n p) := ci_n h
theorem pA_y {s : Nat} {L : Lt} {N : Nt} {p : Nat} {c : Nat → St} (h : nmT T n p) {v : Nat} (h2 : fd (N s) (L 0 s) (lR T n p) = (v : Int)) : pA T n s L N p c = c v := by
  refine (ci_y h).trans ((ci_n (by rw [h2]; omega)).trans ?_)
  rw [h2, Int.toNat_natCast]
theorem pA_3 {s : Nat} {L : Lt} {N : Nt} {p : Nat} {c : Nat → St} (h : nmT T n p) (h2 : fd (N s) (L 0 s) (lR T n p) = -1) : pA T n s L N p c = .inl (3, tS T n p) := (ci_y h).trans (ci_y h2)
theorem pA_0 {s : Nat} {L : Lt} {N : Nt} {p : Nat} {c : Nat → St} (h : ¬ nmT T n p) : pA T n s L N p c = .inl (1, pl T n p) := ci_n h
theorem pG_y {L : Lt} {N : Nt} {p : Nat} {c : Nat → St} (h : nmT T n p) (h2 : newN L N (lR T n p)) : pG T n L N p c = c (tE T n p) := (ci_y h).trans (ci_y h2)
theorem pG_2 {L : Lt} {N : Nt} {p : Nat} {c : Nat → St} (h : nmT T n p) (h2 : ¬ newN L N (lR T n p)) : pG T n L N p c = .inl (2, tS T n p) := (ci_y h).trans (ci_n h2)
theorem pG_0 {L : Lt} {N : Nt} {p : Nat} {c : Nat → St} (h : ¬ nmT T n p) : pG T n L N p c = .inl (1, pl T n p) := ci_n h
end
section
variable (T : Nat → Int) (n : Nat) (L : Lt) (N : Nt) (R : Rt)
noncomputable def rBook (p : Nat) : St := pG T n L N p (fun p1 => .inr ((giveL L 0, putN N 0 (L 0 0).toNat (lR T n p), R), p1))
def pageL (c : Nat) (bk ln bg : Int) : Lt := giveL (putL (putL (putL (putL L 1 c bk) 2 c ln) 3 c bg) 4 c 0) 1
noncomputable def rPage (p : Nat) : St := pG T n L N p (fun p1 => pW T n 2 p1 (fun p2 => pA T n 0 L N p2 (fun bk => pW T n 3 (tE T n p2) (fun p4 => pNu T n 1 99 p4 (fun ln p5 => ci (bd T n p5 = -1 ∧ wd T n p5 4) (.inr ((pageL L (L 0 1).toNat bk ln 1, putN N 1 (L 0 1).toNat (lR T n p), R), tE T n p5)) (.inr ((pageL L (L 0 1).toNat bk ln 0, putN N 1 (L 0 1).toNat (lR T n p), R), p5)))))))
def needL (a b : Nat) : Lt := putL (putL L 4 a ((((L 4 a).toNat ||| 2 ^ b : Nat)) : Int)) 0 4 (L 0 4 + 1)
noncomputable def rNeed (p : Nat) : St := pA T n 1 L N p (fun a => pA T n 1 L N (tE T n p) (fun b => ci (a ≤ b ∨ (L 4 a).toNat.testBit b = true) (.inl (3, tS T n (tE T n p))) (.inr ((needL L a b, N, R), tE T n (tE T n p)))))
def readerL (c : Nat) (pc ey : Int) : Lt := giveL (putL (putL L 5 c pc) 6 c ey) 2
noncomputable def rReader (p : Nat) : St := pG T n L N p (fun p1 => pW T n 7 p1 (fun p2 => pNu T n 1 9 p2 (fun pc p3 => pW T n 8 p3 (fun p4 => pNu T n 0 9 p4 (fun ey p5 => .inr ((readerL L (L 0 2).toNat pc ey, putN N 2 (L 0 2).toNat (lR T n p), R), p5))))))
def tableL (c : Nat) (d : Int) : Lt := giveL (putL L 7 c d) 3
noncomputable def rTable (p : Nat) : St := pG T n L N p (fun p1 => pW T n 10 p1 (fun p2 => pNu T n 0 9 p2 (fun d p3 => .inr ((tableL L (L 0 3).toNat d, putN N 3 (L 0 3).toNat (lR T n p), R), p3))))
noncomputable def rInch (p : Nat) : St := pNu T n 10 120 p (fun v p1 => .inr ((putL L 0 5 v, N, R), p1))
def putR (ρ : Nat) (c : List Int) : Rt := fun ρ' => if ρ' = ρ then c else R ρ'
def ruleR (ρ : Nat) (r : Res) : St := match r with
  | .inl e => .inl e
  | .inr c => .inr ((L, N, putR R ρ c.1), c.2)
/-- with what ends a statement -/
noncomputable def semi (r : St) : St := match r with
  | .inl e => .inl e
  | .inr c => ci (sgn T n c.2 59) (.inr (c.1, tE T n c.2)) (.inl (1, pl T n c.2))
end
/-! the class's outcome -/
abbrev CSc : List Nat := [23, 24, 25, 26, 27, 28, 29, 30, 31, 32, 33, 34, 35]
abbrev FLc : List (Nat × Nat) := [(1, 2), (1, 3), (1, 4), (1, 5), (1, 6), (3, 4), (22, 13), (22, 14), (22, 15)]
abbrev FLce : List (Nat × Nat) := [(1, 2), (1, 3), (1, 4), (1, 5), (1, 6), (3, 2), (3, 3), (3, 4), (22, 13), (22, 14), (22, 15)]
theorem Fr.ce {I I' : Nat → Nat → Int32} (h : Fr CSc FLc I I') : Fr CSc FLce I I' := h.mono (fun _ q => q) (fun q hq => Or.inl (by
  simp only [List.mem_cons, List.not_mem_nil, or_false] at hq ⊢
  rcases hq with e | e | e | e | e | e | e | e | e <;> subst e <;> simp))
def CSo (I : Nat → Nat → Int32) (J : Nat → Nat → Int64) (Q : Option AV → Mem → Prop) (T : Nat → Int) (n : Nat) : St → Prop
  | .inl e => ∀ I', gi I' 3 2 = e.1 → gi I' 3 3 = e.2 → Fr CSc FLce I I' → Q (some (vI 0)) (mem (some 22, some 5, some 22) I' J)
  | .inr c => ∀ I' q', CT I' T n c.2 → gi I' 3 4 = 0 → SCs I' c.1.1 c.1.2.1 c.1.2.2 q' → q' ≤ c.2 → c.2 ≤ n → Fr CSc FLc I I' → Q (some (vI 1)) (mem (some 22, some 5, some 22) I' J)
def CSt (md : MD) (as : List AV) (T : Nat → Int) (n : Nat) (L : Lt) (N : Nt) (R : Rt) (p : Nat) (r : St) : Prop := ∀ (k : Nat) (I : Nat → Nat → Int32) (J : Nat → Nat → Int64) (Q : Option AV → Mem → Prop) (q : Nat), 200 ≤ k → CT I T n p → gi I 3 4 = 0 → SCs I L N R q → q ≤ p → CSo I J Q T n r → WPm k LAY md (vR (some 3) :: as) (mem (some 22, some 5, some 22) I J) Q
theorem Fr.c {I I' : Nat → Nat → Int32} (h : Fr [] FLx I I') : Fr CSc FLc I I' := h.mono (fun _ t => by cases t) (fun q hq => Or.inl (by
  simp only [List.mem_cons, List.not_mem_nil, or_false] at hq ⊢
  rcases hq with e | e | e | e | e <;> subst e <;> simp))
theorem Fr.c2 {I I' : Nat → Nat → Int32} (h : Fr [23, 24] FLx I I') : Fr CSc FLc I I' := h.mono (fun c t => by
  simp only [List.mem_cons, List.not_mem_nil, or_false] at t ⊢
  rcases t with e | e <;> subst e <;> simp) (fun q hq => Or.inl (by
  simp only [List.mem_cons, List.not_mem_nil, or_false] at hq ⊢
  rcases hq with e | e | e | e | e <;> subst e <;> simp))
theorem CSo.er {I I1 : Nat → Nat → Int32} {J : Nat → Nat → Int64} {Q : Option AV → Mem → Prop} {T : Nat → Int} {n : Nat} {e : Int × Int} (h : CSo I J Q T n (.inl e)) (hF : Fr CSc FLc I I1) {z y : Int} (hz : inR z) (hy : inR y) (h1 : e = (z, y)) : Q (some (vI 0)) (mem (some 22, some 5, some 22) (si (si I1 3 2 z) 3 3 y) J) := by
  subst h1
  refine h _ ?_ ?_ (hF.ce.tr (((Fr.rf _ _ _).up 3 2 _ (Or.inr (by decide))).up 3 3 _ (Or.inr (by decide))))
  · rw [gi_idx _ _ _ (by decide), gi_si _ _ _ _ _ hz, if_pos ⟨rfl, rfl⟩]
  · rw [gi_si _ _ _ _ _ hy, if_pos ⟨rfl, rfl⟩]
/-- refused at a token -/
theorem CSo.e1 {I I1 : Nat → Nat → Int32} {J : Nat → Nat → Int64} {Q : Option AV → Mem → Prop} {T : Nat → Int} {n p : Nat} (h : CSo I J Q T n (.inl (1, pl T n p))) (hF : Fr CSc FLc I I1) (hC : CT I1 T n p) : Q (some (vI 0)) (mem (some 22, some 5, some 22) (si (si I1 3 2 1) 3 3 (gi I1 1 6)) J) := h.er hF (by decide) (gi_in _ _ _) (by rw [hC.2.2.2.2.2])
theorem CSo.ek {I I1 : Nat → Nat → Int32} {J : Nat → Nat → Int64} {Q : Option AV → Mem → Prop} {T : Nat → Int} {n p : Nat} {z : Int} (h : CSo I J Q T n (.inl (z, tS T n p))) (hz : inR z) (hF : Fr CSc FLc I I1) (hC : CT I1 T n p) : Q (some (vI 0)) (mem (some 22, some 5, some 22) (si (si I1 3 2 z) 3 3 (gi I1 1 3)) J) := h.er hF hz (gi_in _ _ _) (by rw [hC.2.2.1])
end STP

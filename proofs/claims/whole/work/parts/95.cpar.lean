section CPAR
/-! ===== the class reads a rule: its leaves ===== -/
abbrev FLp : List (Nat × Nat) := [(1, 2), (1, 3), (1, 4), (1, 5), (1, 6), (3, 4), (22, 13)]
abbrev FLpe : List (Nat × Nat) := [(1, 2), (1, 3), (1, 4), (1, 5), (1, 6), (3, 2), (3, 3), (3, 4), (22, 13)]
theorem Fr.pe {I I' : Nat → Nat → Int32} (h : Fr [33] FLp I I') : Fr [33] FLpe I I' := h.mono (fun _ q => q) (fun q hq => Or.inl (by
  simp only [List.mem_cons, List.not_mem_nil, or_false] at hq ⊢
  rcases hq with e | e | e | e | e | e | e <;> subst e <;> simp))
def Cer (I I' : Nat → Nat → Int32) (e : Int × Int) : Prop := gi I' 3 2 = e.1 ∧ gi I' 3 3 = e.2 ∧ 0 ≤ gi I' 22 13 ∧ Fr [33] FLpe I I'
def Cok (I I' : Nat → Nat → Int32) (T : Nat → Int) (n o q p0 : Nat) (c : List Int) (p' : Nat) : Prop := CT I' T n p' ∧ gi I' 3 4 = (o : Int) ∧ gi I' 22 13 = ((q + c.length : Nat) : Int) ∧ (∀ i, i < q → gi I' 33 i = gi I 33 i) ∧ cds (gi I' 33) q c ∧ Fr [33] FLp I I' ∧ p' ≤ n ∧ p0 + c.length ≤ p'
def CO (I : Nat → Nat → Int32) (J : Nat → Nat → Int64) (Q : Option AV → Mem → Prop) (T : Nat → Int) (n o q p0 : Nat) : Res → Prop
  | .inl e => ∀ I', Cer I I' e → Q (some (vI 0)) (mem (some 22, some 5, some 22) I' J)
  | .inr cp => ∀ I', Cok I I' T n o q p0 cp.1 cp.2 → Q (some (vI 1)) (mem (some 22, some 5, some 22) I' J)
/-- a nonterminal's contract; a loop's -/
def CN (md : MD) (K : Nat) (T : Nat → Int) (n o p : Nat) (r : Res) : Prop := ∀ (k : Nat) (I : Nat → Nat → Int32) (J : Nat → Nat → Int64) (Q : Option AV → Mem → Prop) (q : Nat), K ≤ k → CT I T n p → gi I 3 4 = (o : Int) → gi I 22 13 = (q : Int) → q ≤ p → CO I J Q T n o q p r → WPm k LAY md [vR (some 3)] (mem (some 22, some 5, some 22) I J) Q
def CLp (md : MD) (K : Nat) (T : Nat → Int) (n o p : Nat) (r : Res) : Prop := ∀ (k : Nat) (I : Nat → Nat → Int32) (J : Nat → Nat → Int64) (Q : Option AV → Mem → Prop) (q x2 : Nat), K ≤ k → CT I T n p → gi I 3 4 = (o : Int) → gi I 22 13 = (q : Int) → q ≤ p → x2 ≤ p → CO I J Q T n o q p r → WP k LAY md 7 [(0, vR (some 3)), (1, vI 1), (2, vI (x2 : Int))] [] (mem (some 22, some 5, some 22) I J) Q
def pre (c1 : List Int) : Res → Res
  | .inl e => .inl e
  | .inr cp => .inr (c1 ++ cp.1, cp.2)
theorem Fr.p {I I' : Nat → Nat → Int32} (h : Fr [] FLx I I') : Fr [33] FLp I I' := h.mono (fun _ q => by cases q) (fun q hq => Or.inl (by
  simp only [List.mem_cons, List.not_mem_nil, or_false] at hq ⊢
  rcases hq with e | e | e | e | e <;> subst e <;> simp))
theorem Cok.tr {I I1 I2 : Nat → Nat → Int32} {T : Nat → Int} {n o o1 q p0 : Nat} {c1 c2 : List Int} {p1 p2 : Nat} (h1 : Cok I I1 T n o1 q p0 c1 p1) (h2 : Cok I1 I2 T n o (q + c1.length) p1 c2 p2) : Cok I I2 T n o q p0 (c1 ++ c2) p2 := by
  obtain ⟨a1, a2, a3, a4, a5, a6, a7, a8⟩ := h1
  obtain ⟨b1, b2, b3, b4, b5, b6, b7, b8⟩ := h2
  refine ⟨b1, b2, by rw [b3, List.length_append, Nat.add_assoc], fun i hi => by rw [b4 i (by omega), a4 i hi], cds_app.mpr ⟨cds_congr (fun i x y => (b4 i y).symm) a5, b5⟩, a6.tr b6, b7, by rw [List.length_append]; omega⟩
theorem Cok.er {I I1 I2 : Nat → Nat → Int32} {T : Nat → Int} {n o1 q p0 : Nat} {c1 : List Int} {p1 : Nat} {e : Int × Int} (h1 : Cok I I1 T n o1 q p0 c1 p1) (h2 : Cer I1 I2 e) : Cer I I2 e := ⟨h2.1, h2.2.1, h2.2.2.1, h1.2.2.2.2.2.1.pe.tr h2.2.2.2⟩
theorem Cer.fr {I I1 I2 : Nat → Nat → Int32} {e : Int × Int} (h1 : Fr [33] FLp I I1) (h2 : Cer I1 I2 e) : Cer I I2 e := ⟨h2.1, h2.2.1, h2.2.2.1, h1.pe.tr h2.2.2.2⟩
/-- what comes behind codes that are there already -/
theorem CO.pre {I I1 : Nat → Nat → Int32} {J : Nat → Nat → Int64} {Q : Option AV → Mem → Prop} {T : Nat → Int} {n o o1 q p0 : Nat} {c1 : List Int} {p1 : Nat} {r : Res} (h1 : Cok I I1 T n o1 q p0 c1 p1) (h : CO I J Q T n o q p0 (pre c1 r)) : CO I1 J Q T n o (q + c1.length) p1 r := by
  cases r with
  | inl e => exact fun I' hE => h I' (h1.er hE)
  | inr cp => exact fun I' hE => h I' (h1.tr hE)
/-- ahead of any code -/
theorem Cok.start {I I1 : Nat → Nat → Int32} {T : Nat → Int} {n o q p0 p1 : Nat} (hC : CT I1 T n p1) (ho : gi I1 3 4 = (o : Int)) (hq : gi I 22 13 = (q : Int)) (hF : Fr [33] FLp I I1) (hc : ∀ i, gi I1 33 i = gi I 33 i) (hd : gi I1 22 13 = gi I 22 13) (hp : p1 ≤ n) (hqp : p0 ≤ p1) : Cok I I1 T n o q p0 [] p1 := ⟨hC, ho, by rw [hd, hq, List.length_nil, Nat.add_zero], fun i _ => hc i, trivial, hF, hp, by rw [List.length_nil]; omega⟩
/-- only the token has changed -/
theorem Cok.st {I I1 : Nat → Nat → Int32} {T : Nat → Int} {n o' q p0 p1 : Nat} (hC : CT I1 T n p1) (ho : gi I1 3 4 = (o' : Int)) (hq : gi I 22 13 = (q : Int)) (hF : Fr [] ((3, 4) :: FLx) I I1) (hp : p1 ≤ n) (hqp : p0 ≤ p1) : Cok I I1 T n o' q p0 [] p1 := Cok.start hC ho hq (hF.mono (fun _ t => by cases t) (fun t ht => Or.inl (by
  simp only [List.mem_cons, List.not_mem_nil, or_false] at ht ⊢
  rcases ht with e | e | e | e | e | e <;> subst e <;> simp))) (fun i => hF.gvc i (by decide) (by decide)) (hF.gv 22 13 (by decide) (by decide)) hp hqp
theorem Fr.x1 {I I' : Nat → Nat → Int32} (h : Fr [] FLx I I') : Fr [] ((3, 4) :: FLx) I I' := h.mono (fun _ t => t) (fun _ t => Or.inl (List.mem_cons_of_mem _ t))
theorem Cok.emit {I I1 : Nat → Nat → Int32} {T : Nat → Int} {n o q p : Nat} {c : List Int} {p1 : Nat} {z : Int} (hX : TX T n) (hz : inR z) (h : Cok I I1 T n o q (p + 1) c p1) (hq : q ≤ p) : Cok I (si (si I1 33 (q + c.length) z) 22 13 (((q + c.length : Nat) : Int) + 1)) T n o q p (c ++ [z]) p1 := by
  have hn := hX.1
  obtain ⟨a1, a2, a3, a4, a5, a6, a7, a8⟩ := h
  have hF2 : Fr [33] FLp I1 (si (si I1 33 (q + c.length) z) 22 13 (((q + c.length : Nat) : Int) + 1)) := ((Fr.rf _ _ _).up 33 _ _ (Or.inl (by decide))).up 22 13 _ (Or.inr (by decide))
  have hg : ∀ i, gi (si (si I1 33 (q + c.length) z) 22 13 (((q + c.length : Nat) : Int) + 1)) 33 i = if i = q + c.length then z else gi I1 33 i := fun i => by
    rw [gi_cell _ _ _ _ (by decide), gi_si _ _ _ _ _ hz]
    by_cases e : i = q + c.length
    · rw [if_pos ⟨rfl, e⟩, if_pos e]
    · rw [if_neg (fun t => e t.2), if_neg e]
  refine ⟨?_, by rw [gi_cell _ _ _ _ (by decide), gi_cell _ _ _ _ (by decide)]; exact a2, ?_, fun i hi => by rw [hg, if_neg (by omega), a4 i hi], cds_app.mpr ⟨cds_congr (fun i x y => by rw [hg, if_neg (by omega)]) a5, by rw [hg, if_pos rfl], trivial⟩, a6.tr hF2, a7, by rw [List.length_append, List.length_cons, List.length_nil]; omega⟩
  · exact a1.fr (cs := [33]) (fs := [(22, 13)]) (((Fr.rf _ _ _).up 33 _ _ (Or.inl (by decide))).up 22 13 _ (Or.inr (by decide))) (by decide) (by decide)
  · rw [gi_si _ _ _ _ _ (by unfold inR; omega), if_pos ⟨rfl, rfl⟩, List.length_append, List.length_cons, List.length_nil]
    omega
/-- one code, then the next token -/
theorem Cok.one {I I2 : Nat → Nat → Int32} {T : Nat → Int} {n o q p p2 : Nat} {z : Int} (hX : TX T n) (hz : inR z) (hq : gi I 22 13 = (q : Int)) (ho : gi I 3 4 = (o : Int)) (hC : CT I2 T n p2) (hF : Fr [] FLx (si (si I 33 q z) 22 13 ((q : Int) + 1)) I2) (hp : p2 ≤ n) (hpp : p < p2) (hqp : q ≤ p) : Cok I I2 T n o q p [z] p2 := by
  have hn := hX.1
  have hg : ∀ i, gi I2 33 i = if i = q then z else gi I 33 i := fun i => by
    rw [hF.gvc i (by decide) (by decide), gi_cell _ _ _ _ (by decide), gi_si _ _ _ _ _ hz]
    by_cases e : i = q
    · rw [if_pos ⟨rfl, e⟩, if_pos e]
    · rw [if_neg (fun t => e t.2), if_neg e]
  refine ⟨hC, by rw [hF.gv 3 4 (by decide) (by decide), gi_cell _ _ _ _ (by decide), gi_cell _ _ _ _ (by decide)]; exact ho, ?_, fun i hi => by rw [hg, if_neg (by omega)], ⟨by rw [hg, if_pos rfl], trivial⟩, Fr.tr (((Fr.rf _ _ _).up 33 _ _ (Or.inl (by decide))).up 22 13 _ (Or.inr (by decide))) hF.p, hp, by rw [List.length_cons, List.length_nil]; omega⟩
  rw [hF.gv 22 13 (by decide) (by decide), gi_si _ _ _ _ _ (by unfold inR; omega), if_pos ⟨rfl, rfl⟩, List.length_cons, List.length_nil]
  omega
/-! the leaves -/
theorem S_emit {k : Nat} {I : Nat → Nat → Int32} {J : Nat → Nat → Int64} {Q : Option AV → Mem → Prop} {z : Int} {q : Nat} (h13 : gi I 22 13 = (q : Int)) (hq : q < 1600) (h : Q none (mem (some 22, some 5, some 22) (si (si I 33 q z) 22 13 ((q : Int) + 1)) J)) : WPm k LAY m_X7_emit [vR (some 22), vI z] (mem (some 22, some 5, some 22) I J) Q := by
  refine WPm.of k_X7_emit.1 (Nat.le_of_ble_eq_true rfl) (B_X7_emit_22_0 (Nat.zero_le k) ?_)
  rw [h13, Int.toNat_natCast]
  exact ⟨fun c => absurd c (by omega), fun _ => ⟨by omega, h⟩⟩
theorem S_emitF {k : Nat} {I : Nat → Nat → Int32} {J : Nat → Nat → Int64} {Q : Option AV → Mem → Prop} {z : Int} (h13 : 0 ≤ gi I 22 13) (h : ∀ I', Fr [33] [(22, 13)] I I' → 0 ≤ gi I' 22 13 → Q none (mem (some 22, some 5, some 22) I' J)) : WPm k LAY m_X7_emit [vR (some 22), vI z] (mem (some 22, some 5, some 22) I J) Q := by
  refine WPm.of k_X7_emit.1 (Nat.le_of_ble_eq_true rfl) (B_X7_emit_22_0 (Nat.zero_le k) ⟨fun _ => h I (Fr.rf _ _ _) h13, fun c => ⟨by omega, h _ (((Fr.rf _ _ _).up 33 _ _ (Or.inl (by decide))).up 22 13 _ (Or.inr (by decide))) ?_⟩⟩)
  rw [gi_si _ _ _ _ _ (by unfold inR; omega), if_pos ⟨rfl, rfl⟩]
  omega
/-- a fault stays one, what is written behind it -/
theorem Cer.em {I I1 I2 : Nat → Nat → Int32} {e : Int × Int} (h1 : Cer I I1 e) (hF : Fr [33] [(22, 13)] I1 I2) (h : 0 ≤ gi I2 22 13) : Cer I I2 e := ⟨by rw [hF.gv 3 2 (by decide) (by decide)]; exact h1.1, by rw [hF.gv 3 3 (by decide) (by decide)]; exact h1.2.1, h, h1.2.2.2.tr (hF.mono (fun _ t => t) (fun q hq => Or.inl (by
  simp only [List.mem_cons, List.not_mem_nil, or_false] at hq
  subst hq
  decide)))⟩
theorem S_step {k : Nat} {I : Nat → Nat → Int32} {J : Nat → Nat → Int64} {Q : Option AV → Mem → Prop} {T : Nat → Int} {n p : Nat} (hk : 6 ≤ k) (hX : TX T n) (hp : p ≤ n) (hC : CT I T n p) (h0 : kR T n p ≠ 0) (hb : bd T n p = -1) (h : ∀ I', CT I' T n (tE T n p) → Fr [] FLx I I' → Q none (mem (some 22, some 5, some 22) I' J)) : WPm k LAY m_X10_step [vR (some 1)] (mem (some 22, some 5, some 22) I J) Q := by
  have hk' := hC.k
  refine S_X10_step hk hX hC.1 (tE_gt hp h0).2.1 hC.2.2.2.1 (hC.nx hp (fun q => h0 (hk'.2.2.2.2.1.mp q)) (fun q => hk'.2.2.2.2.2.mp q hb)) h
theorem Cer.ref {I0 I : Nat → Nat → Int32} {T : Nat → Int} {n p : Nat} (hC : CT I T n p) (hF : Fr [33] FLp I0 I) (h0 : 0 ≤ gi I 22 13) : Cer I0 (si (si I 3 2 1) 3 3 (gi I 1 6)) (1, pl T n p) := by
  refine ⟨?_, ?_, ?_, hF.pe.tr (((Fr.rf _ _ _).up 3 2 _ (Or.inr (by decide))).up 3 3 _ (Or.inr (by decide)))⟩
  · rw [gi_idx _ _ _ (by decide), gi_si _ _ _ _ _ (by decide), if_pos ⟨rfl, rfl⟩]
  · rw [gi_si _ _ _ _ _ (gi_in _ _ _), if_pos ⟨rfl, rfl⟩]
    exact hC.2.2.2.2.2
  · rw [gi_cell _ _ _ _ (by decide), gi_cell _ _ _ _ (by decide)]
    exact h0
theorem S_want {k : Nat} {I : Nat → Nat → Int32} {J : Nat → Nat → Int64} {Q : Option AV → Mem → Prop} {T : Nat → Int} {n p : Nat} {x : Int} (hk : 9 ≤ k) (hX : TX T n) (hp : p ≤ n) (hC : CT I T n p) (hx : inR x) (h1 : sgn T n p x → ∀ I', CT I' T n (tE T n p) → Fr [] FLx I I' → Q (some (vI 1)) (mem (some 22, some 5, some 22) I' J)) (h0 : ¬ sgn T n p x → Q (some (vI 0)) (mem (some 22, some 5, some 22) (si (si I 3 2 1) 3 3 (gi I 1 6)) J)) : WPm k LAY m_X3_wantSign [vR (some 3), vI x] (mem (some 22, some 5, some 22) I J) Q := by
  refine WPm.of k_X3_wantSign.1 (Nat.le_of_ble_eq_true rfl) (B_X3_wantSign_0 (by omega) ⟨hx, ?_⟩)
  rw [hC.s x]
  refine ⟨fun c => ?_, h0⟩
  exact S_step (by omega) hX hp hC (by rw [c.1]; decide) (bd_3 (Or.inl c.1)) (fun I' a b => ⟨_, _, rfl, rfl, h1 c I' a b⟩)
theorem S_open1 {k : Nat} {I : Nat → Nat → Int32} {J : Nat → Nat → Int64} {Q : Option AV → Mem → Prop} {T : Nat → Int} {n p o : Nat} (hk : 9 ≤ k) (hX : TX T n) (hp : p ≤ n) (hC : CT I T n p) (h0 : kR T n p ≠ 0) (hb : bd T n p = -1) (ho : gi I 3 4 = (o : Int)) (ho7 : o ≤ 7) (h1 : o ≠ 7 → ∀ I', CT I' T n (tE T n p) → gi I' 3 4 = ((o + 1 : Nat) : Int) → Fr [] ((3, 4) :: FLx) I I' → Q (some (vI 1)) (mem (some 22, some 5, some 22) I' J)) (h7 : o = 7 → Q (some (vI 0)) (mem (some 22, some 5, some 22) (si (si I 3 2 5) 3 3 (gi I 1 3)) J)) : WPm k LAY m_X3_openOne [vR (some 3)] (mem (some 22, some 5, some 22) I J) Q := by
  refine WPm.of k_X3_openOne.1 (Nat.le_of_ble_eq_true rfl) (B_X3_openOne_0 (by omega) ?_)
  rw [ho]
  refine ⟨fun c => ?_, fun c => h7 (by omega)⟩
  have hF : Fr [] ((3, 4) :: FLx) I (si I 3 4 ((o : Int) + 1)) := (Fr.rf _ _ _).up 3 4 _ (Or.inr (by decide))
  have hC' : CT (si I 3 4 ((o : Int) + 1)) T n p := hC.fr (cs := []) (fs := [(3, 4)]) ((Fr.rf _ _ _).up 3 4 _ (Or.inr (by decide))) (by decide) (by decide)
  refine S_step (by omega) hX hp hC' h0 hb (fun I' a b => ⟨_, _, rfl, rfl, h1 (by omega) I' a ?_ (hF.tr (b.mono (fun _ t => t) (fun q t => Or.inl (List.mem_cons_of_mem _ t))))⟩)
  rw [b.gv 3 4 (by decide) (by decide), gi_si _ _ _ _ _ (by unfold inR; omega), if_pos ⟨rfl, rfl⟩]
  omega
theorem Fr.p1 {I I' : Nat → Nat → Int32} (h : Fr [] ((3, 4) :: FLx) I I') : Fr [33] FLp I I' := h.mono (fun _ q => by cases q) (fun q hq => Or.inl (by
  simp only [List.mem_cons, List.not_mem_nil, or_false] at hq ⊢
  rcases hq with e | e | e | e | e | e <;> subst e <;> simp))
theorem Cer.o7 {I0 I : Nat → Nat → Int32} {T : Nat → Int} {n p : Nat} (hC : CT I T n p) (hF : Fr [33] FLp I0 I) (h0 : 0 ≤ gi I 22 13) : Cer I0 (si (si I 3 2 5) 3 3 (gi I 1 3)) (5, tS T n p) := by
  refine ⟨?_, ?_, ?_, hF.pe.tr (((Fr.rf _ _ _).up 3 2 _ (Or.inr (by decide))).up 3 3 _ (Or.inr (by decide)))⟩
  · rw [gi_idx _ _ _ (by decide), gi_si _ _ _ _ _ (by decide), if_pos ⟨rfl, rfl⟩]
  · rw [gi_si _ _ _ _ _ (gi_in _ _ _), if_pos ⟨rfl, rfl⟩]
    exact hC.2.2.1
  · rw [gi_cell _ _ _ _ (by decide), gi_cell _ _ _ _ (by decide)]
    exact h0
theorem S_close1 {k : Nat} {I : Nat → Nat → Int32} {J : Nat → Nat → Int64} {Q : Option AV → Mem → Prop} {T : Nat → Int} {n p o : Nat} {x : Int} (hk : 10 ≤ k) (hX : TX T n) (hp : p ≤ n) (hC : CT I T n p) (hx : inR x) (ho : gi I 3 4 = ((o + 1 : Nat) : Int)) (h1 : sgn T n p x → ∀ I', CT I' T n (tE T n p) → gi I' 3 4 = (o : Int) → Fr [] ((3, 4) :: FLx) I I' → Q (some (vI 1)) (mem (some 22, some 5, some 22) I' J)) (h0 : ¬ sgn T n p x → ∀ I1, CT I1 T n p → Fr [33] FLp I I1 → gi I1 22 13 = gi I 22 13 → Q (some (vI 0)) (mem (some 22, some 5, some 22) (si (si I1 3 2 1) 3 3 (gi I1 1 6)) J)) : WPm k LAY m_X3_closeOne [vR (some 3), vI x] (mem (some 22, some 5, some 22) I J) Q := by
  refine WPm.of k_X3_closeOne.1 (Nat.le_of_ble_eq_true rfl) (B_X3_closeOne_0 (by omega) ?_)
  have hoI := gi_in I 3 4
  rw [ho] at hoI ⊢
  have hF : Fr [] ((3, 4) :: FLx) I (si I 3 4 (((o + 1 : Nat) : Int) - 1)) := (Fr.rf _ _ _).up 3 4 _ (Or.inr (by decide))
  have hC' : CT (si I 3 4 (((o + 1 : Nat) : Int) - 1)) T n p := hC.fr (cs := []) (fs := [(3, 4)]) ((Fr.rf _ _ _).up 3 4 _ (Or.inr (by decide))) (by decide) (by decide)
  refine S_want (by omega) hX hp hC' hx (fun c I' a b => ⟨_, _, _, rfl, rfl, Or.inr rfl, h1 c I' a ?_ (hF.tr (b.mono (fun _ t => t) (fun q t => Or.inl (List.mem_cons_of_mem _ t))))⟩) (fun c => ⟨_, _, _, rfl, rfl, Or.inl rfl, h0 c _ hC' hF.p1 (by rw [gi_cell _ _ _ _ (by decide)])⟩)
  rw [b.gv 3 4 (by decide) (by decide), gi_si _ _ _ _ _ (by unfold inR at hoI ⊢; omega), if_pos ⟨rfl, rfl⟩]
  omega
theorem S_sop {k : Nat} {I : Nat → Nat → Int32} {J : Nat → Nat → Int64} {Q : Option AV → Mem → Prop} {T : Nat → Int} {n p : Nat} (hC : CT I T n p) (h : Q (some (vI (opT T n p))) (mem (some 22, some 5, some 22) I J)) : WPm k LAY m_X3_signOperator [vR (some 3)] (mem (some 22, some 5, some 22) I J) Q := by
  refine WPm.of k_X3_signOperator.1 (Nat.le_of_ble_eq_true rfl) (B_X3_signOperator_0 (Nat.zero_le k) ?_)
  rw [hC.k.1, hC.2.2.2.2.1]
  unfold opT at h
  refine ⟨fun c => ?_, fun c => by rw [if_neg c] at h; exact h⟩
  rw [if_pos c] at h
  unfold opn at h
  refine ⟨fun e => ?_, fun e1 => ⟨fun e => ?_, fun e2 => ⟨fun e => ?_, fun e3 => ⟨fun e => ?_, fun e4 => ⟨fun e => ?_, fun e5 => ⟨fun e => ?_, fun e6 => ⟨fun e => ?_, fun e7 => ⟨fun e => ?_, fun e8 => ?_⟩⟩⟩⟩⟩⟩⟩⟩
  · rw [e] at h; exact h
  · rw [e] at h; exact h
  · rw [e] at h; exact h
  · rw [e] at h; exact h
  · rw [e] at h; exact h
  · rw [e] at h; exact h
  · rw [e] at h; exact h
  · rw [e] at h; exact h
  · rw [if_neg (by assumption), if_neg (by assumption), if_neg (by assumption), if_neg (by assumption), if_neg (by assumption), if_neg (by assumption), if_neg (by assumption), if_neg (by assumption)] at h
    exact h
theorem S_isProd {k : Nat} {I : Nat → Nat → Int32} {J : Nat → Nat → Int64} {Q : Option AV → Mem → Prop} {x : Int} (hx : inR x) (h : ∀ v, v = (if 10102 ≤ x ∧ x ≤ 10104 then 1 else 0) → Q (some (vI v)) (mem (some 22, some 5, some 22) I J)) : WPm k LAY m_X3_isProductOperator [vI x] (mem (some 22, some 5, some 22) I J) Q := by
  refine WPm.of k_X3_isProductOperator.1 (Nat.le_of_ble_eq_true rfl) (B_X3_isProductOperator_0 (Nat.zero_le k) ⟨hx, fun e => ?_, fun e1 => ⟨fun e => ?_, fun e2 => ⟨fun e3 => ?_, fun e => ?_⟩⟩⟩)
  · exact h 1 (by rw [if_pos (by omega)])
  · exact h 1 (by rw [if_pos (by omega)])
  · exact h 0 (by rw [if_neg (by omega)])
  · exact h 1 (by rw [if_pos (by omega)])
theorem S_isTest {k : Nat} {I : Nat → Nat → Int32} {J : Nat → Nat → Int64} {Q : Option AV → Mem → Prop} {x : Int} (hx : inR x) (h : ∀ v, v = (if 10107 ≤ x ∧ x ≤ 10109 then 1 else 0) → Q (some (vI v)) (mem (some 22, some 5, some 22) I J)) : WPm k LAY m_X3_isTestOperator [vI x] (mem (some 22, some 5, some 22) I J) Q := by
  refine WPm.of k_X3_isTestOperator.1 (Nat.le_of_ble_eq_true rfl) (B_X3_isTestOperator_0 (Nat.zero_le k) ⟨hx, fun e => ?_, fun e1 => ⟨fun e => ?_, fun e2 => ⟨fun e3 => ?_, fun e => ?_⟩⟩⟩)
  · exact h 1 (by rw [if_pos (by omega)])
  · exact h 1 (by rw [if_pos (by omega)])
  · exact h 0 (by rw [if_neg (by omega)])
  · exact h 1 (by rw [if_pos (by omega)])
theorem S_isVal {k : Nat} {I : Nat → Nat → Int32} {J : Nat → Nat → Int64} {Q : Option AV → Mem → Prop} {x : Int} (hx : inR x) (h : ∀ v, (v = 1 ∧ isV (10000 + x)) ∨ (v = 0 ∧ ¬ isV (10000 + x)) → Q (some (vI v)) (mem (some 22, some 5, some 22) I J)) : WPm k LAY m_X3_isValue [vI x] (mem (some 22, some 5, some 22) I J) Q := by
  have y : (x = 3 ∨ x = 7 ∨ x = 8 ∨ x = 10 ∨ x = 11 ∨ x = 15 ∨ x = 16 ∨ x = 17 ∨ x = 18) → Q (some (vI 1)) (mem (some 22, some 5, some 22) I J) := fun q => h 1 (Or.inl ⟨rfl, by unfold isV; omega⟩)
  refine WPm.of k_X3_isValue.1 (Nat.le_of_ble_eq_true rfl) (B_X3_isValue_0 (Nat.zero_le k) ⟨hx, fun e => y (by omega), fun e1 => ⟨fun e => y (by omega), fun e2 => ⟨fun e => y (by omega), fun e3 => ⟨fun e => y (by omega), fun e4 => ⟨fun e => y (by omega), fun e5 => ⟨fun e => y (by omega), fun e6 => ⟨fun e => y (by omega), fun e7 => ⟨fun e => y (by omega), fun e8 => ⟨fun e => y (by omega), fun e9 => ?_⟩⟩⟩⟩⟩⟩⟩⟩⟩)
  exact h 0 (Or.inr ⟨rfl, by unfold isV; omega⟩)
end CPAR

section LQ
/-! ===== what a text tells, as both objects hold it ===== -/
def Lq (L : Lt) : Lb := fun f i => match f with
  | 1 => tr (L 0 1) (L 1 i.toNat) i
  | 2 => tr (L 0 1) (L 2 i.toNat) i
  | 3 => tr (L 0 1) (L 3 i.toNat) i
  | 4 => tr (L 0 1) (L 4 i.toNat) i
  | 5 => tr (L 0 2) (L 5 i.toNat) i
  | 6 => tr (L 0 2) (L 6 i.toNat) i
  | 7 => tr (L 0 3) (L 7 i.toNat) i
  | 20 => L 0 0
  | 21 => L 0 1
  | 22 => L 0 2
  | 23 => L 0 3
  | 24 => L 0 4
  | 25 => L 0 5
  | _ => 0
def Rq (R : Rt) : Rl := fun ρ => if ρ < 3 then R ρ else []
theorem Lq_p (L : Lt) : nP (Lq L) = L 0 1 := rfl
theorem Lq_r (L : Lt) : nR (Lq L) = L 0 2 := rfl
theorem Lq_t (L : Lt) : nT (Lq L) = L 0 3 := rfl
theorem Lq_wf {L : Lt} {N : Nt} {R : Rt} (h : WL L N R) (hf : L 0 2 ≤ 0 ∨ L 0 3 ≠ 0) : WfL (Lq L) := by
  obtain ⟨⟨h0, h1, h2, h3, h4, h5⟩, hp, hr, ht, -⟩ := h
  refine ⟨h0, h1, h2, h3, h4, h5, fun q => ?_, fun p p0 p1 => ?_, fun r r0 r1 => ?_, fun t t0 t1 => ?_⟩
  · have q' : 0 < L 0 2 := q
    show 0 < L 0 3
    omega
  · have p1' : p < L 0 1 := p1
    have e1 : Lq L 1 p = L 1 p.toNat := tr_in ⟨p0, p1'⟩
    have e2 : Lq L 2 p = L 2 p.toNat := tr_in ⟨p0, p1'⟩
    have e3 : Lq L 3 p = L 3 p.toNat := tr_in ⟨p0, p1'⟩
    have e4 : Lq L 4 p = L 4 p.toNat := tr_in ⟨p0, p1'⟩
    rw [e1, e2, e3, e4]
    exact hp p.toNat (by omega)
  · have r1' : r < L 0 2 := r1
    have e5 : Lq L 5 r = L 5 r.toNat := tr_in ⟨r0, r1'⟩
    have e6 : Lq L 6 r = L 6 r.toNat := tr_in ⟨r0, r1'⟩
    rw [e5, e6]
    exact hr r.toNat (by omega)
  · have t1' : t < L 0 3 := t1
    have e7 : Lq L 7 t = L 7 t.toNat := tr_in ⟨t0, t1'⟩
    rw [e7]
    exact ht t.toNat (by omega)
theorem Rq_wf {L : Lt} {N : Nt} {R : Rt} (h : WL L N R) : WfR (Rq R) := fun ρ hρ => by
  unfold Rq
  rw [if_pos hρ]
  exact h.2.2.2.2.2.2 ρ hρ
/-! all that a page needs, by the pages ahead of it -/
theorem cloN_dn (nd : Nat → Nat) (kn ix : Nat) {m v : Nat} (hv : ∀ i, m ≤ i → v.testBit i = false) : ∀ n, m ≤ n → cloN nd kn ix n v = cloN nd kn ix m v
  | 0, hn => by
    have : m = 0 := by omega
    rw [this]
  | n + 1, hn => by
    by_cases e : m = n + 1
    · rw [e]
    · have h := hv n (by omega)
      show cloN nd kn ix n (if v.testBit n = true then v ||| dif (dif (nd n) kn) ix else v) = _
      rw [if_neg (by rw [h]; decide)]
      exact cloN_dn nd kn ix hv n (by omega)
theorem cloN_sup (nd : Nat → Nat) (kn ix : Nat) : ∀ (n v : Nat), v ||| cloN nd kn ix n v = cloN nd kn ix n v
  | 0, v => Nat.or_self v
  | n + 1, v => by
    unfold cloN
    split
    · generalize dif (dif (nd n) kn) ix = d
      have := cloN_sup nd kn ix n (v ||| d)
      rw [← this]
      refine Nat.eq_of_testBit_eq (fun i => ?_)
      simp only [Nat.testBit_or]
      cases v.testBit i <;> cases d.testBit i <;> rfl
    · exact cloN_sup nd kn ix n v
theorem lt_bits {v m : Nat} (h : v < 2 ^ m) (i : Nat) (hi : m ≤ i) : v.testBit i = false :=
  Nat.testBit_lt_two_pow (Nat.lt_of_lt_of_le h (Nat.pow_le_pow_right (by decide) hi))
/-- what a set of earlier pages needs, gathered from the first page on -/
def accN (na : Nat → Nat) (v : Nat) : Nat → Nat
  | 0 => v
  | q + 1 => if v.testBit q = true then accN na v q ||| na q else accN na v q
theorem nal_cloN {L : Lb} (hL : WfL L) {p : Nat} (hp : (p : Int) < nP L) : nal L p = cloN (ndN L) 0 0 p (ndN L p) ∧ cloN (ndN L) 0 0 p (2 ^ p) = 2 ^ p ∧ nal L p < 2 ^ p := by
  have hnd := (nd_lt hL hp).2
  have hb : ∀ i, p ≤ i → (ndN L p).testBit i = false := lt_bits hnd
  have e0 : cloN (ndN L) 0 0 p (2 ^ p) = 2 ^ p := by
    have : ∀ n, n ≤ p → cloN (ndN L) 0 0 n (2 ^ p) = 2 ^ p := by
      intro n
      induction n with
      | zero => intro _; rfl
      | succ n ih =>
        intro hn
        show cloN (ndN L) 0 0 n (if (2 ^ p).testBit n = true then _ else 2 ^ p) = 2 ^ p
        rw [if_neg (by rw [Nat.testBit_two_pow]; simp; omega)]
        exact ih (by omega)
    exact this p (Nat.le_refl _)
  have lt : ∀ n v, n ≤ p → v < 2 ^ p → cloN (ndN L) 0 0 n v < 2 ^ p := by
    intro n
    induction n with
    | zero => intro v _ hv; exact hv
    | succ n ih =>
      intro v hn hv
      show cloN (ndN L) 0 0 n (if v.testBit n = true then v ||| dif (dif (ndN L n) 0) 0 else v) < 2 ^ p
      refine ih _ (by omega) ?_
      split
      · rw [dif_0, dif_0]
        have h1 := (nd_lt hL (q := n) (by omega)).2
        exact Nat.or_lt_two_pow hv (Nat.lt_of_lt_of_le h1 (Nat.pow_le_pow_right (by decide) (by omega)))
      · exact hv
  have e1 : clo L 0 0 (2 ^ p) = 2 ^ p ||| cloN (ndN L) 0 0 p (ndN L p) := by
    unfold clo
    rw [dif_0, cloN_dn (ndN L) 0 0 (m := p + 1) (v := 2 ^ p) (fun i hi => by rw [Nat.testBit_two_pow]; simp; omega) _ (by omega)]
    show cloN (ndN L) 0 0 p (if (2 ^ p).testBit p = true then 2 ^ p ||| dif (dif (ndN L p) 0) 0 else 2 ^ p) = _
    rw [if_pos (by rw [Nat.testBit_two_pow]; simp), dif_0, dif_0, cloN_or, e0]
  have hlt := lt p (ndN L p) (Nat.le_refl _) hnd
  have e2 : nal L p = cloN (ndN L) 0 0 p (ndN L p) := by
    unfold nal
    rw [e1]
    refine Nat.eq_of_testBit_eq (fun i => ?_)
    rw [dif_bit, Nat.testBit_or, Nat.testBit_two_pow]
    by_cases hi : p = i
    · subst hi
      rw [lt_bits hlt p (Nat.le_refl _)]
      simp
    · simp [hi]
  exact ⟨e2, e0, by rw [e2]; exact hlt⟩
theorem mod_bit (v j : Nat) : v % 2 ^ (j + 1) = v % 2 ^ j ||| (if v.testBit j = true then 2 ^ j else 0) := by
  refine Nat.eq_of_testBit_eq (fun i => ?_)
  rw [Nat.testBit_or, Nat.testBit_mod_two_pow, Nat.testBit_mod_two_pow]
  by_cases hj : v.testBit j = true
  · rw [if_pos hj, Nat.testBit_two_pow]
    by_cases hi : j = i
    · subst hi
      rw [hj]
      simp
    · by_cases h1 : i < j
      · simp [h1, hi]; omega
      · have h2 : ¬ i < j + 1 := by omega
        simp [h1, h2, hi]
  · rw [if_neg hj, Nat.zero_testBit]
    by_cases hi : j = i
    · subst hi
      rw [Bool.eq_false_iff.mpr hj]
      simp
    · by_cases h1 : i < j
      · simp [h1]; omega
      · have h2 : ¬ i < j + 1 := by omega
        simp [h1, h2]
theorem accN_nal {L : Lb} (hL : WfL L) {p : Nat} (hp : (p : Int) < nP L) : accN (nal L) (ndN L p) p = nal L p := by
  have hnd := (nd_lt hL hp).2
  have key : ∀ j, j ≤ p → accN (nal L) (ndN L p) j = ndN L p ||| cloN (ndN L) 0 0 p (ndN L p % 2 ^ j) := by
    intro j
    induction j with
    | zero =>
      intro _
      rw [Nat.pow_zero, Nat.mod_one, cloN_0, Nat.or_zero]
      rfl
    | succ j ih =>
      intro hj
      have h := ih (by omega)
      obtain ⟨a1, a2, a3⟩ := nal_cloN hL (p := j) (by omega)
      have ej : cloN (ndN L) 0 0 p (2 ^ j) = 2 ^ j ||| nal L j := by
        rw [cloN_dn (ndN L) 0 0 (m := j + 1) (v := 2 ^ j) (fun i hi => by rw [Nat.testBit_two_pow]; simp; omega) p hj]
        show cloN (ndN L) 0 0 j (if (2 ^ j).testBit j = true then 2 ^ j ||| dif (dif (ndN L j) 0) 0 else 2 ^ j) = _
        rw [if_pos (by rw [Nat.testBit_two_pow]; simp), dif_0, dif_0, cloN_or, a2, a1]
      show (if (ndN L p).testBit j = true then accN (nal L) (ndN L p) j ||| nal L j else accN (nal L) (ndN L p) j) = _
      rw [mod_bit, cloN_or, h]
      by_cases hb : (ndN L p).testBit j = true
      · rw [if_pos hb, if_pos hb, ej]
        refine Nat.eq_of_testBit_eq (fun i => ?_)
        simp only [Nat.testBit_or, Nat.testBit_two_pow]
        by_cases hi : j = i
        · subst hi
          rw [hb]
          simp
        · simp [hi, Bool.or_assoc]
      · rw [if_neg hb, if_neg hb, cloN_0, Nat.or_zero]
  rw [key p (Nat.le_refl _), Nat.mod_eq_of_lt hnd, (nal_cloN hL hp).1]
  exact cloN_sup _ _ _ _ _
theorem accN_lt {na : Nat → Nat} {v n : Nat} : ∀ q, v < 2 ^ n → (∀ i, i < q → na i < 2 ^ n) → accN na v q < 2 ^ n
  | 0, hv, _ => hv
  | q + 1, hv, h => by
    have h1 := accN_lt q hv (fun i hi => h i (by omega))
    unfold accN
    split
    · exact Nat.or_lt_two_pow h1 (h q (by omega))
    · exact h1
end LQ

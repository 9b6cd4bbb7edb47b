section ONPS
/-! ===== an image on the tape: what it must be; the class reads it ===== -/
def w2 (T : Nat → Int) (a : Nat) : Int := 256 * T a + T (a + 1)
def onO (L : Lb) (T : Nat → Int) (lim a : Nat) : Prop := (a : Int) + 9 + T (a + 8) ≤ lim ∧ WfRec L (T a) (w2 T (a + 1)) (w2 T (a + 3)) (T (a + 5) - 1) (w2 T (a + 6)) (T (a + 8)) (fun k => T (a + 9 + k.toNat))
def onQ (T : Nat → Int) : Nat → Nat
  | 0 => 4
  | r + 1 => onQ T r + 9 + (T (onQ T r + 8)).toNat
def chT (T : Nat → Int) : Nat → Int
  | 0 => 83
  | n + 1 => (5 * chT T n + T n) % 251
theorem chT_bd (T : Nat → Int) : ∀ n : Nat, 0 ≤ chT T n ∧ chT T n < 251
  | 0 => by
    show (0 : Int) ≤ 83 ∧ (83 : Int) < 251
    decide
  | n + 1 => by
    unfold chT
    omega
def onK (L : Lb) (T : Nat → Int) (n : Nat) : Prop := 5 ≤ n ∧ w2 T 0 ≤ 999 ∧ w2 T 2 ≤ 9999 ∧ (∀ r, r < (nR L).toNat → onO L T (n - 1) (onQ T r)) ∧ onQ T (nR L).toNat = n - 1 ∧ T (n - 1) = chT T (n - 1)
def tkO (base : Nat) (l : Nat → Int) : Nat → Nat
  | 0 => base
  | k + 1 => tkO base l k ||| 2 ^ (l k).toNat
theorem tkO_bit {base : Nat} {l : Nat → Int} {i : Nat} : ∀ k : Nat, (tkO base l k).testBit i = true ↔ base.testBit i = true ∨ ∃ j, j < k ∧ (l j).toNat = i
  | 0 => ⟨Or.inl, fun h => h.elim id (fun ⟨j, hj, _⟩ => absurd hj (Nat.not_lt_zero _))⟩
  | k + 1 => by
    rw [tkO, Nat.testBit_or, Bool.or_eq_true, tkO_bit k, Nat.testBit_two_pow, decide_eq_true_eq]
    constructor
    · rintro ((h | ⟨j, hj, e⟩) | h)
      · exact Or.inl h
      · exact Or.inr ⟨j, by omega, e⟩
      · exact Or.inr ⟨k, by omega, h⟩
    · rintro (h | ⟨j, hj, e⟩)
      · exact Or.inl (Or.inl h)
      · by_cases q : j = k
        · rw [q] at e
          exact Or.inr e
        · exact Or.inl (Or.inr ⟨j, by omega, e⟩)
theorem tkO_lt {base : Nat} {l : Nat → Int} (hb : base < 16384) : ∀ k : Nat, (∀ j, j < k → 0 ≤ l j ∧ l j < 14) → tkO base l k < 16384
  | 0, _ => hb
  | k + 1, h => or_lt14 (n := 14) (tkO_lt hb k (fun j hj => h j (by omega))) (Nat.pow_lt_pow_right (by decide) (by have := h k (by omega); omega))
/-- a list as far as it is read -/
def lsOk (L : Lb) (base : Nat) (l : Nat → Int) (k : Nat) : Prop := ∀ j, j < k → (0 ≤ l j ∧ l j < nP L) ∧ base.testBit (l j).toNat = false ∧ ∀ i, i < j → ¬ l i = l j
theorem lsOk.up {L : Lb} {base : Nat} {l : Nat → Int} {k : Nat} (h : lsOk L base l k) (h1 : 0 ≤ l k ∧ l k < nP L) (h2 : (tkO base l k).testBit (l k).toNat = false) : lsOk L base l (k + 1) := by
  have hn : ¬ (base.testBit (l k).toNat = true ∨ ∃ j, j < k ∧ (l j).toNat = (l k).toNat) := fun t => by
    rw [(tkO_bit k).mpr t] at h2
    exact Bool.noConfusion h2
  intro j hj
  by_cases q : j = k
  · subst q
    refine ⟨h1, ?_, fun i hi e => hn (Or.inr ⟨i, hi, by rw [e]⟩)⟩
    cases hb : base.testBit (l j).toNat
    · rfl
    · exact absurd (Or.inl hb) hn
  · exact h j (by omega)
theorem lsOk.no {L : Lb} {base : Nat} {l : Nat → Int} {k m : Nat} (h : lsOk L base l m) (hk : k < m) : (tkO base l k).testBit (l k).toNat = false := by
  cases hb : (tkO base l k).testBit (l k).toNat
  · rfl
  · rcases (tkO_bit k).mp hb with t | ⟨j, hj, e⟩
    · rw [(h k hk).2.1] at t
      exact Bool.noConfusion t
    · have a := (h j (by omega)).1
      have b := (h k hk).1
      exact absurd (by omega) ((h k hk).2.2 j hj)
/-- the record, put together and taken apart -/
theorem wfrec_iff {L : Lb} {s1 s2 s3 s4 s5 s6 : Int} {l : Int → Int} (h6 : 0 ≤ s6) : WfRec L s1 s2 s3 s4 s5 s6 l ↔ ((0 ≤ s1 ∧ s1 < nT L) ∧ (0 ≤ s2 ∧ s2.toNat < 2 ^ (nP L).toNat) ∧ (0 ≤ s3 ∧ s3.toNat < 2 ^ (nP L).toNat) ∧ s2.toNat &&& s3.toNat = 0 ∧ s6 ≤ 8 ∧ lsOk L (s2.toNat ||| s3.toNat) (fun k : Nat => l (k : Int)) s6.toNat ∧ (s4 = -1 ∧ s5 = 0 ∨ (1 ≤ s5 ∧ s5 ≤ 499) ∧ ∃ k : Nat, k < s6.toNat ∧ l (k : Int) = s4)) := by
  unfold WfRec lsOk
  constructor
  · rintro ⟨a1, a2, a3, a4, a5, a6, a7⟩
    refine ⟨a1, a2, a3, a4, a5.2, fun j hj => ?_, ?_⟩
    · obtain ⟨b1, b2, b3⟩ := a6 (j : Int) (by omega) (by omega)
      exact ⟨b1, b2, fun i hi => b3 (i : Int) (by omega) (by omega)⟩
    · rcases a7 with a7 | ⟨a7, k, k0, k1, k2⟩
      · exact Or.inl a7
      · exact Or.inr ⟨a7, k.toNat, by omega, by rw [Int.toNat_of_nonneg k0]; exact k2⟩
  · rintro ⟨a1, a2, a3, a4, a5, a6, a7⟩
    refine ⟨a1, a2, a3, a4, ⟨h6, a5⟩, fun k k0 k1 => ?_, ?_⟩
    · obtain ⟨b1, b2, b3⟩ := a6 k.toNat (by omega)
      dsimp only at b1 b2 b3
      rw [Int.toNat_of_nonneg k0] at b1 b2 b3
      refine ⟨b1, b2, fun j j0 j1 => ?_⟩
      have := b3 j.toNat (by omega)
      rwa [Int.toNat_of_nonneg j0] at this
    · rcases a7 with a7 | ⟨a7, k, k1, k2⟩
      · exact Or.inl a7
      · exact Or.inr ⟨a7, (k : Int), by omega, by omega, k2⟩
/-- the class's tape -/
def TpC (I : Nat → Nat → Int32) (T : Nat → Int) (n : Nat) : Prop := gi I 1 1 = (n : Int) ∧ n ≤ 1600 ∧ ∀ j : Nat, j < n → gi I 2 j = T j ∧ 0 ≤ T j ∧ T j ≤ 255
theorem TpC.fr {I I' : Nat → Nat → Int32} {T : Nat → Int} {n : Nat} (h : TpC I T n) (h1 : gi I' 1 1 = gi I 1 1) (h2 : I' 2 = I 2) : TpC I' T n := ⟨h1.trans h.1, h.2.1, fun j hj => by rw [gi_row h2]; exact h.2.2 j hj⟩
theorem tpc_byt {I : Nat → Nat → Int32} {T : Nat → Int} {n a : Nat} (h : TpC I T n) {x : Int} (hx : x = (a : Int)) : byt I x = if a < n then T a else -1 := by
  subst hx
  unfold byt
  rw [h.1]
  by_cases q : a < n
  · rw [if_pos q, if_pos ⟨by omega, by omega⟩, Int.toNat_natCast]
    exact (h.2.2 a q).1
  · rw [if_neg q, if_neg (by omega)]
end ONPS

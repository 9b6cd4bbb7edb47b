section SETSS
/-! ===== sets of pages: their minutes, which are whole, which is best ===== -/
def mS (n : Nat) (t : Nat → Int) (S : Nat) : Int := smi n (fun p => if S.testBit p = true then t p else 0)
abbrev Key : Type := Int × Int × Int
def key (n : Nat) (t : Nat → Int) (S : Nat) : Key := ((pop S : Int), mS n t S, (S : Int))
def geq (a b : Key) : Prop := b.1 < a.1 ∨ a.1 = b.1 ∧ (a.2.1 < b.2.1 ∨ a.2.1 = b.2.1 ∧ a.2.2 ≤ b.2.2)
theorem geq.rf (a : Key) : geq a a := Or.inr ⟨rfl, Or.inr ⟨rfl, Int.le_refl _⟩⟩
theorem geq.tr {a b c : Key} (h : geq a b) (h' : geq b c) : geq a c := by
  unfold geq at *
  omega
theorem geq.as {a b : Key} (h : geq a b) (h' : geq b a) : a = b := by
  unfold geq at *
  have e1 : a.1 = b.1 := by omega
  have e2 : a.2.1 = b.2.1 := by omega
  have e3 : a.2.2 = b.2.2 := by omega
  exact Prod.ext e1 (Prod.ext e2 e3)
/-- whole with all that is needed and not known -/
def shut (nd : Nat → Nat) (kn n S : Nat) : Prop := ∀ p, p < n → S.testBit p = true → kn.testBit p = false ∧ dif (dif (nd p) kn) S = 0
def feas (nd : Nat → Nat) (kn n : Nat) (t : Nat → Int) (lim : Int) (S : Nat) : Prop := S < 2 ^ n ∧ shut nd kn n S ∧ mS n t S ≤ lim
def ext (m s S : Nat) : Prop := ∀ p, p < m → S.testBit p = s.testBit p
theorem hi_bit {s m p : Nat} (h : s < 2 ^ m) (hp : m ≤ p) : s.testBit p = false := Nat.testBit_lt_two_pow (Nat.lt_of_lt_of_le h (Nat.pow_le_pow_right (by decide) hp))
theorem dif_or (a b c : Nat) : dif a (b ||| c) = dif (dif a b) c := by
  refine Nat.eq_of_testBit_eq (fun i => ?_)
  rw [dif_bit, dif_bit, dif_bit, Nat.testBit_or]
  cases a.testBit i <;> cases b.testBit i <;> cases c.testBit i <;> rfl
theorem dif_ext {a m s S : Nat} (ha : a < 2 ^ m) (h : ext m s S) : dif a S = dif a s := by
  refine Nat.eq_of_testBit_eq (fun i => ?_)
  rw [dif_bit, dif_bit]
  by_cases q : i < m
  · rw [h i q]
  · rw [hi_bit ha (by omega)]
    rfl
theorem ext_or {m s : Nat} (p : Nat) (hp : m ≤ p) : ext m s (s ||| 2 ^ p) := by
  intro i hi
  rw [Nat.testBit_or, Nat.testBit_two_pow, decide_eq_false (by omega), Bool.or_false]
theorem ext_in {m s S : Nat} (hs : s < 2 ^ m) : ext (m + 1) (s ||| 2 ^ m) S ↔ ext m s S ∧ S.testBit m = true := by
  constructor
  · intro h
    refine ⟨fun i hi => (h i (by omega)).trans (ext_or m (Nat.le_refl _) i hi), ?_⟩
    rw [h m (by omega), Nat.testBit_or, Nat.testBit_two_pow_self, Bool.or_true]
  · rintro ⟨h, h2⟩ i hi
    by_cases q : i = m
    · rw [q, h2, Nat.testBit_or, Nat.testBit_two_pow_self, Bool.or_true]
    · rw [h i (by omega), ext_or m (Nat.le_refl _) i (by omega)]
theorem ext_out {m s S : Nat} (hs : s < 2 ^ m) : ext (m + 1) s S ↔ ext m s S ∧ S.testBit m = false := by
  constructor
  · intro h
    exact ⟨fun i hi => h i (by omega), by rw [h m (by omega)]; exact hi_bit hs (Nat.le_refl _)⟩
  · rintro ⟨h, h2⟩ i hi
    by_cases q : i = m
    · rw [q, h2, hi_bit hs (Nat.le_refl _)]
    · exact h i (by omega)
theorem ext_eq {n s S : Nat} (hs : s < 2 ^ n) (hS : S < 2 ^ n) (h : ext n s S) : S = s := by
  refine Nat.eq_of_testBit_eq (fun i => ?_)
  by_cases q : i < n
  · exact h i q
  · rw [hi_bit hs (by omega), hi_bit hS (by omega)]
theorem mS_hi {m n : Nat} {t : Nat → Int} {s : Nat} (hs : s < 2 ^ m) (h : m ≤ n) : mS n t s = mS m t s := by
  induction n with
  | zero => rw [show m = 0 by omega]
  | succ n ih =>
    by_cases q : m = n + 1
    · rw [q]
    · have := ih (by omega)
      have e : mS (n + 1) t s = mS n t s + (if s.testBit n = true then t n else 0) := rfl
      rw [e, hi_bit hs (by omega), this]
      show mS m t s + 0 = mS m t s
      omega
theorem mS_ext {m : Nat} {t : Nat → Int} {s S : Nat} (h : ext m s S) : mS m t S = mS m t s := smi_congr (fun i hi => by
  show (if S.testBit i = true then t i else 0) = (if s.testBit i = true then t i else 0)
  rw [h i hi])
theorem mS_le {m n : Nat} {t : Nat → Int} {S : Nat} (ht : ∀ p, p < n → 0 ≤ t p) (h : m ≤ n) : mS m t S ≤ mS n t S := by
  induction n with
  | zero => rw [show m = 0 by omega]; exact Int.le_refl _
  | succ n ih =>
    by_cases q : m = n + 1
    · rw [q]; exact Int.le_refl _
    · have h1 := ih (fun p hp => ht p (by omega)) (by omega)
      have e : mS (n + 1) t S = mS n t S + (if S.testBit n = true then t n else 0) := rfl
      have h2 := ht n (by omega)
      rw [e]
      split <;> omega
theorem mS_in {m : Nat} {t : Nat → Int} {s : Nat} : mS (m + 1) t (s ||| 2 ^ m) = mS m t s + t m := by
  have e : mS (m + 1) t (s ||| 2 ^ m) = mS m t (s ||| 2 ^ m) + (if (s ||| 2 ^ m).testBit m = true then t m else 0) := rfl
  rw [e, mS_ext (ext_or m (Nat.le_refl _)), Nat.testBit_or, Nat.testBit_two_pow_self, Bool.or_true, if_pos rfl]
theorem mS_out {m : Nat} {t : Nat → Int} {s : Nat} (hs : s < 2 ^ m) : mS (m + 1) t s = mS m t s := mS_hi hs (Nat.le_succ m)
theorem popw_ext {m s S : Nat} (h : ext m s S) : popw m S = popw m s := by
  induction m with
  | zero => rfl
  | succ m ih => rw [popw, popw, ih (fun p hp => h p (by omega)), h m (by omega)]
theorem popw_add (m d S : Nat) : popw (m + d) S ≤ popw m S + d := by
  induction d with
  | zero => exact Nat.le_refl _
  | succ d ih =>
    rw [← Nat.add_assoc, popw]
    split <;> omega
theorem popw_hi {m d S : Nat} (h : S < 2 ^ m) : popw (m + d) S = popw m S := by
  induction d with
  | zero => rfl
  | succ d ih =>
    rw [← Nat.add_assoc, popw, ih, hi_bit h (by omega)]
    rfl
theorem pop_hi {m S : Nat} (h : S < 2 ^ m) (hm : m ≤ 14) : pop S = popw m S := by
  unfold pop
  rw [show 14 = m + (14 - m) by omega]
  exact popw_hi h
theorem pop_ext {m n s S : Nat} (hn : n ≤ 14) (hm : m ≤ n) (hs : s < 2 ^ m) (hS : S < 2 ^ n) (h : ext m s S) : pop S ≤ pop s + (n - m) := by
  rw [pop_hi hS hn, pop_hi hs (by omega), ← popw_ext h]
  have := popw_add m (n - m) S
  rwa [show m + (n - m) = n by omega] at this
theorem lt_succ_or {m s : Nat} (hs : s < 2 ^ m) : s ||| 2 ^ m < 2 ^ (m + 1) := or_lt14 (Nat.lt_of_lt_of_le hs (Nat.pow_le_pow_right (by decide) (Nat.le_succ m))) (Nat.pow_lt_pow_right (by decide) (Nat.lt_succ_self m))
theorem lt_succ_s {m s : Nat} (hs : s < 2 ^ m) : s < 2 ^ (m + 1) := Nat.lt_of_lt_of_le hs (Nat.pow_le_pow_right (by decide) (Nat.le_succ m))
/-- a page more -/
theorem shut_in {nd : Nat → Nat} {kn m s : Nat} (hnd : ∀ p, p ≤ m → nd p < 2 ^ p) (hs : s < 2 ^ m) (h : shut nd kn m s) (hk : kn.testBit m = false) (hm : dif (nd m) (kn ||| s) = 0) : shut nd kn (m + 1) (s ||| 2 ^ m) := by
  intro p hp hb
  by_cases q : p = m
  · subst q
    refine ⟨hk, ?_⟩
    rw [dif_ext (a := dif (nd p) kn) (m := p) (dif_lt (hnd p (Nat.le_refl _))) (ext_or p (Nat.le_refl _)), ← dif_or]
    exact hm
  · rw [ext_or m (Nat.le_refl _) p (by omega)] at hb
    obtain ⟨h1, h2⟩ := h p (by omega) hb
    refine ⟨h1, ?_⟩
    rw [dif_ext (a := dif (nd p) kn) (m := m) (Nat.lt_of_lt_of_le (dif_lt (hnd p (by omega))) (Nat.pow_le_pow_right (by decide) (by omega))) (ext_or m (Nat.le_refl _))]
    exact h2
theorem shut_out {nd : Nat → Nat} {kn m s : Nat} (hs : s < 2 ^ m) (h : shut nd kn m s) : shut nd kn (m + 1) s := by
  intro p hp hb
  by_cases q : p = m
  · rw [q, hi_bit hs (Nat.le_refl _)] at hb
    exact Bool.noConfusion hb
  · exact h p (by omega) hb
/-- what a whole set with the page tells of what stands below -/
theorem shut_need {nd : Nat → Nat} {kn m n s S : Nat} (hnd : nd m < 2 ^ m) (hm : m < n) (hS : shut nd kn n S) (he : ext m s S) (hb : S.testBit m = true) : kn.testBit m = false ∧ dif (nd m) (kn ||| s) = 0 := by
  obtain ⟨h1, h2⟩ := hS m hm hb
  refine ⟨h1, ?_⟩
  rw [dif_or, ← dif_ext (a := dif (nd m) kn) (dif_lt hnd) he]
  exact h2
end SETSS

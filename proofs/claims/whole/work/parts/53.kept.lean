section KEPTS
/-! ===== the pages kept, as a list against the log ===== -/
def cdE (e : Int × Int × Int) : Int := 128 * e.1 + 16 * e.2.1 + e.2.2
def okE (e : Int × Int × Int) : Prop := (0 ≤ e.1 ∧ e.1 ≤ 1000) ∧ (0 ≤ e.2.1 ∧ e.2.1 < 6) ∧ (0 ≤ e.2.2 ∧ e.2.2 < 14)
abbrev geK (l : List (Int × Int × Int)) (k : Nat) : Int × Int × Int := l.getD k (0, 0, 0)
def KPl (l : List (Int × Int × Int)) (g : Nat → Int) (kc : Nat) : Prop := l.length = min 60 kc ∧ ∀ k, k < l.length → okE (geK l k) ∧ g (kc - l.length + k) = cdE (geK l k)
theorem geK_lo {e : Int × Int × Int} : ∀ {l : List (Int × Int × Int)} {k : Nat}, k < l.length → geK (l ++ [e]) k = geK l k
  | [], _, h => absurd h (Nat.not_lt_zero _)
  | _ :: _, 0, _ => rfl
  | _ :: l, k + 1, h => geK_lo (l := l) (k := k) (Nat.lt_of_succ_lt_succ h)
theorem geK_hi {e : Int × Int × Int} : ∀ {l : List (Int × Int × Int)}, geK (l ++ [e]) l.length = e
  | [] => rfl
  | _ :: l => geK_hi (l := l)
theorem KPl_psh {l : List (Int × Int × Int)} {g g' : Nat → Int} {kc : Nat} {e : Int × Int × Int} (h : KPl l g kc) (hk : g' kc = cdE e) (hg : ∀ j, j < kc → g' j = g j) (he : okE e) : KPl (psh l e) g' (kc + 1) := by
  obtain ⟨h1, h2⟩ := h
  unfold psh
  by_cases q : l.length = 60
  · rw [if_pos q]
    cases l with
    | nil => exact absurd q (by decide)
    | cons a t =>
      have ht : t.length = 59 := by rw [List.length_cons] at q; omega
      have hl : (t ++ [e]).length = 60 := by rw [List.length_append, ht]; rfl
      rw [List.length_cons] at h1 h2
      refine ⟨by rw [List.tail_cons, hl]; omega, fun k hk2 => ?_⟩
      rw [List.tail_cons] at hk2 ⊢
      rw [hl] at hk2 ⊢
      by_cases r : k < t.length
      · obtain ⟨a1, a2⟩ := h2 (k + 1) (by omega)
        rw [geK_lo r, hg _ (by omega), show kc + 1 - 60 + k = kc - (t.length + 1) + (k + 1) by omega]
        exact ⟨a1, a2⟩
      · rw [show k = t.length by omega, geK_hi, show kc + 1 - 60 + t.length = kc by omega]
        exact ⟨he, hk⟩
  · rw [if_neg q]
    have hl : (l ++ [e]).length = l.length + 1 := by rw [List.length_append]; rfl
    refine ⟨by rw [hl]; omega, fun k hk2 => ?_⟩
    rw [hl] at hk2 ⊢
    by_cases r : k < l.length
    · obtain ⟨a1, a2⟩ := h2 k r
      rw [geK_lo r, hg _ (by omega), show kc + 1 - (l.length + 1) + k = kc - l.length + k by omega]
      exact ⟨a1, a2⟩
    · rw [show k = l.length by omega, geK_hi, show kc + 1 - (l.length + 1) + l.length = kc by omega]
      exact ⟨he, hk⟩
theorem lsG_get {f : Int → Int × Int × Int} : ∀ {n k : Nat}, k < n → geK (lsG f n) k = f k
  | 0, _, h => absurd h (Nat.not_lt_zero _)
  | n + 1, k, h => by
    rw [lsG_succ]
    by_cases r : k < n
    · rw [geK_lo (by rw [lsG_len]; exact r)]
      exact lsG_get r
    · have e : k = (lsG f n).length := by rw [lsG_len]; omega
      have e2 : geK (lsG f n ++ [f n]) (lsG f n).length = f n := geK_hi
      rw [← e] at e2
      rw [e2, show n = k by omega]
theorem KP_l {I : Nat → Nat → Int32} {kc v : Int} : KP I kc v ↔ (0 ≤ kc ∧ kc ≤ 84) ∧ 0 ≤ gi I 117 v.toNat ∧ KPl (kpL I v) (gi I 20) kc.toNat := by
  unfold KP KPl kpL
  rw [lsG_len]
  constructor
  · rintro ⟨h1, h2, h3⟩
    refine ⟨h1, by omega, by omega, fun k hk => ?_⟩
    rw [lsG_get hk]
    obtain ⟨a1, a2, a3, a4⟩ := h3 k (by omega) (by omega)
    refine ⟨⟨a1, a2, a3⟩, ?_⟩
    rw [show kc.toNat - (gi I 117 v.toNat).toNat + k = ((kc - min 60 kc) + (k : Int)).toNat by omega]
    exact a4
  · rintro ⟨h1, h2, h3, h4⟩
    refine ⟨h1, by omega, fun k k0 k1 => ?_⟩
    obtain ⟨⟨a1, a2, a3⟩, a4⟩ := h4 k.toNat (by omega)
    rw [lsG_get (by omega), Int.toNat_of_nonneg k0] at a1 a2 a3 a4
    refine ⟨a1, a2, a3, ?_⟩
    rw [show ((kc - min 60 kc) + k).toNat = kc.toNat - (gi I 117 v.toNat).toNat + k.toNat by omega]
    exact a4
end KEPTS

section LEXP
/-! ===== the text as tokens, purely ===== -/
def zB (c : Int) : Bool := decide (c = 10 ∨ c = 32)
def zL (c : Int) : Bool := decide (97 ≤ c ∧ c ≤ 122)
def zD (c : Int) : Bool := decide (48 ≤ c ∧ c ≤ 57)
theorem zB_t {c : Int} : zB c = true ↔ (c = 10 ∨ c = 32) := decide_eq_true_iff
theorem zL_t {c : Int} : zL c = true ↔ (97 ≤ c ∧ c ≤ 122) := decide_eq_true_iff
theorem zD_t {c : Int} : zD c = true ↔ (48 ≤ c ∧ c ≤ 57) := decide_eq_true_iff
def runF (g : Int → Bool) (T : Nat → Int) (n : Nat) : Nat → Nat → Nat
  | 0, p => p
  | d + 1, p => if p < n ∧ g (T p) = true then runF g T n d (p + 1) else p
def runS (g : Int → Bool) (T : Nat → Int) (n p : Nat) : Nat := runF g T n (n - p) p
theorem runS_step {g : Int → Bool} {T : Nat → Int} {n p : Nat} (h : p < n ∧ g (T p) = true) : runS g T n p = runS g T n (p + 1) := by
  unfold runS
  rw [show n - p = (n - (p + 1)) + 1 by omega, runF, if_pos h]
theorem runS_stop {g : Int → Bool} {T : Nat → Int} {n p : Nat} (h : ¬ (p < n ∧ g (T p) = true)) : runS g T n p = p := by
  unfold runS
  cases n - p with
  | zero => rfl
  | succ d => rw [runF, if_neg h]
theorem runF_ge {g : Int → Bool} {T : Nat → Int} {n : Nat} : ∀ d p, p ≤ runF g T n d p
  | 0, _ => Nat.le_refl _
  | d + 1, p => by
    rw [runF]
    split
    · have := runF_ge (g := g) (T := T) (n := n) d (p + 1)
      omega
    · exact Nat.le_refl _
theorem runF_le {g : Int → Bool} {T : Nat → Int} {n : Nat} : ∀ d p, p ≤ n → runF g T n d p ≤ n
  | 0, _, h => h
  | d + 1, p, h => by
    rw [runF]
    split
    · rename_i q
      exact runF_le d (p + 1) q.1
    · exact h
theorem runF_all {g : Int → Bool} {T : Nat → Int} {n : Nat} : ∀ d p i, p ≤ i → i < runF g T n d p → g (T i) = true
  | 0, p, i, h1, h2 => absurd h2 (by rw [runF]; omega)
  | d + 1, p, i, h1, h2 => by
    rw [runF] at h2
    split at h2
    · rename_i q
      by_cases e : i = p
      · rw [e]; exact q.2
      · exact runF_all d (p + 1) i (by omega) h2
    · omega
theorem runF_end {g : Int → Bool} {T : Nat → Int} {n : Nat} : ∀ d p, n - p ≤ d → runF g T n d p < n → g (T (runF g T n d p)) = false
  | 0, p, h1, h2 => absurd h2 (by rw [runF]; omega)
  | d + 1, p, h1, h2 => by
    rw [runF] at h2 ⊢
    split at h2
    · rename_i q
      rw [if_pos q]
      exact runF_end d (p + 1) (by omega) h2
    · rename_i q
      rw [if_neg q]
      cases hg : g (T p)
      · rfl
      · exact absurd ⟨h2, hg⟩ q
theorem runS_ge {g : Int → Bool} {T : Nat → Int} {n : Nat} (p : Nat) : p ≤ runS g T n p := runF_ge _ p
theorem runS_le {g : Int → Bool} {T : Nat → Int} {n p : Nat} (h : p ≤ n) : runS g T n p ≤ n := runF_le _ p h
theorem runS_all {g : Int → Bool} {T : Nat → Int} {n p i : Nat} (h1 : p ≤ i) (h2 : i < runS g T n p) : g (T i) = true := runF_all _ p i h1 h2
theorem runS_end {g : Int → Bool} {T : Nat → Int} {n p : Nat} (h : runS g T n p < n) : g (T (runS g T n p)) = false := runF_end _ p (Nat.le_refl _) h
/-! a token's letters, the last one first -/
def ltR (T : Nat → Int) (s : Nat) : Nat → List Nat
  | 0 => []
  | d + 1 => (T (s + d)).toNat :: ltR T s d
theorem ltR_len (T : Nat → Int) (s : Nat) : ∀ d, (ltR T s d).length = d
  | 0 => rfl
  | d + 1 => by rw [ltR, List.length_cons, ltR_len T s d]
theorem ltR_eq {T T' : Nat → Int} {s s' : Nat} : ∀ {d d' : Nat}, ltR T s d = ltR T' s' d' ↔ d = d' ∧ ∀ j, j < d → (T (s + j)).toNat = (T' (s' + j)).toNat
  | 0, 0 => ⟨fun _ => ⟨rfl, fun j hj => absurd hj (Nat.not_lt_zero _)⟩, fun _ => rfl⟩
  | 0, d' + 1 => ⟨fun h => (by cases h), fun h => absurd h.1 (by omega)⟩
  | d + 1, 0 => ⟨fun h => (by cases h), fun h => absurd h.1 (by omega)⟩
  | d + 1, d' + 1 => by
    rw [ltR, ltR]
    constructor
    · intro h
      injection h with h1 h2
      obtain ⟨e, h3⟩ := ltR_eq.mp h2
      subst e
      refine ⟨rfl, fun j hj => ?_⟩
      by_cases ej : j = d
      · rw [ej]; exact h1
      · exact h3 j (by omega)
    · intro h
      have e : d = d' := by omega
      subst e
      rw [h.2 d (Nat.lt_succ_self d), ltR_eq.mpr ⟨rfl, fun j hj => h.2 j (by omega)⟩]
theorem ltR_mem {T : Nat → Int} {s : Nat} : ∀ {d c : Nat}, c ∈ ltR T s d → ∃ j, j < d ∧ c = (T (s + j)).toNat
  | 0, c, h => by cases h
  | d + 1, c, h => by
    rw [ltR] at h
    rcases List.mem_cons.mp h with e | e
    · exact ⟨d, Nat.lt_succ_self d, e⟩
    · obtain ⟨j, hj, e⟩ := ltR_mem e
      exact ⟨j, by omega, e⟩
theorem ltR_congr {T T' : Nat → Int} {s d : Nat} (h : ∀ j, j < d → T (s + j) = T' (s + j)) : ltR T s d = ltR T' s d := ltR_eq.mpr ⟨rfl, fun j hj => by rw [h j hj]⟩
/-! own words -/
def ownLn : List Nat := [4, 4, 2, 5, 3, 5, 6, 4, 4, 5, 5, 4, 5, 5, 5, 5, 5, 7, 5, 2, 3, 3, 3, 3, 3]
def ownL (w : Nat) : Nat := ownLn.getD w 0
def ownR (w : Nat) : List Nat := ltR ownZ (7 * w) (ownL w)
theorem own_tx : (List.range 25).all (fun w => decide (2 ≤ ownL w ∧ ownL w ≤ 7) && (List.range 7).all (fun j => decide ((j < ownL w → 97 ≤ ownZ (7 * w + j) ∧ ownZ (7 * w + j) ≤ 122) ∧ (ownL w ≤ j → ownZ (7 * w + j) = 32)))) = true := by decide +kernel
theorem own_l {w : Nat} (h : w < 25) : 2 ≤ ownL w ∧ ownL w ≤ 7 := by
  have := all_at own_tx h
  rw [Bool.and_eq_true] at this
  exact of_decide_eq_true this.1
theorem own_c {w j : Nat} (h : w < 25) (hj : j < 7) : (j < ownL w → 97 ≤ ownZ (7 * w + j) ∧ ownZ (7 * w + j) ≤ 122) ∧ (ownL w ≤ j → ownZ (7 * w + j) = 32) := by
  have := all_at own_tx h
  rw [Bool.and_eq_true] at this
  exact of_decide_eq_true (all_at this.2 hj)
def owF (r : List Nat) : Nat → Int
  | 0 => -1
  | d + 1 => if r = ownR (24 - d) then ((24 - d : Nat) : Int) else owF r d
/-- which own word; none is -1 -/
def owI (r : List Nat) : Int := owF r 25
theorem owF_in (r : List Nat) : ∀ d, d ≤ 25 → owF r d = -1 ∨ ∃ w : Nat, w < 25 ∧ owF r d = (w : Int) ∧ r = ownR w
  | 0, _ => Or.inl rfl
  | d + 1, h => by
    rw [owF]
    by_cases e : r = ownR (24 - d)
    · rw [if_pos e]
      exact Or.inr ⟨24 - d, by omega, rfl, e⟩
    · rw [if_neg e]
      exact owF_in r d (by omega)
theorem owI_in (r : List Nat) : owI r = -1 ∨ ∃ w : Nat, w < 25 ∧ owI r = (w : Int) ∧ r = ownR w := owF_in r 25 (Nat.le_refl _)
theorem owI_own : (List.range 25).all (fun w => decide (owI (ownR w) = (w : Int))) = true := by decide +kernel
theorem owI_iff {r : List Nat} {w : Nat} (hw : w < 25) : owI r = (w : Int) ↔ r = ownR w := by
  constructor
  · intro h
    rcases owI_in r with e | ⟨w', _, e, er⟩
    · omega
    · rw [er, show w' = w by omega]
  · intro h
    rw [h]
    exact of_decide_eq_true (all_at owI_own hw)
/-! a token at a place -/
def nvF (T : Nat → Int) (s : Nat) : Nat → Int
  | 0 => 0
  | d + 1 => nvF T s d * 10 + T (s + d) - 48
theorem nvF_bd {T : Nat → Int} {s : Nat} : ∀ d, d ≤ 4 → (∀ j, j < d → zD (T (s + j)) = true) → 0 ≤ nvF T s d ∧ nvF T s d < 10 ^ d
  | 0, _, _ => ⟨Int.le_refl _, show (0 : Int) < 10 ^ 0 by decide⟩
  | d + 1, hd, h => by
    have h1 := nvF_bd d (by omega) (fun j hj => h j (by omega))
    have h2 := zD_t.mp (h d (Nat.lt_succ_self d))
    rw [nvF, Int.pow_succ]
    omega
def tS (T : Nat → Int) (n p : Nat) : Nat := runS zB T n p
def rK (T : Nat → Int) (n s : Nat) : Nat := if s < n then (if zL (T s) = true then 1 else if zD (T s) = true then 2 else 3) else 0
def tW (T : Nat → Int) (n s : Nat) : Nat := if s < n then (if zL (T s) = true then runS zL T n s else if zD (T s) = true then runS zD T n s else s + 1) else s
def tE (T : Nat → Int) (n p : Nat) : Nat := tW T n (tS T n p)
def kR (T : Nat → Int) (n p : Nat) : Nat := rK T n (tS T n p)
/-- its letters -/
def lR (T : Nat → Int) (n p : Nat) : List Nat := ltR T (tS T n p) (tE T n p - tS T n p)
def ow (T : Nat → Int) (n p : Nat) : Int := if kR T n p = 1 then owI (lR T n p) else -1
def glu (T : Nat → Int) (n p : Nat) : Prop := 0 < tS T n p ∧ (kR T n p = 1 ∨ kR T n p = 2) ∧ (zL (T (tS T n p - 1)) = true ∨ zD (T (tS T n p - 1)) = true)
/-- where it is wrong in itself; -1 where it is not -/
noncomputable def bd (T : Nat → Int) (n p : Nat) : Int := @ite Int (glu T n p) (Classical.propDecidable _) ((tS T n p : Nat) : Int) (if kR T n p = 1 ∧ ow T n p = -1 ∧ 6 < tE T n p - tS T n p then ((tS T n p + 6 : Nat) : Int) else if kR T n p = 2 ∧ 4 < tE T n p - tS T n p then ((tS T n p + 4 : Nat) : Int) else -1)
noncomputable def pl (T : Nat → Int) (n p : Nat) : Int := if bd T n p = -1 then ((tS T n p : Nat) : Int) else bd T n p
def vl (T : Nat → Int) (n p : Nat) : Int := if kR T n p = 0 then -1 else if kR T n p = 1 then ow T n p else if kR T n p = 2 then nvF T (tS T n p) (min 4 (tE T n p - tS T n p)) else T (tS T n p)
noncomputable def kC (T : Nat → Int) (n p : Nat) : Int := if bd T n p = -1 then (if kR T n p = 0 then 0 else if kR T n p = 1 then (if ow T n p = -1 then 1 else 2) else if kR T n p = 2 then 3 else 4) else 5
theorem rK_cases (T : Nat → Int) (n s : Nat) : (n ≤ s ∧ rK T n s = 0 ∧ tW T n s = s) ∨ (s < n ∧ zL (T s) = true ∧ rK T n s = 1 ∧ tW T n s = runS zL T n s) ∨ (s < n ∧ zL (T s) = false ∧ zD (T s) = true ∧ rK T n s = 2 ∧ tW T n s = runS zD T n s) ∨ (s < n ∧ zL (T s) = false ∧ zD (T s) = false ∧ rK T n s = 3 ∧ tW T n s = s + 1) := by
  unfold rK tW
  by_cases h : s < n
  · cases hL : zL (T s) <;> cases hD : zD (T s) <;> simp [h]
  · exact Or.inl ⟨by omega, by rw [if_neg h], by rw [if_neg h]⟩
theorem run_gt {g : Int → Bool} {T : Nat → Int} {n s : Nat} (h : s < n ∧ g (T s) = true) : s < runS g T n s := by
  have := runS_ge (g := g) (T := T) (n := n) (s + 1)
  rw [runS_step h]
  omega
theorem tW_rng {T : Nat → Int} {n s : Nat} (h : s ≤ n) : s ≤ tW T n s ∧ tW T n s ≤ n ∧ (s < n → s < tW T n s) := by
  rcases rK_cases T n s with ⟨a, -, e⟩ | ⟨a, b, -, e⟩ | ⟨a, -, b, -, e⟩ | ⟨a, -, -, -, e⟩
  · rw [e]; omega
  · have h1 := run_gt ⟨a, b⟩
    have h2 := runS_le (g := zL) (T := T) h
    rw [e]; omega
  · have h1 := run_gt ⟨a, b⟩
    have h2 := runS_le (g := zD) (T := T) h
    rw [e]; omega
  · rw [e]; omega
theorem tS_rng {T : Nat → Int} {n p : Nat} (h : p ≤ n) : p ≤ tS T n p ∧ tS T n p ≤ n := ⟨runS_ge p, runS_le h⟩
theorem tE_rng {T : Nat → Int} {n p : Nat} (h : p ≤ n) : tS T n p ≤ tE T n p ∧ tE T n p ≤ n ∧ (tS T n p < n → tS T n p < tE T n p) := tW_rng (tS_rng h).2
theorem kR_0 {T : Nat → Int} {n p : Nat} : kR T n p = 0 ↔ n ≤ tS T n p := by
  unfold kR
  rcases rK_cases T n (tS T n p) with ⟨a, e, -⟩ | ⟨a, b, e, -⟩ | ⟨a, -, b, e, -⟩ | ⟨a, -, -, e, -⟩ <;> rw [e] <;> omega
theorem kR_le (T : Nat → Int) (n p : Nat) : kR T n p ≤ 3 := by
  unfold kR
  rcases rK_cases T n (tS T n p) with ⟨a, e, -⟩ | ⟨a, b, e, -⟩ | ⟨a, -, b, e, -⟩ | ⟨a, -, -, e, -⟩ <;> rw [e] <;> omega
/-- what a token's last byte is -/
theorem last_LD {T : Nat → Int} {n p : Nat} (h : p ≤ n) (h0 : kR T n p ≠ 0) : 0 < tE T n p ∧ ((kR T n p = 1 ∨ kR T n p = 2) ↔ (zL (T (tE T n p - 1)) = true ∨ zD (T (tE T n p - 1)) = true)) := by
  have hr := tE_rng (T := T) h
  have hlt : tS T n p < n := by
    have := (not_congr (kR_0 (T := T) (n := n) (p := p))).mp h0
    omega
  have hg := hr.2.2 hlt
  refine ⟨by omega, ?_⟩
  unfold kR at h0 ⊢
  unfold tE at hg hr ⊢
  rcases rK_cases T n (tS T n p) with ⟨a, e, -⟩ | ⟨a, b, e, e2⟩ | ⟨a, -, b, e, e2⟩ | ⟨a, b, c, e, e2⟩
  · exact absurd e h0
  · rw [e]
    refine ⟨fun _ => Or.inl (runS_all (p := tS T n p) (n := n) (by omega) (by rw [← e2]; omega)), fun _ => Or.inl rfl⟩
  · rw [e]
    refine ⟨fun _ => Or.inr (runS_all (p := tS T n p) (n := n) (by omega) (by rw [← e2]; omega)), fun _ => Or.inr rfl⟩
  · rw [e, e2, Nat.add_sub_cancel, b, c]
    exact ⟨fun t => by omega, fun t => by rcases t with t | t <;> exact absurd t (by decide)⟩
/-- the byte ahead of a token's first one -/
theorem ahead_LD {T : Nat → Int} {n p : Nat} (h : p ≤ n) : (0 < tS T n p ∧ (zL (T (tS T n p - 1)) = true ∨ zD (T (tS T n p - 1)) = true)) ↔ tS T n p = p ∧ 0 < p ∧ (zL (T (p - 1)) = true ∨ zD (T (p - 1)) = true) := by
  have hr := tS_rng (T := T) h
  constructor
  · intro ⟨h1, h2⟩
    by_cases e : tS T n p = p
    · rw [e] at h1 h2
      exact ⟨e, h1, h2⟩
    · have hb : zB (T (tS T n p - 1)) = true := runS_all (p := p) (n := n) (by omega) (show tS T n p - 1 < tS T n p by omega)
      have hb := zB_t.mp hb
      rcases h2 with h2 | h2
      · have := zL_t.mp h2
        omega
      · have := zD_t.mp h2
        omega
  · intro ⟨h1, h2, h3⟩
    rw [h1]
    exact ⟨h2, h3⟩
theorem bd_in {T : Nat → Int} {n p : Nat} (h : p ≤ n) : bd T n p = -1 ∨ (tS T n p : Int) ≤ bd T n p ∧ bd T n p < n := by
  have hr := tE_rng (T := T) h
  unfold bd
  by_cases hg : glu T n p
  · rw [if_pos hg]
    have : kR T n p ≠ 0 := by
      rcases hg.2.1 with e | e <;> rw [e] <;> decide
    have := (not_congr (kR_0 (T := T) (n := n) (p := p))).mp this
    exact Or.inr ⟨by omega, by omega⟩
  · rw [if_neg hg]
    split
    · exact Or.inr ⟨by omega, by omega⟩
    · split
      · exact Or.inr ⟨by omega, by omega⟩
      · exact Or.inl rfl
theorem pl_in {T : Nat → Int} {n p : Nat} (h : p ≤ n) : (tS T n p : Int) ≤ pl T n p ∧ pl T n p ≤ n := by
  have hr := tS_rng (T := T) h
  unfold pl
  rcases bd_in (T := T) h with e | e
  · rw [if_pos e]
    omega
  · rw [if_neg (by omega)]
    omega
theorem ow_in (T : Nat → Int) (n p : Nat) : -1 ≤ ow T n p ∧ ow T n p < 25 := by
  unfold ow
  split
  · rcases owI_in (lR T n p) with e | ⟨w, hw, e, -⟩ <;> rw [e] <;> omega
  · omega
end LEXP

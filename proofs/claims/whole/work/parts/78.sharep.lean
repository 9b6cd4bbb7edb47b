section SHAREP
/-! ===== ways to share: what a reader has to do, and that it only grows ===== -/
theorem cloN_or (nd : Nat → Nat) (kn ix : Nat) : ∀ (n a b : Nat), cloN nd kn ix n (a ||| b) = cloN nd kn ix n a ||| cloN nd kn ix n b
  | 0, _, _ => rfl
  | n + 1, a, b => by
    unfold cloN
    rw [← cloN_or nd kn ix n]
    congr 1
    generalize dif (dif (nd n) kn) ix = D
    refine Nat.eq_of_testBit_eq (fun i => ?_)
    rw [Nat.testBit_or]
    cases ha : a.testBit n <;> cases hb : b.testBit n <;> simp only [Bool.or_true, Bool.true_or, Bool.or_false, Bool.false_or, if_true, if_false, Bool.false_eq_true, Nat.testBit_or] <;> cases a.testBit i <;> cases b.testBit i <;> cases D.testBit i <;> rfl
theorem or_dif (a b c : Nat) : dif (a ||| b) c = dif a c ||| dif b c := by
  refine Nat.eq_of_testBit_eq (fun i => ?_)
  rw [dif_bit, Nat.testBit_or, Nat.testBit_or, dif_bit, dif_bit]
  cases a.testBit i <;> cases b.testBit i <;> cases c.testBit i <;> rfl
theorem clo_or (L : Lb) (kn ix a b : Nat) : clo L kn ix (a ||| b) = clo L kn ix a ||| clo L kn ix b := by
  unfold clo
  rw [or_dif, cloN_or]
theorem cloN_0 (nd : Nat → Nat) (kn ix : Nat) : ∀ n, cloN nd kn ix n 0 = 0
  | 0 => rfl
  | n + 1 => by
    unfold cloN
    rw [Nat.zero_testBit, if_neg (by decide)]
    exact cloN_0 nd kn ix n
theorem clo_0 (L : Lb) (kn ix : Nat) : clo L kn ix 0 = 0 := by
  unfold clo
  rw [show dif 0 kn = 0 by
    refine Nat.eq_of_testBit_eq (fun i => ?_)
    rw [dif_bit, Nat.zero_testBit]
    rfl]
  exact cloN_0 _ _ _ _
theorem or_dif_self (a b : Nat) : a ||| dif b a = a ||| b := by
  refine Nat.eq_of_testBit_eq (fun i => ?_)
  rw [Nat.testBit_or, Nat.testBit_or, dif_bit]
  cases a.testBit i <;> cases b.testBit i <;> rfl
theorem wrk_or (L : Lb) (R : Rl) (H : Hl) (r : Int) (a b : Nat) : wrk L R H r (a ||| b) = wrk L R H r a + wrk L R H r (dif b a) := by
  unfold wrk
  generalize (nP L).toNat = n
  induction n with
  | zero => rfl
  | succ n ih =>
    rw [wrk_loop, wrk_loop, wrk_loop, ih, Nat.testBit_or, dif_bit]
    cases a.testBit n <;> cases b.testBit n <;> simp <;> omega
theorem wrk_0 (L : Lb) (R : Rl) (H : Hl) (r : Int) : wrk L R H r 0 = 0 := mS_0 _ (tnN L R H r)
theorem ngt_mono {w w' l : Int} (hw : 0 ≤ w) (h : w ≤ w') (hl : 0 ≤ l) (hn : ngt w' l ≠ -1) : ngt w l ≤ ngt w' l ∧ ngt w l ≠ -1 ∧ 0 ≤ ngt w l := by
  unfold ngt at *
  by_cases e : w' = 0
  · rw [if_pos e, if_pos (show w = 0 by omega)]
    exact ⟨Int.le_refl _, by decide, by decide⟩
  · rw [if_neg e] at hn ⊢
    by_cases el : l = 0
    · rw [if_pos el] at hn
      exact absurd rfl hn
    · rw [if_neg el]
      have h2 : (0 : Int) ≤ (w + l - 1) / l := Int.ediv_nonneg (by omega) (by omega)
      have h3 : (w + l - 1) / l ≤ (w' + l - 1) / l := Int.ediv_le_ediv (by omega) (by omega)
      split <;> omega
/-- the pages that reader s is given by the first k pages' way w -/
def shq (pg : Nat → Nat) (m s : Nat) : Nat → Nat → Nat
  | 0, _ => 0
  | k + 1, w => shq pg m s k (w / m) ||| (if w % m = s then 2 ^ pg k else 0)
def shc (L : Lb) (H : Hl) (pg : Nat → Nat) (m s k w : Nat) : Nat := clo L (kn H s) 0 (shq pg m s k w)
def shw (L : Lb) (R : Rl) (H : Hl) (pg : Nat → Nat) (m s k w : Nat) : Int := wrk L R H s (shc L H pg m s k w)
def shn (L : Lb) (R : Rl) (H : Hl) (pg : Nat → Nat) (m s k w : Nat) : Int := ngt (shw L R H pg m s k w) (lno L R H s)
def mxF : Nat → (Nat → Int) → Int
  | 0, _ => 0
  | n + 1, f => max (mxF n f) (f n)
def shmo (L : Lb) (R : Rl) (H : Hl) (pg : Nat → Nat) (m k w : Nat) : Int := mxF m (fun s => shn L R H pg m s k w)
def shal (L : Lb) (R : Rl) (H : Hl) (pg : Nat → Nat) (m k w : Nat) : Int := smi m (fun s => shw L R H pg m s k w)
def shcn (L : Lb) (R : Rl) (H : Hl) (pg : Nat → Nat) (m k w : Nat) : Prop := ∀ s, s < m → shn L R H pg m s k w ≠ -1
theorem child_div {m w s : Nat} (hs : s < m) : (m * w + s) / m = w := by
  rw [Nat.mul_add_div (by omega), Nat.div_eq_of_lt hs, Nat.add_zero]
theorem child_mod {m w s : Nat} (hs : s < m) : (m * w + s) % m = s := by
  rw [Nat.mul_add_mod, Nat.mod_eq_of_lt hs]
theorem shq_ch {pg : Nat → Nat} {m s s' k w : Nat} (hs : s < m) : shq pg m s' (k + 1) (m * w + s) = if s = s' then shq pg m s' k w ||| 2 ^ pg k else shq pg m s' k w := by
  rw [shq, child_div hs, child_mod hs]
  split
  · rfl
  · exact Nat.or_zero _
theorem shc_ch {L : Lb} {H : Hl} {pg : Nat → Nat} {m s s' k w : Nat} (hs : s < m) : shc L H pg m s' (k + 1) (m * w + s) = if s = s' then shc L H pg m s' k w ||| clo L (kn H s') 0 (2 ^ pg k) else shc L H pg m s' k w := by
  unfold shc
  rw [shq_ch hs]
  split
  · rw [clo_or]
  · rfl
theorem shw_ch {L : Lb} {R : Rl} {H : Hl} {pg : Nat → Nat} {m s s' k w : Nat} (hs : s < m) : shw L R H pg m s' (k + 1) (m * w + s) = if s = s' then shw L R H pg m s' k w + wrk L R H s' (dif (clo L (kn H s') 0 (2 ^ pg k)) (shc L H pg m s' k w)) else shw L R H pg m s' k w := by
  unfold shw
  rw [shc_ch hs]
  split
  · rw [wrk_or]
  · rfl
theorem shn_ne {L : Lb} {R : Rl} {H : Hl} {pg : Nat → Nat} {m s s' k w : Nat} (hs : s < m) (h : s ≠ s') : shn L R H pg m s' (k + 1) (m * w + s) = shn L R H pg m s' k w := by
  unfold shn
  rw [shw_ch hs, if_neg h]
theorem shw_0 {L : Lb} {R : Rl} {H : Hl} {pg : Nat → Nat} {m s w : Nat} : shw L R H pg m s 0 w = 0 := by
  unfold shw shc shq
  rw [clo_0, wrk_0]
theorem shn_0 {L : Lb} {R : Rl} {H : Hl} {pg : Nat → Nat} {m s w : Nat} : shn L R H pg m s 0 w = 0 := by
  unfold shn
  rw [shw_0]
  rfl
theorem mxF_0 (n : Nat) : mxF n (fun _ => 0) = 0 := by
  induction n with
  | zero => rfl
  | succ n ih =>
    rw [mxF, ih]
    decide
theorem mxF_congr {n : Nat} {f g : Nat → Int} (h : ∀ i, i < n → f i = g i) : mxF n f = mxF n g := by
  induction n with
  | zero => rfl
  | succ n ih => rw [mxF, mxF, ih (fun i hi => h i (by omega)), h n (by omega)]
theorem mxF_mono {n : Nat} {f g : Nat → Int} (h : ∀ i, i < n → f i ≤ g i) : mxF n f ≤ mxF n g := by
  induction n with
  | zero => exact Int.le_refl _
  | succ n ih =>
    have h1 := ih (fun i hi => h i (by omega))
    have h2 := h n (by omega)
    rw [mxF, mxF]
    omega
theorem mxF_nn (n : Nat) (f : Nat → Int) : 0 ≤ mxF n f := by
  induction n with
  | zero => exact Int.le_refl _
  | succ n ih => rw [mxF]; omega
/-- one value grows: the greatest is the old greatest or that one -/
theorem mxF_set {n : Nat} {f g : Nat → Int} {s : Nat} (hs : s < n) (h : ∀ i, i < n → i ≠ s → g i = f i) (hg : f s ≤ g s) : mxF n g = max (mxF n f) (g s) := by
  induction n with
  | zero => omega
  | succ n ih =>
    rw [mxF, mxF]
    by_cases e : s = n
    · subst e
      rw [mxF_congr (f := g) (g := f) (fun i hi => h i (by omega) (by omega))]
      omega
    · rw [ih (by omega) (fun i hi hn => h i (by omega) hn), h n (by omega) (fun t => e t.symm)]
      omega
theorem smi_set {n : Nat} {f g : Nat → Int} {s : Nat} {x : Int} (hs : s < n) (h : ∀ i, i < n → i ≠ s → g i = f i) (hg : g s = f s + x) : smi n g = smi n f + x := by
  induction n with
  | zero => omega
  | succ n ih =>
    show smi n g + g n = smi n f + f n + x
    by_cases e : s = n
    · subst e
      rw [smi_congr (f := g) (g := f) (fun i hi => h i (by omega) (by omega)), hg]
      omega
    · rw [ih (by omega) (fun i hi hn => h i (by omega) hn), h n (by omega) (fun t => e t.symm)]
      omega
theorem smi_mono {n : Nat} {f g : Nat → Int} (h : ∀ i, i < n → f i ≤ g i) : smi n f ≤ smi n g := by
  induction n with
  | zero => exact Int.le_refl _
  | succ n ih =>
    have h1 := ih (fun i hi => h i (by omega))
    have h2 := h n (by omega)
    show smi n f + f n ≤ smi n g + g n
    omega
theorem shw_bd {L : Lb} {R : Rl} {H : Hl} (hL : WfL L) {pg : Nat → Nat} {m s k w : Nat} : 0 ≤ shw L R H pg m s k w ∧ shw L R H pg m s k w ≤ 7000 := wrk_bd R H hL _ _
theorem shn_bd {L : Lb} {R : Rl} {H : Hl} (hL : WfL L) {pg : Nat → Nat} {m s k w : Nat} : -1 ≤ shn L R H pg m s k w ∧ shn L R H pg m s k w ≤ 7000 := ngt_bd (shw_bd hL) (lno_bd hL _)
theorem shw_1 {L : Lb} {R : Rl} {H : Hl} (hL : WfL L) {pg : Nat → Nat} {m s k w : Nat} (hm : 0 < m) : shw L R H pg m s k (w / m) ≤ shw L R H pg m s (k + 1) w := by
  have h := shw_ch (L := L) (R := R) (H := H) (pg := pg) (m := m) (s := w % m) (s' := s) (k := k) (w := w / m) (Nat.mod_lt _ hm)
  rw [Nat.div_add_mod] at h
  rw [h]
  have := wrk_bd R H hL s (dif (clo L (kn H s) 0 (2 ^ pg k)) (shc L H pg m s k (w / m)))
  split <;> omega
theorem shw_up {L : Lb} {R : Rl} {H : Hl} (hL : WfL L) {pg : Nat → Nat} {m s : Nat} (hm : 0 < m) : ∀ (d k w : Nat), shw L R H pg m s k (w / m ^ d) ≤ shw L R H pg m s (k + d) w
  | 0, k, w => by rw [Nat.pow_zero, Nat.div_one]; exact Int.le_refl _
  | d + 1, k, w => by
    have h1 := shw_1 (R := R) (H := H) hL (pg := pg) (s := s) (k := k) (w := w / m ^ d) hm
    have h2 := shw_up (R := R) (H := H) hL (pg := pg) (s := s) hm d (k + 1) w
    rw [Nat.div_div_eq_div_mul, ← Nat.pow_succ, Nat.succ_eq_add_one] at h1
    rw [show k + (d + 1) = k + 1 + d by omega]
    omega
theorem shn_up {L : Lb} {R : Rl} {H : Hl} (hL : WfL L) {pg : Nat → Nat} {m s : Nat} (hm : 0 < m) (d k w : Nat) (h : shn L R H pg m s (k + d) w ≠ -1) : shn L R H pg m s k (w / m ^ d) ≤ shn L R H pg m s (k + d) w ∧ shn L R H pg m s k (w / m ^ d) ≠ -1 := by
  have := ngt_mono (shw_bd (R := R) (H := H) hL (pg := pg) (m := m) (s := s) (k := k) (w := w / m ^ d)).1 (shw_up hL hm d k w) (lno_bd hL s).1 h
  exact ⟨this.1, this.2.1⟩
theorem shcn_up {L : Lb} {R : Rl} {H : Hl} (hL : WfL L) {pg : Nat → Nat} {m : Nat} (hm : 0 < m) (d k w : Nat) (h : shcn L R H pg m (k + d) w) : shcn L R H pg m k (w / m ^ d) ∧ shmo L R H pg m k (w / m ^ d) ≤ shmo L R H pg m (k + d) w ∧ shal L R H pg m k (w / m ^ d) ≤ shal L R H pg m (k + d) w :=
  ⟨fun s hs => (shn_up hL hm d k w (h s hs)).2, mxF_mono (fun s hs => (shn_up hL hm d k w (h s hs)).1), smi_mono (fun s _ => shw_up hL hm d k w)⟩
/-- a page more for reader s -/
theorem sh_step {L : Lb} {R : Rl} {H : Hl} (hL : WfL L) {pg : Nat → Nat} {m s k w : Nat} (hs : s < m) (hc : shcn L R H pg m k w) (hn : shn L R H pg m s (k + 1) (m * w + s) ≠ -1) : shcn L R H pg m (k + 1) (m * w + s) ∧ shmo L R H pg m (k + 1) (m * w + s) = max (shmo L R H pg m k w) (shn L R H pg m s (k + 1) (m * w + s)) ∧ shal L R H pg m (k + 1) (m * w + s) = shal L R H pg m k w + wrk L R H s (dif (clo L (kn H s) 0 (2 ^ pg k)) (shc L H pg m s k w)) := by
  have hu := shn_up (R := R) (H := H) hL (pg := pg) (s := s) (show 0 < m by omega) 1 k (m * w + s) hn
  rw [Nat.pow_one, child_div hs] at hu
  refine ⟨fun s' hs' => ?_, ?_, ?_⟩
  · by_cases e : s = s'
    · rw [← e]; exact hn
    · rw [shn_ne hs e]; exact hc s' hs'
  · exact mxF_set hs (fun i _ hi => shn_ne hs (fun t => hi t.symm)) hu.1
  · refine smi_set hs (fun i _ hi => ?_) ?_
    · show shw L R H pg m i (k + 1) (m * w + s) = shw L R H pg m i k w
      rw [shw_ch hs, if_neg (fun t => hi t.symm)]
    · show shw L R H pg m s (k + 1) (m * w + s) = shw L R H pg m s k w + _
      rw [shw_ch hs, if_pos rfl]
/-! the best way -/
def shkey (L : Lb) (R : Rl) (H : Hl) (pg : Nat → Nat) (m n w : Nat) : Key := (-(shmo L R H pg m n w), shal L R H pg m n w, (w : Int))
/-- w is the best of those of P -/
def shB (L : Lb) (R : Rl) (H : Hl) (pg : Nat → Nat) (m n : Nat) (P : Nat → Prop) : Option Nat → Prop
  | none => ∀ w, P w → ¬ shcn L R H pg m n w
  | some b => P b ∧ shcn L R H pg m n b ∧ ∀ w, P w → shcn L R H pg m n w → geq (shkey L R H pg m n b) (shkey L R H pg m n w)
theorem shB.un {L : Lb} {R : Rl} {H : Hl} {pg : Nat → Nat} {m n : Nat} {P : Nat → Prop} {a b : Option Nat} (ha : shB L R H pg m n P a) (hb : shB L R H pg m n P b) : a = b := by
  rcases a with _ | a <;> rcases b with _ | b
  · rfl
  · exact absurd hb.2.1 (ha b hb.1)
  · exact absurd ha.2.1 (hb a ha.1)
  · have := geq.as (ha.2.2 b hb.1 hb.2.1) (hb.2.2 a ha.1 ha.2.1)
    have e : (a : Int) = (b : Int) := congrArg (fun t : Key => t.2.2) this
    rw [Int.ofNat_inj.mp e]
theorem shB.ext {L : Lb} {R : Rl} {H : Hl} {pg : Nat → Nat} {m n : Nat} {P P' : Nat → Prop} {a : Option Nat} (ha : shB L R H pg m n P a) (h : ∀ w, P w ↔ P' w) : shB L R H pg m n P' a := by
  rw [← show P = P' from funext (fun w => propext (h w))]
  exact ha
end SHAREP

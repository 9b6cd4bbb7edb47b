section STRIKE
/-! ===== a page leaves a list, on both sides ===== -/
def lsF (f : Int → Int) (n : Nat) : List Int := (List.range n).map (fun k : Nat => f (k : Int))
theorem lsF_getE {f : Int → Int} {n k : Nat} (h : k < (lsF f n).length) : (lsF f n)[k] = f k := by simp [lsF]
theorem lsF_succ (f : Int → Int) (n : Nat) : lsF f (n + 1) = lsF f n ++ [f n] := by
  unfold lsF
  rw [List.range_succ, List.map_append]
  rfl
theorem lsF_congr {f g : Int → Int} {n : Nat} (h : ∀ k : Int, 0 ≤ k → k < n → f k = g k) : lsF f n = lsF g n := by
  unfold lsF
  refine List.map_congr_left (fun k hk => h k (by omega) ?_)
  have := List.mem_range.mp hk
  omega
theorem lsF_len (f : Int → Int) (n : Nat) : (lsF f n).length = n := by simp [lsF]
theorem lsF_get {f : Int → Int} {n : Nat} {k : Nat} (h : k < n) : (lsF f n)[k]? = some (f k) := by
  unfold lsF
  rw [List.getElem?_map, List.getElem?_range h]
  rfl
theorem lsF_inj {f g : Int → Int} {n m : Nat} (h : lsF f n = lsF g m) : n = m ∧ ∀ k : Int, 0 ≤ k → k < n → f k = g k := by
  have hl : n = m := by
    have := congrArg List.length h
    rwa [lsF_len, lsF_len] at this
  subst hl
  refine ⟨rfl, fun k k0 k1 => ?_⟩
  have e := congrArg (fun l => l[k.toNat]?) h
  have e' : (lsF f n)[k.toNat]? = (lsF g n)[k.toNat]? := e
  rw [lsF_get (by omega), lsF_get (by omega), Int.toNat_of_nonneg k0] at e'
  exact Option.some.inj e'
theorem lsF_mem {f : Int → Int} {n : Nat} {v : Int} : v ∈ lsF f n ↔ ∃ k : Int, 0 ≤ k ∧ k < n ∧ f k = v := by
  unfold lsF
  rw [List.mem_map]
  constructor
  · rintro ⟨k, hk, e⟩
    exact ⟨k, by omega, by have := List.mem_range.mp hk; omega, e⟩
  · rintro ⟨k, k0, k1, e⟩
    exact ⟨k.toNat, List.mem_range.mpr (by omega), by rw [Int.toNat_of_nonneg k0]; exact e⟩
/-- a list without a page -/
def wo (p : Int) (l : List Int) : List Int := l.filter (fun v => decide (¬ v = p))
theorem wo_app (p : Int) (l l' : List Int) : wo p (l ++ l') = wo p l ++ wo p l' := List.filter_append ..
theorem wo_self {p : Int} {l : List Int} (h : ∀ v ∈ l, ¬ v = p) : wo p l = l := by
  unfold wo
  rw [List.filter_eq_self]
  intro v hv
  simp [h v hv]
theorem wo_hit (p : Int) : wo p [p] = [] := by simp [wo]
theorem wo_one {p v : Int} (h : ¬ v = p) : wo p [v] = [v] := by simp [wo, h]
theorem wo_len (p : Int) (l : List Int) : (wo p l).length ≤ l.length := List.length_filter_le ..
/-- the first ones, then the ones behind the next one -/
theorem lsF_cut (f : Int → Int) (z m : Nat) : lsF f (z + 1 + m) = lsF f z ++ f z :: lsF (fun k => f (z + 1 + k)) m := by
  induction m with
  | zero =>
    rw [Nat.add_zero, lsF_succ]
    have e : lsF (fun k => f (z + 1 + k)) 0 = [] := rfl
    rw [e]
  | succ m ih =>
    rw [show z + 1 + (m + 1) = (z + 1 + m) + 1 by omega, lsF_succ, ih, lsF_succ, List.append_assoc, List.cons_append]
    congr 3
theorem lsF_two (f g : Int → Int) (z m : Nat) (h1 : ∀ k : Int, 0 ≤ k → k < z → g k = f k) (h2 : ∀ k : Int, 0 ≤ k → k < m → g (z + k) = f (z + 1 + k)) : lsF g (z + m) = lsF f z ++ lsF (fun k => f (z + 1 + k)) m := by
  induction m with
  | zero =>
    have e : lsF (fun k => f (z + 1 + k)) 0 = [] := rfl
    rw [Nat.add_zero, lsF_congr h1, e, List.append_nil]
  | succ m ih =>
    rw [show z + (m + 1) = (z + m) + 1 by omega, lsF_succ, ih (fun k k0 k1 => h2 k k0 (by omega)), lsF_succ, List.append_assoc]
    congr 2
    have := h2 m (by omega) (by omega)
    rw [show ((z + m : Nat) : Int) = (z : Int) + m by omega, this]
theorem wo_del {f g : Int → Int} {p : Int} {n z : Nat} (hz : z < n) (hp : f z = p) (hd : ∀ i j : Int, 0 ≤ i → i < j → j < n → ¬ f i = f j) (h1 : ∀ k : Int, 0 ≤ k → k < z → g k = f k) (h2 : ∀ k : Int, z ≤ k → k < n - 1 → g k = f (k + 1)) : lsF g (n - 1) = wo p (lsF f n) := by
  obtain ⟨m, rfl⟩ : ∃ m, n = z + 1 + m := ⟨n - z - 1, by omega⟩
  rw [lsF_cut, show z + 1 + m - 1 = z + m by omega, lsF_two f g z m h1 (fun k k0 k1 => ?_), wo_app]
  · have e1 : wo p (lsF f z) = lsF f z := by
      refine wo_self (fun v hv e => ?_)
      obtain ⟨k, k0, k1, k2⟩ := lsF_mem.mp hv
      exact hd k z k0 k1 (by omega) (by rw [k2, hp, e])
    have e2 : wo p (f z :: lsF (fun k => f (z + 1 + k)) m) = lsF (fun k => f (z + 1 + k)) m := by
      rw [show f z :: lsF (fun k => f (z + 1 + k)) m = [f z] ++ lsF (fun k => f (z + 1 + k)) m from rfl, wo_app, hp, wo_hit, List.nil_append]
      refine wo_self (fun v hv e => ?_)
      obtain ⟨k, k0, k1, k2⟩ := lsF_mem.mp hv
      exact hd z (z + 1 + k) (by omega) (by omega) (by omega) (by rw [k2, hp, e])
    rw [e1, e2]
  · rw [h2 (z + k) (by omega) (by omega)]
    congr 1
    omega
/-! the class -/
abbrev enC (I : Nat → Nat → Int32) (r k : Int) : Int := gi I 19 ((3 + (r * 14)) + (6 + k)).toNat
abbrev cnC (I : Nat → Nat → Int32) (r : Int) : Int := gi I 19 ((3 + (r * 14)) + 5).toNat
def lsC (I : Nat → Nat → Int32) (r : Int) : List Int := lsF (enC I r) (cnC I r).toNat
theorem S_X2_placeR {k : Nat} {P : Option Nat} {I : Nat → Nat → Int32} {J : Nat → Nat → Int64} {Q : Option AV → Mem → Prop} {r p : Int} (hk : 1 ≤ k) (hr : 0 ≤ r ∧ r < 6) (hp : inR p) (q8 : 0 ≤ cnC I r ∧ cnC I r ≤ 8) (hQ : ∀ z, 0 ≤ z → z ≤ cnC I r → (∀ j, 0 ≤ j → j < z → ¬ enC I r j = p) → (z < cnC I r → enC I r z = p) → Q (some (vI z)) (mem (rv0 P) I J)) : WPm k LAY m_X2_placeOf [vR (some 4), vI r, vI p] (mem (rv0 P) I J) Q := by
  refine WPm.of k_X2_placeOf.1 (Nat.le_of_ble_eq_true rfl) (B_X2_placeOf_0 (by omega) ?_)
  have loop : ∀ (d n : Nat) (x : Int), n + d = (cnC I r).toNat → x = n → (∀ j, 0 ≤ j → j < x → ¬ enC I r j = p) → WP k LAY m_X2_placeOf 10 [(0, vR (some 4)), (1, vI r), (2, vI p), (3, vI (cnC I r)), (4, vI x)] [] (mem (rv0 P) I J) Q := by
    intro d
    induction d with
    | zero =>
      intro n x hn hx hj
      refine B_X2_placeOf_10 (by omega) ⟨⟨by omega, by omega⟩, ⟨by omega, by omega⟩, fun _ => hQ x (by omega) (by omega) hj (fun q => absurd q (by omega)), fun q => absurd q (by omega)⟩
    | succ d ih =>
      intro n x hn hx hj
      refine B_X2_placeOf_10 (by omega) ⟨⟨by omega, by omega⟩, ⟨by omega, by omega⟩, fun q => absurd q (by omega), fun _ => ⟨⟨by omega, by omega⟩, hp, fun q => hQ x (by omega) (by omega) hj (fun _ => q), fun q => ?_⟩⟩
      refine ih (n + 1) _ (by omega) (by omega) (fun j j0 j1 => ?_)
      by_cases e : j = x
      · rw [e]
        exact q
      · exact hj j j0 (by omega)
  exact ⟨⟨by omega, by omega⟩, loop _ 0 _ (Nat.zero_add _) rfl (fun j j0 j1 => absurd j0 (by omega))⟩
/-- what a strike changes: the list, the page left off -/
def StrC (I I' : Nat → Nat → Int32) (r p : Int) : Prop := (∀ c k, c ≠ 19 → I' c k = I c k) ∧ (∀ k : Nat, ¬ (6 + 14 * r ≤ (k : Int) ∧ (k : Int) < 17 + 14 * r) → gi I' 19 k = gi I 19 k) ∧ lsC I' r = wo p (lsC I r) ∧ (0 ≤ cnC I' r ∧ cnC I' r ≤ 8) ∧ (∀ i j : Int, 0 ≤ i → i < j → j < cnC I' r → ¬ enC I' r i = enC I' r j) ∧ gi I' 19 ((3 + (r * 14)) + 3).toNat = (if gi I 19 ((3 + (r * 14)) + 3).toNat = p then -1 else gi I 19 ((3 + (r * 14)) + 3).toNat) ∧ gi I' 19 ((3 + (r * 14)) + 4).toNat = (if gi I 19 ((3 + (r * 14)) + 3).toNat = p then 0 else gi I 19 ((3 + (r * 14)) + 4).toNat)
theorem wo_nd {f g : Int → Int} {p : Int} {n m : Nat} (hd : ∀ i j : Int, 0 ≤ i → i < j → j < n → ¬ f i = f j) (h : lsF g m = wo p (lsF f n)) : ∀ i j : Int, 0 ≤ i → i < j → j < m → ¬ g i = g j := by
  have h1 : (lsF f n).Pairwise (fun a b => a ≠ b) := by
    rw [List.pairwise_iff_getElem]
    intro i j hi hj hij
    rw [lsF_len] at hi hj
    rw [lsF_getE, lsF_getE]
    exact hd i j (by omega) (by omega) (by omega)
  have h2 : (lsF g m).Pairwise (fun a b => a ≠ b) := by
    rw [h]
    exact h1.filter _
  rw [List.pairwise_iff_getElem] at h2
  intro i j i0 i1 j1 e
  have q := h2 i.toNat j.toNat (by rw [lsF_len]; omega) (by rw [lsF_len]; omega) (by omega)
  rw [lsF_getE, lsF_getE, Int.toNat_of_nonneg i0, Int.toNat_of_nonneg (by omega)] at q
  exact q e
theorem S_X2_strike {k : Nat} {P : Option Nat} {I : Nat → Nat → Int32} {J : Nat → Nat → Int64} {Q : Option AV → Mem → Prop} {r p : Int} (hk : 2 ≤ k) (hr : 0 ≤ r ∧ r < 6) (hp : inR p) (q8 : 0 ≤ cnC I r ∧ cnC I r ≤ 8) (hd : ∀ i j : Int, 0 ≤ i → i < j → j < cnC I r → ¬ enC I r i = enC I r j) (hQ : ∀ I', StrC I I' r p → Q none (mem (rv0 P) I' J)) : WPm k LAY m_X2_strike [vR (some 4), vI r, vI p] (mem (rv0 P) I J) Q := by
  refine WPm.of k_X2_strike.1 (Nat.le_of_ble_eq_true rfl) (B_X2_strike_0 (by omega) ⟨⟨by omega, by omega⟩, ?_⟩)
  -- behind the list: the page left off
  have tail : ∀ I2 : Nat → Nat → Int32, (∀ c k, c ≠ 19 → I2 c k = I c k) → (∀ k : Nat, ¬ (8 + 14 * r ≤ (k : Int) ∧ (k : Int) < 17 + 14 * r) → gi I2 19 k = gi I 19 k) → lsC I2 r = wo p (lsC I r) → (0 ≤ cnC I2 r ∧ cnC I2 r ≤ 8) → ((gi I2 19 ((3 + (r * 14)) + 3).toNat = p → StrC I (si (si I2 19 ((3 + (r * 14)) + 3).toNat (-1)) 19 ((3 + (r * 14)) + 4).toNat 0) r p) ∧ (¬ gi I2 19 ((3 + (r * 14)) + 3).toNat = p → StrC I I2 r p)) := by
    intro I2 f1 f2 f3 f4
    have e3 : gi I2 19 ((3 + (r * 14)) + 3).toNat = gi I 19 ((3 + (r * 14)) + 3).toNat := f2 _ (by omega)
    have e4 : gi I2 19 ((3 + (r * 14)) + 4).toNat = gi I 19 ((3 + (r * 14)) + 4).toNat := f2 _ (by omega)
    have nd : ∀ i j : Int, 0 ≤ i → i < j → j < cnC I2 r → ¬ enC I2 r i = enC I2 r j := fun i j i0 i1 j1 => wo_nd (n := (cnC I r).toNat) (m := (cnC I2 r).toNat) (fun i j a b c => hd i j a b (by omega)) f3 i j i0 i1 (by omega)
    refine ⟨fun q => ?_, fun q => ?_⟩
    · have g : ∀ k : Nat, k ≠ ((3 + (r * 14)) + 3).toNat → k ≠ ((3 + (r * 14)) + 4).toNat → gi (si (si I2 19 ((3 + (r * 14)) + 3).toNat (-1)) 19 ((3 + (r * 14)) + 4).toNat 0) 19 k = gi I2 19 k := fun k a b => by rw [gi_idx _ _ _ b, gi_idx _ _ _ a]
      have ec : cnC (si (si I2 19 ((3 + (r * 14)) + 3).toNat (-1)) 19 ((3 + (r * 14)) + 4).toNat 0) r = cnC I2 r := g _ (by omega) (by omega)
      have ee : ∀ k : Int, 0 ≤ k → enC (si (si I2 19 ((3 + (r * 14)) + 3).toNat (-1)) 19 ((3 + (r * 14)) + 4).toNat 0) r k = enC I2 r k := fun k k0 => g _ (by omega) (by omega)
      refine ⟨fun c k hc => by rw [si_at, if_neg (fun z => hc z.1), si_at, if_neg (fun z => hc z.1)]; exact f1 c k hc, fun k hk => ?_, ?_, by rw [ec]; exact f4, fun i j i0 i1 j1 => ?_, ?_, ?_⟩
      · rw [g k (by omega) (by omega)]
        exact f2 k (by omega)
      · unfold lsC
        rw [ec, lsF_congr (g := enC I2 r) (fun k k0 _ => ee k k0)]
        exact f3
      · rw [ec] at j1
        rw [ee i i0, ee j (by omega)]
        exact nd i j i0 i1 j1
      · rw [← e3, if_pos q, gi_idx _ _ _ (by omega)]
        exact gi_same _ _ _ (by decide)
      · rw [← e3, if_pos q]
        exact gi_same _ _ _ (by decide)
    · refine ⟨f1, fun k hk => f2 k (by omega), f3, f4, nd, ?_, ?_⟩
      · rw [e3, if_neg (by rw [← e3]; exact q)]
      · rw [e4, if_neg (by rw [← e3]; exact q)]
  refine S_X2_placeR (by omega) hr hp q8 (fun z z0 z1 z2 z3 => ⟨_, _, _, rfl, rfl, ⟨by omega, by omega⟩, fun q => ?_, fun q => ?_⟩)
  · have hz : z = cnC I r := Int.le_antisymm z1 q
    have hno : lsC I r = wo p (lsC I r) := by
      refine (wo_self (fun v hv e => ?_)).symm
      obtain ⟨k, k0, k1, k2⟩ := lsF_mem.mp hv
      exact z2 k k0 (by omega) (k2.trans e)
    obtain ⟨t1, t2⟩ := tail I (fun _ _ _ => rfl) (fun _ _ => rfl) hno q8
    exact ⟨⟨by omega, by omega⟩, hp, fun w => hQ _ (t2 w), fun w => ⟨⟨by omega, by omega⟩, hQ _ (t1 w)⟩⟩
  · have hzn : z < cnC I r := Int.not_le.mp q
    have loop : ∀ (d : Nat) (x : Int) (I2 : Nat → Nat → Int32), x + 1 + d = cnC I r → z ≤ x → (∀ c k, c ≠ 19 → I2 c k = I c k) → (∀ k : Nat, ¬ (9 + 14 * r ≤ (k : Int) ∧ (k : Int) < 17 + 14 * r) → gi I2 19 k = gi I 19 k) → (∀ k : Int, 0 ≤ k → k < z → enC I2 r k = enC I r k) → (∀ k : Int, z ≤ k → k < x → enC I2 r k = enC I r (k + 1)) → (∀ k : Int, x ≤ k → k < 8 → enC I2 r k = enC I r k) → WP k LAY m_X2_strike 25 [(0, vR (some 4)), (1, vI r), (2, vI p), (3, vI (cnC I r)), (5, vI x)] [] (mem (rv0 P) I2 J) Q := by
      intro d
      induction d with
      | zero =>
        intro x I2 hx hzx f1 f2 g1 g2 g3
        have e5 : inR (cnC I r - 1) := ⟨by omega, by omega⟩
        have g : ∀ k : Nat, k ≠ ((3 + (r * 14)) + 5).toNat → gi (si I2 19 ((3 + (r * 14)) + 5).toNat (cnC I r - 1)) 19 k = gi I2 19 k := fun k a => gi_idx _ _ _ a
        have ec : cnC (si I2 19 ((3 + (r * 14)) + 5).toNat (cnC I r - 1)) r = cnC I r - 1 := gi_same _ _ _ e5
        obtain ⟨t1, t2⟩ := tail (si I2 19 ((3 + (r * 14)) + 5).toNat (cnC I r - 1)) (fun c k hc => by rw [si_at, if_neg (fun w => hc w.1)]; exact f1 c k hc) (fun k hk => by rw [g k (by omega)]; exact f2 k (by omega)) (by
          unfold lsC
          rw [ec, show (cnC I r - 1).toNat = (cnC I r).toNat - 1 by omega]
          refine wo_del (z := z.toNat) (by omega) (by rw [Int.toNat_of_nonneg z0]; exact z3 hzn) (fun i j a b c => hd i j a b (by omega)) (fun k k0 k1 => ?_) (fun k k0 k1 => ?_)
          · exact (g _ (by omega)).trans (g1 k k0 (by omega))
          · exact (g _ (by omega)).trans (g2 k (by omega) (by omega))) (by rw [ec]; omega)
        refine B_X2_strike_25 (by omega) ⟨⟨by omega, by omega⟩, ⟨by omega, by omega⟩, fun _ => ⟨⟨by omega, by omega⟩, ⟨by omega, by omega⟩, hp, fun w => hQ _ (t2 w), fun w => ⟨⟨by omega, by omega⟩, hQ _ (t1 w)⟩⟩, fun w => absurd w (by omega)⟩
      | succ d ih =>
        intro x I2 hx hzx f1 f2 g1 g2 g3
        have g : ∀ k : Nat, k ≠ ((3 + (r * 14)) + (6 + x)).toNat → ∀ v, gi (si I2 19 ((3 + (r * 14)) + (6 + x)).toNat v) 19 k = gi I2 19 k := fun k a v => gi_idx _ _ _ a
        refine B_X2_strike_25 (by omega) ⟨⟨by omega, by omega⟩, ⟨by omega, by omega⟩, fun w => absurd w (by omega), fun _ => ⟨⟨by omega, by omega⟩, ⟨by omega, by omega⟩, ?_⟩⟩
        refine ih (x + 1) _ (by omega) (by omega) (fun c k hc => by rw [si_at, if_neg (fun w => hc w.1)]; exact f1 c k hc) (fun k hk => by rw [g k (by omega)]; exact f2 k hk) (fun k k0 k1 => ?_) (fun k k0 k1 => ?_) (fun k k0 k1 => ?_)
        · exact (g _ (by omega) _).trans (g1 k k0 k1)
        · by_cases e : k = x
          · subst e
            have h9 := g3 (k + 1) (by omega) (by omega)
            unfold enC at h9 ⊢
            rw [gi_same _ _ _ (gi_in _ _ _), show ((3 + (r * 14)) + ((6 + k) + 1)).toNat = ((3 + (r * 14)) + (6 + (k + 1))).toNat by omega]
            exact h9
          · exact (g _ (by omega) _).trans (g2 k k0 (by omega))
        · exact (g _ (by omega) _).trans (g3 k (by omega) k1)
    exact loop (cnC I r - z - 1).toNat z I (by omega) (Int.le_refl _) (fun _ _ _ => rfl) (fun _ _ => rfl) (fun _ _ _ => rfl) (fun k a b => absurd a (by omega)) (fun _ _ _ => rfl)
/-! the reference -/
abbrev enR (I : Nat → Nat → Int32) (a k : Int) : Int := gi I 116 ((8 * a) + k).toNat
abbrev cnR (I : Nat → Nat → Int32) (a : Int) : Int := gi I 115 (a).toNat
def lsR (I : Nat → Nat → Int32) (a : Int) : List Int := lsF (enR I a) (cnR I a).toNat
theorem S_X12_unlists {k : Nat} {P : Option Nat} {I : Nat → Nat → Int32} {J : Nat → Nat → Int64} {Q : Option AV → Mem → Prop} {a p : Int} (ha : 0 ≤ a ∧ a < 132) (hp : inR p) (q8 : 0 ≤ cnR I a ∧ cnR I a ≤ 8) (hQ : ∀ I' : Nat → Nat → Int32, (∀ c k : Nat, ¬ (c = 116 ∧ 8 * a ≤ (k : Int) ∧ (k : Int) < 8 * a + 8) → ¬ (c = 115 ∧ (k : Int) = a) → I' c k = I c k) → lsR I' a = wo p (lsR I a) → (0 ≤ cnR I' a ∧ cnR I' a ≤ 8) → Q none (mem (rv0 P) I' J)) : WPm k LAY m_X12_unlists [vR (some 74), vI a, vI p] (mem (rv0 P) I J) Q := by
  refine WPm.of k_X12_unlists.1 (Nat.le_of_ble_eq_true rfl) (B_X12_unlists_0 (by omega) ?_)
  have loop : ∀ (d n m : Nat) (x y : Int) (I2 : Nat → Nat → Int32), n + d = (cnR I a).toNat → x = n → y = m → m ≤ n → (∀ c k : Nat, ¬ (c = 116 ∧ 8 * a ≤ (k : Int) ∧ (k : Int) < 8 * a + 8) → I2 c k = I c k) → lsF (enR I2 a) m = wo p (lsF (enR I a) n) → (∀ k : Int, (n : Int) ≤ k → k < 8 → enR I2 a k = enR I a k) → WP k LAY m_X12_unlists 5 [(0, vR (some 74)), (1, vI a), (2, vI p), (3, vI y), (4, vI x)] [] (mem (rv0 P) I2 J) Q := by
    intro d
    induction d with
    | zero =>
      intro n m x y I2 hn hx hy hmn f1 f2 f3
      have ec : gi I2 115 (a).toNat = cnR I a := gi_eq (f1 115 _ (by omega))
      refine B_X12_unlists_5 (by omega) ?_
      rw [ec]
      refine ⟨ha, ⟨by omega, by omega⟩, fun _ => ?_, fun w => absurd w (by omega)⟩
      have e15 : cnR (si I2 115 (a).toNat y) a = y := gi_same _ _ _ ⟨by omega, by omega⟩
      have e16 : ∀ k, enR (si I2 115 (a).toNat y) a k = enR I2 a k := fun k => gi_cell _ _ _ _ (by decide)
      refine hQ _ (fun c k h6 h5 => ?_) ?_ (by rw [e15]; omega)
      · rw [si_at, if_neg (by omega)]
        exact f1 c k h6
      · unfold lsR
        rw [e15, lsF_congr (g := enR I2 a) (fun k _ _ => e16 k), show y.toNat = m by omega, f2, show (cnR I a).toNat = n by omega]
    | succ d ih =>
      intro n m x y I2 hn hx hy hmn f1 f2 f3
      have ec : gi I2 115 (a).toNat = cnR I a := gi_eq (f1 115 _ (by omega))
      have en : gi I2 116 ((8 * a) + x).toNat = enR I a n := by
        rw [hx]
        exact f3 n (by omega) (by omega)
      refine B_X12_unlists_5 (by omega) ?_
      rw [ec, en]
      refine ⟨ha, ⟨by omega, by omega⟩, fun w => absurd w (by omega), fun _ => ⟨⟨by omega, by omega⟩, hp, fun w => ⟨⟨by omega, by omega⟩, ?_⟩, fun w => ?_⟩⟩
      · have g : ∀ k : Int, 0 ≤ k → k ≠ y → enR (si I2 116 ((8 * a) + y).toNat (enR I a n)) a k = enR I2 a k := fun k k0 hk => gi_idx _ _ _ (by omega)
        have gy : enR (si I2 116 ((8 * a) + y).toNat (enR I a n)) a y = enR I a n := gi_same _ _ _ (gi_in _ _ _)
        refine ih (n + 1) (m + 1) _ _ _ (by omega) (by omega) (by omega) (by omega) (fun c k hc => ?_) ?_ (fun k k0 k1 => ?_)
        · rw [si_at, if_neg (by omega)]
          exact f1 c k hc
        · rw [lsF_succ, lsF_succ, wo_app, wo_one w, ← f2, lsF_congr (g := enR I2 a) (fun k k0 k1 => g k k0 (by omega)), ← hy, gy]
        · rw [g k (by omega) (by omega)]
          exact f3 k (by omega) k1
      · refine ih (n + 1) m _ _ _ (by omega) (by omega) hy (by omega) f1 ?_ (fun k k0 k1 => f3 k (by omega) k1)
        rw [lsF_succ, wo_app, w, wo_hit, List.append_nil]
        exact f2
  exact loop _ 0 0 _ _ I (Nat.zero_add _) rfl rfl (Nat.le_refl _) (fun _ _ _ => rfl) rfl (fun _ _ _ => rfl)
end STRIKE

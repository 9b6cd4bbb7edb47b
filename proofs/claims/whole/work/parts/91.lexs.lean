section LEXS
/-! ===== the class's step to the next token ===== -/
abbrev FLx : List (Nat × Nat) := [(1, 2), (1, 3), (1, 4), (1, 5), (1, 6)]
/-- a tape -/
def TX (T : Nat → Int) (n : Nat) : Prop := n ≤ 1600 ∧ ∀ i, i < n → 0 ≤ T i ∧ T i ≤ 255
def TI (I : Nat → Nat → Int32) (T : Nat → Int) (n : Nat) : Prop := gi I 1 1 = n ∧ ∀ i, i < n → gi I 2 i = T i
theorem TI.fr {cs : List Nat} {fs : List (Nat × Nat)} {I I' : Nat → Nat → Int32} {T : Nat → Int} {n : Nat} (h : TI I T n) (hF : Fr cs fs I I') (h1 : 1 ∉ cs ∧ 2 ∉ cs) (h2 : (1, 1) ∉ fs ∧ ∀ q ∈ fs, q.1 ≠ 2) : TI I' T n := ⟨by rw [hF.gv 1 1 h1.1 h2.1]; exact h.1, fun i hi => by rw [hF.gvc i h1.2 h2.2]; exact h.2 i hi⟩
/-- the class's kind, were it not wrong in itself; and how long it may be -/
noncomputable def k0C (T : Nat → Int) (n p : Nat) : Int := if kR T n p = 0 then 0 else if kR T n p = 1 then (if ow T n p = -1 then 1 else 2) else if kR T n p = 2 then 3 else 4
noncomputable def moC (T : Nat → Int) (n p : Nat) : Int := if kR T n p = 1 then (if ow T n p = -1 then 6 else 7) else if kR T n p = 2 then 4 else 1
def CT (I : Nat → Nat → Int32) (T : Nat → Int) (n p : Nat) : Prop := TI I T n ∧ gi I 1 2 = kC T n p ∧ gi I 1 3 = tS T n p ∧ gi I 1 4 = tE T n p ∧ gi I 1 5 = vl T n p ∧ gi I 1 6 = pl T n p
theorem CT.fr {cs : List Nat} {fs : List (Nat × Nat)} {I I' : Nat → Nat → Int32} {T : Nat → Int} {n p : Nat} (h : CT I T n p) (hF : Fr cs fs I I') (h1 : 1 ∉ cs ∧ 2 ∉ cs) (h2 : ∀ q ∈ fs, q.1 ≠ 1 ∧ q.1 ≠ 2) : CT I' T n p := by
  have e1 : ∀ k, gi I' 1 k = gi I 1 k := fun k => hF.gvc k h1.1 (fun q hq => (h2 q hq).1)
  refine ⟨h.1.fr hF h1 ⟨fun q => (h2 _ q).1 rfl, fun q hq => (h2 q hq).2⟩, ?_⟩
  rw [e1, e1, e1, e1, e1]
  exact h.2
theorem bd_g {T : Nat → Int} {n p : Nat} (h : glu T n p) : bd T n p = tS T n p := by unfold bd; rw [if_pos h]
theorem bd_n {T : Nat → Int} {n p : Nat} (h : ¬ glu T n p) : bd T n p = if kR T n p = 1 ∧ ow T n p = -1 ∧ 6 < tE T n p - tS T n p then ((tS T n p + 6 : Nat) : Int) else if kR T n p = 2 ∧ 4 < tE T n p - tS T n p then ((tS T n p + 4 : Nat) : Int) else -1 := by unfold bd; rw [if_neg h]
theorem ow_len {T : Nat → Int} {n p : Nat} (h : ow T n p ≠ -1) : kR T n p = 1 ∧ tE T n p - tS T n p ≤ 7 := by
  unfold ow at h
  by_cases e : kR T n p = 1
  · rw [if_pos e] at h
    refine ⟨e, ?_⟩
    rcases owI_in (lR T n p) with q | ⟨w, hw, -, q⟩
    · exact absurd q h
    · have a1 := congrArg List.length q
      have a2 := own_l hw
      unfold ownR lR at a1
      rw [ltR_len, ltR_len] at a1
      omega
  · rw [if_neg e] at h
    exact absurd rfl h
theorem tE_k {T : Nat → Int} {n p : Nat} : (kR T n p = 0 → tE T n p = tS T n p) ∧ (kR T n p = 3 → tE T n p = tS T n p + 1) := by
  unfold kR tE
  rcases rK_cases T n (tS T n p) with ⟨a, e, e2⟩ | ⟨a, b, e, e2⟩ | ⟨a, -, b, e, e2⟩ | ⟨a, b, c, e, e2⟩ <;> rw [e, e2] <;> refine ⟨fun h => ?_, fun h => ?_⟩ <;> omega
/-- what comes out of the class's last lines -/
theorem lx_3 {T : Nat → Int} {n p : Nat} {g : Prop} (hg : g ↔ (0 < tS T n p ∧ (zL (T (tS T n p - 1)) = true ∨ zD (T (tS T n p - 1)) = true))) :
    (g ∧ k0C T n p ≠ 4 ∧ k0C T n p ≠ 0 → kC T n p = 5 ∧ pl T n p = tS T n p) ∧ (¬ (g ∧ k0C T n p ≠ 4 ∧ k0C T n p ≠ 0) → ((tE T n p : Int) - tS T n p ≤ moC T n p → kC T n p = k0C T n p ∧ pl T n p = tS T n p) ∧ (¬ (tE T n p : Int) - tS T n p ≤ moC T n p → kC T n p = 5 ∧ pl T n p = tS T n p + moC T n p)) := by
  have hk3 := kR_le T n p
  have hol := ow_len (T := T) (n := n) (p := p)
  have hek := tE_k (T := T) (n := n) (p := p)
  have htr := runS_ge (g := zB) (T := T) (n := n) p
  have hgl : glu T n p ↔ g ∧ (kR T n p = 1 ∨ kR T n p = 2) := by
    unfold glu
    rw [hg]
    exact ⟨fun h => ⟨⟨h.1, h.2.2⟩, h.2.1⟩, fun h => ⟨h.1.1, h.2, h.1.2⟩⟩
  have hk0 : (k0C T n p ≠ 4 ∧ k0C T n p ≠ 0) ↔ (kR T n p = 1 ∨ kR T n p = 2) := by
    unfold k0C
    by_cases c0 : kR T n p = 0
    · rw [if_pos c0]; omega
    · rw [if_neg c0]
      by_cases c1 : kR T n p = 1
      · rw [if_pos c1]
        split <;> omega
      · rw [if_neg c1]
        split <;> omega
  have hkC : kC T n p = if bd T n p = -1 then k0C T n p else 5 := rfl
  have hpl : pl T n p = if bd T n p = -1 then ((tS T n p : Nat) : Int) else bd T n p := rfl
  rw [hkC, hpl, hk0, ← hgl]
  refine ⟨fun h => ?_, fun h => ?_⟩
  · rw [bd_g h, if_neg (by omega), if_neg (by omega)]
    exact ⟨rfl, rfl⟩
  · have hb := bd_n h
    unfold moC
    by_cases c1 : kR T n p = 1
    · rw [if_pos c1]
      by_cases co : ow T n p = -1
      · rw [if_pos co]
        by_cases cl : 6 < tE T n p - tS T n p
        · rw [if_pos ⟨c1, co, cl⟩] at hb
          rw [hb]
          refine ⟨fun q => absurd q (by omega), fun _ => ?_⟩
          rw [if_neg (by omega), if_neg (by omega)]
          exact ⟨rfl, by omega⟩
        · rw [if_neg (fun q => cl q.2.2), if_neg (fun q => by omega)] at hb
          rw [hb, if_pos rfl, if_pos rfl]
          exact ⟨fun _ => ⟨rfl, rfl⟩, fun q => absurd q (by omega)⟩
      · have := (hol co).2
        rw [if_neg (fun q => co q.2.1), if_neg (fun q => by omega)] at hb
        rw [if_neg co, hb, if_pos rfl, if_pos rfl]
        exact ⟨fun _ => ⟨rfl, rfl⟩, fun q => absurd q (by omega)⟩
    · rw [if_neg (fun q => c1 q.1)] at hb
      rw [if_neg c1]
      by_cases c2 : kR T n p = 2
      · rw [if_pos c2]
        by_cases cl : 4 < tE T n p - tS T n p
        · rw [if_pos ⟨c2, cl⟩] at hb
          rw [hb]
          refine ⟨fun q => absurd q (by omega), fun _ => ?_⟩
          rw [if_neg (by omega), if_neg (by omega)]
          exact ⟨rfl, by omega⟩
        · rw [if_neg (fun q => cl q.2)] at hb
          rw [hb, if_pos rfl, if_pos rfl]
          exact ⟨fun _ => ⟨rfl, rfl⟩, fun q => absurd q (by omega)⟩
      · rw [if_neg (fun q => c2 q.1)] at hb
        rw [if_neg c2, hb, if_pos rfl, if_pos rfl]
        have a1 := hek.1
        have a2 := hek.2
        exact ⟨fun _ => ⟨rfl, rfl⟩, fun q => absurd q (by omega)⟩
set_option maxRecDepth 20000 in
set_option maxHeartbeats 4000000 in
theorem lx_fin {k : Nat} {P : Option Nat} {I I0 : Nat → Nat → Int32} {J : Nat → Nat → Int64} {Q : Option AV → Mem → Prop} {T : Nat → Int} {n p : Nat} {x2 x4 : Int} (hX : TX T n) (hp : p ≤ n) (hx2 : x2 = 0 ∨ x2 = 1) (hg : ¬ x2 = 0 ↔ (0 < tS T n p ∧ (zL (T (tS T n p - 1)) = true ∨ zD (T (tS T n p - 1)) = true))) (hT : TI I T n) (h2 : gi I 1 2 = k0C T n p) (h3 : gi I 1 3 = tS T n p) (h4 : gi I 1 4 = tE T n p) (h5 : gi I 1 5 = vl T n p) (hm : x4 = moC T n p) (hF : Fr [] FLx I0 I) (hQ : ∀ I', CT I' T n p → Fr [] FLx I0 I' → Q none (mem (P, some 5, some 22) I' J)) : WP k LAY m_X10_step 255 [(0, vR (some 1)), (2, vI x2), (4, vI x4)] [] (mem (P, some 5, some 22) I J) Q := by
  have hr := tE_rng (T := T) hp
  have hn := hX.1
  have h3' := lx_3 hg
  have hmo : 1 ≤ moC T n p ∧ moC T n p ≤ 7 := by
    unfold moC
    by_cases c1 : kR T n p = 1
    · rw [if_pos c1]; split <;> omega
    · rw [if_neg c1]; split <;> omega
  have iS : inR ((tS T n p : Nat) : Int) := by unfold inR; omega
  have good : kC T n p = k0C T n p ∧ pl T n p = tS T n p → Q none (mem (P, some 5, some 22) (si I 1 6 (tS T n p)) J) := fun hh => by
    have hF2 : Fr [] FLx I (si I 1 6 (tS T n p)) := (Fr.rf _ _ I).up 1 6 _ (Or.inr (by decide))
    refine hQ _ ⟨hT.fr hF2 (by decide) (by decide), ?_⟩ (hF.tr hF2)
    rw [gi_idx _ _ _ (by decide), gi_idx _ _ _ (by decide), gi_idx _ _ _ (by decide), gi_idx _ _ _ (by decide), gi_si _ _ _ _ _ iS, if_pos ⟨rfl, rfl⟩, hh.1, hh.2]
    exact ⟨h2, h3, h4, h5, rfl⟩
  have badd : ∀ z, kC T n p = 5 ∧ pl T n p = z → inR z → ∀ I', I' = (si (si (si I 1 6 (tS T n p)) 1 2 5) 1 6 z) ∨ (I' = si (si I 1 6 (tS T n p)) 1 2 5 ∧ z = tS T n p) → Q none (mem (P, some 5, some 22) I' J) := fun z hh iz I' hI => by
    rcases hI with rfl | ⟨rfl, hz⟩
    · have hF2 : Fr [] FLx I (si (si (si I 1 6 (tS T n p)) 1 2 5) 1 6 z) := (((Fr.rf _ _ I).up 1 6 _ (Or.inr (by decide))).up 1 2 _ (Or.inr (by decide))).up 1 6 _ (Or.inr (by decide))
      refine hQ _ ⟨hT.fr hF2 (by decide) (by decide), ?_⟩ (hF.tr hF2)
      rw [gi_si _ _ _ _ _ iz, gi_si _ _ _ _ _ iz, gi_si _ _ _ _ _ iz, gi_si _ _ _ _ _ iz, gi_si _ _ _ _ _ iz, if_neg (by decide), if_neg (by decide), if_neg (by decide), if_neg (by decide), if_pos ⟨rfl, rfl⟩, gi_si _ _ _ _ _ (by decide), if_pos ⟨rfl, rfl⟩, gi_idx _ _ _ (by decide), gi_idx _ _ _ (by decide), gi_idx _ _ _ (by decide), gi_idx _ _ _ (by decide), gi_idx _ _ _ (by decide), gi_idx _ _ _ (by decide), hh.1, hh.2]
      exact ⟨rfl, h3, h4, h5, rfl⟩
    · have hF2 : Fr [] FLx I (si (si I 1 6 (tS T n p)) 1 2 5) := ((Fr.rf _ _ I).up 1 6 _ (Or.inr (by decide))).up 1 2 _ (Or.inr (by decide))
      refine hQ _ ⟨hT.fr hF2 (by decide) (by decide), ?_⟩ (hF.tr hF2)
      rw [gi_si _ _ _ _ _ (by decide), if_pos ⟨rfl, rfl⟩, gi_idx _ _ _ (by decide), gi_idx _ _ _ (by decide), gi_idx _ _ _ (by decide), gi_idx _ _ _ (by decide), gi_idx _ _ _ (by decide), gi_idx _ _ _ (by decide), gi_idx _ _ _ (by decide), gi_si _ _ _ _ _ iS, if_pos ⟨rfl, rfl⟩, hh.1, hh.2, hz]
      exact ⟨rfl, h3, h4, h5, rfl⟩
  have mid : ¬ (¬ x2 = 0 ∧ k0C T n p ≠ 4 ∧ k0C T n p ≠ 0) → inR ((tE T n p : Int) - tS T n p) ∧ inR (moC T n p) ∧ ((((tE T n p : Int) - tS T n p) ≤ moC T n p → Q none (mem (P, some 5, some 22) (si I 1 6 (tS T n p)) J)) ∧ (¬ ((tE T n p : Int) - tS T n p) ≤ moC T n p → Q none (mem (P, some 5, some 22) (si (si (si I 1 6 (tS T n p)) 1 2 5) 1 6 ((tS T n p : Int) + moC T n p)) J))) := fun hh => ⟨by unfold inR; omega, by unfold inR; omega, fun c => good ((h3'.2 hh).1 c), fun c => badd _ ((h3'.2 hh).2 c) (by unfold inR; omega) _ (Or.inl rfl)⟩
  refine B_X10_step_255 (Nat.zero_le k) ?_
  rw [h2, h3, h4, hm]
  refine ⟨by unfold inR; omega, fun c => mid (fun q => q.1 c), fun c => ⟨fun c4 => mid (fun q => q.2.1 c4), fun c4 => ⟨fun c0 => mid (fun q => q.2.2 c0), fun c0 => ?_⟩⟩⟩
  exact badd _ (h3'.1 ⟨c, c4, c0⟩) iS _ (Or.inr ⟨rfl, rfl⟩)
set_option maxHeartbeats 4000000 in
theorem S_X10_endOfWord {k : Nat} {P : Option Nat} {I : Nat → Nat → Int32} {J : Nat → Nat → Int64} {Q : Option AV → Mem → Prop} {T : Nat → Int} {n s : Nat} (hk : 2 ≤ k) (hX : TX T n) (hT : TI I T n) (h3 : gi I 1 3 = s) (hs : s ≤ n) (h : Q (some (vI ((runS zL T n s : Nat) : Int))) (mem (P, some 5, some 22) I J)) : WPm k LAY m_X10_endOfWord [vR (some 1)] (mem (P, some 5, some 22) I J) Q := by
  have hn := hX.1
  refine WPm.of k_X10_endOfWord.1 (Nat.le_of_ble_eq_true rfl) (B_X10_endOfWord_0 (by omega) ?_)
  rw [h3]
  have loop : ∀ (d q : Nat) (x : Int), q + d = n → x = q → Q (some (vI ((runS zL T n q : Nat) : Int))) (mem (P, some 5, some 22) I J) → WP k LAY m_X10_endOfWord 5 [(0, vR (some 1)), (1, vI x)] [] (mem (P, some 5, some 22) I J) Q := by
    intro d
    induction d with
    | zero =>
      intro q x hq hx hQ
      subst hx
      rw [runS_stop (by omega)] at hQ
      refine B_X10_endOfWord_5 (by omega) ?_
      rw [hT.1]
      exact ⟨by unfold inR; omega, fun _ => hQ, fun c => absurd c (by omega)⟩
    | succ d ih =>
      intro q x hq hx hQ
      subst hx
      refine B_X10_endOfWord_5 (by omega) ?_
      rw [hT.1, Int.toNat_natCast, hT.2 q (by omega)]
      refine ⟨by unfold inR; omega, fun c => absurd c (by omega), fun _ => ⟨by omega, fun c => ?_, fun c => ?_⟩⟩
      · rw [runS_stop (fun z => c (zL_t.mp z.2))] at hQ
        exact hQ
      · rw [runS_step ⟨by omega, zL_t.mpr c⟩] at hQ
        exact ih (q + 1) _ (by omega) (by omega) hQ
  exact loop (n - s) s _ (by omega) rfl h
set_option maxHeartbeats 4000000 in
theorem S_X10_endOfNumber {k : Nat} {P : Option Nat} {I : Nat → Nat → Int32} {J : Nat → Nat → Int64} {Q : Option AV → Mem → Prop} {T : Nat → Int} {n s : Nat} (hk : 2 ≤ k) (hX : TX T n) (hT : TI I T n) (h3 : gi I 1 3 = s) (hs : s ≤ n) (h : Q (some (vI ((runS zD T n s : Nat) : Int))) (mem (P, some 5, some 22) I J)) : WPm k LAY m_X10_endOfNumber [vR (some 1)] (mem (P, some 5, some 22) I J) Q := by
  have hn := hX.1
  refine WPm.of k_X10_endOfNumber.1 (Nat.le_of_ble_eq_true rfl) (B_X10_endOfNumber_0 (by omega) ?_)
  rw [h3]
  have loop : ∀ (d q : Nat) (x : Int), q + d = n → x = q → Q (some (vI ((runS zD T n q : Nat) : Int))) (mem (P, some 5, some 22) I J) → WP k LAY m_X10_endOfNumber 5 [(0, vR (some 1)), (1, vI x)] [] (mem (P, some 5, some 22) I J) Q := by
    intro d
    induction d with
    | zero =>
      intro q x hq hx hQ
      subst hx
      rw [runS_stop (by omega)] at hQ
      refine B_X10_endOfNumber_5 (by omega) ?_
      rw [hT.1]
      exact ⟨by unfold inR; omega, fun _ => hQ, fun c => absurd c (by omega)⟩
    | succ d ih =>
      intro q x hq hx hQ
      subst hx
      refine B_X10_endOfNumber_5 (by omega) ?_
      rw [hT.1, Int.toNat_natCast, hT.2 q (by omega)]
      refine ⟨by unfold inR; omega, fun c => absurd c (by omega), fun _ => ⟨by omega, fun c => ?_, fun c => ?_⟩⟩
      · rw [runS_stop (fun z => c (zD_t.mp z.2))] at hQ
        exact hQ
      · rw [runS_step ⟨by omega, zD_t.mpr c⟩] at hQ
        exact ih (q + 1) _ (by omega) (by omega) hQ
  exact loop (n - s) s _ (by omega) rfl h
set_option maxHeartbeats 4000000 in
theorem S_X10_number {k : Nat} {P : Option Nat} {I : Nat → Nat → Int32} {J : Nat → Nat → Int64} {Q : Option AV → Mem → Prop} {T : Nat → Int} {n s e : Nat} (hk : 1 ≤ k) (hX : TX T n) (hT : TI I T n) (h3 : gi I 1 3 = s) (h4 : gi I 1 4 = e) (hse : s ≤ e) (he : e ≤ n) (h : Q (some (vI (nvF T s (min 4 (e - s))))) (mem (P, some 5, some 22) I J)) : WPm k LAY m_X10_number [vR (some 1)] (mem (P, some 5, some 22) I J) Q := by
  have hn := hX.1
  refine WPm.of k_X10_number.1 (Nat.le_of_ble_eq_true rfl) (B_X10_number_0 (by omega) ?_)
  rw [h3]
  have loop : ∀ (d j : Nat) (x y : Int), j + d = min 4 (e - s) → x = nvF T s j → y = s + j → WP k LAY m_X10_number 7 [(0, vR (some 1)), (1, vI x), (2, vI y)] [] (mem (P, some 5, some 22) I J) Q := by
    intro d
    induction d with
    | zero =>
      intro j x y hj hx hy
      subst hx hy
      refine B_X10_number_7 (by omega) ?_
      rw [h3, h4]
      have ej : j = min 4 (e - s) := by omega
      rw [ej]
      refine ⟨by unfold inR; omega, fun _ => h, fun c => ⟨by unfold inR; omega, fun _ => h, fun c2 => ?_⟩⟩
      omega
    | succ d ih =>
      intro j x y hj hx hy
      subst hx hy
      refine B_X10_number_7 (by omega) ?_
      rw [h3, h4, show ((s : Int) + j).toNat = s + j by omega, hT.2 _ (by omega)]
      refine ⟨by unfold inR; omega, fun c => absurd c (by omega), fun c => ⟨by unfold inR; omega, fun c2 => absurd c2 (by omega), fun c2 => ⟨by omega, ?_⟩⟩⟩
      exact ih (j + 1) _ _ (by omega) rfl (by omega)
  exact loop _ 0 0 _ (Nat.zero_add _) rfl (by omega)
set_option maxRecDepth 20000 in
set_option maxHeartbeats 8000000 in
theorem S_X10_step {k : Nat} {P : Option Nat} {I : Nat → Nat → Int32} {J : Nat → Nat → Int64} {Q : Option AV → Mem → Prop} {T : Nat → Int} {n p : Nat} (hk : 6 ≤ k) (hX : TX T n) (hT : TI I T n) (hp : p ≤ n) (h4 : gi I 1 4 = p) (hG : (gi I 1 2 = 1 ∨ gi I 1 2 = 2 ∨ gi I 1 2 = 3) ↔ (0 < p ∧ (zL (T (p - 1)) = true ∨ zD (T (p - 1)) = true))) (h : ∀ I', CT I' T n p → Fr [] FLx I I' → Q none (mem (P, some 5, some 22) I' J)) : WPm k LAY m_X10_step [vR (some 1)] (mem (P, some 5, some 22) I J) Q := by
  have hn := hX.1
  have hr := tE_rng (T := T) hp
  have hsr := tS_rng (T := T) hp
  refine WPm.of k_X10_step.1 (Nat.le_of_ble_eq_true rfl) ?_
  -- from the token's first byte on
  have go : ∀ (I1 : Nat → Nat → Int32) (x1 : Int), Fr [] FLx I I1 → TI I1 T n → gi I1 1 4 = p → gi I1 1 3 = tS T n p → inR x1 → (¬ x1 = 0 ↔ (0 < p ∧ (zL (T (p - 1)) = true ∨ zD (T (p - 1)) = true))) → WP k LAY m_X10_step 90 [(0, vR (some 1)), (1, vI x1)] [] (mem (P, some 5, some 22) I1 J) Q := by
    intro I1 x1 hF hT1 h14 h13 ix hx
    have ha := ahead_LD (T := T) hp
    have go2 : ∀ x2 : Int, (x2 = 0 ∨ x2 = 1) → (¬ x2 = 0 ↔ (0 < tS T n p ∧ (zL (T (tS T n p - 1)) = true ∨ zD (T (tS T n p - 1)) = true))) → WP k LAY m_X10_step 111 [(0, vR (some 1)), (2, vI x2)] [] (mem (P, some 5, some 22) I1 J) Q := by
      intro x2 hx2 hg
      refine B_X10_step_111 (by omega) ?_
      rw [h13, hT1.1]
      refine ⟨by omega, ?_⟩
      by_cases hlt : tS T n p < n
      · have hb := hX.2 _ hlt
        have eb : byt I1 ((tS T n p : Nat) : Int) = T (tS T n p) := by
          unfold byt
          rw [hT1.1, if_pos ⟨by omega, by omega⟩, Int.toNat_natCast, hT1.2 _ hlt]
        rw [eb]
        refine ⟨fun _ => ⟨fun _ => ?_, fun c => absurd c (by omega)⟩, fun c => absurd c (by omega)⟩
        generalize hI2 : si (si (si I1 1 2 4) 1 5 (T (tS T n p))) 1 4 ((tS T n p : Int) + 1) = I2
        have iT : inR (T (tS T n p)) := by unfold inR; omega
        have hF2 : Fr [] FLx I1 I2 := by
          rw [← hI2]
          exact (((Fr.rf _ _ I1).up 1 2 _ (Or.inr (by decide))).up 1 5 _ (Or.inr (by decide))).up 1 4 _ (Or.inr (by decide))
        have g2 : gi I2 1 2 = 4 := by
          rw [← hI2, gi_idx _ _ _ (by decide), gi_idx _ _ _ (by decide), gi_si _ _ _ _ _ (by decide), if_pos ⟨rfl, rfl⟩]
        have g3 : gi I2 1 3 = tS T n p := by
          rw [← hI2, gi_idx _ _ _ (by decide), gi_idx _ _ _ (by decide), gi_idx _ _ _ (by decide), h13]
        have g4 : gi I2 1 4 = tS T n p + 1 := by
          rw [← hI2, gi_si _ _ _ _ _ (by unfold inR; omega), if_pos ⟨rfl, rfl⟩]
        have g5 : gi I2 1 5 = T (tS T n p) := by
          rw [← hI2, gi_idx _ _ _ (by decide), gi_si _ _ _ _ _ iT, if_pos ⟨rfl, rfl⟩]
        have hT2 := hT1.fr hF2 (by decide) (by decide)
        have hF02 := hF.tr hF2
        refine B_X10_step_164 (by omega) ⟨iT, ?_⟩
        rcases rK_cases T n (tS T n p) with ⟨a, -⟩ | ⟨-, zl, e, e2⟩ | ⟨-, nl, zd, e, e2⟩ | ⟨-, nl, nd, e, e2⟩
        · omega
        · -- a word
          refine ⟨fun c => absurd (zL_t.mp zl) c, fun _ => ?_⟩
          have ek : kR T n p = 1 := e
          have ee : runS zL T n (tS T n p) = tE T n p := e2.symm
          refine S_X10_endOfWord (by omega) hX hT2 g3 hsr.2 ⟨_, _, _, rfl, rfl, ?_⟩
          dsimp only
          rw [ee]
          have iE : inR ((tE T n p : Nat) : Int) := by unfold inR; omega
          have hF3 : Fr [] FLx I2 (si I2 1 4 (tE T n p)) := (Fr.rf _ _ I2).up 1 4 _ (Or.inr (by decide))
          have hT3 := hT2.fr hF3 (by decide) (by decide)
          refine S_X10_ownWord (s := tS T n p) (e := tE T n p) (by omega) hn (by rw [gi_idx _ _ _ (by decide), g3]) (by rw [gi_si _ _ _ _ _ iE, if_pos ⟨rfl, rfl⟩]) hT3.2 hr.1 hr.2.1 (fun i h1 h2 => runS_all (p := tS T n p) (n := n) h1 (by rw [ee]; exact h2)) ⟨_, _, _, rfl, rfl, ?_⟩
          dsimp only
          have eow : owI (ltR T (tS T n p) (tE T n p - tS T n p)) = ow T n p := by unfold ow; rw [if_pos ek]; rfl
          rw [eow]
          have hoi := ow_in T n p
          have iO : inR (ow T n p) := by unfold inR; omega
          rw [gi_si _ _ _ _ _ iO, if_pos ⟨rfl, rfl⟩]
          have fin : ∀ (z x4 : Int), inR z → z = k0C T n p → x4 = moC T n p → WP k LAY m_X10_step 255 [(0, vR (some 1)), (2, vI x2), (4, vI x4)] [] (mem (P, some 5, some 22) (si (si (si I2 1 4 (tE T n p)) 1 5 (ow T n p)) 1 2 z) J) Q := by
            intro z x4 iz hz hx4
            have hF4 : Fr [] FLx (si I2 1 4 (tE T n p)) (si (si (si I2 1 4 (tE T n p)) 1 5 (ow T n p)) 1 2 z) := ((Fr.rf _ _ _).up 1 5 _ (Or.inr (by decide))).up 1 2 _ (Or.inr (by decide))
            refine lx_fin hX hp hx2 hg (hT3.fr hF4 (by decide) (by decide)) ?_ ?_ ?_ ?_ hx4 ((hF02.tr hF3).tr hF4) h
            · rw [gi_si _ _ _ _ _ iz, if_pos ⟨rfl, rfl⟩, hz]
            · rw [gi_idx _ _ _ (by decide), gi_idx _ _ _ (by decide), gi_idx _ _ _ (by decide), g3]
            · rw [gi_idx _ _ _ (by decide), gi_idx _ _ _ (by decide), gi_si _ _ _ _ _ iE, if_pos ⟨rfl, rfl⟩]
            · rw [gi_idx _ _ _ (by decide), gi_si _ _ _ _ _ iO, if_pos ⟨rfl, rfl⟩]
              unfold vl
              rw [ek, if_neg (by decide), if_pos rfl]
          by_cases co : ow T n p = -1
          · refine ⟨fun c => absurd co c, fun _ => ⟨fun c => absurd co c, fun _ => ?_⟩⟩
            exact fin 1 6 (by decide) (by unfold k0C; rw [ek, if_neg (by decide), if_pos rfl, if_pos co]) (by unfold moC; rw [ek, if_pos rfl, if_pos co])
          · refine ⟨fun _ => ⟨fun _ => ?_, fun c => absurd c co⟩, fun c => absurd c co⟩
            exact fin 2 7 (by decide) (by unfold k0C; rw [ek, if_neg (by decide), if_pos rfl, if_neg co]) (by unfold moC; rw [ek, if_pos rfl, if_neg co])
        · -- a number
          have nl' : ¬ (97 ≤ T (tS T n p) ∧ T (tS T n p) ≤ 122) := fun q => by
            rw [zL_t.mpr q] at nl
            exact absurd nl (by decide)
          refine ⟨fun _ => ⟨fun c => absurd (zD_t.mp zd) c, fun _ => ?_⟩, fun c => absurd c nl'⟩
          have ek : kR T n p = 2 := e
          have ee : runS zD T n (tS T n p) = tE T n p := e2.symm
          refine S_X10_endOfNumber (by omega) hX hT2 g3 hsr.2 ⟨_, _, _, rfl, rfl, ?_⟩
          dsimp only
          rw [ee]
          have iE : inR ((tE T n p : Nat) : Int) := by unfold inR; omega
          have hF3 : Fr [] FLx I2 (si I2 1 4 (tE T n p)) := (Fr.rf _ _ I2).up 1 4 _ (Or.inr (by decide))
          have hT3 := hT2.fr hF3 (by decide) (by decide)
          have hnv := nvF_bd (T := T) (s := tS T n p) (min 4 (tE T n p - tS T n p)) (by omega) (fun j hj => runS_all (p := tS T n p) (n := n) (by omega) (by rw [ee]; omega))
          have hpw : (10 : Int) ^ (min 4 (tE T n p - tS T n p)) ≤ 10000 := by
            have : min 4 (tE T n p - tS T n p) ≤ 4 := by omega
            generalize min 4 (tE T n p - tS T n p) = m at this
            match m, this with
            | 0, _ => decide
            | 1, _ => decide
            | 2, _ => decide
            | 3, _ => decide
            | 4, _ => decide
          have iN : inR (nvF T (tS T n p) (min 4 (tE T n p - tS T n p))) := by unfold inR; omega
          refine S_X10_number (s := tS T n p) (e := tE T n p) (by omega) hX hT3 (by rw [gi_idx _ _ _ (by decide), g3]) (by rw [gi_si _ _ _ _ _ iE, if_pos ⟨rfl, rfl⟩]) hr.1 hr.2.1 ⟨_, _, _, rfl, rfl, ?_⟩
          dsimp only
          have hF4 : Fr [] FLx (si I2 1 4 (tE T n p)) (si (si (si I2 1 4 (tE T n p)) 1 5 (nvF T (tS T n p) (min 4 (tE T n p - tS T n p)))) 1 2 3) := ((Fr.rf _ _ _).up 1 5 _ (Or.inr (by decide))).up 1 2 _ (Or.inr (by decide))
          refine lx_fin hX hp hx2 hg (hT3.fr hF4 (by decide) (by decide)) ?_ ?_ ?_ ?_ ?_ ((hF02.tr hF3).tr hF4) h
          · rw [gi_si _ _ _ _ _ (by decide), if_pos ⟨rfl, rfl⟩]
            unfold k0C
            rw [ek, if_neg (by decide), if_neg (by decide), if_pos rfl]
          · rw [gi_idx _ _ _ (by decide), gi_idx _ _ _ (by decide), gi_idx _ _ _ (by decide), g3]
          · rw [gi_idx _ _ _ (by decide), gi_idx _ _ _ (by decide), gi_si _ _ _ _ _ iE, if_pos ⟨rfl, rfl⟩]
          · rw [gi_idx _ _ _ (by decide), gi_si _ _ _ _ _ iN, if_pos ⟨rfl, rfl⟩]
            unfold vl
            rw [ek, if_neg (by decide), if_neg (by decide), if_pos rfl]
          · unfold moC
            rw [ek, if_neg (by decide), if_pos rfl]
        · -- a sign
          have nl' : ¬ (97 ≤ T (tS T n p) ∧ T (tS T n p) ≤ 122) := fun q => by
            rw [zL_t.mpr q] at nl
            exact absurd nl (by decide)
          have nd' : ¬ (48 ≤ T (tS T n p) ∧ T (tS T n p) ≤ 57) := fun q => by
            rw [zD_t.mpr q] at nd
            exact absurd nd (by decide)
          refine ⟨fun _ => ⟨fun _ => ?_, fun c => absurd c nd'⟩, fun c => absurd c nl'⟩
          have ek : kR T n p = 3 := e
          refine lx_fin hX hp hx2 hg hT2 ?_ g3 ?_ ?_ ?_ hF02 h
          · rw [g2]
            unfold k0C
            rw [ek, if_neg (by decide), if_neg (by decide), if_neg (by decide)]
          · rw [g4, tE_k.2 ek]
            omega
          · rw [g5]
            unfold vl
            rw [ek, if_neg (by decide), if_neg (by decide), if_neg (by decide)]
          · unfold moC
            rw [ek, if_neg (by decide), if_neg (by decide)]
      · have es : tS T n p = n := by omega
        have eb : byt I1 ((tS T n p : Nat) : Int) = -1 := by
          unfold byt
          rw [hT1.1, if_neg (fun q => by omega)]
        rw [eb]
        refine ⟨fun c => absurd rfl c, fun _ => ⟨fun c => absurd rfl c, fun _ => ?_⟩⟩
        have iS : inR ((tS T n p : Nat) : Int) := by unfold inR; omega
        generalize hI2 : si (si (si I1 1 2 0) 1 5 (-1)) 1 4 ((tS T n p : Nat) : Int) = I2
        have hF2 : Fr [] FLx I1 I2 := by
          rw [← hI2]
          exact (((Fr.rf _ _ I1).up 1 2 _ (Or.inr (by decide))).up 1 5 _ (Or.inr (by decide))).up 1 4 _ (Or.inr (by decide))
        have ek : kR T n p = 0 := kR_0.mpr (by omega)
        refine B_X10_step_164 (by omega) ⟨by decide, fun _ => ⟨fun _ => ?_, fun c => absurd c (by decide)⟩, fun c => absurd c (by decide)⟩
        refine lx_fin hX hp hx2 hg (hT1.fr hF2 (by decide) (by decide)) ?_ ?_ ?_ ?_ ?_ (hF.tr hF2) h
        · rw [← hI2, gi_idx _ _ _ (by decide), gi_idx _ _ _ (by decide), gi_si _ _ _ _ _ (by decide), if_pos ⟨rfl, rfl⟩]
          unfold k0C
          rw [ek, if_pos rfl]
        · rw [← hI2, gi_idx _ _ _ (by decide), gi_idx _ _ _ (by decide), gi_idx _ _ _ (by decide), h13]
        · rw [← hI2, gi_si _ _ _ _ _ iS, if_pos ⟨rfl, rfl⟩, tE_k.1 ek]
        · rw [← hI2, gi_idx _ _ _ (by decide), gi_si _ _ _ _ _ (by decide), if_pos ⟨rfl, rfl⟩]
          unfold vl
          rw [ek, if_pos rfl]
        · unfold moC
          rw [ek, if_neg (by decide), if_neg (by decide)]
    refine B_X10_step_90 (by omega) ?_
    rw [h13, h14]
    refine ⟨ix, fun c => go2 0 (Or.inl rfl) ⟨fun q => absurd rfl q, fun q => absurd c (hx.mpr (ha.mp q).2)⟩, fun c => ⟨fun cs => go2 0 (Or.inl rfl) ⟨fun q => absurd rfl q, fun q => absurd (congrArg Int.ofNat (ha.mp q).1) cs⟩, fun cs => go2 1 (Or.inr rfl) ⟨fun _ => ha.mpr ⟨by omega, hx.mp c⟩, fun _ => by decide⟩⟩⟩
  -- the blanks
  have loop : ∀ (d q : Nat) (x1 : Int) (I1 : Nat → Nat → Int32), q + d = n → Fr [] FLx I I1 → TI I1 T n → gi I1 1 4 = p → gi I1 1 3 = q → runS zB T n q = tS T n p → inR x1 → (¬ x1 = 0 ↔ (0 < p ∧ (zL (T (p - 1)) = true ∨ zD (T (p - 1)) = true))) → WP k LAY m_X10_step 38 [(0, vR (some 1)), (1, vI x1)] [] (mem (P, some 5, some 22) I1 J) Q := by
    intro d
    induction d with
    | zero =>
      intro q x1 I1 hq hF hT1 h14 h13 hrun ix hx
      refine B_X10_step_38 (Nat.zero_le k) ?_
      rw [hT1.1, h13]
      refine ⟨fun _ => ?_, fun c => absurd c (by omega)⟩
      rw [runS_stop (by omega)] at hrun
      exact go I1 x1 hF hT1 h14 (by rw [h13, hrun]) ix hx
    | succ d ih =>
      intro q x1 I1 hq hF hT1 h14 h13 hrun ix hx
      refine B_X10_step_38 (Nat.zero_le k) ?_
      rw [hT1.1, h13, Int.toNat_natCast, hT1.2 q (by omega)]
      have st : zB (T q) = true → WP k LAY m_X10_step 38 [(0, vR (some 1)), (1, vI x1)] [] (mem (P, some 5, some 22) (si I1 1 3 ((q : Int) + 1)) J) Q := fun hz => by
        rw [runS_step ⟨by omega, hz⟩] at hrun
        have hF2 : Fr [] FLx I1 (si I1 1 3 ((q : Int) + 1)) := (Fr.rf _ _ _).up 1 3 _ (Or.inr (by decide))
        refine ih (q + 1) x1 _ (by omega) (hF.tr hF2) (hT1.fr hF2 (by decide) (by decide)) ?_ ?_ hrun ix hx
        · rw [gi_idx _ _ _ (by decide), h14]
        · rw [gi_si _ _ _ _ _ (by unfold inR; omega), if_pos ⟨rfl, rfl⟩]
          omega
      refine ⟨fun c => absurd c (by omega), fun _ => ⟨by omega, fun c => st (zB_t.mpr (Or.inl c)), fun c => ⟨fun c2 => ?_, fun c2 => st (zB_t.mpr (Or.inr c2))⟩⟩⟩
      have hz : ¬ zB (T q) = true := fun z => (zB_t.mp z).elim c c2
      rw [runS_stop (fun z => hz z.2)] at hrun
      exact go I1 x1 hF hT1 h14 (by rw [h13, hrun]) ix hx
  have start : ∀ x1 : Int, inR x1 → (¬ x1 = 0 ↔ (0 < p ∧ (zL (T (p - 1)) = true ∨ zD (T (p - 1)) = true))) → WP k LAY m_X10_step 29 [(0, vR (some 1))] [vI x1] (mem (P, some 5, some 22) I J) Q := fun x1 ix hx => by
    refine B_X10_step_29 (Nat.zero_le k) ?_
    rw [h4]
    have hF2 : Fr [] FLx I (si I 1 3 (p : Int)) := (Fr.rf _ _ _).up 1 3 _ (Or.inr (by decide))
    refine loop (n - p) p x1 _ (by omega) hF2 (hT.fr hF2 (by decide) (by decide)) ?_ ?_ rfl ix hx
    · rw [gi_idx _ _ _ (by decide), h4]
    · rw [gi_si _ _ _ _ _ (by unfold inR; omega), if_pos ⟨rfl, rfl⟩]
  refine B_X10_step_0 (Nat.zero_le k) ⟨fun c => start 1 (by decide) ⟨fun _ => hG.mp (Or.inl c), fun _ => by decide⟩, fun c1 => ⟨fun c => start 1 (by decide) ⟨fun _ => hG.mp (Or.inr (Or.inl c)), fun _ => by decide⟩, fun c2 => ⟨fun c3 => start 0 (by decide) ⟨fun q => absurd rfl q, fun q => ?_⟩, fun c => start 1 (by decide) ⟨fun _ => hG.mp (Or.inr (Or.inr c)), fun _ => by decide⟩⟩⟩⟩
  rcases hG.mpr q with c | c | c
  · exact absurd c c1
  · exact absurd c c2
  · exact absurd c c3
/-- what a step wants of a good token behind which it goes on -/
theorem CT.nx {I : Nat → Nat → Int32} {T : Nat → Int} {n p : Nat} (hp : p ≤ n) (h : CT I T n p) (h0 : gi I 1 2 ≠ 0) (h5 : gi I 1 2 ≠ 5) : (gi I 1 2 = 1 ∨ gi I 1 2 = 2 ∨ gi I 1 2 = 3) ↔ (0 < tE T n p ∧ (zL (T (tE T n p - 1)) = true ∨ zD (T (tE T n p - 1)) = true)) := by
  have e2 := h.2.1
  rw [e2] at h0 h5 ⊢
  unfold kC at h0 h5 ⊢
  by_cases hb : bd T n p = -1
  · rw [if_pos hb] at h0 h5 ⊢
    by_cases k0 : kR T n p = 0
    · rw [if_pos k0] at h0
      exact absurd rfl h0
    · rw [if_neg k0] at h0 h5 ⊢
      have hl := last_LD (T := T) hp k0
      have hk3 := kR_le T n p
      rw [← hl.2]
      constructor
      · intro q
        refine ⟨hl.1, ?_⟩
        by_cases c1 : kR T n p = 1
        · exact Or.inl c1
        · rw [if_neg c1] at q
          by_cases c2 : kR T n p = 2
          · exact Or.inr c2
          · rw [if_neg c2] at q
            omega
      · intro q
        rcases q.2 with c1 | c2
        · rw [if_pos c1]
          split <;> omega
        · rw [if_neg (by omega), if_pos c2]
          omega
  · rw [if_neg hb] at h5
    exact absurd rfl h5
theorem S_X10_rewind {k : Nat} {P : Option Nat} {I : Nat → Nat → Int32} {J : Nat → Nat → Int64} {Q : Option AV → Mem → Prop} {T : Nat → Int} {n : Nat} (hk : 7 ≤ k) (hX : TX T n) (hT : TI I T n) (h : ∀ I', CT I' T n 0 → Fr [] FLx I I' → Q none (mem (P, some 5, some 22) I' J)) : WPm k LAY m_X10_rewind [vR (some 1)] (mem (P, some 5, some 22) I J) Q := by
  refine WPm.of k_X10_rewind.1 (Nat.le_of_ble_eq_true rfl) (B_X10_rewind_0 (by omega) ?_)
  have hF2 : Fr [] FLx I (si (si I 1 4 0) 1 2 0) := ((Fr.rf _ _ _).up 1 4 _ (Or.inr (by decide))).up 1 2 _ (Or.inr (by decide))
  have e2 : gi (si (si I 1 4 0) 1 2 0) 1 2 = 0 := by rw [gi_si _ _ _ _ _ (by decide), if_pos ⟨rfl, rfl⟩]
  refine S_X10_step (p := 0) (by omega) hX (hT.fr hF2 (by decide) (by decide)) (Nat.zero_le n) ?_ ?_ (fun I' hC hF => ⟨_, _, rfl, rfl, ?_⟩)
  · rw [gi_idx _ _ _ (by decide), gi_si _ _ _ _ _ (by decide), if_pos ⟨rfl, rfl⟩]
    rfl
  · rw [e2]
    exact ⟨fun q => absurd q (by decide), fun q => absurd q.1 (by decide)⟩
  · dsimp only
    exact h I' hC (hF2.tr hF)
end LEXS

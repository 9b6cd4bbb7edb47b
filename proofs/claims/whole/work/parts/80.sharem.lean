section SHAREM
/-! ===== the pages of a question in their order; the class measures ===== -/
def pgL (q : Nat) : Nat → List Nat
  | 0 => []
  | p + 1 => pgL q p ++ (if q.testBit p = true then [p] else [])
theorem pgL_len (q : Nat) : ∀ p, (pgL q p).length = popw p q
  | 0 => rfl
  | p + 1 => by
    rw [pgL, List.length_append, pgL_len q p, popw]
    split <;> rfl
theorem pgL_app (q p : Nat) : ∀ d, ∃ t, pgL q (p + d) = pgL q p ++ t
  | 0 => ⟨[], by rw [Nat.add_zero, List.append_nil]⟩
  | d + 1 => by
    obtain ⟨t, e⟩ := pgL_app q p d
    refine ⟨t ++ (if q.testBit (p + d) = true then [p + d] else []), ?_⟩
    rw [← Nat.add_assoc, pgL, e, List.append_assoc]
theorem pgL_in (q : Nat) : ∀ p x, x ∈ pgL q p → x < p ∧ q.testBit x = true
  | 0, x, h => by simp [pgL] at h
  | p + 1, x, h => by
    rw [pgL, List.mem_append] at h
    rcases h with h | h
    · have := pgL_in q p x h
      exact ⟨by omega, this.2⟩
    · split at h
      · rename_i hb
        rw [List.mem_singleton] at h
        subst h
        exact ⟨Nat.lt_succ_self _, hb⟩
      · simp at h
theorem pgL_get {q p n k : Nat} (hp : p ≤ n) (hk : k < popw p q) : (pgL q n).getD k 0 = (pgL q p).getD k 0 := by
  obtain ⟨t, e⟩ := pgL_app q p (n - p)
  rw [show p + (n - p) = n by omega] at e
  rw [e, List.getD_eq_getElem?_getD, List.getD_eq_getElem?_getD, List.getElem?_append_left (by rw [pgL_len]; exact hk)]
theorem pgL_at {q p n : Nat} (hp : p < n) (hb : q.testBit p = true) : (pgL q n).getD (popw p q) 0 = p := by
  rw [pgL_get (p := p + 1) (by omega) (by rw [popw, if_pos hb]; omega), pgL, if_pos hb, ← pgL_len, List.getD_eq_getElem?_getD, List.getElem?_append_right (Nat.le_refl _), Nat.sub_self]
  rfl
theorem pgL_lt {q n k : Nat} (hk : k < popw n q) : (pgL q n).getD k 0 < n ∧ q.testBit ((pgL q n).getD k 0) = true := by
  rw [← pgL_len] at hk
  rw [List.getD_eq_getElem?_getD, List.getElem?_eq_getElem hk]
  exact pgL_in q n _ (List.getElem_mem hk)
theorem pgL_stop {q p n : Nat} (hp : p ≤ n) (h : popw n q = popw p q) : pgL q n = pgL q p := by
  obtain ⟨t, e⟩ := pgL_app q p (n - p)
  rw [show p + (n - p) = n by omega] at e
  have := congrArg List.length e
  rw [List.length_append, pgL_len, pgL_len] at this
  rw [e, List.length_eq_zero_iff.mp (show t.length = 0 by omega), List.append_nil]
theorem popw_mono {q p n : Nat} (hp : p ≤ n) : popw p q ≤ popw n q := by
  obtain ⟨t, e⟩ := pgL_app q p (n - p)
  rw [show p + (n - p) = n by omega] at e
  have := congrArg List.length e
  rw [List.length_append, pgL_len, pgL_len] at this
  omega
abbrev pgN (L : Lb) (q : Nat) : Nat → Nat := fun k => (pgL q (nP L).toNat).getD k 0
/-- what is measured of the readers below s -/
def shM (I : Nat → Nat → Int32) (L : Lb) (R : Rl) (H : Hl) (pg : Nat → Nat) (n s : Nat) : Prop := ∀ s' : Nat, s' < s → gi I 58 s' = lno L R H s' ∧ gi I 61 s' = 0 ∧ gi I 62 s' = 0 ∧ (∀ p : Nat, p < (nP L).toNat → gi I 59 (s' * 14 + p) = tnw L R H s' p) ∧ (∀ j : Nat, j < n → gi I 60 (s' * 8 + j) = ((clo L (kn H s') 0 (2 ^ pg j) : Nat) : Int))
abbrev CMe : List Nat := [37, 38, 58, 59, 60, 61, 62]
theorem S_X6_measure {k : Nat} {P : Option Nat} {I : Nat → Nat → Int32} {J : Nat → Nat → Int64} {Q : Option AV → Mem → Prop} {L : Lb} {R : Rl} {H : Hl} {pg : Nat → Nat} {n s : Nat} (hk : 9 ≤ k) (hX : CX I L R H) (hs : (s : Int) < nR L) (hs3 : s < 3) (hn : n ≤ 8) (h7 : gi I 54 7 = n) (h55 : ∀ j : Nat, j < n → gi I 55 j = ((pg j : Nat) : Int)) (hpg : ∀ i, i < n → pg i < 14) (hM : shM I L R H pg n s) (hQ : ∀ I', Fr CMe [] I I' → shM I' L R H pg n (s + 1) → Q none (mem (rv0 P) I' J)) : WPm k LAY m_X6_measure [vR (some 54), vI (s : Int)] (mem (rv0 P) I J) Q := by
  have hL := hX.1.2.2.2.1
  have hP := hL.2.1
  have hR6 := hL.2.2.1
  have hT := hL.2.2.2.1
  have hr : 0 ≤ (s : Int) ∧ (s : Int) < nR L := ⟨by omega, hs⟩
  have hw := (hX.2.2.2.2 (s : Int) hr.1 hr.2).1
  have lb := lno_bd (R := R) (H := H) hL s
  -- the pages asked
  have lp103 : ∀ (d j : Nat) (x : Int) (I1 : Nat → Nat → Int32), j + d = n → x = j → Fr CMe [] I I1 → shM I1 L R H pg n s → gi I1 58 s = lno L R H s → gi I1 61 s = 0 → gi I1 62 s = 0 → (∀ p : Nat, p < (nP L).toNat → gi I1 59 (s * 14 + p) = tnw L R H s p) → (∀ i : Nat, i < j → gi I1 60 (s * 8 + i) = ((clo L (kn H s) 0 (2 ^ pg i) : Nat) : Int)) → WP k LAY m_X6_measure 103 [(0, vR (some 54)), (1, vI (s : Int)), (3, vI x)] [] (mem (P, some 5, some 22) I1 J) Q := by
    intro d
    induction d with
    | zero =>
      intro j x I1 hj hx hF m1 m2 m3 m4 m5 m6
      refine B_X6_measure_103 (by omega) ?_
      rw [hF.gv 54 7 (by decide) (by decide), h7]
      refine ⟨⟨by omega, by omega⟩, fun _ => hQ I1 hF (fun s' hs' => ?_), fun q => absurd q (by omega)⟩
      by_cases e : s' = s
      · subst e
        exact ⟨m2, m3, m4, m5, fun i hi => m6 i (by omega)⟩
      · exact m1 s' (by omega)
    | succ d ih =>
      intro j x I1 hj hx hF m1 m2 m3 m4 m5 m6
      subst hx
      have hX1 := hX.fr (hF.cx (by decide) (by decide))
      have pj := hpg j (by omega)
      have cb : clo L (kn H s) 0 (2 ^ pg j) < 16384 := clo_lt hL _ _ (show 2 ^ pg j < 2 ^ 14 from Nat.pow_lt_pow_right (by decide) pj)
      refine B_X6_measure_103 (by omega) ?_
      rw [hF.gv 54 7 (by decide) (by decide), h7, Int.toNat_natCast, hF.gv 55 j (by decide) (by simp), h55 j (by omega), shl1 (by omega)]
      refine ⟨⟨by omega, by omega⟩, fun q => absurd q (by omega), fun _ => ⟨⟨by omega, by omega⟩, ?_⟩⟩
      refine S_X8_pages (by omega) hX1 hr (show 2 ^ pg j < 2 ^ 14 from Nat.pow_lt_pow_right (by decide) pj) (Or.inl ⟨rfl, rfl⟩) ⟨_, _, _, rfl, rfl, ⟨by omega, by omega⟩, ?_⟩
      rw [show (((s : Int) * 8) + (j : Int)).toNat = s * 8 + j by omega]
      have f : ∀ c i, c ≠ 60 → gi (si I1 60 (s * 8 + j) ((clo L (kn H s) 0 (2 ^ pg j) : Nat) : Int)) c i = gi I1 c i := fun c i h => gi_cell _ _ _ _ h
      have f60 : ∀ i, i ≠ s * 8 + j → gi (si I1 60 (s * 8 + j) ((clo L (kn H s) 0 (2 ^ pg j) : Nat) : Int)) 60 i = gi I1 60 i := fun i h => gi_idx _ _ _ h
      have f60s : gi (si I1 60 (s * 8 + j) ((clo L (kn H s) 0 (2 ^ pg j) : Nat) : Int)) 60 (s * 8 + j) = ((clo L (kn H s) 0 (2 ^ pg j) : Nat) : Int) := gi_same _ _ _ ⟨by omega, by omega⟩
      have hF2 : Fr CMe [] I (si I1 60 (s * 8 + j) ((clo L (kn H s) 0 (2 ^ pg j) : Nat) : Int)) := hF.up 60 _ _ (Or.inl (by decide))
      generalize si I1 60 (s * 8 + j) ((clo L (kn H s) 0 (2 ^ pg j) : Nat) : Int) = I2 at f f60 f60s hF2 ⊢
      refine ih (j + 1) _ I2 (by omega) rfl hF2 (fun s' hs' => ?_) ((f 58 _ (by decide)).trans m2) ((f 61 _ (by decide)).trans m3) ((f 62 _ (by decide)).trans m4) (fun p hp => (f 59 _ (by decide)).trans (m5 p hp)) (fun i hi => ?_)
      · obtain ⟨a, b, c, e, g⟩ := m1 s' hs'
        exact ⟨(f 58 _ (by decide)).trans a, (f 61 _ (by decide)).trans b, (f 62 _ (by decide)).trans c, fun p hp => (f 59 _ (by decide)).trans (e p hp), fun i hi => (f60 _ (by omega)).trans (g i hi)⟩
      · by_cases e : i = j
        · rw [e]; exact f60s
        · exact (f60 _ (by omega)).trans (m6 i (by omega))
  -- how long each page takes
  have lp60 : ∀ (d p : Nat) (x : Int) (I1 : Nat → Nat → Int32), p + d = (nP L).toNat → x = p → Fr CMe [] I I1 → vals I1 L (H 8 0) s (L 7 (H 1 s)) (sit L H (H 1 s)) (pop (kn H s)) → shM I1 L R H pg n s → gi I1 58 s = lno L R H s → gi I1 61 s = 0 → gi I1 62 s = 0 → (∀ i : Nat, i < p → gi I1 59 (s * 14 + i) = tnw L R H s i) → WP k LAY m_X6_measure 60 [(0, vR (some 54)), (1, vI (s : Int)), (3, vI x)] [] (mem (P, some 5, some 22) I1 J) Q := by
    intro d
    induction d with
    | zero =>
      intro p x I1 hp hx hF hv m1 m2 m3 m4 m5
      have hX1 := hX.fr (hF.cx (by decide) (by decide))
      refine B_X6_measure_60 (by omega) ?_
      rw [cx_p hX1]
      exact ⟨⟨by omega, by omega⟩, fun _ => lp103 n 0 0 I1 (Nat.zero_add _) rfl hF m1 m2 m3 m4 (fun i hi => m5 i (by omega)) (fun i hi => absurd hi (Nat.not_lt_zero _)), fun q => absurd q (by omega)⟩
    | succ d ih =>
      intro p x I1 hp hx hF hv m1 m2 m3 m4 m5
      subst hx
      have hX1 := hX.fr (hF.cx (by decide) (by decide))
      have tb := tnN_in (R := R) (H := H) hL s p (by omega)
      refine B_X6_measure_60 (by omega) ?_
      rw [cx_p hX1]
      refine ⟨⟨by omega, by omega⟩, fun q => absurd q (by omega), fun _ => ?_⟩
      refine S_X9_pagF (by omega) hX1.1 hv ⟨by omega, by omega⟩ (envN hX1 hr) (fun I3 hF3 => ⟨_, _, _, rfl, rfl, ⟨by omega, by omega⟩, ?_⟩)
      rw [show (((s : Int) * 14) + (p : Int)).toNat = s * 14 + p by omega]
      change WP k LAY m_X6_measure 60 [(0, vR (some 54)), (1, vI (s : Int)), (3, vI ((p : Int) + 1))] [] (mem (P, some 5, some 22) (si I3 59 (s * 14 + p) (tnw L R H s p)) J) Q
      have f : ∀ c i, c ≠ 37 → c ≠ 38 → c ≠ 59 → gi (si I3 59 (s * 14 + p) (tnw L R H s p)) c i = gi I1 c i := fun c i h1 h2 h3 => (gi_cell _ _ _ _ h3).trans (hF3.gv c i (by simp [h1]) (by simp [h2]))
      have f59 : ∀ i, i ≠ s * 14 + p → gi (si I3 59 (s * 14 + p) (tnw L R H s p)) 59 i = gi I1 59 i := fun i h => (gi_idx _ _ _ h).trans (hF3.gv 59 i (by decide) (by simp))
      have f59s : gi (si I3 59 (s * 14 + p) (tnw L R H s p)) 59 (s * 14 + p) = tnw L R H s p := gi_same _ _ _ ⟨by have : 0 ≤ tnw L R H s p := tb.1; omega, by have : tnw L R H s p ≤ 500 := tb.2; omega⟩
      have hF2 : Fr CMe [] I (si I3 59 (s * 14 + p) (tnw L R H s p)) := (hF.tr ((Fr38.co hF3).mono (by simp) (by simp))).up 59 _ _ (Or.inl (by decide))
      have e38 : (si I3 59 (s * 14 + p) (tnw L R H s p)) 38 = I3 38 := funext fun c => by rw [si_at, if_neg (by omega)]
      generalize si I3 59 (s * 14 + p) (tnw L R H s p) = I2 at f f59 f59s hF2 e38 ⊢
      refine ih (p + 1) _ I2 (by omega) rfl hF2 (vals_fr e38 (vals_38 hF3 hv)) (fun s' hs' => ?_) ((f 58 _ (by decide) (by decide) (by decide)).trans m2) ((f 61 _ (by decide) (by decide) (by decide)).trans m3) ((f 62 _ (by decide) (by decide) (by decide)).trans m4) (fun i hi => ?_)
      · obtain ⟨a, b, c, e, g⟩ := m1 s' hs'
        exact ⟨(f 58 _ (by decide) (by decide) (by decide)).trans a, (f 61 _ (by decide) (by decide) (by decide)).trans b, (f 62 _ (by decide) (by decide) (by decide)).trans c, fun i hi => (f59 _ (by omega)).trans (e i hi), fun i hi => (f 60 _ (by decide) (by decide) (by decide)).trans (g i hi)⟩
      · by_cases e : i = p
        · rw [e]; exact f59s
        · exact (f59 _ (by omega)).trans (m5 i (by omega))
  refine WPm.of k_X6_measure.1 (Nat.le_of_ble_eq_true rfl) (B_X6_measure_0 (by omega) ?_)
  rw [cx_1 hX hr, cx_L7 hX hw]
  refine ⟨⟨by omega, by omega⟩, ⟨by omega, by omega⟩, ?_⟩
  refine S_X9_light (by omega) hX ⟨by omega, by omega⟩ (mil_7 hL hw) (fun I3 hF3 => ⟨_, _, _, rfl, rfl, ⟨by omega, by omega⟩, ?_⟩)
  rw [Int.toNat_natCast]
  change WPm (k - 1) LAY m_X9_setNow [vR (some 36), vI (s : Int)] (mem (P, some 5, some 22) (si (si (si I3 58 s (lno L R H s)) 61 s 0) 62 s 0) J) _
  have hF2 : Fr CMe [] I (si (si (si I3 58 s (lno L R H s)) 61 s 0) 62 s 0) := (((hF3.mono (by simp) (by simp)).up 58 _ _ (Or.inl (by decide))).up 61 _ _ (Or.inl (by decide))).up 62 _ _ (Or.inl (by decide))
  have f58 : gi (si (si (si I3 58 s (lno L R H s)) 61 s 0) 62 s 0) 58 s = lno L R H s := by
    rw [gi_cell _ _ _ _ (by decide), gi_cell _ _ _ _ (by decide), gi_same _ _ _ ⟨by omega, by omega⟩]
  have f61 : gi (si (si (si I3 58 s (lno L R H s)) 61 s 0) 62 s 0) 61 s = 0 := by
    rw [gi_cell _ _ _ _ (by decide), gi_same _ _ _ (by decide)]
  have f62 : gi (si (si (si I3 58 s (lno L R H s)) 61 s 0) 62 s 0) 62 s = 0 := gi_same _ _ _ (by decide)
  have fo : ∀ c i, c ≠ 37 → c ≠ 38 → (i ≠ s ∨ c = 59 ∨ c = 60) → gi (si (si (si I3 58 s (lno L R H s)) 61 s 0) 62 s 0) c i = gi I c i := fun c i h1 h2 h3 => by
    have t := hF3.gv c i (by simp [h1, h2]) (by simp)
    rw [gi_si _ _ _ _ _ (by decide), if_neg (by omega), gi_si _ _ _ _ _ (by decide), if_neg (by omega), gi_si _ _ _ _ _ ⟨by omega, by omega⟩, if_neg (by omega), t]
  generalize si (si (si I3 58 s (lno L R H s)) 61 s 0) 62 s 0 = I2 at hF2 f58 f61 f62 fo ⊢
  have hX2 := hX.fr (hF2.cx (by decide) (by decide))
  refine S_X9_now (by omega) hX2 hr (fun I5 hF5 hv => ⟨_, _, rfl, rfl, ?_⟩)
  have g : ∀ c i, c ≠ 37 → c ≠ 38 → gi I5 c i = gi I2 c i := fun c i h1 h2 => hF5.gv c i (by simp [h1, h2]) (by simp)
  refine lp60 (nP L).toNat 0 0 I5 (Nat.zero_add _) rfl (hF2.tr (hF5.mono (by simp) (by simp))) hv (fun s' hs' => ?_) ((g 58 s (by decide) (by decide)).trans f58) ((g 61 s (by decide) (by decide)).trans f61) ((g 62 s (by decide) (by decide)).trans f62) (fun i hi => absurd hi (Nat.not_lt_zero _))
  obtain ⟨a, b, c, e, j⟩ := hM s' hs'
  have h : ∀ c i, c ≠ 37 → c ≠ 38 → (i ≠ s ∨ c = 59 ∨ c = 60) → gi I5 c i = gi I c i := fun c i h1 h2 h3 => (g c i h1 h2).trans (fo c i h1 h2 h3)
  exact ⟨(h 58 _ (by decide) (by decide) (Or.inl (by omega))).trans a, (h 61 _ (by decide) (by decide) (Or.inl (by omega))).trans b, (h 62 _ (by decide) (by decide) (Or.inl (by omega))).trans c, fun p hp => (h 59 _ (by decide) (by decide) (Or.inr (Or.inl rfl))).trans (e p hp), fun i hi => (h 60 _ (by decide) (by decide) (Or.inr (Or.inr rfl))).trans (j i hi)⟩
end SHAREM

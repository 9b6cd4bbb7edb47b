section SHAREF
/-! ===== the class finds the best way to share a question ===== -/
theorem popw_pos {w q : Nat} (h : q < 2 ^ w) (h0 : q ≠ 0) : 0 < popw w q := by
  have := popw_bt w q h h0
  omega
theorem popw_all {L : Lb} (hL : WfL L) {q : Nat} (hq : q < 2 ^ (nP L).toNat) : popw (nP L).toNat q = pop q := (pop_hi hq (by have := hL.2.1; omega)).symm
abbrev mSh (L : Lb) : Nat := (min 3 (nR L)).toNat
theorem mSh_le (L : Lb) : mSh L ≤ 3 := by
  show (min 3 (nR L)).toNat ≤ 3
  omega
theorem mSh_eq {L : Lb} (hL : WfL L) : ((mSh L : Nat) : Int) = min 3 (nR L) := by
  have := hL.2.2.1
  show (((min 3 (nR L)).toNat : Nat) : Int) = min 3 (nR L)
  omega
/-- what was found: the pages asked, the best way -/
def shF (I : Nat → Nat → Int32) (L : Lb) (R : Rl) (H : Hl) (q : Nat) : Prop := gi I 54 7 = (pop q : Int) ∧ (∀ j : Nat, j < pop q → gi I 55 j = ((pgN L q j : Nat) : Int)) ∧ ∃ o, shB L R H (pgN L q) (mSh L) (pop q) (fun w => w < mSh L ^ pop q) o ∧ shO I L R H (pgN L q) (mSh L) (pop q) o
abbrev CFi : List Nat := [37, 38, 55, 56, 57, 58, 59, 60, 61, 62]
abbrev FFi : List (Nat × Nat) := [(54, 3), (54, 4), (54, 5), (54, 6), (54, 7), (54, 8)]
theorem shB_of {L : Lb} {R : Rl} {H : Hl} {pg : Nat → Nat} {m n : Nat} {I : Nat → Nat → Int32} {o : Option Nat} (hm : 0 < m) (ho : shO I L R H pg m n o) (hr : o = none ∨ ∃ b, o = some b ∧ b / m ^ n = 0) (hv : shov L R H pg m n o (fun v => v / m ^ n = 0)) : shB L R H pg m n (fun w => w < m ^ n) o := by
  have hp : 0 < m ^ n := Nat.pow_pos hm
  rcases o with _ | b
  · intro w hw hf
    obtain ⟨b, e, -⟩ := hv w (Nat.div_eq_of_lt hw) hf
    cases e
  · have hb : b / m ^ n = 0 := by
      rcases hr with e | ⟨b', e, h⟩
      · cases e
      · cases e
        exact h
    refine ⟨?_, ho.2.2.1, fun w hw hf => ?_⟩
    · show b < m ^ n
      exact (Nat.div_eq_zero_iff_lt hp).mp hb
    · obtain ⟨b', e, g⟩ := hv w (Nat.div_eq_of_lt hw) hf
      cases e
      exact g
theorem S_X6_find {k : Nat} {P : Option Nat} {I : Nat → Nat → Int32} {J : Nat → Nat → Int64} {Q : Option AV → Mem → Prop} {L : Lb} {R : Rl} {H : Hl} {q : Nat} (hk : 14 ≤ k) (hX : CX I L R H) (hq0 : q ≠ 0) (hq : q < 2 ^ (nP L).toNat) (h8 : pop q ≤ 8) (hst : gi I 54 5 = gi I 4 6 → gi I 54 6 = (q : Int) → shF I L R H q) (hQ : ∀ I', Fr CFi FFi I I' → gi I' 54 5 = gi I 4 6 → gi I' 54 6 = (q : Int) → shF I' L R H q → Q none (mem (rv0 P) I' J)) : WPm k LAY m_X6_find [vR (some 54), vI (q : Int)] (mem (rv0 P) I J) Q := by
  have hL := hX.1.2.2.2.1
  have hP := hL.2.1
  have hR6 := hL.2.2.1
  have hpa := popw_all hL hq
  have hpos := popw_pos hq hq0
  have hq14 : q < 16384 := Nat.lt_of_lt_of_le hq (pow_le14 (by omega))
  have hpg : ∀ i, i < pop q → pgN L q i < 14 := fun i hi => by
    have := (pgL_lt (q := q) (n := (nP L).toNat) (k := i) (by omega)).1
    show (pgL q (nP L).toNat).getD i 0 < 14
    omega
  have g46 := gi_in I 4 6
  have ms3 := mSh_le L
  have mse := mSh_eq hL
  -- behind the measures
  have lp127 : ∀ (d s : Nat) (x : Int) (I1 : Nat → Nat → Int32), s + d = mSh L → x = s → Fr CFi FFi I I1 → gi I1 54 5 = gi I 4 6 → gi I1 54 6 = (q : Int) → gi I1 54 7 = (pop q : Int) → gi I1 54 8 = ((mSh L : Nat) : Int) → (∀ j : Nat, j < pop q → gi I1 55 j = ((pgN L q j : Nat) : Int)) → shM I1 L R H (pgN L q) (pop q) s → WP k LAY m_X6_find 127 [(0, vR (some 54)), (2, vI x)] [] (mem (P, some 5, some 22) I1 J) Q := by
    intro d
    induction d with
    | zero =>
      intro s x I1 hs hx hF f5 f6 f7 f8 f55 hM
      subst hx
      have es : s = mSh L := by omega
      subst es
      have hX1 := hX.fr (hF.cx (by decide) (by decide))
      refine B_X6_find_127 (by omega) ?_
      rw [f8]
      refine ⟨⟨by omega, by omega⟩, fun _ => ?_, fun z => absurd (Int.le_refl _) z⟩
      have hF2 : Fr CFi FFi I (si (si I1 54 3 (-1)) 54 4 0) := (hF.up 54 3 _ (Or.inr (by decide))).up 54 4 _ (Or.inr (by decide))
      have g3 : gi (si (si I1 54 3 (-1)) 54 4 0) 54 3 = -1 := by
        rw [gi_idx _ _ _ (by decide), gi_same _ _ _ (by decide)]
      have ge : ∀ c i, ¬ (c = 54 ∧ (i = 3 ∨ i = 4)) → gi (si (si I1 54 3 (-1)) 54 4 0) c i = gi I1 c i := fun c i h => by
        rw [gi_si _ _ _ _ _ (by decide), if_neg (fun t => h ⟨t.1, Or.inr t.2⟩), gi_si _ _ _ _ _ (by decide), if_neg (fun t => h ⟨t.1, Or.inl t.2⟩)]
      generalize si (si I1 54 3 (-1)) 54 4 0 = I2 at hF2 g3 ge ⊢
      have hX2 := hX.fr (hF2.cx (by decide) (by decide))
      have e54 : ∀ i, 5 ≤ i → gi I2 54 i = gi I1 54 i := fun i hi => ge 54 i (by omega)
      have e55 : ∀ j : Nat, j < pop q → gi I2 55 j = ((pgN L q j : Nat) : Int) := fun j hj => (ge 55 j (by omega)).trans (f55 j hj)
      rcases Nat.eq_zero_or_pos (mSh L) with hm | hm
      · -- nobody
        refine WPm.of k_X6_share.1 (Nat.le_of_ble_eq_true rfl) (B_X6_share_0 (by omega) ⟨fun _ => ?_, fun z => absurd g3 z⟩)
        rw [e54 7 (by decide), f7]
        refine ⟨by decide, fun _ => ?_, fun z => absurd z (by omega)⟩
        refine B_X6_share_28 (by omega) ?_
        rw [e54 8 (by decide), f8]
        refine ⟨by decide, fun _ => ⟨_, _, rfl, rfl, ?_⟩, fun z => absurd z (by omega)⟩
        refine hQ I2 hF2 ((e54 5 (by decide)).trans f5) ((e54 6 (by decide)).trans f6) ⟨(e54 7 (by decide)).trans f7, e55, none, fun w hw => ?_, g3⟩
        have hw : w < mSh L ^ pop q := hw
        rw [hm, Nat.zero_pow (by omega)] at hw
        exact absurd hw (Nat.not_lt_zero _)
      · have hsi : shI I2 L R H (pgN L q) (mSh L) (pop q) := ⟨(e54 7 (by decide)).trans f7, (e54 8 (by decide)).trans f8, fun s hs => (ge 58 s (by omega)).trans (hM s hs).1, fun s hs p hp => (ge 59 _ (by omega)).trans ((hM s hs).2.2.2.1 p hp), fun s hs j hj => (ge 60 _ (by omega)).trans ((hM s hs).2.2.2.2 j hj)⟩
        have hsp : shP I2 L R H (pgN L q) (mSh L) 0 0 := fun s hs => by
          rw [ge 61 s (by omega), ge 62 s (by omega), (hM s hs).2.1, (hM s hs).2.2.1, shw_0]
          unfold shc shq
          rw [clo_0]
          exact ⟨rfl, rfl⟩
        have hsc : shcn L R H (pgN L q) (mSh L) 0 0 := fun s hs => by
          rw [shn_0]
          decide
        have e1 : shmo L R H (pgN L q) (mSh L) 0 0 = 0 := by
          unfold shmo
          rw [mxF_congr (g := fun _ => 0) (fun i _ => shn_0), mxF_0]
        have e2 : shal L R H (pgN L q) (mSh L) 0 0 = 0 := by
          unfold shal
          rw [smi_congr (g := fun _ => 0) (fun i _ => shw_0)]
          have z : ∀ n, smi n (fun _ => (0 : Int)) = 0 := fun n => by
            induction n with
            | zero => rfl
            | succ n ih => show smi n _ + 0 = 0; rw [ih]; rfl
          exact z _
        have h := S_X6_share (P := P) (J := J) (R := R) (H := H) (L := L) (pg := pgN L q) (m := mSh L) (n := pop q) ⟨hm, by omega⟩ h8 hpg (pop q) 0 0 (k - 1) I2 none (retV (fun I3 J4 => Q none (mem (P, some 5, some 22) I3 J4)) (P, some 5, some 22)) (Nat.zero_add _) (by omega) hX2 hsi hsp (fun i hi => absurd hi (Nat.not_lt_zero _)) hsc g3 (fun b hb => by cases hb) (fun I' o' hFs hp' hg' ho' hr' hv' hw' => ⟨_, _, rfl, rfl, ?_⟩)
        · rw [e1, e2] at h
          exact h
        · have hF3 : Fr CFi FFi I I' := hF2.tr (hFs.mono (by decide) (by decide))
          have f : ∀ i, 5 ≤ i → gi I' 54 i = gi I2 54 i := fun i hi => hFs.gv 54 i (by decide) (by simp; omega)
          exact hQ I' hF3 ((f 5 (by decide)).trans ((e54 5 (by decide)).trans f5)) ((f 6 (by decide)).trans ((e54 6 (by decide)).trans f6)) ⟨(f 7 (by decide)).trans ((e54 7 (by decide)).trans f7), fun j hj => (hFs.gv 55 j (by decide) (by simp)).trans (e55 j hj), o', shB_of hm ho' hr' hw', ho'⟩
    | succ d ih =>
      intro s x I1 hs hx hF f5 f6 f7 f8 f55 hM
      subst hx
      have hX1 := hX.fr (hF.cx (by decide) (by decide))
      refine B_X6_find_127 (by omega) ?_
      rw [f8]
      refine ⟨⟨by omega, by omega⟩, fun z => absurd z (by omega), fun _ => ?_⟩
      refine S_X6_measure (by omega) hX1 (by omega) (by omega) h8 f7 f55 hpg hM (fun I3 hF3 hM3 => ⟨_, _, rfl, rfl, ?_⟩)
      have f : ∀ i, gi I3 54 i = gi I1 54 i := fun i => hF3.gv 54 i (by decide) (by simp)
      exact ih (s + 1) _ I3 (by omega) rfl (hF.tr (hF3.mono (by decide) (by simp))) ((f 5).trans f5) ((f 6).trans f6) ((f 7).trans f7) ((f 8).trans f8) (fun j hj => (hF3.gv 55 j (by decide) (by simp)).trans (f55 j hj)) hM3
  -- the pages of the question
  have at127 : ∀ (p : Nat) (I1 : Nat → Nat → Int32), p ≤ (nP L).toNat → popw p q = pop q → Fr CFi FFi I I1 → gi I1 54 5 = gi I 4 6 → gi I1 54 6 = (q : Int) → gi I1 54 7 = (popw p q : Int) → (∀ j : Nat, j < popw p q → gi I1 55 j = ((pgN L q j : Nat) : Int)) → WP k LAY m_X6_find 127 [(0, vR (some 54)), (2, vI 0)] [] (mem (P, some 5, some 22) (si I1 54 8 (min 3 (gi I1 6 2))) J) Q := by
    intro p I1 hp hpp hF f5 f6 f7 f55
    have hX1 := hX.fr (hF.cx (by decide) (by decide))
    rw [cx_n hX1]
    have e : ∀ c i, ¬ (c = 54 ∧ i = 8) → gi (si I1 54 8 (min 3 (nR L))) c i = gi I1 c i := fun c i h => by
      rw [gi_si _ _ _ _ _ ⟨by omega, by omega⟩, if_neg h]
    refine lp127 (mSh L) 0 0 _ (Nat.zero_add _) rfl (hF.up 54 8 _ (Or.inr (by decide))) ((e 54 5 (by omega)).trans f5) ((e 54 6 (by omega)).trans f6) ?_ ?_ (fun j hj => (e 55 j (by omega)).trans (f55 j (by omega))) (fun s hs => absurd hs (Nat.not_lt_zero _))
    · rw [e 54 7 (by omega), f7, hpp]
    · rw [gi_same _ _ _ ⟨by omega, by omega⟩]
      show min 3 (nR L) = (((min 3 (nR L)).toNat : Nat) : Int)
      omega
  have lp46 : ∀ (d p : Nat) (x : Int) (I1 : Nat → Nat → Int32), p + d = (nP L).toNat → x = p → Fr CFi FFi I I1 → gi I1 54 5 = gi I 4 6 → gi I1 54 6 = (q : Int) → gi I1 54 7 = (popw p q : Int) → (∀ j : Nat, j < popw p q → gi I1 55 j = ((pgN L q j : Nat) : Int)) → WP k LAY m_X6_find 46 [(0, vR (some 54)), (1, vI (q : Int)), (2, vI x)] [] (mem (P, some 5, some 22) I1 J) Q := by
    intro d
    induction d with
    | zero =>
      intro p x I1 hp hx hF f5 f6 f7 f55
      have hX1 := hX.fr (hF.cx (by decide) (by decide))
      have ep : p = (nP L).toNat := by omega
      refine B_X6_find_46 (by omega) ?_
      rw [cx_p hX1]
      exact ⟨⟨by omega, by omega⟩, fun _ => at127 p I1 (by omega) (by rw [ep]; exact hpa) hF f5 f6 f7 f55, fun z => absurd z (by omega)⟩
    | succ d ih =>
      intro p x I1 hp hx hF f5 f6 f7 f55
      subst hx
      have hX1 := hX.fr (hF.cx (by decide) (by decide))
      have mo := popw_mono (q := q) (p := p) (n := (nP L).toNat) (by omega)
      have mo1 := popw_mono (q := q) (p := p + 1) (n := (nP L).toNat) (by omega)
      have es : popw (p + 1) q = popw p q + (if q.testBit p = true then 1 else 0) := rfl
      refine B_X6_find_46 (by omega) ?_
      rw [cx_p hX1, f7, andp_iff (by omega) (by omega)]
      refine ⟨⟨by omega, by omega⟩, fun z => absurd z (by omega), fun _ => ⟨fun z => ?_, fun z => ⟨fun z2 => ?_, fun z2 => ⟨⟨by omega, by omega⟩, ?_⟩⟩⟩⟩
      · have := at127 p I1 (by omega) (by omega) hF f5 f6 f7 f55
        exact this
      · rw [z2] at es
        have es : popw (p + 1) q = popw p q := es
        refine ih (p + 1) _ I1 (by omega) rfl hF f5 f6 (by rw [es]; exact f7) (fun j hj => f55 j (by omega))
      · have hb : q.testBit p = true := by
          cases h : q.testBit p
          · exact absurd h z2
          · rfl
        rw [hb] at es
        have es : popw (p + 1) q = popw p q + 1 := es
        rw [Int.toNat_natCast]
        have e : ∀ c i, ¬ (c = 55 ∧ i = popw p q) → ¬ (c = 54 ∧ i = 7) → gi (si (si I1 55 (popw p q) (p : Int)) 54 7 ((popw p q : Int) + 1)) c i = gi I1 c i := fun c i h1 h2 => by
          rw [gi_si _ _ _ _ _ ⟨by omega, by omega⟩, if_neg h2, gi_si _ _ _ _ _ ⟨by omega, by omega⟩, if_neg h1]
        have e7 : gi (si (si I1 55 (popw p q) (p : Int)) 54 7 ((popw p q : Int) + 1)) 54 7 = (popw p q : Int) + 1 := gi_same _ _ _ ⟨by omega, by omega⟩
        have e5 : gi (si (si I1 55 (popw p q) (p : Int)) 54 7 ((popw p q : Int) + 1)) 55 (popw p q) = (p : Int) := by
          rw [gi_cell _ _ _ _ (by decide), gi_same _ _ _ ⟨by omega, by omega⟩]
        refine ih (p + 1) _ _ (by omega) rfl ((hF.up 55 _ _ (Or.inl (by decide))).up 54 7 _ (Or.inr (by decide))) ((e 54 5 (by omega) (by omega)).trans f5) ((e 54 6 (by omega) (by omega)).trans f6) (by rw [e7, es]; rfl) (fun j hj => ?_)
        by_cases ej : j = popw p q
        · subst ej
          rw [e5]
          have := pgL_at (q := q) (p := p) (n := (nP L).toNat) (by omega) hb
          show (p : Int) = (((pgL q (nP L).toNat).getD (popw p q) 0 : Nat) : Int)
          rw [this]
        · exact (e 55 j (by omega) (by omega)).trans (f55 j (by omega))
  have start : WP k LAY m_X6_find 46 [(0, vR (some 54)), (1, vI (q : Int)), (2, vI 0)] [] (mem (P, some 5, some 22) (si (si (si I 54 5 (gi I 4 6)) 54 6 (q : Int)) 54 7 0) J) Q := by
    refine lp46 (nP L).toNat 0 0 _ (Nat.zero_add _) rfl ((((Fr.rf _ _ I).up 54 5 _ (Or.inr (by decide))).up 54 6 _ (Or.inr (by decide))).up 54 7 _ (Or.inr (by decide))) ?_ ?_ ?_ (fun j hj => absurd hj (Nat.not_lt_zero _))
    · rw [gi_idx _ _ _ (by decide), gi_idx _ _ _ (by decide), gi_same _ _ _ g46]
    · rw [gi_idx _ _ _ (by decide), gi_same _ _ _ ⟨by omega, by omega⟩]
    · rw [gi_same _ _ _ (by decide)]
      rfl
  refine WPm.of k_X6_find.1 (Nat.le_of_ble_eq_true rfl) (B_X6_find_0 (by omega) ⟨fun _ => start, fun z => ⟨⟨by omega, by omega⟩, fun _ => start, fun z2 => ?_⟩⟩)
  exact hQ I (Fr.rf _ _ _) z z2 (hst z z2)
theorem S_X6_rdr {k : Nat} {P : Option Nat} {I : Nat → Nat → Int32} {J : Nat → Nat → Int64} {Q : Option AV → Mem → Prop} {L : Lb} {q p : Nat} (hp : p < (nP L).toNat) (hb : q.testBit p = true) (hL : WfL L) (hq : q < 2 ^ (nP L).toNat) (h8 : pop q ≤ 8) (h7 : gi I 54 7 = (pop q : Int)) (h55 : ∀ j : Nat, j < pop q → gi I 55 j = ((pgN L q j : Nat) : Int)) (hQ : Q (some (vI (gi I 57 (popw p q)))) (mem (rv0 P) I J)) : WPm k LAY m_X6_readerOf [vR (some 54), vI (p : Int)] (mem (rv0 P) I J) Q := by
  have hP := hL.2.1
  have hpa := popw_all hL hq
  have hlt : popw p q < pop q := by
    have := popw_mono (q := q) (p := p + 1) (n := (nP L).toNat) (by omega)
    have es : popw (p + 1) q = popw p q + (if q.testBit p = true then 1 else 0) := rfl
    rw [if_pos hb] at es
    omega
  refine WPm.of k_X6_readerOf.1 (Nat.le_of_ble_eq_true rfl) (B_X6_readerOf_0 (by omega) ?_)
  have loop : ∀ (d j : Nat) (x : Int), j + d = popw p q → x = j → WP k LAY m_X6_readerOf 2 [(0, vR (some 54)), (1, vI (p : Int)), (2, vI x)] [] (mem (P, some 5, some 22) I J) Q := by
    intro d
    induction d with
    | zero =>
      intro j x hj hx
      subst hx
      have ej : j = popw p q := by omega
      have e5 : gi I 55 j = (p : Int) := by
        rw [h55 j (by omega), ej]
        show (((pgL q (nP L).toNat).getD (popw p q) 0 : Nat) : Int) = (p : Int)
        rw [pgL_at hp hb]
      refine B_X6_readerOf_2 (by omega) ?_
      rw [h7, Int.toNat_natCast, e5, ej]
      exact ⟨⟨by omega, by omega⟩, fun z => absurd z (by omega), fun _ => ⟨⟨by omega, by omega⟩, ⟨by omega, by omega⟩, fun z => absurd rfl z, fun _ => hQ⟩⟩
    | succ d ih =>
      intro j x hj hx
      subst hx
      have lt := pgL_lt (q := q) (n := p) (k := j) (by omega)
      have ge := pgL_get (q := q) (p := p) (n := (nP L).toNat) (k := j) (by omega) (by omega)
      have e5 : gi I 55 j = (((pgL q p).getD j 0 : Nat) : Int) := by
        rw [h55 j (by omega)]
        show (((pgL q (nP L).toNat).getD j 0 : Nat) : Int) = _
        rw [ge]
      refine B_X6_readerOf_2 (by omega) ?_
      rw [h7, Int.toNat_natCast, e5]
      exact ⟨⟨by omega, by omega⟩, fun z => absurd z (by omega), fun _ => ⟨⟨by omega, by omega⟩, ⟨by omega, by omega⟩, fun _ => ih (j + 1) _ (by omega) rfl, fun z => absurd z (by omega)⟩⟩
  exact loop (popw p q) 0 0 (Nat.zero_add _) rfl
end SHAREF

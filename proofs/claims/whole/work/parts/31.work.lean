section WORK
/-! ===== questions: what pages it takes, how long, how many nights ===== -/
abbrev S38 : List (Nat × Nat) := [(38, 3), (38, 15)]
theorem Fr38 (I : Nat → Nat → Int32) (a b : Int) : Fr [37] S38 I (si (si I 38 3 a) 38 15 b) := ((Fr.rf _ _ I).up 38 3 a (Or.inr (by decide))).up 38 15 b (Or.inr (by decide))
theorem Fr38.co {I I' : Nat → Nat → Int32} (h : Fr [37] S38 I I') : Fr [37, 38] [] I I' := h.mono (by simp) (by simp)
theorem vals_38 {I I' : Nat → Nat → Int32} {L : Lb} {night r d s k : Int} (h : Fr [37] S38 I I') (hv : vals I L night r d s k) : vals I' L night r d s k := by
  obtain ⟨v1, v2, v3, v4, v5, v6, v7⟩ := hv
  exact ⟨(h.gv 38 7 (by decide) (by decide)).trans v1, (h.gv 38 8 (by decide) (by decide)).trans v2, (h.gv 38 16 (by decide) (by decide)).trans v3, (h.gv 38 10 (by decide) (by decide)).trans v4, (h.gv 38 17 (by decide) (by decide)).trans v5, (h.gv 38 11 (by decide) (by decide)).trans v6, (h.gv 38 18 (by decide) (by decide)).trans v7⟩
theorem S_X9_pagF {k : Nat} {P : Option Nat} {I : Nat → Nat → Int32} {J : Nat → Nat → Int64} {Q : Option AV → Mem → Prop} {L : Lb} {R : Rl} {night r d s kn p : Int} (hk : 4 ≤ k) (hC : CL I L R) (hv : vals I L night r d s kn) (hp : 0 ≤ p ∧ p < nP L) (hB : envB L night r d s kn 0 0) (hQ : ∀ I', Fr [37] S38 I I' → Q (some (vI (takS L R night r p d s kn))) (mem (rv0 P) I' J)) : WPm k LAY m_X9_pageMinutes [vR (some 36), vI p] (mem (rv0 P) I J) Q := by
  have hL := hC.2.2.2.1
  have e2 : gi I 9 (p).toNat = L 2 p := by
    rw [← hC.1]
    exact (tr_in (by rw [← hC.1] at hp; exact hp)).symm
  have e3 : gi I 10 (p).toNat = L 3 p := by
    rw [← hC.1]
    exact (tr_in (by rw [← hC.1] at hp; exact hp)).symm
  have hP := hL.2.2.2.2.2.2.2.1 p hp.1 hp.2
  have hn := hL.2.1
  refine WPm.of k_X9_pageMinutes.1 (Nat.le_of_ble_eq_true rfl) (B_X9_pageMinutes_0 (by omega) ?_)
  rw [e2, e3]
  refine ⟨fun q => ⟨⟨by omega, by omega⟩, ?_⟩, fun q => ⟨⟨by omega, by omega⟩, ?_⟩⟩
  · have q0 : 0 < gi I 18 1 := q
    have hF := Fr38 I (L 2 p) (L 3 p)
    obtain ⟨w1, w2, w3⟩ := vals_2 (a := L 2 p) (b := L 3 p) ⟨by omega, by omega⟩ ⟨by omega, by omega⟩ hv
    refine S_X9_run (L := L) (R := R) 1 (by omega) (by decide) (by rw [gi_row (hF.cell 18 (by decide) (by decide))]; exact q0) (hC.fr (hF.lib (by decide) (by decide))) w1 w2 w3 ⟨hB.1, hB.2.1, hB.2.2.1, hB.2.2.2.1, ⟨by omega, by omega⟩, ⟨by omega, by omega⟩, hB.2.2.2.2.2.2⟩ (fun hne hmi _ I' hF' => ⟨_, _, _, rfl, rfl, ?_⟩)
    have hm := hQ I' (hF.tr (hF'.mono (by simp) (by simp)))
    unfold takS at hm
    rw [if_neg hne] at hm
    exact ⟨⟨by omega, by omega⟩, hm⟩
  · have e : R 1 = [] := (RC_none hC 1 (by decide)).mpr q
    have hm := hQ I (Fr.rf _ _ _)
    unfold takS at hm
    rw [if_pos e] at hm
    exact hm
/-! sets that a set needs -/
def ndN (L : Lb) (q : Nat) : Nat := (L 4 (q : Int)).toNat
def cloN (nd : Nat → Nat) (kn ix : Nat) : Nat → Nat → Nat
  | 0, v => v
  | q + 1, v => cloN nd kn ix q (if v.testBit q = true then v ||| dif (dif (nd q) kn) ix else v)
def clo (L : Lb) (kn ix s : Nat) : Nat := cloN (ndN L) kn ix (nP L).toNat (dif s kn)
theorem nd_lt {L : Lb} (hL : WfL L) {q : Nat} (hq : (q : Int) < nP L) : 0 ≤ L 4 q ∧ ndN L q < 2 ^ q := by
  have h := (hL.2.2.2.2.2.2.2.1 q (by omega) hq).2.2.2
  rw [Int.toNat_natCast] at h
  exact h
theorem dif_lt {a b n : Nat} (h : a < n) : dif a b < n := Nat.lt_of_le_of_lt (dif_le a b) h
theorem cloN_lt {L : Lb} (hL : WfL L) (kn ix : Nat) : ∀ (n v : Nat), n ≤ (nP L).toNat → v < 16384 → cloN (ndN L) kn ix n v < 16384
  | 0, v, _, hv => hv
  | n + 1, v, hn, hv => by
    unfold cloN
    refine cloN_lt hL kn ix n _ (by omega) ?_
    have hP := hL.2.1
    have h1 := (nd_lt hL (q := n) (by omega)).2
    have h2 : ndN L n < 2 ^ 14 := Nat.lt_of_lt_of_le h1 (pow_le14 (by omega))
    split
    · exact or_lt14 (n := 14) hv (dif_lt (dif_lt h2))
    · exact hv
theorem clo_lt {L : Lb} (hL : WfL L) (kn ix : Nat) {s : Nat} (hs : s < 16384) : clo L kn ix s < 16384 := cloN_lt hL kn ix _ _ (Nat.le_refl _) (dif_lt hs)
theorem and32_as (a b c : Int) : and32 a (and32 b c) = and32 (and32 a b) c := by
  unfold and32
  rw [iI_of, iI_of, Int32.and_assoc]
/-- the page that is indexed, as a set (none: no set) -/
def ixOf (x : Int) (ix : Nat) : Prop := x = -1 ∧ ix = 0 ∨ ∃ p : Nat, p < 14 ∧ x = p ∧ ix = 2 ^ p
theorem andn_0 {a : Nat} (ha : a < 2147483648) : and32 (a : Int) (xor32 0 (-1)) = ((dif a 0 : Nat) : Int) := andn32_nat (b := 0) ha (by decide)
theorem dif_0 (a : Nat) : dif a 0 = a := by simp [dif]
theorem S_X12_closed {k : Nat} {P : Option Nat} {I : Nat → Nat → Int32} {J : Nat → Nat → Int64} {Q : Option AV → Mem → Prop} {v : Int} {L : Lb} {R : Rl} {H : Hl} {s kk ix : Nat} {x3 : Int} (hk : 1 ≤ k) (hX : RX I v L R H) (hs : s < 16384) (hkk : kk < 16384) (hix : ixOf x3 ix) (hQ : Q (some (vI ((clo L kk ix s : Nat) : Int))) (mem (rv0 P) I J)) : WPm k LAY m_X12_closed [vR (some 74), vI (s : Int), vI (kk : Int), vI x3] (mem (rv0 P) I J) Q := by
  have hb := rx_b hX
  have hL := hX.1.2.2.2.2.1
  have hP := hL.2.1
  refine WPm.of k_X12_closed.1 (Nat.le_of_ble_eq_true rfl) (B_X12_closed_0 (by omega) ⟨hb, ?_⟩)
  rw [rx_p hX, andn32_nat (by omega) (by omega)]
  have loop : ∀ (n w : Nat) (x y : Int), n ≤ (nP L).toNat → w < 16384 → x = (n : Int) - 1 → y = w → cloN (ndN L) kk ix n w = clo L kk ix s → WP k LAY m_X12_closed 20 [(0, vR (some 74)), (2, vI (kk : Int)), (3, vI x3), (4, vI y), (5, vI x)] [] (mem (rv0 P) I J) Q := by
    intro n
    induction n with
    | zero =>
      intro w x y hn hw hx hy he
      refine B_X12_closed_20 (by omega) ⟨⟨by omega, by omega⟩, fun _ => ?_, fun q => absurd (show x < 0 by omega) q⟩
      exact Qat hQ (by rw [← he, hy]; rfl)
    | succ n ih =>
      intro w x y hn hw hx hy he
      have hxn : x = (n : Int) := by omega
      subst hxn
      subst hy
      have h1 := nd_lt hL (q := n) (by omega)
      have h2 : ndN L n < 16384 := Nat.lt_of_lt_of_le h1.2 (pow_le14 (by omega))
      have e4 : gi I 81 ((14 * (gi I 74 13)) + (n : Int)).toNat = ((ndN L n : Nat) : Int) := by
        rw [rx_L4 hX ⟨by omega, by omega⟩]
        unfold ndN
        omega
      refine B_X12_closed_20 (by omega) ?_
      rw [e4]
      unfold cloN at he
      refine ⟨⟨by omega, by omega⟩, fun q => absurd q (by omega), fun _ => ⟨fun q => ?_, fun q => ⟨⟨by omega, by omega⟩, ?_⟩⟩⟩
      · rw [has_iff (by omega) (by omega)] at q
        rw [if_neg q] at he
        exact ih w _ _ (by omega) hw (by omega) rfl he
      · rw [has_iff (by omega) (by omega)] at q
        rw [if_pos q] at he
        have h3 := dif_lt (b := kk) h2
        have h4 := dif_lt (b := ix) h3
        have h5 : w ||| dif (dif (ndN L n) kk) ix < 16384 := or_lt14 (n := 14) hw h4
        rw [andn32_nat (by omega) (by omega), andn_0 (by omega)]
        rcases hix with ⟨rfl, rfl⟩ | ⟨p, hp, rfl, rfl⟩
        · rw [or32_nat (by omega) (by omega)]
          exact ⟨by decide, fun q => absurd rfl q, fun _ y5 h => ih _ _ _ (by omega) h5 (by omega) h he⟩
        · rw [shl1 (by omega), andn32_nat (by omega) (pow_lt31 (by omega)), or32_nat (by omega) (by omega)]
          exact ⟨⟨by omega, by omega⟩, fun _ y5 h => ih _ _ _ (by omega) h5 (by omega) h he, fun q => absurd q (by omega)⟩
  exact loop (nP L).toNat (dif s kk) _ _ (Nat.le_refl _) (dif_lt hs) (by omega) rfl rfl
theorem S_X8_pages {k : Nat} {P : Option Nat} {I : Nat → Nat → Int32} {J : Nat → Nat → Int64} {Q : Option AV → Mem → Prop} {L : Lb} {R : Rl} {H : Hl} {r : Int} {s ix : Nat} {x3 : Int} (hk : 2 ≤ k) (hX : CX I L R H) (hr : 0 ≤ r ∧ r < nR L) (hs : s < 16384) (hix : ixOf x3 ix) (hQ : Q (some (vI ((clo L (kn H r) ix s : Nat) : Int))) (mem (rv0 P) I J)) : WPm k LAY m_X8_pagesOf [vR (some 51), vI r, vI (s : Int), vI x3] (mem (rv0 P) I J) Q := by
  have hL := hX.1.2.2.2.1
  have hP := hL.2.1
  have hR6 := hL.2.2.1
  have hkl := (kn_lt hL hX.2.2 hr).2
  refine WPm.of k_X8_pagesOf.1 (Nat.le_of_ble_eq_true rfl) (B_X8_pagesOf_0 (by omega) ?_)
  rw [cx_kn hX hr, cx_p hX]
  have loop : ∀ (n w : Nat) (x y x6 : Int), (∀ a : Nat, a < 16384 → and32 (a : Int) x6 = ((dif (dif a (kn H r)) ix : Nat) : Int)) → n ≤ (nP L).toNat → w < 16384 → x = (n : Int) - 1 → y = w → cloN (ndN L) (kn H r) ix n w = clo L (kn H r) ix s → WP k LAY m_X8_pagesOf 54 [(0, vR (some 51)), (5, vI y), (6, vI x6), (7, vI x)] [] (mem (rv0 P) I J) Q := by
    intro n
    induction n with
    | zero =>
      intro w x y x6 h6 hn hw hx hy he
      refine B_X8_pagesOf_54 (by omega) ⟨⟨by omega, by omega⟩, fun _ => ?_, fun q => absurd (show x < 0 by omega) q⟩
      exact Qat hQ (by rw [← he, hy]; rfl)
    | succ n ih =>
      intro w x y x6 h6 hn hw hx hy he
      have hxn : x = (n : Int) := by omega
      subst hxn
      subst hy
      have h1 := nd_lt hL (q := n) (by omega)
      have h2 : ndN L n < 16384 := Nat.lt_of_lt_of_le h1.2 (pow_le14 (by omega))
      have e4 : gi I 11 ((n : Int)).toNat = ((ndN L n : Nat) : Int) := by
        rw [cx_L4 hX ⟨by omega, by omega⟩]
        unfold ndN
        omega
      refine B_X8_pagesOf_54 (by omega) ?_
      rw [e4, andp_iff (by omega) (by omega), h6 _ h2]
      unfold cloN at he
      have h4 := dif_lt (b := ix) (dif_lt (b := kn H r) h2)
      have h5 : w ||| dif (dif (ndN L n) (kn H r)) ix < 16384 := or_lt14 (n := 14) hw h4
      rw [or32_nat (by omega) (by omega)]
      refine ⟨⟨by omega, by omega⟩, fun q => absurd q (by omega), fun _ => ⟨fun q => ?_, fun q => ⟨⟨by omega, by omega⟩, ?_⟩⟩⟩
      · rw [if_neg (by rw [q]; decide)] at he
        exact ih w _ _ x6 h6 (by omega) hw (by omega) rfl he
      · rw [if_pos (by cases h : w.testBit n; exact absurd h q; rfl)] at he
        exact ih _ _ _ x6 h6 (by omega) h5 (by omega) rfl he
  refine ⟨⟨by omega, by omega⟩, ⟨by omega, by omega⟩, fun y3 hy3 => ?_⟩
  subst hy3
  rw [andn32_nat (by omega) (by omega)]
  rcases hix with ⟨rfl, rfl⟩ | ⟨p, hp, rfl, rfl⟩
  · refine ⟨by decide, fun q => absurd rfl q, fun _ => loop (nP L).toNat (dif s (kn H r)) _ _ _ (fun a ha => ?_) (Nat.le_refl _) (dif_lt hs) (by omega) rfl rfl⟩
    rw [andn32_nat (by omega) (by omega), dif_0]
  · refine ⟨⟨by omega, by omega⟩, fun _ => loop (nP L).toNat (dif s (kn H r)) _ _ _ (fun a ha => ?_) (Nat.le_refl _) (dif_lt hs) (by omega) rfl rfl, fun q => absurd q (by omega)⟩
    have h3 := dif_lt (b := kn H r) ha
    rw [and32_as, andn32_nat (by omega) (by omega), shl1 (by omega), andn32_nat (by omega) (pow_lt31 (by omega))]
/-! how long a set takes -/
def tnw (L : Lb) (R : Rl) (H : Hl) (r p : Int) : Int := takS L R (H 8 0) r p (L 7 (H 1 r)) (sit L H (H 1 r)) (pop (kn H r))
def wrk (L : Lb) (R : Rl) (H : Hl) (r : Int) (s : Nat) : Int := smi (nP L).toNat (fun p => if s.testBit p = true then tnw L R H r p else 0)
def wko (L : Lb) (R : Rl) (H : Hl) (r : Int) (q ix : Nat) : Int := wrk L R H r (clo L (kn H r) ix q)
def lno (L : Lb) (R : Rl) (H : Hl) (r : Int) : Int := lig L R H (H 1 r) (L 7 (H 1 r))
def ngt (w l : Int) : Int := if w = 0 then 0 else if l = 0 then -1 else (w + l - 1) / l
theorem wrk_bd {L : Lb} (R : Rl) (H : Hl) (hL : WfL L) (r : Int) (s : Nat) : 0 ≤ wrk L R H r s ∧ wrk L R H r s ≤ 7000 := by
  have hP := hL.2.1
  have h := smi_bd (n := (nP L).toNat) (f := fun p => if s.testBit p = true then tnw L R H r p else 0) (b := 500) (by decide) (fun i hi => by
    have := takS_in (R := R) hL (night := H 8 0) (r := r) (p := (i : Int)) (d := L 7 (H 1 r)) (s := sit L H (H 1 r)) (k := pop (kn H r)) ⟨by omega, by omega⟩
    show 0 ≤ (if s.testBit i = true then tnw L R H r i else 0) ∧ (if s.testBit i = true then tnw L R H r i else 0) ≤ 500
    unfold tnw
    split <;> omega)
  unfold wrk
  omega
theorem div32_pos {a b : Int} (ha : 0 ≤ a ∧ a < 2147483648) (hb : 0 < b ∧ b < 2147483648) : div32 a b = a / b := by
  unfold div32
  rw [Int32.toInt_div_of_ne_left _ _ (by
    intro e
    have e2 := congrArg Int32.toInt e
    rw [iI_to ⟨by omega, by omega⟩] at e2
    have e3 : (Int32.minValue).toInt = -2147483648 := by decide
    omega), iI_to ⟨by omega, by omega⟩, iI_to ⟨by omega, by omega⟩, Int.tdiv_eq_ediv_of_nonneg ha.1]
theorem ngt_bd {w l : Int} (hw : 0 ≤ w ∧ w ≤ 7000) (hl : 0 ≤ l ∧ l ≤ 3000) : -1 ≤ ngt w l ∧ ngt w l ≤ 7000 := by
  unfold ngt
  split
  · omega
  · split
    · omega
    · have h1 : (w + l - 1) / l ≤ 7000 := by
        apply Int.le_of_lt_add_one
        rw [Int.ediv_lt_iff_lt_mul (by omega)]
        have : (7000 + 1) * l = 7000 * l + l := by omega
        omega
      have h2 : 0 ≤ (w + l - 1) / l := Int.ediv_nonneg (by omega) (by omega)
      omega
theorem wrk_loop {L : Lb} {R : Rl} {H : Hl} {r : Int} {s n : Nat} : smi (n + 1) (fun p => if s.testBit p = true then tnw L R H r p else 0) = smi n (fun p => if s.testBit p = true then tnw L R H r p else 0) + (if s.testBit n = true then tnw L R H r n else 0) := rfl
theorem S_X8_work {k : Nat} {P : Option Nat} {I : Nat → Nat → Int32} {J : Nat → Nat → Int64} {Q : Option AV → Mem → Prop} {L : Lb} {R : Rl} {H : Hl} {r : Int} {s ix : Nat} {x3 : Int} (hk : 6 ≤ k) (hX : CX I L R H) (hr : 0 ≤ r ∧ r < nR L) (hs : s < 16384) (hix : ixOf x3 ix) (hQ : ∀ I', Fr [37, 38] [] I I' → Q (some (vI (wko L R H r s ix))) (mem (rv0 P) I' J)) : WPm k LAY m_X8_workOf [vR (some 51), vI r, vI (s : Int), vI x3] (mem (rv0 P) I J) Q := by
  have hL := hX.1.2.2.2.1
  have hP := hL.2.1
  have hc := clo_lt hL (kn H r) ix hs
  refine WPm.of k_X8_workOf.1 (Nat.le_of_ble_eq_true rfl) (B_X8_workOf_0 (by omega) ?_)
  refine S_X8_pages (by omega) hX hr hs hix ⟨_, _, _, rfl, rfl, ?_⟩
  refine S_X9_now (by omega) hX hr (fun I2 hF2 hv => ⟨_, _, rfl, rfl, ?_⟩)
  have loop : ∀ (d n : Nat) (x y : Int) (I' : Nat → Nat → Int32), n + d = (nP L).toNat → x = n → y = smi n (fun p => if (clo L (kn H r) ix s).testBit p = true then tnw L R H r p else 0) → Fr [37, 38] [] I I' → vals I' L (H 8 0) r (L 7 (H 1 r)) (sit L H (H 1 r)) (pop (kn H r)) → WP k LAY m_X8_workOf 23 [(0, vR (some 51)), (4, vI ((clo L (kn H r) ix s : Nat) : Int)), (5, vI y), (6, vI x)] [] (mem (rv0 P) I' J) Q := by
    intro d
    induction d with
    | zero =>
      intro n x y I' hn hx hy hF hv
      have hX' := hX.fr (hF.cx (by decide) (by decide))
      refine B_X8_workOf_23 (by omega) ?_
      rw [cx_p hX']
      refine ⟨⟨by omega, by omega⟩, fun _ => ?_, fun q => absurd q (by omega)⟩
      exact Qat (hQ I' hF) (by rw [hy]; unfold wko wrk; rw [show (nP L).toNat = n by omega])
    | succ d ih =>
      intro n x y I' hn hx hy hF hv
      have hX' := hX.fr (hF.cx (by decide) (by decide))
      refine B_X8_workOf_23 (by omega) ?_
      subst hx
      rw [cx_p hX', andp_iff (by omega) (by omega)]
      refine ⟨⟨by omega, by omega⟩, fun q => absurd q (by omega), fun _ => ⟨fun q => ?_, fun q => ?_⟩⟩
      · refine ih (n + 1) _ _ I' (by omega) (by omega) ?_ hF hv
        rw [wrk_loop, if_neg (by rw [q]; decide)]
        omega
      · refine S_X9_pagF (by omega) hX'.1 hv ⟨by omega, by omega⟩ (envN hX' hr) (fun I3 hF3 => ⟨_, _, _, rfl, rfl, ?_⟩)
        refine ih (n + 1) _ _ I3 (by omega) (by omega) ?_ (hF.tr (Fr38.co hF3)) (vals_38 hF3 hv)
        rw [wrk_loop, if_pos (by cases h : (clo L (kn H r) ix s).testBit n; exact absurd h q; rfl), hy]
        rfl
  exact loop _ 0 _ _ I2 (Nat.zero_add _) rfl rfl hF2 hv
theorem S_X8_lno {k : Nat} {P : Option Nat} {I : Nat → Nat → Int32} {J : Nat → Nat → Int64} {Q : Option AV → Mem → Prop} {L : Lb} {R : Rl} {H : Hl} {r : Int} (hk : 7 ≤ k) (hX : CX I L R H) (hr : 0 ≤ r ∧ r < nR L) (hQ : ∀ I', Fr [37, 38] [] I I' → Q (some (vI (lno L R H r))) (mem (rv0 P) I' J)) : WPm k LAY m_X8_lightOf [vR (some 51), vI r] (mem (rv0 P) I J) Q := by
  have hL := hX.1.2.2.2.1
  have hT := hL.2.2.2.1
  have hR6 := hL.2.2.1
  have hw := (hX.2.2.2.2 r hr.1 hr.2).1
  refine WPm.of k_X8_lightOf.1 (Nat.le_of_ble_eq_true rfl) (B_X8_lightOf_0 (by omega) ?_)
  rw [cx_1 hX hr, cx_L7 hX hw]
  exact ⟨⟨by omega, by omega⟩, ⟨by omega, by omega⟩, S_X9_light (by omega) hX ⟨by omega, by omega⟩ (mil_7 hL hw) (fun I3 hF3 => ⟨_, _, _, rfl, rfl, hQ I3 hF3⟩)⟩
theorem S_X8_nights {k : Nat} {P : Option Nat} {I : Nat → Nat → Int32} {J : Nat → Nat → Int64} {Q : Option AV → Mem → Prop} {L : Lb} {R : Rl} {H : Hl} {r : Int} {s : Nat} (hk : 8 ≤ k) (hX : CX I L R H) (hr : 0 ≤ r ∧ r < nR L) (hs : s < 16384) (hQ : ∀ I', Fr [37, 38] [] I I' → Q (some (vI (ngt (wko L R H r s 0) (lno L R H r)))) (mem (rv0 P) I' J)) : WPm k LAY m_X8_nightsOf [vR (some 51), vI r, vI (s : Int)] (mem (rv0 P) I J) Q := by
  have hL := hX.1.2.2.2.1
  have b1 := wrk_bd R H hL r (clo L (kn H r) 0 s)
  have b2 := lig_bd (R := R) H hL (H 1 r) (L 7 (H 1 r))
  change 0 ≤ wko L R H r s 0 ∧ wko L R H r s 0 ≤ 7000 at b1
  change 0 ≤ lno L R H r ∧ lno L R H r ≤ 3000 at b2
  refine WPm.of k_X8_nightsOf.1 (Nat.le_of_ble_eq_true rfl) (B_X8_nightsOf_0 (by omega) ?_)
  refine S_X8_work (ix := 0) (by omega) hX hr hs (Or.inl ⟨rfl, rfl⟩) (fun I2 hF2 => ⟨_, _, _, rfl, rfl, ?_⟩)
  refine S_X8_lno (by omega) (hX.fr (hF2.cx (by decide) (by decide))) hr (fun I3 hF3 => ⟨_, _, _, rfl, rfl, ?_⟩)
  have hq := hQ I3 (hF2.tr hF3)
  unfold ngt at hq
  refine ⟨⟨by omega, by omega⟩, fun q => ⟨⟨by omega, by omega⟩, fun q2 => ?_, fun q2 => ⟨by omega, ?_⟩⟩, fun q => ?_⟩
  · rw [if_neg q, if_pos (by omega)] at hq
    exact hq
  · rw [if_neg q, if_neg (by omega)] at hq
    rw [div32_pos ⟨by omega, by omega⟩ ⟨by omega, by omega⟩]
    exact hq
  · rw [if_pos q] at hq
    exact hq
/-! the reference's -/
theorem takR_now {L : Lb} {R : Rl} {H : Hl} {I : Nat → Nat → Int32} (h73 : gi I 74 73 = -1) {r p : Int} (h1 : 0 ≤ H 1 r) : takR L R H (gi I 74 73) r p (pop (kn H r)) = tnw L R H r p := by
  unfold takR tnw
  rw [dr_no h73 h1]
theorem S_X12_mins {k : Nat} {P : Option Nat} {I : Nat → Nat → Int32} {J : Nat → Nat → Int64} {Q : Option AV → Mem → Prop} {L : Lb} {R : Rl} {H : Hl} {r : Int} {s : Nat} (hk : 6 ≤ k) (hX : RX I 0 L R H) (hr : 0 ≤ r ∧ r < nR L) (hs : s < 16384) (h72 : gi I 74 72 = -1) (h73 : gi I 74 73 = -1) (hQ : ∀ I' J', Fr [] SA I I' → Fr [121] [] J J' → Q (some (vI (wrk L R H r s))) (mem (rv0 P) I' J')) : WPm k LAY m_X12_minutesOf [vR (some 74), vI r, vI (s : Int)] (mem (rv0 P) I J) Q := by
  have hL := hX.1.2.2.2.2.1
  have hP := hL.2.1
  have hw := (hX.2.2.1.2.2 r hr.1 hr.2).1
  refine WPm.of k_X12_minutesOf.1 (Nat.le_of_ble_eq_true rfl) (B_X12_minutesOf_0 (by omega) ?_)
  have loop : ∀ (d n : Nat) (x y : Int) (I' : Nat → Nat → Int32) (J' : Nat → Nat → Int64), n + d = (nP L).toNat → x = n → y = smi n (fun p => if s.testBit p = true then tnw L R H r p else 0) → Fr [] SA I I' → Fr [121] [] J J' → WP k LAY m_X12_minutesOf 5 [(0, vR (some 74)), (1, vI r), (2, vI (s : Int)), (3, vI y), (4, vI x)] [] (mem (rv0 P) I' J') Q := by
    intro d
    induction d with
    | zero =>
      intro n x y I' J' hn hx hy hF hJ
      have hX' := hX.fr (hF.rx (by decide) (by decide))
      refine B_X12_minutesOf_5 (by omega) ?_
      rw [rx_p hX']
      refine ⟨rx_b hX', ⟨by omega, by omega⟩, fun _ => ?_, fun q => absurd q (by omega)⟩
      exact Qat (hQ I' J' hF hJ) (by rw [hy]; unfold wrk; rw [show (nP L).toNat = n by omega])
    | succ d ih =>
      intro n x y I' J' hn hx hy hF hJ
      have hX' := hX.fr (hF.rx (by decide) (by decide))
      refine B_X12_minutesOf_5 (by omega) ?_
      subst hx
      rw [rx_p hX', has_iff (by omega) (by omega)]
      refine ⟨rx_b hX', ⟨by omega, by omega⟩, fun q => absurd q (by omega), fun _ => ⟨fun q => ?_, fun q => ?_⟩⟩
      · refine ih (n + 1) _ _ I' J' (by omega) (by omega) ?_ hF hJ
        rw [wrk_loop, if_neg q]
        omega
      · have c72 := hF.gv 74 72 (by decide) (by decide)
        have c73 := hF.gv 74 73 (by decide) (by decide)
        refine S_X12_long (by omega) hX' hr ⟨by omega, by omega⟩ (kk_of (L := L) H r (by omega)) (fun I3 J3 hF3 hJ3 => ⟨_, _, _, rfl, rfl, ?_⟩)
        refine ih (n + 1) _ _ I3 J3 (by omega) (by omega) ?_ (hF.tr hF3) (hJ.tr hJ3)
        rw [wrk_loop, if_pos q, hy, takR_now (by omega) hw.1]
  exact loop _ 0 _ _ I J (Nat.zero_add _) rfl rfl (Fr.rf _ _ _) (Fr.rf _ _ _)
theorem S_X12_work {k : Nat} {P : Option Nat} {I : Nat → Nat → Int32} {J : Nat → Nat → Int64} {Q : Option AV → Mem → Prop} {L : Lb} {R : Rl} {H : Hl} {r : Int} {s ix : Nat} {x3 : Int} (hk : 7 ≤ k) (hX : RX I 0 L R H) (hr : 0 ≤ r ∧ r < nR L) (hs : s < 16384) (hix : ixOf x3 ix) (h72 : gi I 74 72 = -1) (h73 : gi I 74 73 = -1) (hQ : ∀ I' J', Fr [] SA I I' → Fr [121] [] J J' → Q (some (vI (wko L R H r s ix))) (mem (rv0 P) I' J')) : WPm k LAY m_X12_workOf [vR (some 74), vI r, vI (s : Int), vI x3] (mem (rv0 P) I J) Q := by
  have hL := hX.1.2.2.2.2.1
  have hR6 := hL.2.2.1
  have hkl := (kn_lt hL hX.2.2.1 hr).2
  refine WPm.of k_X12_workOf.1 (Nat.le_of_ble_eq_true rfl) (B_X12_workOf_0 (by omega) ?_)
  rw [rx_kn hX hr]
  exact ⟨⟨by omega, by omega⟩, S_X12_closed (by omega) hX hs hkl hix ⟨_, _, _, rfl, rfl, S_X12_mins (by omega) hX hr (clo_lt hL _ _ hs) h72 h73 (fun I2 J2 hF2 hJ2 => ⟨_, _, _, rfl, rfl, hQ I2 J2 hF2 hJ2⟩)⟩⟩
theorem rx_1' {I : Nat → Nat → Int32} {L : Lb} {R : Rl} {H : Hl} (hX : RX I 0 L R H) {r : Int} (hr : 0 ≤ r ∧ r < nR L) : gi I 110 (r).toNat = H 1 r := by
  have := rx_1 hX hr
  rwa [show (6 * 0 + r) = r by omega] at this
theorem S_X12_nights {k : Nat} {P : Option Nat} {I : Nat → Nat → Int32} {J : Nat → Nat → Int64} {Q : Option AV → Mem → Prop} {L : Lb} {R : Rl} {H : Hl} {r w : Int} (hk : 7 ≤ k) (hX : RX I 0 L R H) (hr : 0 ≤ r ∧ r < nR L) (hw : 0 ≤ w ∧ w ≤ 7000) (h72 : gi I 74 72 = -1) (h73 : gi I 74 73 = -1) (hQ : ∀ I' J', Fr [] SA I I' → Fr [121] [] J J' → Q (some (vI (ngt w (lno L R H r)))) (mem (rv0 P) I' J')) : WPm k LAY m_X12_nightsFor [vR (some 74), vI r, vI w] (mem (rv0 P) I J) Q := by
  have hL := hX.1.2.2.2.2.1
  have hR6 := hL.2.2.1
  have hT := hL.2.2.2.1
  have hs := (hX.2.2.1.2.2 r hr.1 hr.2).1
  have b2 := lig_bd (R := R) H hL (H 1 r) (L 7 (H 1 r))
  change 0 ≤ lno L R H r ∧ lno L R H r ≤ 3000 at b2
  refine WPm.of k_X12_nightsFor.1 (Nat.le_of_ble_eq_true rfl) (B_X12_nightsFor_0 (by omega) ?_)
  rw [rx_1' hX hr]
  refine ⟨⟨by omega, by omega⟩, fun q => ⟨⟨by omega, by omega⟩, ?_⟩, fun q => ?_⟩
  · refine S_X12_light (by omega) hX ⟨by omega, by omega⟩ h72 (fun I2 J2 hF2 hJ2 => ⟨_, _, _, rfl, rfl, ?_⟩)
    have hq := hQ I2 J2 hF2 hJ2
    unfold ngt at hq
    rw [if_neg q] at hq
    rw [dr_no h73 hs.1]
    change inR (lno L R H r) ∧ (¬ lno L R H r = 0 → ¬ lno L R H r = 0 ∧ Q (some (vI (div32 ((w + lno L R H r) - 1) (lno L R H r)))) (mem (rv0 P) I2 J2)) ∧ (lno L R H r = 0 → Q (some (vI (-1))) (mem (rv0 P) I2 J2))
    refine ⟨⟨by omega, by omega⟩, fun q2 => ⟨q2, ?_⟩, fun q2 => ?_⟩
    · rw [if_neg q2] at hq
      rw [div32_pos ⟨by omega, by omega⟩ ⟨by omega, by omega⟩]
      exact hq
    · rw [if_pos q2] at hq
      exact hq
  · have hq := hQ I J (Fr.rf _ _ _) (Fr.rf _ _ _)
    unfold ngt at hq
    rw [if_pos q] at hq
    exact hq
end WORK

section RSUM
/-! ===== the reference: the library of its bank, the readers of a layer ===== -/
def RL (I : Nat → Nat → Int32) (L : Lb) (R : Rl) : Prop := LR I = L ∧ RR I = R ∧ rgR I ∧ (0 ≤ gi I 74 13 ∧ gi I 74 13 < 2) ∧ WfL L ∧ WfR R
def RX (I : Nat → Nat → Int32) (v : Int) (L : Lb) (R : Rl) (H : Hl) : Prop := RL I L R ∧ HR I v = H ∧ WfH L H ∧ (0 ≤ v ∧ v < 22)
def sameRL (I I' : Nat → Nat → Int32) : Prop := (∀ c, 76 ≤ c → c ≤ 96 → I' c = I c) ∧ gi I' 74 13 = gi I 74 13
def sameR (I I' : Nat → Nat → Int32) : Prop := sameRL I I' ∧ ∀ c, 108 ≤ c → c ≤ 116 → I' c = I c
theorem RL.fr {I I' : Nat → Nat → Int32} {L : Lb} {R : Rl} (hX : RL I L R) (hs : sameRL I I') : RL I' L R := by
  obtain ⟨h1, h2, h3, h4, h5⟩ := hX
  obtain ⟨h, hb⟩ := hs
  refine ⟨?_, ?_, ?_, by rw [hb]; exact h4, h5⟩
  · rw [← h1]
    unfold LR
    rw [hb, gi_row (h 76 (by decide) (by decide)), gi_row (h 77 (by decide) (by decide)), gi_row (h 78 (by decide) (by decide)), gi_row (h 79 (by decide) (by decide)), gi_row (h 80 (by decide) (by decide)), gi_row (h 81 (by decide) (by decide)), gi_row (h 82 (by decide) (by decide)), gi_row (h 83 (by decide) (by decide)), gi_row (h 84 (by decide) (by decide)), gi_row (h 85 (by decide) (by decide)), gi_row (h 86 (by decide) (by decide)), gi_row (h 87 (by decide) (by decide)), gi_row (h 88 (by decide) (by decide))]
  · rw [← h2]
    unfold RR
    have e : encR I' = encR I := by
      unfold encR
      rw [gi_row (h 95 (by decide) (by decide)), gi_row (h 96 (by decide) (by decide))]
    funext ρ
    by_cases hρ : ρ < 3
    · rw [hb, e, gi_row (h (89 + 2 * ρ) (by omega) (by omega)), gi_row (h (90 + 2 * ρ) (by omega) (by omega))]
    · rw [if_neg (fun q => hρ q.1), if_neg (fun q => hρ q.1)]
  · intro ρ hρ
    have := h3 ρ hρ
    rw [hb, gi_row (h (89 + 2 * ρ) (by omega) (by omega)), gi_row (h (90 + 2 * ρ) (by omega) (by omega))]
    exact this
theorem HR_fr {I I' : Nat → Nat → Int32} (h : sameR I I') (v : Int) : HR I' v = HR I v := by
  obtain ⟨⟨h, hb⟩, h'⟩ := h
  unfold HR
  rw [hb, gi_row (h 83 (by decide) (by decide)), gi_row (h' 108 (by decide) (by decide)), gi_row (h' 109 (by decide) (by decide)), gi_row (h' 110 (by decide) (by decide)), gi_row (h' 111 (by decide) (by decide)), gi_row (h' 112 (by decide) (by decide)), gi_row (h' 113 (by decide) (by decide)), gi_row (h' 114 (by decide) (by decide)), gi_row (h' 115 (by decide) (by decide)), gi_row (h' 116 (by decide) (by decide))]
theorem RX.fr {I I' : Nat → Nat → Int32} {v : Int} {L : Lb} {R : Rl} {H : Hl} (hX : RX I v L R H) (h : sameR I I') : RX I' v L R H := ⟨hX.1.fr h.1, (HR_fr h v).trans hX.2.1, hX.2.2⟩
theorem Fr.rx {cs : List Nat} {fs : List (Nat × Nat)} {I I' : Nat → Nat → Int32} (h : Fr cs fs I I') (h1 : ∀ c ∈ cs, ¬ (76 ≤ c ∧ c ≤ 96) ∧ ¬ (108 ≤ c ∧ c ≤ 116) ∧ c ≠ 74) (h2 : ∀ q ∈ fs, ¬ (76 ≤ q.1 ∧ q.1 ≤ 96) ∧ ¬ (108 ≤ q.1 ∧ q.1 ≤ 116) ∧ q ≠ (74, 13)) : sameR I I' :=
  ⟨⟨fun c a b => h.cell c (fun q => (h1 c q).1 ⟨a, b⟩) (fun q hq e => (h2 q hq).1 (by omega)), h.gv 74 13 (fun q => (h1 _ q).2.2 rfl) (fun q => (h2 _ q).2.2 rfl)⟩, fun c a b => h.cell c (fun q => (h1 c q).2.1 ⟨a, b⟩) (fun q hq e => (h2 q hq).2.1 (by omega))⟩
theorem rx_b {I : Nat → Nat → Int32} {v : Int} {L : Lb} {R : Rl} {H : Hl} (hX : RX I v L R H) : 0 ≤ gi I 74 13 ∧ gi I 74 13 < 2 := hX.1.2.2.2.1
theorem rx_n {I : Nat → Nat → Int32} {v : Int} {L : Lb} {R : Rl} {H : Hl} (hX : RX I v L R H) : gi I 83 (gi I 74 13).toNat = nR L := by rw [← hX.1.1]; rfl
theorem rx_p {I : Nat → Nat → Int32} {v : Int} {L : Lb} {R : Rl} {H : Hl} (hX : RX I v L R H) : gi I 77 (gi I 74 13).toNat = nP L := by rw [← hX.1.1]; rfl
theorem rx_t {I : Nat → Nat → Int32} {v : Int} {L : Lb} {R : Rl} {H : Hl} (hX : RX I v L R H) : gi I 86 (gi I 74 13).toNat = nT L := by rw [← hX.1.1]; rfl
theorem rx_inch {I : Nat → Nat → Int32} {v : Int} {L : Lb} {R : Rl} {H : Hl} (hX : RX I v L R H) : gi I 88 (gi I 74 13).toNat = L 25 0 := by rw [← hX.1.1]; rfl
theorem rx_8 {I : Nat → Nat → Int32} {v : Int} {L : Lb} {R : Rl} {H : Hl} (hX : RX I v L R H) : gi I 108 v.toNat = H 8 0 := by rw [← hX.2.1]; rfl
theorem rx_9 {I : Nat → Nat → Int32} {v : Int} {L : Lb} {R : Rl} {H : Hl} (hX : RX I v L R H) : gi I 109 v.toNat = H 9 0 := by rw [← hX.2.1]; rfl
theorem rx_1 {I : Nat → Nat → Int32} {v : Int} {L : Lb} {R : Rl} {H : Hl} (hX : RX I v L R H) {r : Int} (hr : 0 ≤ r ∧ r < nR L) : gi I 110 ((6 * v) + r).toNat = H 1 r := by
  have e := rx_n hX
  rw [← hX.2.1]
  exact (tr_in (by rw [e]; exact hr)).symm
theorem rx_2 {I : Nat → Nat → Int32} {v : Int} {L : Lb} {R : Rl} {H : Hl} (hX : RX I v L R H) {r : Int} (hr : 0 ≤ r ∧ r < nR L) : gi I 111 ((6 * v) + r).toNat = H 2 r := by
  have e := rx_n hX
  rw [← hX.2.1]
  exact (tr_in (by rw [e]; exact hr)).symm
theorem rx_3 {I : Nat → Nat → Int32} {v : Int} {L : Lb} {R : Rl} {H : Hl} (hX : RX I v L R H) {r : Int} (hr : 0 ≤ r ∧ r < nR L) : gi I 112 ((6 * v) + r).toNat = H 3 r := by
  have e := rx_n hX
  rw [← hX.2.1]
  exact (tr_in (by rw [e]; exact hr)).symm
theorem rx_4 {I : Nat → Nat → Int32} {v : Int} {L : Lb} {R : Rl} {H : Hl} (hX : RX I v L R H) {r : Int} (hr : 0 ≤ r ∧ r < nR L) : gi I 113 ((6 * v) + r).toNat = H 4 r := by
  have e := rx_n hX
  rw [← hX.2.1]
  exact (tr_in (by rw [e]; exact hr)).symm
theorem rx_5 {I : Nat → Nat → Int32} {v : Int} {L : Lb} {R : Rl} {H : Hl} (hX : RX I v L R H) {r : Int} (hr : 0 ≤ r ∧ r < nR L) : gi I 114 ((6 * v) + r).toNat = H 5 r := by
  have e := rx_n hX
  rw [← hX.2.1]
  exact (tr_in (by rw [e]; exact hr)).symm
theorem rx_6 {I : Nat → Nat → Int32} {v : Int} {L : Lb} {R : Rl} {H : Hl} (hX : RX I v L R H) {r : Int} (hr : 0 ≤ r ∧ r < nR L) : gi I 115 ((6 * v) + r).toNat = H 6 r := by
  have e := rx_n hX
  rw [← hX.2.1]
  exact (tr_in (by rw [e]; exact hr)).symm
theorem rx_7 {I : Nat → Nat → Int32} {v : Int} {L : Lb} {R : Rl} {H : Hl} (hX : RX I v L R H) {r k : Int} (hr : 0 ≤ r ∧ r < nR L) (hk : 0 ≤ k ∧ k < H 6 r) : gi I 116 ((8 * ((6 * v) + r)) + k).toNat = H 7 (8 * r + k) := by
  have e := rx_n hX
  have e6 := rx_6 hX hr
  have h8 := (hX.2.2.1.2.2 r hr.1 hr.2).2.2.2.2.1
  have d1 : (8 * r + k) / 8 = r := by omega
  have d2 : (8 * r + k) % 8 = k := by omega
  have h0 : HR I v 7 (8 * r + k) = tr (gi I 83 (gi I 74 13).toNat) (tr (gi I 115 ((6 * v) + ((8 * r + k) / 8)).toNat) (gi I 116 ((8 * ((6 * v) + ((8 * r + k) / 8))) + (8 * r + k) % 8).toNat) ((8 * r + k) % 8)) ((8 * r + k) / 8) := rfl
  rw [d1, d2, tr_in (by rw [e]; exact hr), tr_in (by rw [e6]; exact hk), hX.2.1] at h0
  exact h0.symm
theorem rx_L2 {I : Nat → Nat → Int32} {v : Int} {L : Lb} {R : Rl} {H : Hl} (hX : RX I v L R H) {p : Int} (hp : 0 ≤ p ∧ p < nP L) : gi I 79 ((14 * (gi I 74 13)) + p).toNat = L 2 p := by
  have e := rx_p hX
  rw [← hX.1.1]
  exact (tr_in (by rw [e]; exact hp)).symm
theorem rx_L3 {I : Nat → Nat → Int32} {v : Int} {L : Lb} {R : Rl} {H : Hl} (hX : RX I v L R H) {p : Int} (hp : 0 ≤ p ∧ p < nP L) : gi I 80 ((14 * (gi I 74 13)) + p).toNat = L 3 p := by
  have e := rx_p hX
  rw [← hX.1.1]
  exact (tr_in (by rw [e]; exact hp)).symm
theorem rx_L4 {I : Nat → Nat → Int32} {v : Int} {L : Lb} {R : Rl} {H : Hl} (hX : RX I v L R H) {p : Int} (hp : 0 ≤ p ∧ p < nP L) : gi I 81 ((14 * (gi I 74 13)) + p).toNat = L 4 p := by
  have e := rx_p hX
  rw [← hX.1.1]
  exact (tr_in (by rw [e]; exact hp)).symm
theorem rx_L5 {I : Nat → Nat → Int32} {v : Int} {L : Lb} {R : Rl} {H : Hl} (hX : RX I v L R H) {r : Int} (hr : 0 ≤ r ∧ r < nR L) : gi I 84 ((6 * (gi I 74 13)) + r).toNat = L 5 r := by
  have e := rx_n hX
  rw [← hX.1.1]
  exact (tr_in (by rw [e]; exact hr)).symm
theorem rx_L6 {I : Nat → Nat → Int32} {v : Int} {L : Lb} {R : Rl} {H : Hl} (hX : RX I v L R H) {r : Int} (hr : 0 ≤ r ∧ r < nR L) : gi I 85 ((6 * (gi I 74 13)) + r).toNat = L 6 r := by
  have e := rx_n hX
  rw [← hX.1.1]
  exact (tr_in (by rw [e]; exact hr)).symm
theorem rx_L7 {I : Nat → Nat → Int32} {v : Int} {L : Lb} {R : Rl} {H : Hl} (hX : RX I v L R H) {t : Int} (ht : 0 ≤ t ∧ t < nT L) : gi I 87 ((5 * (gi I 74 13)) + t).toNat = L 7 t := by
  have e := rx_t hX
  rw [← hX.1.1]
  exact (tr_in (by rw [e]; exact ht)).symm
theorem rx_kn {I : Nat → Nat → Int32} {v : Int} {L : Lb} {R : Rl} {H : Hl} (hX : RX I v L R H) {r : Int} (hr : 0 ≤ r ∧ r < nR L) : or32 (gi I 111 ((6 * v) + r).toNat) (gi I 112 ((6 * v) + r).toNat) = ((kn H r : Nat) : Int) := by
  rw [rx_2 hX hr, rx_3 hX hr]
  exact or_kn hX.1.2.2.2.2.1 hX.2.2.1 hr
theorem S_X12_bits {k : Nat} {P : Option Nat} {I : Nat → Nat → Int32} {J : Nat → Nat → Int64} {Q : Option AV → Mem → Prop} {n : Nat} (hn : n < 16384) (hQ : Q (some (vI (pop n))) (mem (rv0 P) I J)) : WPm k LAY m_X12_bits [vI (n : Int)] (mem (rv0 P) I J) Q := by
  refine WPm.of k_X12_bits.1 (Nat.le_of_ble_eq_true rfl) (B_X12_bits_0 (by omega) ?_)
  have loop : ∀ (d m : Nat) (x y : Int), pop m = d → m < 16384 → x = m → y + d = pop n → WP k LAY m_X12_bits 4 [(1, vI y), (2, vI x)] [] (mem (rv0 P) I J) Q := by
    intro d
    induction d with
    | zero =>
      intro m x y hd hm hx hy
      have h0 : m = 0 := by
        rcases Nat.eq_zero_or_pos m with q | q
        · exact q
        · have := bt_pop hm (by omega)
          omega
      exact B_X12_bits_4 (by omega) ⟨⟨by omega, by omega⟩, fun _ => Qat hQ (by omega), fun q => absurd (show x = 0 by omega) q⟩
    | succ d ih =>
      intro m x y hd hm hx hy
      have h0 : m ≠ 0 := by
        intro q
        subst q
        have : pop 0 = 0 := by decide
        omega
      have hb := bt_pop hm h0
      have hle : m &&& (m - 1) ≤ m := Nat.and_le_left
      refine B_X12_bits_4 (by omega) ⟨⟨by omega, by omega⟩, fun q => absurd q (by omega), fun _ => ?_⟩
      refine ih (m &&& (m - 1)) _ _ (by omega) (by omega) ?_ (by omega)
      rw [show x - 1 = ((m - 1 : Nat) : Int) by omega, hx, and32_nat (by omega) (by omega)]
  exact loop _ n _ _ rfl hn rfl (by omega)
/-- a table's draft, three more where it is cold -/
def dr (L : Lb) (cold t : Int) : Int := L 7 t + (if t = cold then 3 else 0)
theorem S_X12_draft {k : Nat} {P : Option Nat} {I : Nat → Nat → Int32} {J : Nat → Nat → Int64} {Q : Option AV → Mem → Prop} {v : Int} {L : Lb} {R : Rl} {H : Hl} {t : Int} (hX : RX I v L R H) (ht : 0 ≤ t ∧ t < nT L) (hQ : Q (some (vI (dr L (gi I 74 73) t))) (mem (rv0 P) I J)) : WPm k LAY m_X12_draftOf [vR (some 74), vI t] (mem (rv0 P) I J) Q := by
  have hb := rx_b hX
  have hT := hX.1.2.2.2.2.1.2.2.2.1
  have w7 := hX.1.2.2.2.2.1.2.2.2.2.2.2.2.2.2 t ht.1 ht.2
  refine WPm.of k_X12_draftOf.1 (Nat.le_of_ble_eq_true rfl) (B_X12_draftOf_0 (by omega) ?_)
  rw [rx_L7 hX ht]
  unfold dr at hQ
  refine ⟨⟨by omega, by omega⟩, ⟨by omega, by omega⟩, fun q => ⟨⟨by omega, by omega⟩, fun _ => ?_, fun q2 => absurd q2 (by omega)⟩, fun q => ⟨⟨by omega, by omega⟩, fun _ => ?_, fun q2 => absurd q2 (by omega)⟩⟩
  · rw [if_neg q] at hQ
    exact hQ
  · rw [if_pos q] at hQ
    exact hQ
theorem S_X12_sit {k : Nat} {P : Option Nat} {I : Nat → Nat → Int32} {J : Nat → Nat → Int64} {Q : Option AV → Mem → Prop} {v : Int} {L : Lb} {R : Rl} {H : Hl} {t : Int} (hX : RX I v L R H) (ht : inR t) (hQ : Q (some (vI (sit L H t))) (mem (rv0 P) I J)) : WPm k LAY m_X12_sitting [vR (some 74), vI v, vI t] (mem (rv0 P) I J) Q := by
  have en := rx_n hX
  have hb := rx_b hX
  have hv := hX.2.2.2
  have hL := hX.1.2.2.2.2.1.2.2.1
  refine WPm.of k_X12_sitting.1 (Nat.le_of_ble_eq_true rfl) (B_X12_sitting_0 (by omega) ?_)
  have loop : ∀ (d r : Nat) (x y : Int), r + d = (nR L).toNat → x = r → y = smi r (fun r => if H 1 (r : Int) = t then (1 : Int) else 0) → WP k LAY m_X12_sitting 5 [(0, vR (some 74)), (1, vI v), (2, vI t), (3, vI y), (4, vI x)] [] (mem (rv0 P) I J) Q := by
    intro d
    induction d with
    | zero =>
      intro r x y hr hx hy
      refine B_X12_sitting_5 (by omega) ?_
      rw [en]
      exact ⟨hb, ⟨by omega, by omega⟩, fun _ => Qat hQ (by rw [hy]; unfold sit; rw [show (nR L).toNat = r by omega]), fun q => absurd q (by omega)⟩
    | succ d ih =>
      intro r x y hr hx hy
      refine B_X12_sitting_5 (by omega) ?_
      subst hx
      have e1 := rx_1 hX (r := (r : Int)) ⟨by omega, by omega⟩
      rw [en, e1]
      have es : smi (r + 1) (fun r => if H 1 (r : Int) = t then (1 : Int) else 0) = smi r (fun r => if H 1 (r : Int) = t then (1 : Int) else 0) + (if H 1 (r : Int) = t then (1 : Int) else 0) := rfl
      refine ⟨hb, ⟨by omega, by omega⟩, fun q => absurd q (by omega), fun _ => ⟨⟨by omega, by omega⟩, ht, fun q => ?_, fun q => ?_⟩⟩
      · refine ih (r + 1) _ _ (by omega) (by omega) ?_
        rw [es, if_neg q]
        omega
      · refine ih (r + 1) _ _ (by omega) (by omega) ?_
        rw [es, if_pos q]
        omega
  exact loop _ 0 0 0 (Nat.zero_add _) rfl rfl
/-! one value that a rule asks for -/
theorem enc_part {s x c : Int} (h : enc s x = c) (h0 : 0 ≤ c) (h1 : c < 10100) : (s = 0 ∧ c = x ∧ x < 10000) ∨ (s = 1 ∧ c = 10003) ∨ (s = 2 ∧ c = 10015) ∨ (s = 3 ∧ c = 10007) ∨ (s = 4 ∧ c = 10008) ∨ (s = 5 ∧ c = 10016) ∨ (s = 6 ∧ c = 10010) ∨ (s = 7 ∧ c = 10017) ∨ (s = 8 ∧ c = 10011) ∨ (s = 9 ∧ c = 10018) ∨ (s = 30 ∧ c = 1) := by
  unfold enc at h
  repeat' split at h
  all_goals omega
theorem enc_op {s x c : Int} (h : enc s x = c) (h1 : 10100 ≤ c) : (10 ≤ s ∧ s ≤ 22) ∧ c = 10090 + s := by
  unfold enc at h
  repeat' split at h
  all_goals omega
/-- for whom the reference reckons: the layer, the reader, the page (or none), what he knows -/
def askR (I : Nat → Nat → Int32) (v : Int) (L : Lb) (H : Hl) (r kk ln pr : Int) : Prop := gi I 74 69 = v ∧ gi I 74 70 = r ∧ (gi I 74 71 = -1 ∧ ln = 0 ∧ pr = 0 ∨ (0 ≤ gi I 74 71 ∧ gi I 74 71 < nP L) ∧ ln = L 2 (gi I 74 71) ∧ pr = L 3 (gi I 74 71)) ∧ (gi I 74 72 = -1 ∧ kk = pop (kn H r) ∨ gi I 74 72 = kk ∧ ¬ kk = -1)
abbrev envR (L : Lb) (H : Hl) (cold r kk ln pr : Int) : Int → Int := envS L (H 8 0) r (dr L cold (H 1 r)) (sit L H (H 1 r)) kk ln pr
theorem S_X12_part {k : Nat} {P : Option Nat} {I : Nat → Nat → Int32} {J : Nat → Nat → Int64} {Q : Option AV → Mem → Prop} {v : Int} {L : Lb} {R : Rl} {H : Hl} {r kk ln pr s x c : Int} (hX : RX I v L R H) (hk : 1 ≤ k) (hr : 0 ≤ r ∧ r < nR L) (hA : askR I v L H r kk ln pr) (hc : enc s x = c) (h0 : 0 ≤ c) (h1 : c < 10100) (hx : inR x) (hQ : Q (some (vL (if c < 10000 then c else envR L H (gi I 74 73) r kk ln pr (c - 10000)))) (mem (rv0 P) I J)) : WPm k LAY m_X12_part [vR (some 74), vI s, vI x] (mem (rv0 P) I J) Q := by
  obtain ⟨a69, a70, a71, a72⟩ := hA
  have hb := rx_b hX
  have hv := hX.2.2.2
  have hL := hX.1.2.2.2.2.1
  have hR6 := hL.2.2.1
  have hP := hL.2.1
  have hT := hL.2.2.2.1
  have hw := (hX.2.2.1.2.2 r hr.1 hr.2).1
  have hkl := (kn_lt hL hX.2.2.1 hr).2
  have hpo := pop_le (kn H r)
  have hs := sit_bd H hL (H 1 r)
  have w7 := hL.2.2.2.2.2.2.2.2.2 (H 1 r) hw.1 hw.2
  have hdr : 0 ≤ dr L (gi I 74 73) (H 1 r) ∧ dr L (gi I 74 73) (H 1 r) ≤ 12 := by
    unfold dr
    split <;> omega
  refine WPm.of k_X12_part.1 (Nat.le_of_ble_eq_true rfl) (B_X12_part_0 (by omega) ?_)
  rw [a69, a70, rx_kn hX hr, rx_1 hX hr, rx_L5 hX hr, rx_L6 hX hr, rx_8 hX]
  rcases enc_part hc h0 h1 with ⟨rfl, hcx, hx4⟩ | ⟨rfl, rfl⟩ | ⟨rfl, rfl⟩ | ⟨rfl, rfl⟩ | ⟨rfl, rfl⟩ | ⟨rfl, rfl⟩ | ⟨rfl, rfl⟩ | ⟨rfl, rfl⟩ | ⟨rfl, rfl⟩ | ⟨rfl, rfl⟩ | ⟨rfl, rfl⟩
  · rw [if_pos (show c < 10000 by omega)] at hQ
    exact ⟨⟨by omega, by omega⟩, by decide, fun _ => ⟨hx, QatL hQ hcx⟩, fun q => absurd rfl q⟩
  · have hQ' : Q (some (vL ln)) (mem (rv0 P) I J) := hQ
    refine ⟨⟨by omega, by omega⟩, by decide, fun q => absurd q (by decide), fun _ => ⟨fun _ => ⟨fun q => ?_, fun q => ?_⟩, fun q => absurd rfl q⟩⟩
    · rcases a71 with ⟨z, -⟩ | ⟨z, z2, z3⟩
      · exact absurd z q
      · rw [rx_L2 hX z]
        exact ⟨⟨by omega, by omega⟩, QatL hQ' z2⟩
    · rcases a71 with ⟨-, z, -⟩ | ⟨z, -⟩
      · exact QatL hQ' z
      · omega
  · have hQ' : Q (some (vL pr)) (mem (rv0 P) I J) := hQ
    refine ⟨⟨by omega, by omega⟩, by decide, fun q => absurd q (by decide), fun _ => ⟨fun q => absurd q (by decide), fun _ => ⟨fun _ => ⟨fun q => ?_, fun q => ?_⟩, fun q => absurd rfl q⟩⟩⟩
    · rcases a71 with ⟨z, -⟩ | ⟨z, z2, z3⟩
      · exact absurd z q
      · rw [rx_L3 hX z]
        exact ⟨⟨by omega, by omega⟩, QatL hQ' z3⟩
    · rcases a71 with ⟨-, -, z⟩ | ⟨z, -⟩
      · exact QatL hQ' z
      · omega
  · exact ⟨⟨by omega, by omega⟩, by decide, fun q => absurd q (by decide), fun _ => ⟨fun q => absurd q (by decide), fun _ => ⟨fun q => absurd q (by decide), fun _ => ⟨fun _ => ⟨⟨by omega, by omega⟩, hQ⟩, fun q => absurd rfl q⟩⟩⟩⟩
  · exact ⟨⟨by omega, by omega⟩, by decide, fun q => absurd q (by decide), fun _ => ⟨fun q => absurd q (by decide), fun _ => ⟨fun q => absurd q (by decide), fun _ => ⟨fun q => absurd q (by decide), fun _ => ⟨fun _ => ⟨⟨by omega, by omega⟩, hQ⟩, fun q => absurd rfl q⟩⟩⟩⟩⟩
  · have hQ' : Q (some (vL kk)) (mem (rv0 P) I J) := hQ
    refine ⟨⟨by omega, by omega⟩, by decide, fun q => absurd q (by decide), fun _ => ⟨fun q => absurd q (by decide), fun _ => ⟨fun q => absurd q (by decide), fun _ => ⟨fun q => absurd q (by decide), fun _ => ⟨fun q => absurd q (by decide), fun _ => ⟨fun _ => ⟨fun q => ?_, fun q => ?_⟩, fun q => absurd rfl q⟩⟩⟩⟩⟩⟩
    · rcases a72 with ⟨-, z⟩ | ⟨z, z2⟩
      · exact S_X12_bits hkl ⟨_, _, _, rfl, rfl, ⟨by omega, by omega⟩, QatL hQ' z⟩
      · omega
    · rcases a72 with ⟨z, -⟩ | ⟨z, z2⟩
      · exact absurd z q
      · exact QatL hQ' z.symm
  · refine ⟨⟨by omega, by omega⟩, by decide, fun q => absurd q (by decide), fun _ => ⟨fun q => absurd q (by decide), fun _ => ⟨fun q => absurd q (by decide), fun _ => ⟨fun q => absurd q (by decide), fun _ => ⟨fun q => absurd q (by decide), fun _ => ⟨fun q => absurd q (by decide), fun _ => ⟨fun _ => ?_, fun q => absurd rfl q⟩⟩⟩⟩⟩⟩⟩
    exact S_X12_draft hX hw ⟨_, _, _, rfl, rfl, ⟨by omega, by omega⟩, hQ⟩
  · refine ⟨⟨by omega, by omega⟩, by decide, fun q => absurd q (by decide), fun _ => ⟨fun q => absurd q (by decide), fun _ => ⟨fun q => absurd q (by decide), fun _ => ⟨fun q => absurd q (by decide), fun _ => ⟨fun q => absurd q (by decide), fun _ => ⟨fun q => absurd q (by decide), fun _ => ⟨fun q => absurd q (by decide), fun _ => ⟨fun _ => ?_, fun q => absurd rfl q⟩⟩⟩⟩⟩⟩⟩⟩
    exact S_X12_sit hX ⟨by omega, by omega⟩ ⟨_, _, _, rfl, rfl, ⟨by omega, by omega⟩, hQ⟩
  · refine ⟨⟨by omega, by omega⟩, by decide, fun q => absurd q (by decide), fun _ => ⟨fun q => absurd q (by decide), fun _ => ⟨fun q => absurd q (by decide), fun _ => ⟨fun q => absurd q (by decide), fun _ => ⟨fun q => absurd q (by decide), fun _ => ⟨fun q => absurd q (by decide), fun _ => ⟨fun q => absurd q (by decide), fun _ => ⟨fun q => absurd q (by decide), fun _ => ⟨fun _ => ⟨hb, ?_⟩, fun q => absurd rfl q⟩⟩⟩⟩⟩⟩⟩⟩⟩
    exact QatL hQ (rx_inch hX).symm
  · exact ⟨⟨by omega, by omega⟩, by decide, fun q => absurd q (by decide), fun _ => ⟨fun q => absurd q (by decide), fun _ => ⟨fun q => absurd q (by decide), fun _ => ⟨fun q => absurd q (by decide), fun _ => ⟨fun q => absurd q (by decide), fun _ => ⟨fun q => absurd q (by decide), fun _ => ⟨fun q => absurd q (by decide), fun _ => ⟨fun q => absurd q (by decide), fun _ => ⟨fun q => absurd q (by decide), fun _ => ⟨fun _ => ⟨⟨by omega, by omega⟩, hQ⟩, fun q => absurd rfl q⟩⟩⟩⟩⟩⟩⟩⟩⟩⟩
  · exact ⟨⟨by omega, by omega⟩, by decide, fun q => absurd q (by decide), fun _ => ⟨fun q => absurd q (by decide), fun _ => ⟨fun q => absurd q (by decide), fun _ => ⟨fun q => absurd q (by decide), fun _ => ⟨fun q => absurd q (by decide), fun _ => ⟨fun q => absurd q (by decide), fun _ => ⟨fun q => absurd q (by decide), fun _ => ⟨fun q => absurd q (by decide), fun _ => ⟨fun q => absurd q (by decide), fun _ => ⟨fun q => absurd q (by decide), fun _ => hQ⟩⟩⟩⟩⟩⟩⟩⟩⟩⟩
end RSUM

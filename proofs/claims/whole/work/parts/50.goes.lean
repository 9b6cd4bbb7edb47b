section GOES
/-! ===== the reference's night at a layer ===== -/
theorem coN_congr {L : Lb} {R : Rl} {H H2 : Hl} {cold r : Int} (h1 : ∀ i, 0 ≤ i → i < nR L → H2 1 i = H 1 i) (hr : 0 ≤ r ∧ r < nR L) (h8 : H2 8 0 = H 8 0) (h2 : kn H2 r = kn H r) (h4 : H2 4 r = H 4 r) (h5 : H2 5 r = H 5 r) (hls : lsH H2 r = lsH H r) : coN L R H2 cold r = coN L R H cold r ∧ donP L H2 r True = donP L H r True := by
  have e : ∀ t, sit L H2 t = sit L H t := fun t => by
    unfold sit
    refine smi_congr (fun i hi => ?_)
    rw [h1 i (by omega) (by omega)]
  have ef : fstP L H2 r True = fstP L H r True := by
    unfold fstP
    rw [h4, h2, hls]
  have ed : donP L H2 r True = donP L H r True := by
    unfold donP
    rw [ef, h4, h5]
  refine ⟨?_, ed⟩
  unfold coN cour
  rw [ed, ef, h2, hls, h1 r hr.1 hr.2, e]
  have et : ∀ d s, tkS L R H2 r d s = tkS L R H r d s := fun d s => by
    unfold tkS
    rw [h8]
  rw [et]
def tchA (v : Int) (c k : Nat) : Prop := ((c = 111 ∨ c = 113 ∨ c = 114 ∨ c = 115) ∧ 6 * v ≤ (k : Int) ∧ (k : Int) < 6 * v + 6) ∨ (c = 116 ∧ 48 * v ≤ (k : Int) ∧ (k : Int) < 48 * v + 48) ∨ (c = 117 ∧ (k : Int) = v) ∨ (118 ≤ c ∧ c ≤ 120 ∧ 60 * v ≤ (k : Int) ∧ (k : Int) < 60 * v + 60) ∨ (c = 122 ∨ c = 123 ∨ c = 124) ∨ (c = 74 ∧ (k = 77 ∨ k = 69 ∨ k = 70 ∨ k = 71))
theorem tch_A {v r : Int} {c k : Nat} (hr : 0 ≤ r ∧ r < 6) (h : ¬ tchA v c k) : ¬ tch v r c k := by
  unfold tchA at h
  unfold tch
  omega
abbrev rdC (L : Lb) (R : Rl) (H : Hl) (cold i : Int) : Nat := rdn (ltN L R H cold (H 1 i)) (coN L R H cold i)
def kpN (L : Lb) (R : Rl) (H : Hl) (cold : Int) (l : List (Int × Int × Int)) : Nat → List (Int × Int × Int)
  | 0 => l
  | n + 1 => psN (kpN L R H cold l n) (coN L R H cold n) (H 8 0 + 1) n (rdC L R H cold n)
/-- a reader's record before and after the evening -/
def OldE (L : Lb) (H H' : Hl) (i : Int) : Prop := H' 2 i = H 2 i ∧ H' 4 i = H 4 i ∧ H' 5 i = H 5 i ∧ lsH H' i = lsH H i
def NewE (L : Lb) (R : Rl) (H : Hl) (cold : Int) (H' : Hl) (i : Int) : Prop := H' 2 i = (((H 2 i).toNat ||| bitT (coN L R H cold i) (rdC L R H cold i) : Nat) : Int) ∧ H' 4 i = lfN (ltN L R H cold (H 1 i)) (coN L R H cold i) (H 4 i) ∧ H' 5 i = itN (ltN L R H cold (H 1 i)) (coN L R H cold i) (donP L H i True) (H 5 i) ∧ lsH H' i = woN (coN L R H cold i) (lsH H i) (rdC L R H cold i) ∧ WfE (coN L R H cold i) (lsH H i) (ltN L R H cold (H 1 i)) (H 4 i) (donP L H i True) (H 5 i)
def NtA (I I2 : Nat → Nat → Int32) (v : Int) (L : Lb) (R : Rl) (H : Hl) (cold : Int) (n : Nat) : Prop := (∀ c k : Nat, ¬ tchA v c k → I2 c k = I c k) ∧ RX I2 v L R (HR I2 v) ∧ (∀ i, 0 ≤ i → i < nR L → HR I2 v 1 i = H 1 i ∧ HR I2 v 3 i = H 3 i) ∧ (HR I2 v 8 0 = H 8 0 ∧ HR I2 v 9 0 = H 9 0) ∧ (∀ i : Int, n ≤ i → i < nR L → OldE L H (HR I2 v) i) ∧ (∀ i : Int, 0 ≤ i → i < n → NewE L R H cold (HR I2 v) i ∧ gi I2 122 (i).toNat = stN L R H cold i ∧ gi I2 123 (i).toNat = ((bitT (coN L R H cold i) (rdC L R H cold i) : Nat) : Int)) ∧ gi I2 74 77 = smi n (fun r => rdA L R H cold r) ∧ kpL I2 v = kpN L R H cold (kpL I v) n ∧ (0 ≤ gi I2 117 v.toNat ∧ gi I2 117 v.toNat ≤ 60) ∧ ∀ t, 0 ≤ t → t < nT L → gi I2 124 (t).toNat = ltN L R H cold t
theorem S_X12_goes {k : Nat} {P : Option Nat} {I : Nat → Nat → Int32} {J : Nat → Nat → Int64} {Q : Option AV → Mem → Prop} {v : Int} {L : Lb} {R : Rl} {H : Hl} {cold : Int} (hk : 7 ≤ k) (hX : RX I v L R H) (h72 : gi I 74 72 = -1) (h73 : gi I 74 73 = cold) (h117 : 0 ≤ gi I 117 v.toNat ∧ gi I 117 v.toNat ≤ 60)
    (hQ : ∀ I' J', NtA I I' v L R H cold (nR L).toNat → Fr [121] [] J J' → Q (some (vI (waA L R H cold))) (mem (rv0 P) I' J')) : WPm k LAY m_X12_goesNight [vR (some 74), vI v] (mem (rv0 P) I J) Q := by
  have hL := hX.1.2.2.2.2.1
  have hP := hL.2.1
  have hR6 := hL.2.2.1
  have hT := hL.2.2.2.1
  have hv := hX.2.2.2
  have hH := hX.2.2.1
  refine WPm.of k_X12_goesNight.1 (Nat.le_of_ble_eq_true rfl) (B_X12_goesNight_0 (by omega) ?_)
  -- the sums
  have inner : ∀ (I2 : Nat → Nat → Int32) (J2 : Nat → Nat → Int64), NtA I I2 v L R H cold (nR L).toNat → ∀ (t y : Int), 0 ≤ t ∧ t < nT L → (WP k LAY m_X12_goesNight 85 [(0, vR (some 74)), (1, vI v), (2, vI (y + (ltN L R H cold t - lsN L R H cold t (nR L).toNat))), (3, vI (t + 1))] [] (mem (P, some 5, some 22) I2 J2) Q) → ∀ (d n : Nat) (x z : Int), n + d = (nR L).toNat → x = n → z = lsN L R H cold t n → WP k LAY m_X12_goesNight 104 [(0, vR (some 74)), (1, vI v), (2, vI y), (3, vI t), (4, vI z), (5, vI x)] [] (mem (P, some 5, some 22) I2 J2) Q := by
    intro I2 J2 hN t y ht hq d
    obtain ⟨-, hX2, h13, -, -, hnew, -, -, -, h124⟩ := hN
    induction d with
    | zero =>
      intro n x z hn hx hz
      refine B_X12_goesNight_104 (by omega) ?_
      rw [rx_n hX2, h124 t ht.1 ht.2]
      have e : z = lsN L R H cold t (nR L).toNat := by rw [hz, show (nR L).toNat = n by omega]
      exact ⟨rx_b hX2, ⟨by omega, by omega⟩, fun _ => ⟨⟨by omega, by omega⟩, by rw [e]; exact hq⟩, fun w => absurd w (by omega)⟩
    | succ d ih =>
      intro n x z hn hx hz
      subst hx
      have hr : (0 : Int) ≤ n ∧ (n : Int) < nR L := ⟨by omega, by omega⟩
      have hln := lsN_bd (R := R) hL hH (cold := cold) (t := t) n (by omega)
      have hlt : 0 ≤ ltN L R H cold t ∧ ltN L R H cold t ≤ 3000 := lig_bd (R := R) H hL t (dr L cold t)
      obtain ⟨-, h122, -⟩ := hnew n (by omega) (by omega)
      refine B_X12_goesNight_104 (by omega) ?_
      rw [rx_n hX2, rx_1 hX2 hr, (h13 n hr.1 hr.2).1, h122]
      refine ⟨rx_b hX2, ⟨by omega, by omega⟩, fun w => absurd w (by omega), fun _ => ⟨⟨by omega, by omega⟩, ⟨by omega, by omega⟩, fun q => ih (n + 1) _ _ (by omega) (by omega) ?_, fun q => ⟨⟨by omega, by omega⟩, ⟨by omega, by omega⟩, fun q2 => ih (n + 1) _ _ (by omega) (by omega) ?_, fun q2 => ih (n + 1) _ _ (by omega) (by omega) ?_⟩⟩⟩
      · rw [lsN, if_neg q]; exact hz
      · rw [lsN, if_pos q]; omega
      · rw [lsN, if_pos q]; omega
  have outer : ∀ (I2 : Nat → Nat → Int32) (J2 : Nat → Nat → Int64), NtA I I2 v L R H cold (nR L).toNat → Fr [121] [] J J2 → ∀ (d n : Nat) (x y : Int), n + d = (nT L).toNat → x = n → y = smi n (fun t => ltN L R H cold t - lsN L R H cold t (nR L).toNat) → WP k LAY m_X12_goesNight 85 [(0, vR (some 74)), (1, vI v), (2, vI y), (3, vI x)] [] (mem (P, some 5, some 22) I2 J2) Q := by
    intro I2 J2 hN hJ d
    have hX2 := hN.2.1
    induction d with
    | zero =>
      intro n x y hn hx hy
      refine B_X12_goesNight_85 (by omega) ?_
      rw [rx_t hX2]
      refine ⟨rx_b hX2, ⟨by omega, by omega⟩, fun _ => ?_, fun w => absurd w (by omega)⟩
      have := hQ I2 J2 hN hJ
      exact Qat this (by rw [hy]; unfold waA; rw [show (nT L).toNat = n by omega])
    | succ d ih =>
      intro n x y hn hx hy
      subst hx
      refine B_X12_goesNight_85 (by omega) ?_
      rw [rx_t hX2]
      exact ⟨rx_b hX2, ⟨by omega, by omega⟩, fun w => absurd w (by omega), fun _ => inner I2 J2 hN n y ⟨by omega, by omega⟩ (ih (n + 1) _ _ (by omega) (by omega) (by rw [hy]; rfl)) _ 0 0 0 (Nat.zero_add _) rfl rfl⟩
  -- the readers
  have rdrs : ∀ (d n : Nat) (x : Int) (I2 : Nat → Nat → Int32) (J2 : Nat → Nat → Int64), n + d = (nR L).toNat → x = n → NtA I I2 v L R H cold n → Fr [121] [] J J2 → WP k LAY m_X12_goesNight 42 [(0, vR (some 74)), (1, vI v), (2, vI 0), (3, vI x)] [] (mem (P, some 5, some 22) I2 J2) Q := by
    intro d
    induction d with
    | zero =>
      intro n x I2 J2 hn hx hN hJ
      refine B_X12_goesNight_42 (by omega) ?_
      rw [rx_n hN.2.1]
      exact ⟨rx_b hN.2.1, ⟨by omega, by omega⟩, fun _ => outer I2 J2 (by rw [show (nR L).toNat = n by omega]; exact hN) hJ _ 0 0 0 (Nat.zero_add _) rfl rfl, fun w => absurd w (by omega)⟩
    | succ d ih =>
      intro n x I2 J2 hn hx hN hJ
      subst hx
      obtain ⟨f, hX2, h13, h89, hold, hnew, h77, hkp, h17, h124⟩ := hN
      have hr : (0 : Int) ≤ n ∧ (n : Int) < nR L := ⟨by omega, by omega⟩
      have ht := (hH.2.2 n hr.1 hr.2).1
      obtain ⟨o2, o4, o5, o7⟩ := hold n (Int.le_refl _) hr.2
      have okn : kn (HR I2 v) n = kn H n := by
        unfold kn
        rw [o2, (h13 n hr.1 hr.2).2]
      have hlt : 0 ≤ ltN L R H cold (H 1 n) ∧ ltN L R H cold (H 1 n) ≤ 3000 := lig_bd (R := R) H hL (H 1 n) (dr L cold (H 1 n))
      obtain ⟨ec, ed⟩ := coN_congr (L := L) (R := R) (H := H) (H2 := HR I2 v) (cold := cold) (r := (n : Int)) (fun i i0 i1 => (h13 i i0 i1).1) hr h89.1 okn o4 o5 o7
      have e72 : gi I2 74 72 = -1 := (gi_eq (f 74 72 (by unfold tchA; omega))).trans h72
      have e73 : gi I2 74 73 = cold := (gi_eq (f 74 73 (by unfold tchA; omega))).trans h73
      have hs77 := smi_bd (n := n) (f := fun r => rdA L R H cold r) (b := 8) (by decide) (fun i hi => rdA_bd hL hH ⟨by omega, by omega⟩)
      refine B_X12_goesNight_42 (by omega) ?_
      rw [rx_n hX2, rx_1 hX2 hr, (h13 n hr.1 hr.2).1, h124 _ ht.1 ht.2]
      refine ⟨rx_b hX2, ⟨by omega, by omega⟩, fun w => absurd w (by omega), fun _ => ⟨⟨by omega, by omega⟩, ⟨by omega, by omega⟩, ?_⟩⟩
      refine S_X12_reads (L := L) (R := R) (H := HR I2 v) (by omega) hX2 hr e72 e73 hlt (by rw [h77]; omega) h17 (fun I3 J3 hA hE g4 g5 g22 hJ3 => ⟨_, _, rfl, rfl, ?_⟩)
      rw [ec] at hA hE g4 g5 g22
      rw [ed, o4, o5, o7] at hE
      rw [o4] at g4
      rw [ed, o5] at g5
      have hm : ∀ i, i < rdC L R H cold n → cp (coN L R H cold n) i ∈ lsH (HR I2 v) n := by rw [o7]; exact fun i hi => (woN_mem (hE.1 i hi)).1
      obtain ⟨p1, p2, p3, p4, p5, ⟨p62, p64, p65⟩, p7⟩ := hA.rx2 hX2 hr hm (by rw [g4, g5, o7]; exact hE.2)
      obtain ⟨a1, a2, -, a5, a6, a7, a8⟩ := hA
      refine ih (n + 1) _ I3 J3 (by omega) (by omega) ⟨fun c k p => ?_, p1, fun i i0 i1 => ⟨(p2 i i0 i1).1.trans (h13 i i0 i1).1, (p2 i i0 i1).2.trans (h13 i i0 i1).2⟩, ⟨p3.1.trans h89.1, p3.2.trans h89.2⟩, fun i i0 i1 => ?_, fun i i0 i1 => ?_, ?_, ?_, a8, fun t t0 t1 => ?_⟩ (hJ.tr hJ3)
      · rw [a1 c k (tch_A ⟨by omega, by omega⟩ p)]
        exact f c k p
      · obtain ⟨u2, u4, u5, u7⟩ := p7 i (by omega) i1 (by omega)
        obtain ⟨w2, w4, w5, w7⟩ := hold i (by omega) i1
        exact ⟨u2.trans w2, u4.trans w4, u5.trans w5, u7.trans w7⟩
      · by_cases e : i = n
        · subst e
          refine ⟨⟨?_, p64.trans g4, p65.trans g5, ?_, hE⟩, g22, a5⟩
          · rw [p62, a2, o2]
          · rw [p5, o7]
        · obtain ⟨u2, u4, u5, u7⟩ := p7 i i0 (by omega) e
          obtain ⟨⟨w2, w4, w5, w7, w8⟩, w22, w23⟩ := hnew i i0 (by omega)
          refine ⟨⟨u2.trans w2, u4.trans w4, u5.trans w5, u7.trans w7, w8⟩, ?_, ?_⟩
          · rw [gi_eq (a1 122 _ (by unfold tch; omega))]
            exact w22
          · rw [gi_eq (a1 123 _ (by unfold tch; omega))]
            exact w23
      · rw [a6, h77]
        rfl
      · rw [a7, hkp, h89.1]
        rfl
      · rw [gi_eq (a1 124 _ (by unfold tch; omega))]
        exact h124 t t0 t1
  -- the lights
  have ligs : ∀ (d n : Nat) (x : Int) (I2 : Nat → Nat → Int32) (J2 : Nat → Nat → Int64), n + d = (nT L).toNat → x = n → Fr [124] [(74, 77), (74, 69), (74, 70), (74, 71)] I I2 → gi I2 74 77 = 0 → (∀ t, 0 ≤ t → t < (n : Int) → gi I2 124 (t).toNat = ltN L R H cold t) → Fr [121] [] J J2 → WP k LAY m_X12_goesNight 9 [(0, vR (some 74)), (1, vI v), (2, vI 0), (3, vI x)] [] (mem (P, some 5, some 22) I2 J2) Q := by
    intro d
    induction d with
    | zero =>
      intro n x I2 J2 hn hx hF h77 h124 hJ
      have hX2 := hX.fr (hF.rx (by decide) (by decide))
      have eH : HR I2 v = H := hX2.2.1
      refine B_X12_goesNight_9 (by omega) ?_
      rw [rx_t hX2]
      refine ⟨rx_b hX2, ⟨by omega, by omega⟩, fun _ => rdrs _ 0 0 I2 J2 (Nat.zero_add _) rfl ⟨fun c k p => ?_, by rw [eH]; exact hX2, fun i _ _ => by rw [eH]; exact ⟨rfl, rfl⟩, by rw [eH]; exact ⟨rfl, rfl⟩, fun i _ _ => by rw [eH]; exact ⟨rfl, rfl, rfl, rfl⟩, fun i i0 i1 => absurd i1 (by omega), h77, ?_, ?_, fun t t0 t1 => h124 t t0 (by omega)⟩ hJ, fun w => absurd w (by omega)⟩
      · unfold tchA at p
        exact hF c k (by simp; omega) (by simp; omega)
      · exact kpL_eq (fun c k p q => hF c k (by simp; omega) (by simp; omega))
      · rw [hF.gv 117 _ (by decide) (by simp)]
        exact h117
    | succ d ih =>
      intro n x I2 J2 hn hx hF h77 h124 hJ
      subst hx
      have hX2 := hX.fr (hF.rx (by decide) (by decide))
      have e72 : gi I2 74 72 = -1 := (hF.gv 74 72 (by decide) (by decide)).trans h72
      have e73 : gi I2 74 73 = cold := (hF.gv 74 73 (by decide) (by decide)).trans h73
      have hlt : 0 ≤ ltN L R H cold (n : Int) ∧ ltN L R H cold (n : Int) ≤ 3000 := lig_bd (R := R) H hL (n : Int) (dr L cold n)
      refine B_X12_goesNight_9 (by omega) ?_
      rw [rx_t hX2]
      refine ⟨rx_b hX2, ⟨by omega, by omega⟩, fun w => absurd w (by omega), fun _ => ?_⟩
      refine S_X12_light (by omega) hX2 ⟨by omega, by omega⟩ e72 (fun I4 J4 hF4 hJ4 => ⟨_, _, _, rfl, rfl, ⟨by omega, by omega⟩, ?_⟩)
      rw [e73]
      refine ih (n + 1) _ _ J4 (by omega) (by omega) ((hF.tr (hF4.mono (by simp) (by simp))).up _ _ _ (Or.inl (by decide))) ?_ (fun t t0 t1 => ?_) (hJ.tr hJ4)
      · rw [gi_cell _ _ _ _ (by decide), hF4.gv 74 77 (by decide) (by decide)]
        exact h77
      · by_cases e : t = n
        · subst e
          exact gi_same _ _ _ (show inR (ltN L R H cold (n : Int)) from ⟨by omega, by omega⟩)
        · rw [gi_idx _ _ _ (by omega), hF4.gv 124 _ (by decide) (by simp)]
          exact h124 t t0 (by omega)
  exact ligs _ 0 0 _ J (Nat.zero_add _) rfl ((Fr.rf _ _ I).up 74 77 0 (Or.inr (by decide))) (gi_same _ _ _ (by decide)) (fun t t0 t1 => absurd t0 (by omega)) (Fr.rf _ _ _)
end GOES

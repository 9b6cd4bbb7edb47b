section SEATR
/-! ===== seated: the reference tries all ways; the step ===== -/
theorem RX_cp {I : Nat → Nat → Int32} {L : Lb} {R : Rl} {H : Hl} (hX : RX I 0 L R H) : RX (cpL I 1 0) 1 L R H := by
  have hL := hX.1.2.2.2.2.1
  have hR6 := hL.2.2.1
  have hly : LayEq I 0 (cpL I 1 0) 1 := cpL_lay
  have hb : gi (cpL I 1 0) 74 13 = gi I 74 13 := by unfold gi; rw [cpL_cell (c := 74) (by decide)]
  have hrl : sameRL I (cpL I 1 0) := ⟨fun c a b => cpL_cell (by omega), hb⟩
  have hb2 : gi (cpL I 1 0) 83 (gi (cpL I 1 0) 74 13).toNat = gi I 83 (gi I 74 13).toNat := by rw [hb, gi_row (hrl.1 83 (by decide) (by decide))]
  have hH1 : HR (cpL I 1 0) 1 = H := by
    have e := HR_lay (v := 0) (v' := 1) hly hb2 (by rw [rx_n hX]; exact hR6.2) (fun r r0 r1 => by
      have r1' : r < nR L := by rw [← rx_n hX]; exact r1
      have := (hX.2.2.1.2.2 r r0 r1').2.2.2.2.1
      rw [show ((6 * ((0 : Nat) : Int)) + r) = r by omega, rx_6' hX ⟨r0, r1'⟩]
      omega)
    exact e.trans hX.2.1
  exact ⟨hX.1.fr hrl, hH1, hX.2.2.1, by decide, by decide⟩
/-- what is written where the readers sit anew -/
def tch5 (c k : Nat) : Prop := (c = 110 ∨ c = 113 ∨ c = 114) ∧ 6 ≤ k ∧ k < 12
theorem RX_seats {I I1 : Nat → Nat → Int32} {L : Lb} {R : Rl} {H : Hl} {f : Nat → Nat} (hX : RX I 1 L R H) (hf : ∀ c k : Nat, ¬ tch5 c k → I1 c k = I c k) (h1 : ∀ r : Nat, r < nN L → gi I1 110 (6 + r) = ((f r : Nat) : Int) ∧ gi I1 113 (6 + r) = -1 ∧ gi I1 114 (6 + r) = 0) (hT : ∀ r : Nat, r < nN L → f r < tN L) : RX I1 1 L R (HR I1 1) ∧ Seats L H (HR I1 1) f := by
  have hL := hX.1.2.2.2.2.1
  have hH := hX.2.2.1
  have row : ∀ c, ¬ (c = 110 ∨ c = 113 ∨ c = 114) → gi I1 c = gi I c := fun c hc => funext fun k => congrArg Int32.toInt (hf c k (fun t => hc t.1))
  have hb : gi I1 74 13 = gi I 74 13 := by rw [row 74 (by decide)]
  have hrl : sameRL I I1 := ⟨fun c a b => funext fun k => hf c k (fun t => by have := t.1; omega), hb⟩
  have h83 : gi I1 83 = gi I 83 := row 83 (by decide)
  have hn := rx_n hX
  have eH : HR I 1 = H := hX.2.1
  have e2 : ∀ i, HR I1 1 2 i = H 2 i := fun i => by
    rw [← eH]
    show tr (gi I1 83 (gi I1 74 13).toNat) (gi I1 111 ((6 * 1) + i).toNat) i = tr (gi I 83 (gi I 74 13).toNat) (gi I 111 ((6 * 1) + i).toNat) i
    rw [hb, h83, row 111 (by decide)]
  have e3 : ∀ i, HR I1 1 3 i = H 3 i := fun i => by
    rw [← eH]
    show tr (gi I1 83 (gi I1 74 13).toNat) (gi I1 112 ((6 * 1) + i).toNat) i = tr (gi I 83 (gi I 74 13).toNat) (gi I 112 ((6 * 1) + i).toNat) i
    rw [hb, h83, row 112 (by decide)]
  have e6 : ∀ i, HR I1 1 6 i = H 6 i := fun i => by
    rw [← eH]
    show tr (gi I1 83 (gi I1 74 13).toNat) (gi I1 115 ((6 * 1) + i).toNat) i = tr (gi I 83 (gi I 74 13).toNat) (gi I 115 ((6 * 1) + i).toNat) i
    rw [hb, h83, row 115 (by decide)]
  have e7 : ∀ i, HR I1 1 7 i = H 7 i := fun i => by
    rw [← eH]
    show tr (gi I1 83 (gi I1 74 13).toNat) (tr (gi I1 115 ((6 * 1) + (i / 8)).toNat) (gi I1 116 ((8 * ((6 * 1) + (i / 8))) + i % 8).toNat) (i % 8)) (i / 8) = tr (gi I 83 (gi I 74 13).toNat) (tr (gi I 115 ((6 * 1) + (i / 8)).toNat) (gi I 116 ((8 * ((6 * 1) + (i / 8))) + i % 8).toNat) (i % 8)) (i / 8)
    rw [hb, h83, row 115 (by decide), row 116 (by decide)]
  have e8 : HR I1 1 8 0 = H 8 0 := by
    rw [← eH]
    show gi I1 108 (1 : Int).toNat = gi I 108 (1 : Int).toNat
    rw [row 108 (by decide)]
  have e9 : HR I1 1 9 0 = H 9 0 := by
    rw [← eH]
    show gi I1 109 (1 : Int).toNat = gi I 109 (1 : Int).toNat
    rw [row 109 (by decide)]
  have hn1 : gi I1 83 (gi I1 74 13).toNat = nR L := by rw [hb, h83, hn]
  have at_ : ∀ r : Nat, r < nN L → HR I1 1 1 r = ((f r : Nat) : Int) ∧ HR I1 1 4 r = -1 ∧ HR I1 1 5 r = 0 := fun r hr => by
    have hr2 : r < (nR L).toNat := hr
    have hin : 0 ≤ (r : Int) ∧ (r : Int) < gi I1 83 (gi I1 74 13).toNat := ⟨by omega, by rw [hn1]; omega⟩
    obtain ⟨a, b, c⟩ := h1 r hr
    have ei : ((6 * 1) + (r : Int)).toNat = 6 + r := by omega
    refine ⟨?_, ?_, ?_⟩
    · show tr (gi I1 83 (gi I1 74 13).toNat) (gi I1 110 ((6 * 1) + (r : Int)).toNat) r = _
      rw [tr_in hin, ei, a]
    · show tr (gi I1 83 (gi I1 74 13).toNat) (gi I1 113 ((6 * 1) + (r : Int)).toNat) r = _
      rw [tr_in hin, ei, b]
    · show tr (gi I1 83 (gi I1 74 13).toNat) (gi I1 114 ((6 * 1) + (r : Int)).toNat) r = _
      rw [tr_in hin, ei, c]
  have ek : ∀ i, kn (HR I1 1) i = kn H i := fun i => by
    unfold kn
    rw [e2, e3]
  have hW : WfH L (HR I1 1) := by
    refine ⟨by rw [e8]; exact hH.1, by rw [e9]; exact hH.2.1, fun r r0 r1 => ?_⟩
    obtain ⟨w1, w2, w3, w23, w6, w7, -⟩ := hH.2.2 r r0 r1
    have er : r = ((r.toNat : Nat) : Int) := by omega
    have hrn : r.toNat < nN L := by
      show r.toNat < (nR L).toNat
      omega
    obtain ⟨a, b, c⟩ := at_ r.toNat hrn
    rw [← er] at a b c
    have ht := hT r.toNat hrn
    have ht2 : f r.toNat < (nT L).toNat := ht
    refine ⟨?_, ?_, ?_, ?_, ?_, ?_, Or.inl ⟨b, c⟩⟩
    · rw [a]
      omega
    · rw [e2]
      exact w2
    · rw [e3]
      exact w3
    · rw [e2, e3]
      exact w23
    · rw [e6]
      exact w6
    · intro k k0 k1
      rw [e6] at k1
      rw [e7, ek]
      obtain ⟨u1, u2, u3⟩ := w7 k k0 k1
      exact ⟨u1, u2, fun j j0 j1 => by rw [e7]; exact u3 j j0 j1⟩
  refine ⟨⟨hX.1.fr hrl, rfl, hW, by decide, by decide⟩, fun r hr => ⟨(at_ r hr).1, hT r hr, ek r, (at_ r hr).2.1, ?_⟩, e8⟩
  unfold lsH
  rw [e6]
  exact lsF_congr (fun k _ _ => e7 _)
def seAns (L : Lb) (R : Rl) (H : Hl) (b : Nat) (x : Int) : Int := if x = -1 then seRd L R H (shd (tN L) (nN L) b) else if x = 20 then seWx L R H (shd (tN L) (nN L) b) else ((shd (tN L) (nN L) b x.toNat : Nat) : Int)
def seOK (L : Lb) (x : Int) : Prop := 0 < nR L ∧ (x = -1 ∨ x = 20 ∨ 0 ≤ x ∧ x < nR L)
/-- the best of the ways that were tried -/
def zeO (I : Nat → Nat → Int32) (L : Lb) (R : Rl) (H : Hl) (w : Nat) (x3 x4 : Int) : Prop := (w = 0 ∧ x3 = -1 ∧ x4 = 0) ∨ ∃ b, b < w ∧ x3 = seRd L R H (shd (tN L) (nN L) b) ∧ x4 = seWx L R H (shd (tN L) (nN L) b) ∧ (∀ r : Nat, r < nN L → gi I 129 r = ((shd (tN L) (nN L) b r : Nat) : Int)) ∧ ∀ v, v < w → zeV L R H (shd (tN L) (nN L) v) ≤ zeV L R H (shd (tN L) (nN L) b)
theorem scr_t5 {I I' : Nat → Nat → Int32} (h : ∀ c k : Nat, ¬ tch5 c k → I' c k = I c k) : scrS I I' := by
  intro c k h1 h2
  refine h c k (fun t => ?_)
  unfold tch5 at t
  simp [scrF] at h2
  omega
theorem S_X12_seatF {k : Nat} {P : Option Nat} {I : Nat → Nat → Int32} {J : Nat → Nat → Int64} {Q : Option AV → Mem → Prop} {L : Lb} {R : Rl} {H : Hl} {x : Int} (hk : 10 ≤ k) (hX : RX I 0 L R H) (hok : seOK L x) (h72 : gi I 74 72 = -1) (h73 : gi I 74 73 = -1) (h117 : 0 ≤ gi I 117 0 ∧ gi I 117 0 ≤ 60) (hQ : ∀ I' J' b, scrS I I' → scrJ J J' → seBest L R H b → Q (some (vI (seAns L R H b x))) (mem (rv0 P) I' J')) : WPm k LAY m_X12_seated [vR (some 74), vI x] (mem (rv0 P) I J) Q := by
  have hL := hX.1.2.2.2.2.1
  have hH := hX.2.2.1
  have hR6 := hL.2.2.1
  have hT5 := hL.2.2.2.1
  have hT0 := hL.2.2.2.2.2.2.1 hok.1
  have en : ((nN L : Nat) : Int) = nR L := by
    show (((nR L).toNat : Nat) : Int) = nR L
    omega
  have et : ((tN L : Nat) : Int) = nT L := by
    show (((nT L).toNat : Nat) : Int) = nT L
    omega
  have e6 : nN L ≤ 6 := by omega
  have e5 : tN L ≤ 5 := by omega
  have t0 : 0 < tN L := by omega
  have hx : inR x := by
    rcases hok.2 with e | e | e
    · rw [e]; decide
    · rw [e]; decide
    · exact ⟨by omega, by omega⟩
  have pT : ∀ d, d ≤ 6 → tN L ^ d ≤ 15625 := fun d hd => Nat.le_trans (Nat.pow_le_pow_left e5 d) (Nat.pow_le_pow_right (n := 5) (by decide) hd)
  have pTn := pT (nN L) e6
  have pT0 : 0 < tN L ^ nN L := Nat.pow_pos t0
  have sl : ∀ w r, shd (tN L) (nN L) w r < tN L := fun w r => shd_lt t0
  have rx0 : ∀ I1 : Nat → Nat → Int32, scrS I I1 → RX I1 0 L R H := fun I1 h => hX.fr0 h
  have dg : ∀ (w c : Nat), c + 1 ≤ nN L → shd (tN L) (nN L) w c = (w / tN L ^ (nN L - (c + 1))) % tN L ∧ w / tN L ^ (nN L - (c + 1)) / tN L = w / tN L ^ (nN L - c) := fun w c hc => by
    constructor
    · unfold shd
      rw [show nN L - 1 - c = nN L - (c + 1) by omega]
    · rw [Nat.div_div_eq_div_mul, ← Nat.pow_succ, show (nN L - (c + 1)).succ = nN L - c by omega]
  -- all ways
  have lp76 : ∀ (d w : Nat) (x3 x4 x5 : Int) (I1 : Nat → Nat → Int32) (J1 : Nat → Nat → Int64), w + d = tN L ^ nN L → x5 = w → scrS I I1 → scrJ J J1 → zeO I1 L R H w x3 x4 → WP k LAY m_X12_seated 76 [(0, vR (some 74)), (1, vI x), (2, vI ((tN L ^ nN L : Nat) : Int)), (3, vI x3), (4, vI x4), (5, vI x5)] [] (mem (P, some 5, some 22) I1 J1) Q := by
    intro d
    induction d with
    | zero =>
      intro w x3 x4 x5 I1 J1 hw h5 hs hj hO
      subst h5
      have ew : w = tN L ^ nN L := by omega
      rcases hO with ⟨z, -, -⟩ | ⟨b, b1, b2, b3, b4, b5⟩
      · omega
      · have hq := hQ I1 J1 b hs hj ⟨by omega, fun v hv => b5 v (by omega)⟩
        unfold seAns at hq
        refine B_X12_seated_76 (by omega) ⟨⟨by omega, by omega⟩, ⟨by omega, by omega⟩, fun _ => ⟨hx, fun z => ⟨fun z2 => ?_, fun z2 => ?_⟩, fun z => ?_⟩, fun z => absurd z (by omega)⟩
        · have hxr := (hok.2.resolve_left z).resolve_left z2
          rw [if_neg z, if_neg z2] at hq
          refine ⟨⟨by omega, by omega⟩, ?_⟩
          rw [b4 x.toNat (by omega)]
          exact hq
        · rw [if_neg z, if_pos z2] at hq
          rw [b3]
          exact hq
        · rw [if_pos z] at hq
          rw [b2]
          exact hq
    | succ d ih =>
      intro w x3 x4 x5 I1 J1 hw h5 hs hj hO
      subst h5
      have hwl : w < tN L ^ nN L := by omega
      have hX0 := rx0 I1 hs
      have hX1 := RX_cp hX0
      have c72 : gi (cpL I1 1 0) 74 72 = -1 := by
        unfold gi
        rw [cpL_cell (c := 74) (by decide)]
        exact (hs.gv 74 72 (by decide) (by decide)).trans h72
      have c73 : gi (cpL I1 1 0) 74 73 = -1 := by
        unfold gi
        rw [cpL_cell (c := 74) (by decide)]
        exact (hs.gv 74 73 (by decide) (by decide)).trans h73
      have c117 : gi (cpL I1 1 0) 117 (1 : Int).toNat = gi I 117 0 := (gi_eq (cpL_lay.1 117 (by decide))).trans (hs.gv 117 0 (by decide) (by decide))
      have c129 : gi (cpL I1 1 0) 129 = gi I1 129 := by
        unfold gi
        rw [cpL_cell (c := 129) (by decide)]
      have s1 : scrS I (cpL I1 1 0) := hs.tr (scr_cp I1)
      refine B_X12_seated_76 (by omega) ⟨⟨by omega, by omega⟩, ⟨by omega, by omega⟩, fun z => absurd z (by omega), fun _ => ?_⟩
      refine S_X12_copies (to := 1) (fr := 0) (by decide) (by decide) (by decide) ⟨_, _, rfl, rfl, rx_b hX1, ?_⟩
      rw [rx_n hX1]
      -- a night as they sit by this way
      have night : ∀ I2 : Nat → Nat → Int32, (∀ c k : Nat, ¬ tch5 c k → I2 c k = cpL I1 1 0 c k) → (∀ r : Nat, r < nN L → gi I2 110 (6 + r) = ((shd (tN L) (nN L) w r : Nat) : Int) ∧ gi I2 113 (6 + r) = -1 ∧ gi I2 114 (6 + r) = 0) → ∀ (x6 x7 : Int), x7 = -1 → WP k LAY m_X12_seated 105 [(0, vR (some 74)), (1, vI x), (2, vI ((tN L ^ nN L : Nat) : Int)), (3, vI x3), (4, vI x4), (5, vI (w : Int)), (6, vI x6), (7, vI x7)] [] (mem (P, some 5, some 22) I2 J1) Q := by
        intro I2 hf2 hd2 x6 x7 h7
        subst h7
        obtain ⟨hX2, hSe⟩ := RX_seats hX1 hf2 hd2 (fun r _ => sl w r)
        have g : ∀ c i, ¬ (c = 110 ∨ c = 113 ∨ c = 114) → gi I2 c i = gi (cpL I1 1 0) c i := fun c i h => congrArg Int32.toInt (hf2 c i (fun t => h t.1))
        refine B_X12_seated_105 (by omega) ⟨by decide, fun _ => ?_, fun z => absurd (by decide) z⟩
        refine S_X12_goes (by omega) hX2 ((g 74 72 (by decide)).trans c72) ((g 74 73 (by decide)).trans c73) (by rw [g 117 _ (by decide), c117]; exact h117) (fun I3 J3 hN hJ3 => ⟨_, _, _, rfl, rfl, ?_⟩)
        rw [se_wx hL hSe]
        have h77 : gi I3 74 77 = seRd L R H (shd (tN L) (nN L) w) := by
          have := hN.2.2.2.2.2.2.1
          rw [this]
          exact se_rd hL hSe
        have hX3 := hN.2.1
        have g129 : ∀ r, gi I3 129 r = gi I1 129 r := fun r => by
          have e1 : gi I3 129 r = gi I2 129 r := congrArg Int32.toInt (hN.1 129 r (by unfold tchA; omega))
          rw [e1, g 129 r (by decide), c129]
        have hs3 : scrS I I3 := (s1.tr (scr_t5 hf2)).tr (scr_tch hN.1)
        have hj3 : scrJ J J3 := hj.tr (J1_scr hJ3)
        have f0 : ∀ v, ∀ r, r < nN L → shd (tN L) (nN L) v r < tN L := fun v r _ => sl v r
        have w1 := seRd_bd (R := R) hL hH (f0 w)
        have w2 := seWx_bd (R := R) hL hH (f0 w)
        have evw : zeV L R H (shd (tN L) (nN L) w) = (seRd L R H (shd (tN L) (nN L) w) * 4096 + seWx L R H (shd (tN L) (nN L) w)) * 16384 - ((w : Nat) : Int) := by
          unfold zeV
          rw [wy_of hwl]
        dsimp only
        rw [h77]
        -- the way is no better
        have skip : (∃ b, b < w ∧ x3 = seRd L R H (shd (tN L) (nN L) b) ∧ x4 = seWx L R H (shd (tN L) (nN L) b) ∧ (∀ r : Nat, r < nN L → gi I1 129 r = ((shd (tN L) (nN L) b r : Nat) : Int)) ∧ (∀ v, v < w → zeV L R H (shd (tN L) (nN L) v) ≤ zeV L R H (shd (tN L) (nN L) b)) ∧ zeV L R H (shd (tN L) (nN L) w) ≤ zeV L R H (shd (tN L) (nN L) b)) → WP k LAY m_X12_seated 277 [(0, vR (some 74)), (1, vI x), (2, vI ((tN L ^ nN L : Nat) : Int)), (3, vI x3), (4, vI x4), (5, vI (w : Int))] [] (mem (P, some 5, some 22) I3 J3) Q := by
          intro hh
          obtain ⟨b, b1, b2, b3, b4, b5, b6⟩ := hh
          refine B_X12_seated_277 (by omega) (ih (w + 1) _ _ _ I3 J3 (by omega) rfl hs3 hj3 (Or.inr ⟨b, by omega, b2, b3, fun r hr => (g129 r).trans (b4 r hr), fun v hv => ?_⟩))
          by_cases e : v = w
          · rw [e]; exact b6
          · exact b5 v (by omega)
        -- the way is the best now
        have upd : (∀ v, v < w → zeV L R H (shd (tN L) (nN L) v) ≤ zeV L R H (shd (tN L) (nN L) w)) → WP k LAY m_X12_seated 233 [(0, vR (some 74)), (1, vI x), (2, vI ((tN L ^ nN L : Nat) : Int)), (3, vI (seRd L R H (shd (tN L) (nN L) w))), (4, vI (seWx L R H (shd (tN L) (nN L) w))), (5, vI (w : Int)), (6, vI (w : Int)), (8, vI (nR L - 1))] [] (mem (P, some 5, some 22) I3 J3) Q := by
          intro hall
          have lp233 : ∀ (c : Nat) (y6 y8 : Int) (I4 : Nat → Nat → Int32), c ≤ nN L → y8 = (c : Int) - 1 → y6 = ((w / tN L ^ (nN L - c) : Nat) : Int) → Fr [129] [] I3 I4 → (∀ r : Nat, c ≤ r → r < nN L → gi I4 129 r = ((shd (tN L) (nN L) w r : Nat) : Int)) → WP k LAY m_X12_seated 233 [(0, vR (some 74)), (1, vI x), (2, vI ((tN L ^ nN L : Nat) : Int)), (3, vI (seRd L R H (shd (tN L) (nN L) w))), (4, vI (seWx L R H (shd (tN L) (nN L) w))), (5, vI (w : Int)), (6, vI y6), (8, vI y8)] [] (mem (P, some 5, some 22) I4 J3) Q := by
            intro c
            induction c with
            | zero =>
              intro y6 y8 I4 hc h8 h6 hF hd
              subst h8
              refine B_X12_seated_233 (by omega) ⟨⟨by omega, by omega⟩, fun _ => ?_, fun z => absurd z (by omega)⟩
              refine B_X12_seated_277 (by omega) (ih (w + 1) _ _ _ I4 J3 (by omega) rfl (hs3.tr (hF.scr (by decide) (by simp))) hj3 (Or.inr ⟨w, Nat.lt_succ_self w, rfl, rfl, fun r hr => hd r (Nat.zero_le _) hr, fun v hv => ?_⟩))
              by_cases e : v = w
              · rw [e]; exact Int.le_refl _
              · exact hall v (by omega)
            | succ c ihc =>
              intro y6 y8 I4 hc h8 h6 hF hd
              subst h8; subst h6
              have hX4 := hX3.fr (hF.rx (by decide) (by simp))
              have dl : w / tN L ^ (nN L - (c + 1)) ≤ w := Nat.div_le_self _ _
              have q0 := Int.natCast_nonneg (w / tN L ^ (nN L - (c + 1)))
              obtain ⟨es, ed⟩ := dg w c hc
              have slc := sl w c
              refine B_X12_seated_233 (by omega) ?_
              rw [rx_t hX4, ← et, rem32_pos ⟨by omega, by omega⟩ ⟨by omega, by omega⟩, div32_pos ⟨by omega, by omega⟩ ⟨by omega, by omega⟩, show ((((c + 1 : Nat) : Int) - 1) : Int).toNat = c by omega, ← Int.natCast_emod, ← Int.natCast_ediv, ← es, ed]
              refine ⟨⟨by omega, by omega⟩, fun z => absurd z (by omega), fun _ => ⟨rx_b hX4, by omega, ⟨by omega, by omega⟩, by omega, ?_⟩⟩
              refine ihc _ _ _ (by omega) (by omega) rfl (hF.up 129 _ _ (Or.inl (by decide))) (fun r h1 h2 => ?_)
              by_cases e : r = c
              · rw [e]
                exact gi_same _ _ _ ⟨by omega, by omega⟩
              · exact (gi_idx _ _ _ e).trans (hd r (by omega) h2)
          refine lp233 (nN L) _ _ I3 (Nat.le_refl _) (by omega) ?_ (Fr.rf _ _ _) (fun r h1 h2 => absurd h2 (by omega))
          rw [Nat.sub_self, Nat.pow_zero, Nat.div_one]
        rcases hO with ⟨z1, z2, z3⟩ | ⟨b, b1, b2, b3, b4, b5⟩
        · subst z2; subst z3
          refine ⟨by decide, fun z => absurd z (by omega), fun _ => ⟨fun _ => ⟨rx_b hX3, ?_⟩, fun z => absurd z (by omega)⟩⟩
          rw [rx_n hX3]
          exact upd (fun v hv => absurd hv (by omega))
        · have v1 := seRd_bd (R := R) hL hH (f0 b)
          have v2 := seWx_bd (R := R) hL hH (f0 b)
          have evb : zeV L R H (shd (tN L) (nN L) b) = (seRd L R H (shd (tN L) (nN L) b) * 4096 + seWx L R H (shd (tN L) (nN L) b)) * 16384 - ((b : Nat) : Int) := by
            unfold zeV
            rw [wy_of (by omega)]
          have dn : zeV L R H (shd (tN L) (nN L) w) ≤ zeV L R H (shd (tN L) (nN L) b) → WP k LAY m_X12_seated 277 [(0, vR (some 74)), (1, vI x), (2, vI ((tN L ^ nN L : Nat) : Int)), (3, vI x3), (4, vI x4), (5, vI (w : Int))] [] (mem (P, some 5, some 22) I3 J3) Q := fun h => skip ⟨b, b1, b2, b3, b4, b5, h⟩
          have up : zeV L R H (shd (tN L) (nN L) b) ≤ zeV L R H (shd (tN L) (nN L) w) → WP k LAY m_X12_seated 233 [(0, vR (some 74)), (1, vI x), (2, vI ((tN L ^ nN L : Nat) : Int)), (3, vI (seRd L R H (shd (tN L) (nN L) w))), (4, vI (seWx L R H (shd (tN L) (nN L) w))), (5, vI (w : Int)), (6, vI (w : Int)), (8, vI (nR L - 1))] [] (mem (P, some 5, some 22) I3 J3) Q := fun h => upd (fun v hv => Int.le_trans (b5 v hv) h)
          rw [evw, evb] at dn up
          have dn2 := dn
          have up2 := up
          rw [rx_n hX3]
          refine ⟨⟨by omega, by omega⟩, fun z => dn (by omega), fun z => ⟨fun z2 => ⟨rx_b hX3, up (by omega)⟩, fun z2 => ⟨⟨by omega, by omega⟩, ⟨by omega, by omega⟩, fun z3 => ⟨rx_b hX3, up (by omega)⟩, fun z3 => dn (by omega)⟩⟩⟩
      -- the seats of the way
      have lp105 : ∀ (c : Nat) (x6 x7 : Int) (I2 : Nat → Nat → Int32), c ≤ nN L → x7 = (c : Int) - 1 → x6 = ((w / tN L ^ (nN L - c) : Nat) : Int) → (∀ c k : Nat, ¬ tch5 c k → I2 c k = cpL I1 1 0 c k) → (∀ r : Nat, c ≤ r → r < nN L → gi I2 110 (6 + r) = ((shd (tN L) (nN L) w r : Nat) : Int) ∧ gi I2 113 (6 + r) = -1 ∧ gi I2 114 (6 + r) = 0) → WP k LAY m_X12_seated 105 [(0, vR (some 74)), (1, vI x), (2, vI ((tN L ^ nN L : Nat) : Int)), (3, vI x3), (4, vI x4), (5, vI (w : Int)), (6, vI x6), (7, vI x7)] [] (mem (P, some 5, some 22) I2 J1) Q := by
        intro c
        induction c with
        | zero =>
          intro x6 x7 I2 hc h7 h6 hf hd
          exact night I2 hf (fun r hr => hd r (Nat.zero_le _) hr) x6 x7 (by omega)
        | succ c ihc =>
          intro x6 x7 I2 hc h7 h6 hf hd
          subst h7; subst h6
          have row : ∀ c, ¬ (c = 110 ∨ c = 113 ∨ c = 114) → gi I2 c = gi (cpL I1 1 0) c := fun c hc => funext fun k => congrArg Int32.toInt (hf c k (fun t => hc t.1))
          have e74 : gi I2 74 13 = gi (cpL I1 1 0) 74 13 := by rw [row 74 (by decide)]
          have eT : gi I2 86 (gi I2 74 13).toNat = ((tN L : Nat) : Int) := by rw [e74, row 86 (by decide), rx_t hX1, et]
          have dl : w / tN L ^ (nN L - (c + 1)) ≤ w := Nat.div_le_self _ _
          have q0 := Int.natCast_nonneg (w / tN L ^ (nN L - (c + 1)))
          obtain ⟨es, ed⟩ := dg w c hc
          have slc := sl w c
          refine B_X12_seated_105 (by omega) ?_
          rw [eT, rem32_pos ⟨by omega, by omega⟩ ⟨by omega, by omega⟩, div32_pos ⟨by omega, by omega⟩ ⟨by omega, by omega⟩, show ((6 + (((c + 1 : Nat) : Int) - 1)) : Int).toNat = 6 + c by omega, ← Int.natCast_emod, ← Int.natCast_ediv, ← es, ed]
          refine ⟨⟨by omega, by omega⟩, fun z => absurd z (by omega), fun _ => ⟨by rw [e74]; exact rx_b hX1, by omega, ⟨by omega, by omega⟩, by omega, ?_⟩⟩
          refine ihc _ _ _ (by omega) (by omega) rfl (fun c' k' ht => ?_) (fun r h1 h2 => ?_)
          · have n : ∀ a : Nat, a = 110 ∨ a = 113 ∨ a = 114 → ¬ (c' = a ∧ k' = 6 + c) := fun a ha q => ht ⟨by omega, by omega, by omega⟩
            rw [si_at, if_neg (n 114 (by omega)), si_at, if_neg (n 113 (by omega)), si_at, if_neg (n 110 (by omega))]
            exact hf c' k' ht
          · by_cases e : r = c
            · subst e
              refine ⟨?_, ?_, ?_⟩
              · rw [gi_cell _ _ _ _ (by decide), gi_cell _ _ _ _ (by decide), gi_same _ _ _ ⟨by omega, by omega⟩]
              · rw [gi_cell _ _ _ _ (by decide), gi_same _ _ _ (by decide)]
              · rw [gi_same _ _ _ (by decide)]
            · obtain ⟨a, b, c3⟩ := hd r (by omega) h2
              refine ⟨?_, ?_, ?_⟩
              · rw [gi_cell _ _ _ _ (by decide), gi_cell _ _ _ _ (by decide), gi_idx _ _ _ (by omega), a]
              · rw [gi_cell _ _ _ _ (by decide), gi_idx _ _ _ (by omega), gi_cell _ _ _ _ (by decide), b]
              · rw [gi_idx _ _ _ (by omega), gi_cell _ _ _ _ (by decide), gi_cell _ _ _ _ (by decide), c3]
      refine lp105 (nN L) _ _ _ (Nat.le_refl _) (by omega) ?_ (fun c k _ => rfl) (fun r h1 h2 => absurd h2 (by omega))
      rw [Nat.sub_self, Nat.pow_zero, Nat.div_one]
  -- how many ways
  have lp37 : ∀ (d j : Nat) (x2 x3 : Int), j + d = nN L → x3 = j → x2 = ((tN L ^ j : Nat) : Int) → WP k LAY m_X12_seated 37 [(0, vR (some 74)), (1, vI x), (2, vI x2), (3, vI x3)] [] (mem (P, some 5, some 22) I J) Q := by
    intro d
    induction d with
    | zero =>
      intro j x2 x3 hj h3 h2
      subst h3; subst h2
      have ej : j = nN L := by omega
      subst ej
      refine B_X12_seated_37 (by omega) ?_
      rw [rx_n hX]
      exact ⟨rx_b hX, ⟨by omega, by omega⟩, fun _ => lp76 (tN L ^ nN L) 0 _ _ _ I J (Nat.zero_add _) rfl (scrS.rf I) (scrJ.rf J) (Or.inl ⟨rfl, rfl, rfl⟩), fun z => absurd z (by omega)⟩
    | succ d ih =>
      intro j x2 x3 hj h3 h2
      subst h3; subst h2
      refine B_X12_seated_37 (by omega) ?_
      rw [rx_n hX, rx_t hX, ← et]
      refine ⟨rx_b hX, ⟨by omega, by omega⟩, fun z => absurd z (by omega), fun _ => ih (j + 1) _ _ (by omega) rfl ?_⟩
      rw [Nat.pow_succ, Int.natCast_mul]
  have go : WP k LAY m_X12_seated 37 [(0, vR (some 74)), (1, vI x), (2, vI 1), (3, vI 0)] [] (mem (P, some 5, some 22) I J) Q := lp37 (nN L) 0 1 0 (Nat.zero_add _) rfl (by rw [Nat.pow_zero]; rfl)
  refine WPm.of k_X12_seated.1 (Nat.le_of_ble_eq_true rfl) (B_X12_seated_0 (by omega) ?_)
  rw [rx_n hX]
  have h0 := hok.1
  exact ⟨rx_b hX, fun z => absurd z (by omega), fun _ => ⟨hx, fun _ => go, fun z => ⟨fun _ => go, fun z2 => ⟨fun _ => go, fun z3 => absurd ((hok.2.resolve_left z).resolve_left z2) z3⟩⟩⟩⟩
def sesS (I I' : Nat → Nat → Int32) : Prop := ∀ c k : Nat, scrC c = false → scrF c k = false → ¬ (64 ≤ c ∧ c ≤ 67) → ¬ (c = 63 ∧ 9 ≤ k ∧ k ≤ 12) → I' c k = I c k
def V_se (I : Nat → Nat → Int32) : Prop := gi I 63 9 ≤ gi I 4 6 ∧ (gi I 63 9 = gi I 4 6 → 0 < nR (LC I) → zeF I (LC I) (RC I) (HC I))
theorem Fr.ses {I I' : Nat → Nat → Int32} (h : Fr CFs FFs I I') : sesS I I' := fun c k a b n1 n2 => h c k (fun t => by
  simp at t
  rcases t with rfl | rfl | rfl | rfl | t
  · exact absurd a (by decide)
  · exact absurd a (by decide)
  · exact absurd a (by decide)
  · exact absurd a (by decide)
  · omega) (fun t => by
  simp at t
  rcases t with ⟨rfl, rfl⟩ | ⟨rfl, rfl⟩ | t
  · exact absurd b (by decide)
  · exact absurd b (by decide)
  · omega)
theorem zeF_fr {I I' : Nat → Nat → Int32} {L : Lb} {R : Rl} {H : Hl} (h : ∀ c i, c = 63 ∨ c = 67 → gi I' c i = gi I c i) (hF : zeF I L R H) : zeF I' L R H := by
  obtain ⟨b, b1, b2, b3, b4, b5⟩ := hF
  exact ⟨b, b1, (h 63 10 (Or.inl rfl)).trans b2, (h 63 11 (Or.inl rfl)).trans b3, (h 63 12 (Or.inl rfl)).trans b4, fun r hr => (h 67 r (Or.inr rfl)).trans (b5 r hr)⟩
theorem step_seated {V V' : Cpl} (hS : Vsc V V') (hA : ∀ I J, V I J → VA I ∧ 0 ≤ gi I 117 0 ∧ gi I 117 0 ≤ 60) (hM : ∀ I J, V I J → V_se I) (hput : ∀ I J I' J', V I J → sesS I I' → V_se I' → scrJ J J' → V' I' J') (x : Int) (hx : inR x) : Step V V' m_X11_seated m_X12_seated [x] := by
  intro P I J hV
  obtain ⟨⟨hC, hR, h72, h73⟩, h117⟩ := hA I J hV
  obtain ⟨st0, st1⟩ := hM I J hV
  have hL := hC.1.2.2.2.1
  have hH := hC.2.2
  have hR6 := hL.2.2.1
  have hT5 := hL.2.2.2.1
  have e2 : gi I 6 2 = nR (LC I) := cx_n hC
  -- nobody, or none such
  have no : ¬ seOK (LC I) x → ∃ z', some (vI (-1)) = some (vI z') ∧ inR z' ∧ (mem (rv0 P) I J).1 = LAY ∧ WPm 900 LAY m_X12_seated (vR (some 74) :: [x].map vI) (mem (rv0 P) I J) (fun r2 M2 => r2 = some (vI z') ∧ Cpl2 V' M2) := fun h => by
    refine Step.put (by decide) rfl (WPm.of k_X12_seated.1 (Nat.le_of_ble_eq_true rfl) (B_X12_seated_0 (by omega) ?_))
    rw [rx_n hR]
    have q : some (vI (-1)) = some (vI (-1)) ∧ Cpl2 V' (mem (P, some 5, some 22) I J) := ⟨rfl, Cpl2.here (hS I J I J hV (scrS.rf I) (scrJ.rf J))⟩
    refine ⟨rx_b hR, fun _ => q, fun z => ⟨hx, fun z1 => absurd ⟨by omega, Or.inl z1⟩ h, fun z1 => ⟨fun z2 => absurd ⟨by omega, Or.inr (Or.inl z2)⟩ h, fun z2 => ⟨fun z3 => absurd ⟨by omega, Or.inr (Or.inr z3)⟩ h, fun _ => q⟩⟩⟩⟩
  have fnd : seOK (LC I) x → WPm (900 - 1) LAY m_X5_find [vR (some 63)] (mem (P, some 5, some 22) I J) (retV (fun I3 J4 => (¬ x = (-1) → ((¬ x = 20 → (((gi I3 6 3) ≤ 0 → ((fun r M1 => ∃ z, r = some (vI z) ∧ inR z ∧ M1.1 = LAY ∧ WPm 900 LAY m_X12_seated (vR (some 74) :: [x].map vI) M1 (fun r2 M2 => r2 = some (vI z) ∧ Cpl2 V' M2)) (some (vI 0)) (mem (P, some 5, some 22) I3 J4))) ∧ (¬ (gi I3 6 3) ≤ 0 → ((0 ≤ x ∧ x < 6) ∧ (((gi I3 67 (x).toNat) ≤ 0 → ((fun r M1 => ∃ z, r = some (vI z) ∧ inR z ∧ M1.1 = LAY ∧ WPm 900 LAY m_X12_seated (vR (some 74) :: [x].map vI) M1 (fun r2 M2 => r2 = some (vI z) ∧ Cpl2 V' M2)) (some (vI 0)) (mem (P, some 5, some 22) I3 J4))) ∧ (¬ (gi I3 67 (x).toNat) ≤ 0 → (¬ (gi I3 67 (x).toNat) = 0 ∧ (¬ (gi I3 6 3) = 0 ∧ ((fun r M1 => ∃ z, r = some (vI z) ∧ inR z ∧ M1.1 = LAY ∧ WPm 900 LAY m_X12_seated (vR (some 74) :: [x].map vI) M1 (fun r2 M2 => r2 = some (vI z) ∧ Cpl2 V' M2)) (some (vI (rem32 (div32 (gi I3 63 12) (gi I3 67 (x).toNat)) (gi I3 6 3)))) (mem (P, some 5, some 22) I3 J4)))))))))) ∧ (x = 20 → ((fun r M1 => ∃ z, r = some (vI z) ∧ inR z ∧ M1.1 = LAY ∧ WPm 900 LAY m_X12_seated (vR (some 74) :: [x].map vI) M1 (fun r2 M2 => r2 = some (vI z) ∧ Cpl2 V' M2)) (some (vI (gi I3 63 11))) (mem (P, some 5, some 22) I3 J4))))) ∧ (x = (-1) → ((fun r M1 => ∃ z, r = some (vI z) ∧ inR z ∧ M1.1 = LAY ∧ WPm 900 LAY m_X12_seated (vR (some 74) :: [x].map vI) M1 (fun r2 M2 => r2 = some (vI z) ∧ Cpl2 V' M2)) (some (vI (gi I3 63 10))) (mem (P, some 5, some 22) I3 J4)))) (P, some 5, some 22)) := by
    intro hok
    have hT0 := hL.2.2.2.2.2.2.1 hok.1
    refine S_X5_find (by omega) hC hok.1 (fun w => st1 w hok.1) (fun I1 J1 hF hJ f9 hf => ⟨_, _, rfl, rfl, ?_⟩)
    have hC1 := hC.fr (hF.cx (by decide) (by decide))
    have hR1 : RX I1 0 (LC I) (RC I) (HC I) := hR.fr (hF.rx (by decide) (by decide))
    have f46 := hF.gv 4 6 (by decide) (by decide)
    have hj1 : scrJ J J1 := hJ.scrJ (by simp) rfl
    obtain ⟨b, b1, b2, b3, b4, b5⟩ := id hf
    have ref : ∀ z : Int, z = seAns (LC I) (RC I) (HC I) b x → WPm 900 LAY m_X12_seated (vR (some 74) :: [x].map vI) (mem (rv0 P) I1 J1) (fun r2 M2 => r2 = some (vI z) ∧ Cpl2 V' M2) := by
      intro z hz
      refine S_X12_seatF (by omega) hR1 hok ((hF.gv 74 72 (by decide) (by decide)).trans h72) ((hF.gv 74 73 (by decide) (by decide)).trans h73) (by rw [hF.gv 117 0 (by decide) (by decide)]; exact h117) (fun I2 J2 b' hs hj hb' => ?_)
      have eb := b1.un hL hH (show 0 < tN (LC I) by show 0 < (nT (LC I)).toNat; omega) hb'
      refine ⟨congrArg (fun v : Int => some (vI v)) (by rw [hz, eb]), Cpl2.here (hput I J I2 J2 hV (fun c k a1 a2 a3 a4 => (hs c k a1 a2).trans (hF.ses c k a1 a2 a3 a4)) ?_ (hj1.tr hj))⟩
      have g : ∀ c i, c = 63 ∨ c = 67 → gi I2 c i = gi I1 c i := fun c i h => by
        rcases h with rfl | rfl <;> exact hs.gv _ i (by decide) (by simp [scrF])
      have hC2 := hC1.fr hs.cx
      unfold V_se
      rw [show LC I2 = LC I from hC2.1.1, show RC I2 = RC I from hC2.1.2.1, show HC I2 = HC I from hC2.2.1, g 63 9 (Or.inl rfl), f9, (hs.gv 4 6 (by decide) (by decide)).trans f46]
      exact ⟨Int.le_refl _, fun _ _ => zeF_fr g hf⟩
    have e3 : gi I1 6 3 = nT (LC I) := cx_t hC1
    refine ⟨fun z => ⟨fun z2 => ?_, fun z2 => Step.put (gi_in _ _ _) rfl (ref _ ?_)⟩, fun z => Step.put (gi_in _ _ _) rfl (ref _ ?_)⟩
    · have hxr := (hok.2.resolve_left z).resolve_left z2
      have hxn : x.toNat < nN (LC I) := by
        show x.toNat < (nR (LC I)).toNat
        omega
      have t0 : 0 < tN (LC I) := by
        show 0 < (nT (LC I)).toNat
        omega
      have et : ((tN (LC I) : Nat) : Int) = nT (LC I) := by
        show (((nT (LC I)).toNat : Nat) : Int) = nT (LC I)
        omega
      have e6 : nN (LC I) ≤ 6 := by
        show (nR (LC I)).toNat ≤ 6
        omega
      have p0 : 0 < tN (LC I) ^ (nN (LC I) - 1 - x.toNat) := Nat.pow_pos t0
      have p5 : tN (LC I) ^ (nN (LC I) - 1 - x.toNat) ≤ 3125 := pow5 (by omega) (by omega)
      have bw := wy_bd hL (f := shd (tN (LC I)) (nN (LC I)) b) (fun r _ => shd_lt t0)
      rw [wy_of b1.1] at bw
      have dl : b / tN (LC I) ^ (nN (LC I) - 1 - x.toNat) ≤ b := Nat.div_le_self _ _
      have q0 := Int.natCast_nonneg (b / tN (LC I) ^ (nN (LC I) - 1 - x.toNat))
      have sl := shd_lt (k := nN (LC I)) (w := b) (i := x.toNat) t0
      rw [e3, b5 x.toNat hxn, b4, ← et, div32_pos ⟨by omega, by omega⟩ ⟨by omega, by omega⟩, ← Int.natCast_ediv, rem32_pos ⟨by omega, by omega⟩ ⟨by omega, by omega⟩, ← Int.natCast_emod]
      refine ⟨fun w => absurd w (by omega), fun _ => ⟨⟨by omega, by omega⟩, fun w => absurd w (by omega), fun _ => ⟨by omega, by omega, ?_⟩⟩⟩
      change ∃ z, some (vI ((shd (tN (LC I)) (nN (LC I)) b x.toNat : Nat) : Int)) = some (vI z) ∧ _
      refine Step.put ⟨by omega, by omega⟩ rfl (ref _ ?_)
      unfold seAns
      rw [if_neg z, if_neg z2]
    · unfold seAns
      rw [if_neg z, if_pos z2]
      exact b3
    · unfold seAns
      rw [if_pos z]
      exact b2
  refine WPm.of k_X11_seated.1 (Nat.le_of_ble_eq_true rfl) (B_X11_seated_0 (by omega) ?_)
  rw [e2]
  refine ⟨hx, fun z => ⟨fun z2 => no (fun t => by have := t.1; omega), fun z2 => fnd ⟨by omega, Or.inl z⟩⟩, fun z => ⟨fun z1 => ⟨fun z2 => no (fun t => by have := t.1; omega), fun z2 => fnd ⟨by omega, Or.inr (Or.inl z1)⟩⟩, fun z1 => ⟨fun z2 => ⟨fun _ => no (fun t => by have := t.2; omega), fun _ => no (fun t => by have := t.2; omega)⟩, fun z2 => ⟨fun z3 => ⟨fun _ => no (fun t => by have := t.2; omega), fun _ => no (fun t => by have := t.2; omega)⟩, fun z3 => ⟨fun z4 => no (fun t => by have := t.1; omega), fun z4 => fnd ⟨by omega, Or.inr (Or.inr ⟨by omega, by omega⟩)⟩⟩⟩⟩⟩⟩
end SEATR

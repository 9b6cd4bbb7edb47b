section SHARER
/-! ===== the reference tries every way to share ===== -/
def psq (pg : Nat → Nat) (st : Nat) : Nat → Nat
  | 0 => 0
  | k + 1 => psq pg st k ||| (if st.testBit k = true then 2 ^ pg k else 0)
theorem psq_lt {pg : Nat → Nat} {n st : Nat} (hpg : ∀ i, i < n → pg i < 14) : ∀ k, k ≤ n → psq pg st k < 2 ^ 14
  | 0, _ => by
    show 0 < 2 ^ 14
    decide
  | k + 1, h => by
    rw [psq]
    refine or_lt14 (psq_lt hpg k (by omega)) ?_
    split
    · exact Nat.pow_lt_pow_right (by decide) (hpg k (by omega))
    · decide
theorem shd_succ {m k w i : Nat} (hi : i < k) : shd m (k + 1) w i = shd m k (w / m) i := by
  unfold shd
  rw [show k + 1 - 1 - i = (k - 1 - i) + 1 by omega, Nat.pow_succ, Nat.mul_comm (m ^ _) m, ← Nat.div_div_eq_div_mul]
theorem shd_last {m k w : Nat} : shd m (k + 1) w k = w % m := by
  unfold shd
  rw [show k + 1 - 1 - k = 0 by omega, Nat.pow_zero, Nat.div_one]
theorem shq_psq {pg : Nat → Nat} {m s st : Nat} : ∀ (n w : Nat), (∀ i, i < n → (st.testBit i = true ↔ shd m n w i = s)) → shq pg m s n w = psq pg st n
  | 0, _, _ => rfl
  | n + 1, w, h => by
    rw [shq, psq, shq_psq n (w / m) (fun i hi => by rw [h i (by omega), shd_succ hi])]
    have hn := h n (Nat.lt_succ_self n)
    rw [shd_last] at hn
    by_cases e : w % m = s
    · rw [if_pos e, if_pos (hn.mpr e)]
    · rw [if_neg e, if_neg (fun t => e (hn.mp t))]
/-- what the reference has measured of reader r for the set st -/
def shV (I : Nat → Nat → Int32) (L : Lb) (R : Rl) (H : Hl) (pg : Nat → Nat) (n r st : Nat) : Prop := gi I 126 (256 * r + st) = wko L R H r (psq pg st n) 0 ∧ gi I 127 (256 * r + st) = ngt (wko L R H r (psq pg st n) 0) (lno L R H r)
theorem S_X12_sharesOut {k : Nat} {P : Option Nat} {I : Nat → Nat → Int32} {J : Nat → Nat → Int64} {Q : Option AV → Mem → Prop} {L : Lb} {R : Rl} {H : Hl} {pg : Nat → Nat} {m n : Nat} (hk : 9 ≤ k) (hX : RX I 0 L R H) (hm : m ≤ 3 ∧ (m : Int) ≤ nR L) (hn : n ≤ 8) (h125 : ∀ j : Nat, j < n → gi I 125 j = ((pg j : Nat) : Int)) (hpg : ∀ i, i < n → pg i < 14) (h72 : gi I 74 72 = -1) (h73 : gi I 74 73 = -1) (hQ : ∀ I' J', Fr [126, 127] SA I I' → Fr [121] [] J J' → (∀ r : Nat, r < m → ∀ st : Nat, st < 2 ^ n → shV I' L R H pg n r st) → Q none (mem (rv0 P) I' J')) : WPm k LAY m_X12_sharesOut [vR (some 74), vI (n : Int), vI (m : Int)] (mem (rv0 P) I J) Q := by
  have hL := hX.1.2.2.2.2.1
  have h2n : 2 ^ n ≤ 2 ^ 8 := Nat.pow_le_pow_right (by decide) hn
  have esh : shl32 1 (n : Int) = ((2 ^ n : Nat) : Int) := shl1 (by omega)
  have rxm : ∀ I1 : Nat → Nat → Int32, Fr [126, 127] SA I I1 → RX I1 0 L R H := fun I1 hF => hX.fr (hF.rx (by decide) (by decide))
  -- one set of one reader
  have one : ∀ (r st : Nat) (I1 : Nat → Nat → Int32) (J1 : Nat → Nat → Int64), r < m → st < 2 ^ n → Fr [126, 127] SA I I1 → Fr [121] [] J J1 → (∀ I2 J2, Fr [126, 127] SA I I2 → Fr [121] [] J J2 → shV I2 L R H pg n r st → (∀ i, i ≠ 256 * r + st → gi I2 126 i = gi I1 126 i ∧ gi I2 127 i = gi I1 127 i) → WP k LAY m_X12_sharesOut 10 [(0, vR (some 74)), (1, vI (n : Int)), (2, vI (m : Int)), (3, vI (r : Int)), (4, vI ((st : Int) + 1))] [] (mem (P, some 5, some 22) I2 J2) Q) → ∀ (d j : Nat) (x5 x6 : Int), j + d = n → x6 = j → x5 = ((psq pg st j : Nat) : Int) → WP k LAY m_X12_sharesOut 24 [(0, vR (some 74)), (1, vI (n : Int)), (2, vI (m : Int)), (3, vI (r : Int)), (4, vI (st : Int)), (5, vI x5), (6, vI x6)] [] (mem (P, some 5, some 22) I1 J1) Q := by
    intro r st I1 J1 hr hst hF hJ hN d
    have hX1 := rxm I1 hF
    induction d with
    | zero =>
      intro j x5 x6 hj h6 h5
      subst h6; subst h5
      have ej : j = n := by omega
      subst ej
      have hps := psq_lt (st := st) hpg j (Nat.le_refl _)
      refine B_X12_sharesOut_24 (by omega) ⟨⟨by omega, by omega⟩, ⟨by omega, by omega⟩, fun _ => ?_, fun z => absurd (Int.le_refl _) z⟩
      refine S_X12_work (by omega) hX1 ⟨by omega, by omega⟩ hps (Or.inl ⟨rfl, rfl⟩) ((hF.gv 74 72 (by decide) (by decide)).trans h72) ((hF.gv 74 73 (by decide) (by decide)).trans h73) (fun I2 J2 hF2 hJ2 => ⟨_, _, _, rfl, rfl, ⟨by omega, by omega⟩, ?_⟩)
      rw [show ((256 * (r : Int)) + (st : Int)).toNat = 256 * r + st by omega]
      have wb : 0 ≤ wko L R H r (psq pg st j) 0 ∧ wko L R H r (psq pg st j) 0 ≤ 7000 := wrk_bd R H hL _ _
      rw [gi_same _ _ _ ⟨by omega, by omega⟩]
      have hF3 : Fr [126, 127] SA I (si I2 126 (256 * r + st) (wko L R H r (psq pg st j) 0)) := (hF.tr (hF2.mono (by simp) (by simp))).up 126 _ _ (Or.inl (by decide))
      have e3 : ∀ c i, ¬ (c = 126 ∧ i = 256 * r + st) → gi (si I2 126 (256 * r + st) (wko L R H r (psq pg st j) 0)) c i = gi I2 c i := fun c i h => by
        rw [gi_si _ _ _ _ _ ⟨by omega, by omega⟩, if_neg h]
      have e3s : gi (si I2 126 (256 * r + st) (wko L R H r (psq pg st j) 0)) 126 (256 * r + st) = wko L R H r (psq pg st j) 0 := gi_same _ _ _ ⟨by omega, by omega⟩
      generalize si I2 126 (256 * r + st) (wko L R H r (psq pg st j) 0) = I3 at hF3 e3 e3s ⊢
      refine S_X12_nights (by omega) (rxm I3 hF3) ⟨by omega, by omega⟩ wb ((hF3.gv 74 72 (by decide) (by decide)).trans h72) ((hF3.gv 74 73 (by decide) (by decide)).trans h73) (fun I4 J4 hF4 hJ4 => ⟨_, _, _, rfl, rfl, ?_⟩)
      have nb := ngt_bd wb (lno_bd (R := R) (H := H) hL (r : Int))
      have hI4 : inR (ngt (wko L R H r (psq pg st j) 0) (lno L R H r)) := ⟨by omega, by omega⟩
      refine hN _ _ ((hF3.tr (hF4.mono (by simp) (by simp))).up 127 _ _ (Or.inl (by decide))) ((hJ.tr hJ2).tr hJ4) ⟨?_, gi_same _ _ _ hI4⟩ (fun i hi => ⟨?_, ?_⟩)
      · rw [gi_cell _ _ _ _ (by decide), hF4.gv 126 _ (by decide) (by simp)]
        exact e3s
      · rw [gi_cell _ _ _ _ (by decide), hF4.gv 126 _ (by decide) (by simp), e3 126 i (fun t => hi t.2), hF2.gv 126 i (by decide) (by simp)]
      · rw [gi_idx _ _ _ hi, hF4.gv 127 _ (by decide) (by simp), e3 127 i (by omega), hF2.gv 127 i (by decide) (by simp)]
    | succ d ih =>
      intro j x5 x6 hj h6 h5
      subst h6; subst h5
      have hps := psq_lt (st := st) hpg j (by omega)
      have pj := hpg j (by omega)
      have e125 : gi I1 125 j = ((pg j : Nat) : Int) := (hF.gv 125 j (by decide) (by simp)).trans (h125 j (by omega))
      have ep : psq pg st (j + 1) = psq pg st j ||| (if st.testBit j = true then 2 ^ pg j else 0) := rfl
      refine B_X12_sharesOut_24 (by omega) ?_
      rw [has_iff (by omega) (by omega), Int.toNat_natCast, e125, shl1 (by omega), or32_nat (by omega) (pow_lt31 (by omega))]
      refine ⟨⟨by omega, by omega⟩, ⟨by omega, by omega⟩, fun z => absurd z (by omega), fun _ => ⟨fun z => ?_, fun z => ⟨⟨by omega, by omega⟩, ?_⟩⟩⟩
      · refine ih (j + 1) _ _ (by omega) rfl ?_
        have e0 : or32 ((psq pg st j : Nat) : Int) 0 = ((psq pg st j ||| 0 : Nat) : Int) := or32_nat (b := 0) (by omega) (by decide)
        rw [e0, ep, if_neg z]
      · refine ih (j + 1) _ _ (by omega) rfl ?_
        rw [ep, if_pos z]
  have lp10 : ∀ (r : Nat), r < m → (∀ I2 J2, Fr [126, 127] SA I I2 → Fr [121] [] J J2 → (∀ r' : Nat, r' < r + 1 → ∀ st : Nat, st < 2 ^ n → shV I2 L R H pg n r' st) → WP k LAY m_X12_sharesOut 2 [(0, vR (some 74)), (1, vI (n : Int)), (2, vI (m : Int)), (3, vI ((r : Int) + 1))] [] (mem (P, some 5, some 22) I2 J2) Q) → ∀ (d s : Nat) (x4 : Int) (I1 : Nat → Nat → Int32) (J1 : Nat → Nat → Int64), s + d = 2 ^ n → x4 = s → Fr [126, 127] SA I I1 → Fr [121] [] J J1 → (∀ r' : Nat, r' < r → ∀ st : Nat, st < 2 ^ n → shV I1 L R H pg n r' st) → (∀ st : Nat, st < s → shV I1 L R H pg n r st) → WP k LAY m_X12_sharesOut 10 [(0, vR (some 74)), (1, vI (n : Int)), (2, vI (m : Int)), (3, vI (r : Int)), (4, vI x4)] [] (mem (P, some 5, some 22) I1 J1) Q := by
    intro r hr hN d
    induction d with
    | zero =>
      intro s x4 I1 J1 hs h4 hF hJ hA hB
      subst h4
      refine B_X12_sharesOut_10 (by omega) ?_
      rw [esh]
      refine ⟨⟨by omega, by omega⟩, fun _ => hN I1 J1 hF hJ (fun r' hr' st hst => ?_), fun z => absurd z (by omega)⟩
      by_cases e : r' = r
      · subst e
        exact hB st (by omega)
      · exact hA r' (by omega) st hst
    | succ d ih =>
      intro s x4 I1 J1 hs h4 hF hJ hA hB
      subst h4
      refine B_X12_sharesOut_10 (by omega) ?_
      rw [esh]
      refine ⟨⟨by omega, by omega⟩, fun z => absurd z (by omega), fun _ => ?_⟩
      refine one r s I1 J1 hr (by omega) hF hJ (fun I2 J2 hF2 hJ2 hv ho => ?_) n 0 0 0 (Nat.zero_add _) rfl rfl
      refine ih (s + 1) _ I2 J2 (by omega) rfl hF2 hJ2 (fun r' hr' st hst => ?_) (fun st hst => ?_)
      · have h := hA r' hr' st hst
        have e := ho (256 * r' + st) (by omega)
        exact ⟨e.1.trans h.1, e.2.trans h.2⟩
      · by_cases e : st = s
        · subst e
          exact hv
        · have h := hB st (by omega)
          have e := ho (256 * r + st) (by omega)
          exact ⟨e.1.trans h.1, e.2.trans h.2⟩
  have lp2 : ∀ (d r : Nat) (x3 : Int) (I1 : Nat → Nat → Int32) (J1 : Nat → Nat → Int64), r + d = m → x3 = r → Fr [126, 127] SA I I1 → Fr [121] [] J J1 → (∀ r' : Nat, r' < r → ∀ st : Nat, st < 2 ^ n → shV I1 L R H pg n r' st) → WP k LAY m_X12_sharesOut 2 [(0, vR (some 74)), (1, vI (n : Int)), (2, vI (m : Int)), (3, vI x3)] [] (mem (P, some 5, some 22) I1 J1) Q := by
    intro d
    induction d with
    | zero =>
      intro r x3 I1 J1 hr h3 hF hJ hA
      subst h3
      have er : r = m := by omega
      subst er
      exact B_X12_sharesOut_2 (by omega) ⟨⟨by omega, by omega⟩, ⟨by omega, by omega⟩, fun _ => hQ I1 J1 hF hJ hA, fun z => absurd (Int.le_refl _) z⟩
    | succ d ih =>
      intro r x3 I1 J1 hr h3 hF hJ hA
      subst h3
      exact B_X12_sharesOut_2 (by omega) ⟨⟨by omega, by omega⟩, ⟨by omega, by omega⟩, fun z => absurd z (by omega), fun _ => lp10 r (by omega) (fun I2 J2 hF2 hJ2 hA2 => ih (r + 1) _ I2 J2 (by omega) rfl hF2 hJ2 hA2) (2 ^ n) 0 0 I1 J1 (Nat.zero_add _) rfl hF hJ hA (fun st hst => absurd hst (Nat.not_lt_zero _))⟩
  exact WPm.of k_X12_sharesOut.1 (Nat.le_of_ble_eq_true rfl) (B_X12_sharesOut_0 (by omega) (lp2 m 0 0 I J (Nat.zero_add _) rfl (Fr.rf _ _ _) (Fr.rf _ _ _) (fun r' hr' => absurd hr' (Nat.not_lt_zero _))))
/-- the best that the reference found so far -/
def shOR (I : Nat → Nat → Int32) (L : Lb) (R : Rl) (H : Hl) (pg : Nat → Nat) (m n : Nat) : Option Nat → Prop
  | none => gi I 74 82 = -1
  | some b => gi I 74 82 = shmo L R H pg m n b ∧ gi I 74 83 = shal L R H pg m n b ∧ ∀ i : Nat, i < n → gi I 128 i = ((shd m n b i : Nat) : Int)
abbrev FSr : List (Nat × Nat) := [(74, 82), (74, 83)]
theorem shd_lt {m k w i : Nat} (hm : 0 < m) : shd m k w i < m := Nat.mod_lt _ hm
theorem shB_skip {L : Lb} {R : Rl} {H : Hl} {pg : Nat → Nat} {m n w : Nat} {o : Option Nat} (h : shB L R H pg m n (fun v => v < w) o) (hs : shcn L R H pg m n w → ∃ b, o = some b ∧ geq (shkey L R H pg m n b) (shkey L R H pg m n w)) : shB L R H pg m n (fun v => v < w + 1) o := by
  rcases o with _ | b
  · intro v hv hf
    have hv : v < w + 1 := hv
    by_cases e : v = w
    · subst e
      obtain ⟨b, hb, -⟩ := hs hf
      cases hb
    · exact h v (show v < w by omega) hf
  · obtain ⟨h1, h2, h3⟩ := h
    have h1 : b < w := h1
    refine ⟨show b < w + 1 by omega, h2, fun v hv hf => ?_⟩
    have hv : v < w + 1 := hv
    by_cases e : v = w
    · subst e
      obtain ⟨b', hb, g⟩ := hs hf
      cases hb
      exact g
    · exact h3 v (show v < w by omega) hf
theorem shB_upd {L : Lb} {R : Rl} {H : Hl} {pg : Nat → Nat} {m n w : Nat} {o : Option Nat} (h : shB L R H pg m n (fun v => v < w) o) (hf : shcn L R H pg m n w) (hs : ∀ b, o = some b → geq (shkey L R H pg m n w) (shkey L R H pg m n b)) : shB L R H pg m n (fun v => v < w + 1) (some w) := by
  refine ⟨Nat.lt_succ_self w, hf, fun v hv hf2 => ?_⟩
  have hv : v < w + 1 := hv
  by_cases e : v = w
  · subst e
    exact geq.rf _
  · rcases o with _ | b
    · exact absurd hf2 (h v (show v < w by omega))
    · exact (hs b rfl).tr (h.2.2 v (show v < w by omega) hf2)
theorem S_X12_shares {k : Nat} {P : Option Nat} {I : Nat → Nat → Int32} {J : Nat → Nat → Int64} {Q : Option AV → Mem → Prop} {L : Lb} {R : Rl} {H : Hl} {pg : Nat → Nat} {m n : Nat} (hk : 10 ≤ k) (hX : RX I 0 L R H) (hm0 : 0 < m) (hm : m ≤ 3 ∧ (m : Int) ≤ nR L) (hn : n ≤ 8) (h125 : ∀ j : Nat, j < n → gi I 125 j = ((pg j : Nat) : Int)) (hpg : ∀ i, i < n → pg i < 14) (h72 : gi I 74 72 = -1) (h73 : gi I 74 73 = -1) (hQ : ∀ I' J' o, scrS I I' → scrJ J J' → shB L R H pg m n (fun w => w < m ^ n) o → shOR I' L R H pg m n o → Q (some (vI (if gi I' 74 82 = -1 then 0 else 1))) (mem (rv0 P) I' J')) : WPm k LAY m_X12_shares [vR (some 74), vI (n : Int), vI (m : Int)] (mem (rv0 P) I J) Q := by
  have hL := hX.1.2.2.2.2.1
  have h2n : 2 ^ n ≤ 2 ^ 8 := Nat.pow_le_pow_right (by decide) hn
  have hmn : m ^ n ≤ 6561 := Nat.le_trans (Nat.pow_le_pow_left hm.1 n) (Nat.pow_le_pow_right (n := 3) (by decide) hn)
  refine WPm.of k_X12_shares.1 (Nat.le_of_ble_eq_true rfl) (B_X12_shares_0 (by omega) ?_)
  refine S_X12_sharesOut (by omega) hX hm hn h125 hpg h72 h73 (fun I2 J2 hF2 hJ2 hA => ⟨_, _, rfl, rfl, ?_⟩)
  have hs2 : scrS I I2 := hF2.scr (by decide) (by decide)
  have hj2 : scrJ J J2 := J1_scr hJ2
  -- all ways
  have lp35 : ∀ (d w : Nat) (x4 : Int) (I1 : Nat → Nat → Int32) (o : Option Nat), w + d = m ^ n → x4 = w → Fr [128] FSr I2 I1 → shB L R H pg m n (fun v => v < w) o → shOR I1 L R H pg m n o → WP k LAY m_X12_shares 35 [(0, vR (some 74)), (1, vI (n : Int)), (2, vI (m : Int)), (3, vI ((m ^ n : Nat) : Int)), (4, vI x4)] [] (mem (P, some 5, some 22) I1 J2) Q := by
    intro d
    induction d with
    | zero =>
      intro w x4 I1 o hw h4 hF hB hO
      subst h4
      have ew : w = m ^ n := by omega
      have hq := hQ I1 J2 o (hs2.tr (hF.scr (by decide) (by decide))) hj2 (by rw [← ew]; exact hB) hO
      refine B_X12_shares_35 (by omega) ⟨⟨by omega, by omega⟩, ⟨by omega, by omega⟩, fun _ => ⟨fun z => ?_, fun z => ?_⟩, fun z => absurd z (by omega)⟩
      · rw [if_pos z] at hq
        exact hq
      · rw [if_neg z] at hq
        exact hq
    | succ d ih =>
      intro w x4 I1 o hw h4 hF hB hO
      subst h4
      have f126 : ∀ i, gi I1 126 i = gi I2 126 i := fun i => hF.gv 126 i (by decide) (by simp)
      have f127 : ∀ i, gi I1 127 i = gi I2 127 i := fun i => hF.gv 127 i (by decide) (by simp)
      have skip : (shcn L R H pg m n w → ∃ b, o = some b ∧ geq (shkey L R H pg m n b) (shkey L R H pg m n w)) → WP k LAY m_X12_shares 277 [(0, vR (some 74)), (1, vI (n : Int)), (2, vI (m : Int)), (3, vI ((m ^ n : Nat) : Int)), (4, vI (w : Int))] [] (mem (P, some 5, some 22) I1 J2) Q := fun hg => B_X12_shares_277 (by omega) (ih (w + 1) _ I1 o (by omega) rfl hF (shB_skip hB hg) hO)
      -- the way is the best now
      have upd : shcn L R H pg m n w → (∀ b, o = some b → geq (shkey L R H pg m n w) (shkey L R H pg m n b)) → WP k LAY m_X12_shares 249 [(0, vR (some 74)), (1, vI (n : Int)), (2, vI (m : Int)), (3, vI ((m ^ n : Nat) : Int)), (4, vI (w : Int)), (8, vI (w : Int)), (9, vI ((n : Int) - 1))] [] (mem (P, some 5, some 22) (si (si I1 74 82 (shmo L R H pg m n w)) 74 83 (shal L R H pg m n w)) J2) Q := by
        intro hf hg
        have mb := shmo_bd (R := R) (H := H) hL pg m n w
        have ab := shal_bd (R := R) (H := H) hL pg hm.1 n w
        have lp249 : ∀ (c : Nat) (x8 x9 : Int) (I3 : Nat → Nat → Int32), c ≤ n → x9 = (c : Int) - 1 → x8 = ((w / m ^ (n - c) : Nat) : Int) → Fr [128] FSr I2 I3 → gi I3 74 82 = shmo L R H pg m n w → gi I3 74 83 = shal L R H pg m n w → (∀ i : Nat, c ≤ i → i < n → gi I3 128 i = ((shd m n w i : Nat) : Int)) → WP k LAY m_X12_shares 249 [(0, vR (some 74)), (1, vI (n : Int)), (2, vI (m : Int)), (3, vI ((m ^ n : Nat) : Int)), (4, vI (w : Int)), (8, vI x8), (9, vI x9)] [] (mem (P, some 5, some 22) I3 J2) Q := by
          intro c
          induction c with
          | zero =>
            intro x8 x9 I3 hc h9 h8 hF3 g2 g3 g128
            subst h9
            exact B_X12_shares_249 (by omega) ⟨⟨by omega, by omega⟩, fun _ => B_X12_shares_277 (by omega) (ih (w + 1) _ I3 (some w) (by omega) rfl hF3 (shB_upd hB hf hg) ⟨g2, g3, fun i hi => g128 i (Nat.zero_le _) hi⟩), fun z => absurd z (by omega)⟩
          | succ c ihc =>
            intro x8 x9 I3 hc h9 h8 hF3 g2 g3 g128
            subst h9; subst h8
            have dl : w / m ^ (n - (c + 1)) ≤ w := Nat.div_le_self _ _
            have q0 := Int.natCast_nonneg (w / m ^ (n - (c + 1)))
            have es : shd m n w c = (w / m ^ (n - (c + 1))) % m := by
              unfold shd
              rw [show n - 1 - c = n - (c + 1) by omega]
            have ed : w / m ^ (n - (c + 1)) / m = w / m ^ (n - c) := by
              rw [Nat.div_div_eq_div_mul, ← Nat.pow_succ, show (n - (c + 1)).succ = n - c by omega]
            have sl := shd_lt (k := n) (w := w) (i := c) hm0
            refine B_X12_shares_249 (by omega) ?_
            rw [rem32_pos ⟨by omega, by omega⟩ ⟨by omega, by omega⟩, div32_pos ⟨by omega, by omega⟩ ⟨by omega, by omega⟩, show ((((c + 1 : Nat) : Int) - 1) : Int).toNat = c by omega, ← Int.natCast_emod, ← Int.natCast_ediv, ← es, ed]
            refine ⟨⟨by omega, by omega⟩, fun z => absurd z (by omega), fun _ => ⟨⟨by omega, by omega⟩, by omega, ⟨by omega, by omega⟩, by omega, ?_⟩⟩
            refine ihc _ _ _ (by omega) (by omega) rfl (hF3.up 128 _ _ (Or.inl (by decide))) ((gi_cell _ _ _ _ (by decide)).trans g2) ((gi_cell _ _ _ _ (by decide)).trans g3) (fun i h1 h2 => ?_)
            by_cases e : i = c
            · rw [e]
              exact gi_same _ _ _ ⟨by omega, by omega⟩
            · exact (gi_idx _ _ _ e).trans (g128 i (by omega) h2)
        refine lp249 n _ _ _ (Nat.le_refl _) rfl ?_ ((hF.up 74 82 _ (Or.inr (by decide))).up 74 83 _ (Or.inr (by decide))) ?_ ?_ (fun i h1 h2 => absurd h2 (by omega))
        · rw [Nat.sub_self, Nat.pow_zero, Nat.div_one]
        · rw [gi_idx _ _ _ (by decide), gi_same _ _ _ ⟨by omega, by omega⟩]
        · rw [gi_same _ _ _ ⟨by omega, by omega⟩]
      -- what each reader would have to do
      have lp53 : ∀ (e r : Nat) (x5 x6 x7 x8 : Int), r + e = m → x8 = r → x5 = mxF r (fun s => shn L R H pg m s n w) → x6 = smi r (fun s => shw L R H pg m s n w) → (x7 = 1 ∧ (∀ s : Nat, s < r → shn L R H pg m s n w ≠ -1) ∨ x7 = 0 ∧ ¬ shcn L R H pg m n w) → WP k LAY m_X12_shares 53 [(0, vR (some 74)), (1, vI (n : Int)), (2, vI (m : Int)), (3, vI ((m ^ n : Nat) : Int)), (4, vI (w : Int)), (5, vI x5), (6, vI x6), (7, vI x7), (8, vI x8)] [] (mem (P, some 5, some 22) I1 J2) Q := by
        intro e
        induction e with
        | zero =>
          intro r x5 x6 x7 x8 hr h8 h5 h6 h7
          subst h8
          have er : r = m := by omega
          subst er
          have h5 : x5 = shmo L R H pg r n w := h5
          have h6 : x6 = shal L R H pg r n w := h6
          subst h5; subst h6
          have mb := shmo_bd (R := R) (H := H) hL pg r n w
          have ab := shal_bd (R := R) (H := H) hL pg hm.1 n w
          have i7 : inR x7 := by rcases h7 with ⟨t, -⟩ | ⟨t, -⟩ <;> rw [t] <;> decide
          refine B_X12_shares_53 (by omega) ⟨⟨by omega, by omega⟩, ⟨by omega, by omega⟩, fun _ => ⟨i7, fun z => skip (fun hf => ?_), fun z => ?_⟩, fun z => absurd (Int.le_refl _) z⟩
          · rcases h7 with ⟨t, -⟩ | ⟨-, t⟩
            · rw [t] at z
              exact absurd z (by decide)
            · exact absurd hf t
          · have hf : shcn L R H pg r n w := by
              rcases h7 with ⟨-, t⟩ | ⟨t, -⟩
              · exact t
              · exact absurd t z
            rcases o with _ | b
            · exact ⟨fun _ => upd hf (fun b hb => by cases hb), fun z2 => absurd hO z2⟩
            · have bb := shmo_bd (R := R) (H := H) hL pg r n b
              have ba := shal_bd (R := R) (H := H) hL pg hm.1 n b
              have hlt : b < w := hB.1
              obtain ⟨o1, o2, -⟩ := hO
              rw [o1, o2]
              refine ⟨fun z2 => absurd z2 (by omega), fun _ => ⟨⟨by omega, by omega⟩, fun z3 => skip (fun _ => ⟨b, rfl, ?_⟩), fun z3 => ⟨fun z4 => upd hf (fun b' hb' => ?_), fun z4 => ⟨⟨by omega, by omega⟩, fun z5 => upd hf (fun b' hb' => ?_), fun z5 => skip (fun _ => ⟨b, rfl, ?_⟩)⟩⟩⟩⟩
              · unfold geq shkey
                dsimp only
                omega
              · cases hb'
                unfold geq shkey
                dsimp only
                omega
              · cases hb'
                unfold geq shkey
                dsimp only
                omega
              · unfold geq shkey
                dsimp only
                omega
        | succ e ihe =>
          intro r x5 x6 x7 x8 hr h8 h5 h6 h7
          subst h8
          have i7 : inR x7 := by rcases h7 with ⟨t, -⟩ | ⟨t, -⟩ <;> rw [t] <;> decide
          have b5 : 0 ≤ x5 ∧ x5 ≤ 7000 := by
            rw [h5]
            exact ⟨mxF_nn _ _, mxF_le (by decide) (fun i _ => (shn_bd hL).2)⟩
          -- his part of the way
          have lp71 : ∀ (c st : Nat) (x9 x10 x11 : Int), c ≤ n → x11 = (c : Int) - 1 → x10 = ((w / m ^ (n - c) : Nat) : Int) → x9 = ((st : Nat) : Int) → (∀ i, st.testBit i = true ↔ (c ≤ i ∧ i < n ∧ shd m n w i = r)) → WP k LAY m_X12_shares 71 [(0, vR (some 74)), (1, vI (n : Int)), (2, vI (m : Int)), (3, vI ((m ^ n : Nat) : Int)), (4, vI (w : Int)), (5, vI x5), (6, vI x6), (7, vI x7), (8, vI (r : Int)), (9, vI x9), (10, vI x10), (11, vI x11)] [] (mem (P, some 5, some 22) I1 J2) Q := by
            intro c
            induction c with
            | zero =>
              intro st x9 x10 x11 hc h11 h10 h9 hb
              subst h11; subst h9
              have hst : st < 2 ^ n := Nat.lt_pow_two_of_testBit st (fun i hi => by
                cases h : st.testBit i
                · rfl
                · exact absurd ((hb i).mp h).2.1 (by omega))
              have hA1 := hA r (by omega) st hst
              have eq : psq pg st n = shq pg m r n w := (shq_psq n w (fun i hi => ⟨fun t => ((hb i).mp t).2.2, fun t => (hb i).mpr ⟨Nat.zero_le _, hi, t⟩⟩)).symm
              have e127 : gi I1 127 (((256 * (r : Int)) + (st : Int)) : Int).toNat = shn L R H pg m r n w := by
                rw [show (((256 * (r : Int)) + (st : Int)) : Int).toNat = 256 * r + st by omega, f127, hA1.2, eq]
                rfl
              have e126 : gi I1 126 (((256 * (r : Int)) + (st : Int)) : Int).toNat = shw L R H pg m r n w := by
                rw [show (((256 * (r : Int)) + (st : Int)) : Int).toNat = 256 * r + st by omega, f126, hA1.1, eq]
                rfl
              have nb := shn_bd (R := R) (H := H) hL (pg := pg) (m := m) (s := r) (k := n) (w := w)
              have e5 : mxF (r + 1) (fun s => shn L R H pg m s n w) = max (mxF r (fun s => shn L R H pg m s n w)) (shn L R H pg m r n w) := rfl
              have e6 : smi (r + 1) (fun s => shw L R H pg m s n w) = smi r (fun s => shw L R H pg m s n w) + shw L R H pg m r n w := rfl
              have nx : ∀ x7' : Int, (x7' = 1 ∧ (∀ s : Nat, s < r + 1 → shn L R H pg m s n w ≠ -1) ∨ x7' = 0 ∧ ¬ shcn L R H pg m n w) → WP k LAY m_X12_shares 142 [(0, vR (some 74)), (1, vI (n : Int)), (2, vI (m : Int)), (3, vI ((m ^ n : Nat) : Int)), (4, vI (w : Int)), (5, vI x5), (6, vI x6), (8, vI (r : Int)), (9, vI (st : Int)), (11, vI (shn L R H pg m r n w))] [vI x7'] (mem (P, some 5, some 22) I1 J2) Q := by
                intro x7' h7'
                refine B_X12_shares_142 (by omega) ⟨⟨by omega, by omega⟩, ⟨by omega, by omega⟩, fun z => ?_, fun z => ?_⟩
                · refine B_X12_shares_158 (by omega) ⟨⟨by omega, by omega⟩, ?_⟩
                  rw [e126]
                  exact ihe (r + 1) _ _ _ _ (by omega) rfl (by rw [e5]; omega) (by rw [e6, h6]) h7'
                · refine B_X12_shares_158 (by omega) ⟨⟨by omega, by omega⟩, ?_⟩
                  rw [e126]
                  exact ihe (r + 1) _ _ _ _ (by omega) rfl (by rw [e5]; omega) (by rw [e6, h6]) h7'
              refine B_X12_shares_71 (by omega) ?_
              rw [e127]
              refine ⟨⟨by omega, by omega⟩, fun _ => ⟨⟨by omega, by omega⟩, i7, fun z => nx 0 (Or.inr ⟨rfl, ?_⟩), fun z => ⟨fun z2 => nx 0 (Or.inr ⟨rfl, fun t => t r (by omega) z2⟩), fun z2 => nx 1 (Or.inl ⟨rfl, fun s hs => ?_⟩)⟩⟩, fun z => absurd z (by omega)⟩
              · rcases h7 with ⟨t, -⟩ | ⟨-, t⟩
                · rw [t] at z
                  exact absurd z (by decide)
                · exact t
              · by_cases es : s = r
                · rw [es]
                  exact z2
                · rcases h7 with ⟨-, t⟩ | ⟨t, -⟩
                  · exact t s (by omega)
                  · exact absurd t z
            | succ c ihc =>
              intro st x9 x10 x11 hc h11 h10 h9 hb
              subst h11; subst h9; subst h10
              have dl : w / m ^ (n - (c + 1)) ≤ w := Nat.div_le_self _ _
              have q0 := Int.natCast_nonneg (w / m ^ (n - (c + 1)))
              have es : shd m n w c = (w / m ^ (n - (c + 1))) % m := by
                unfold shd
                rw [show n - 1 - c = n - (c + 1) by omega]
              have ed : w / m ^ (n - (c + 1)) / m = w / m ^ (n - c) := by
                rw [Nat.div_div_eq_div_mul, ← Nat.pow_succ, show (n - (c + 1)).succ = n - c by omega]
              have hst : st < 2 ^ n := Nat.lt_pow_two_of_testBit st (fun i hi => by
                cases h : st.testBit i
                · rfl
                · exact absurd ((hb i).mp h).2.1 (by omega))
              have ex : (((c + 1 : Nat) : Int) - 1) + (-1) = (c : Int) - 1 := by omega
              refine B_X12_shares_71 (by omega) ?_
              rw [rem32_pos ⟨by omega, by omega⟩ ⟨by omega, by omega⟩, div32_pos ⟨by omega, by omega⟩ ⟨by omega, by omega⟩, show (((c + 1 : Nat) : Int) - 1) = (c : Int) by omega, ← Int.natCast_emod, ← Int.natCast_ediv, ← es, ed, shl1 (by omega), or32_nat (by omega) (pow_lt31 (by omega))]
              have e0 : or32 ((st : Nat) : Int) 0 = ((st ||| 0 : Nat) : Int) := or32_nat (b := 0) (by omega) (by decide)
              refine ⟨⟨by omega, by omega⟩, fun z => absurd z (by omega), fun _ => ⟨⟨by omega, by omega⟩, by omega, ⟨by omega, by omega⟩, fun z => ⟨by omega, ?_⟩, fun z => ⟨by omega, ?_⟩⟩⟩
              · rw [e0, Nat.or_zero]
                refine ihc st _ _ _ (by omega) (by omega) rfl rfl (fun i => ?_)
                rw [hb i]
                constructor
                · intro t
                  exact ⟨by omega, t.2⟩
                · intro t
                  refine ⟨?_, t.2⟩
                  by_cases ei : i = c
                  · rw [ei] at t
                    exact absurd (Int.ofNat_inj.mpr t.2.2) z
                  · omega
              · refine ihc (st ||| 2 ^ c) _ _ _ (by omega) (by omega) rfl rfl (fun i => ?_)
                rw [Nat.testBit_or, Bool.or_eq_true, hb i, Nat.testBit_two_pow, decide_eq_true_iff]
                constructor
                · intro t
                  rcases t with t | t
                  · exact ⟨by omega, t.2⟩
                  · rw [← t]
                    exact ⟨Nat.le_refl _, by omega, Int.ofNat_inj.mp z⟩
                · intro t
                  by_cases ei : i = c
                  · exact Or.inr ei.symm
                  · exact Or.inl ⟨by omega, t.2⟩
          refine B_X12_shares_53 (by omega) ⟨⟨by omega, by omega⟩, ⟨by omega, by omega⟩, fun z => absurd z (by omega), fun _ => ?_⟩
          refine lp71 n 0 _ _ _ (Nat.le_refl _) rfl ?_ rfl (fun i => ?_)
          · rw [Nat.sub_self, Nat.pow_zero, Nat.div_one]
          · rw [Nat.zero_testBit]
            exact ⟨fun t => absurd t (by decide), fun t => absurd t.1 (by omega)⟩
      refine B_X12_shares_35 (by omega) ⟨⟨by omega, by omega⟩, ⟨by omega, by omega⟩, fun z => absurd z (by omega), fun _ => ?_⟩
      exact lp53 m 0 _ _ _ _ (Nat.zero_add _) rfl rfl rfl (Or.inl ⟨rfl, fun s hs => absurd hs (Nat.not_lt_zero _)⟩)
  -- how many ways
  have lp11 : ∀ (d j : Nat) (x3 x4 : Int), j + d = n → x4 = j → x3 = ((m ^ j : Nat) : Int) → WP k LAY m_X12_shares 11 [(0, vR (some 74)), (1, vI (n : Int)), (2, vI (m : Int)), (3, vI x3), (4, vI x4)] [] (mem (P, some 5, some 22) I2 J2) Q := by
    intro d
    induction d with
    | zero =>
      intro j x3 x4 hj h4 h3
      subst h4; subst h3
      have ej : j = n := by omega
      subst ej
      refine B_X12_shares_11 (by omega) ⟨⟨by omega, by omega⟩, ⟨by omega, by omega⟩, fun _ => ?_, fun z => absurd (Int.le_refl _) z⟩
      exact lp35 (m ^ j) 0 0 _ none (Nat.zero_add _) rfl ((Fr.rf _ _ I2).up 74 82 _ (Or.inr (by decide))) (fun v hv _ => absurd hv (Nat.not_lt_zero v)) (gi_same _ _ _ (by decide))
    | succ d ih =>
      intro j x3 x4 hj h4 h3
      subst h4; subst h3
      refine B_X12_shares_11 (by omega) ⟨⟨by omega, by omega⟩, ⟨by omega, by omega⟩, fun z => absurd z (by omega), fun _ => ?_⟩
      refine ih (j + 1) _ _ (by omega) rfl ?_
      rw [Nat.pow_succ, Int.natCast_mul]
  exact lp11 n 0 1 0 (Nat.zero_add _) rfl (by rw [Nat.pow_zero]; rfl)
end SHARER

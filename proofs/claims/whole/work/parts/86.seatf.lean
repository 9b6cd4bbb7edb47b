section SEATF
/-! ===== the class joins the tables and finds the best seats ===== -/
def flL (J : Nat → Nat → Int64) (a n : Nat) (z : Int) : Nat → Nat → Int64 := fun c => if c = a then (fun j => if j < n then iL z else J a j) else J c
theorem flL_succ (J : Nat → Nat → Int64) (a i : Nat) (z : Int) : sl (flL J a i z) a i z = flL J a (i + 1) z := by
  funext c
  by_cases h1 : c = a
  · subst h1
    funext j
    simp only [sl, up2, flL, if_true]
    by_cases h2 : j = i
    · subst h2; simp
    · by_cases h3 : j < i
      · simp [h2, h3, show j < i + 1 by omega]
      · simp [h2, h3, show ¬ j < i + 1 by omega]
  · simp [sl, up2, flL, h1]
theorem flL_0 (J : Nat → Nat → Int64) (a : Nat) (z : Int) : flL J a 0 z = J := by
  funext c
  by_cases h1 : c = a
  · subst h1; funext j; simp [flL]
  · simp [flL, h1]
theorem gl_flL (J : Nat → Nat → Int64) (a n : Nat) {z : Int} (hz : inL z) (k : Nat) (hk : k < n) : gl (flL J a n z) a k = z := by
  simp [gl, flL, hk, iL_to hz]
theorem fillL_loop {k a n : Nat} {rv : RV} {I : Nat → Nat → Int32} {J : Nat → Nat → Int64} {z : Int} {Q : Option AV → Mem → Prop} (ha : LAY[a]? = some (1, n)) (hn : n < 100000) (h : Q none (mem rv I (flL J a n z))) : ∀ (d i : Nat), i + d = n → WP k LAY m_J7_fill_d0a16 6 [(0, vR (some a)), (1, vL z), (3, vI (i : Int)), (4, vI (n : Int))] [] (mem rv I (flL J a i z)) Q := by
  intro d
  induction d with
  | zero =>
    intro i hi
    have e : i = n := by omega
    subst e
    refine st_iload_n (pc' := 7) dJ7_fill_d0a16_6 rfl rfl (j := 2) rfl ?_
    refine st_iload (pc' := 9) dJ7_fill_d0a16_7 rfl (j := 3) rfl ?_
    refine st_icmp_ge (tg := 22) (pc' := 12) dJ7_fill_d0a16_9 (by decide) rfl ⟨by omega, by omega⟩ ⟨by omega, by omega⟩ (fun c => ?_) (fun c => absurd (Int.le_refl _) c)
    exact st_vret dJ7_fill_d0a16_22 rfl rfl h
  | succ d ih =>
    intro i hi
    refine st_iload_n (pc' := 7) dJ7_fill_d0a16_6 rfl rfl (j := 2) rfl ?_
    refine st_iload (pc' := 9) dJ7_fill_d0a16_7 rfl (j := 3) rfl ?_
    refine st_icmp_ge (tg := 22) (pc' := 12) dJ7_fill_d0a16_9 (by decide) rfl ⟨by omega, by omega⟩ ⟨by omega, by omega⟩ (fun c => absurd c (by omega)) (fun c => ?_)
    refine st_aload_n (pc' := 13) dJ7_fill_d0a16_12 rfl rfl (j := 0) rfl ?_
    refine st_iload_n (pc' := 14) dJ7_fill_d0a16_13 rfl rfl (j := 2) rfl ?_
    refine st_lload_n (pc' := 15) dJ7_fill_d0a16_14 rfl rfl (j := 1) rfl ?_
    refine st_lastore (pc' := 16) (M' := mem rv I (sl (flL J a i z) a i z)) dJ7_fill_d0a16_15 rfl ha (by omega) ⟨by omega, by omega⟩ (by show mem rv I _ = _; rfl) ?_
    refine st_iinc (pc' := 19) (L' := [(3, vI ((i : Int) + 1)), (0, vR (some a)), (1, vL z), (4, vI (n : Int))]) (j := 2) dJ7_fill_d0a16_16 rfl (by decide) rfl rfl ?_
    refine st_goto (pc' := 6) dJ7_fill_d0a16_19 (by decide) ?_
    refine WP_sub (L' := [(0, vR (some a)), (1, vL z), (3, vI ((i + 1 : Nat) : Int)), (4, vI (n : Int))]) [1, 2, 0, 3] rfl ?_
    rw [flL_succ]
    exact ih (i + 1) (by omega)
theorem S_J7_fillL {k a n : Nat} {rv : RV} {I : Nat → Nat → Int32} {J : Nat → Nat → Int64} {z : Int} {Q : Option AV → Mem → Prop} (ha : LAY[a]? = some (1, n)) (hn : n < 100000) (h : Q none (mem rv I (flL J a n z))) : WPm k LAY m_J7_fill_d0a16 [vR (some a), vL z] (mem rv I J) Q := by
  refine WPm.of k_J7_fill_d0a16.1 (Nat.le_of_ble_eq_true rfl) ?_
  refine st_iconst (pc' := 1) dJ7_fill_d0a16_0 rfl ?_
  refine st_istore_n (pc' := 2) (L' := [(3, vI 0), (0, vR (some a)), (1, vL z)]) dJ7_fill_d0a16_1 rfl rfl (by decide) rfl ?_
  refine st_aload_n (pc' := 3) dJ7_fill_d0a16_2 rfl rfl (j := 1) rfl ?_
  refine st_alenJ (pc' := 4) (z := (n : Int)) dJ7_fill_d0a16_3 rfl ha (by rw [iI, Int32.ofInt_eq_ofNat]) ?_
  refine st_istore (pc' := 6) (L' := [(4, vI (n : Int)), (3, vI 0), (0, vR (some a)), (1, vL z)]) dJ7_fill_d0a16_4 rfl (by decide) rfl ?_
  refine WP_sub (L' := [(0, vR (some a)), (1, vL z), (3, vI ((0 : Nat) : Int)), (4, vI (n : Int))]) [2, 3, 1, 0] rfl ?_
  have h0 := fillL_loop (k := k) ha hn h n 0 (by omega)
  rw [flL_0] at h0
  exact h0
theorem S_X5_join {k : Nat} {P : Option Nat} {I : Nat → Nat → Int32} {J : Nat → Nat → Int64} {Q : Option AV → Mem → Prop} {n : Nat} (hn : n ≤ 6) (hb : ∀ S, S < 2 ^ n → (-10000000000000 ≤ gl J 69 S ∧ gl J 69 S ≤ 10000000000000) ∧ (-10000000000000 ≤ gl J 68 S ∧ gl J 68 S ≤ 10000000000000)) (h0 : gl J 68 0 = 0) (hQ : ∀ J', Fr [69] [] J J' → (∀ S, S < 2 ^ n → (∀ h, h &&& S = h → gl J 69 (dif S h) + gl J 68 h ≤ gl J' 69 S) ∧ ∃ h, h &&& S = h ∧ gl J' 69 S = gl J 69 (dif S h) + gl J 68 h) → Q none (mem (rv0 P) I J')) (hk : 2 ≤ k) : WPm k LAY m_X5_joinTable [vR (some 63), vI ((2 ^ n - 1 : Nat) : Int)] (mem (rv0 P) I J) Q := by
  have p64 : 2 ^ n ≤ 2 ^ 6 := Nat.pow_le_pow_right (by decide) hn
  have p1 := Nat.two_pow_pos n
  refine WPm.of k_X5_joinTable.1 (Nat.le_of_ble_eq_true rfl) (B_X5_joinTable_0 (by omega) ?_)
  have f68 : ∀ J1 : Nat → Nat → Int64, Fr [69] [] J J1 → ∀ i, gl J1 68 i = gl J 68 i := fun J1 h i => h.lv 68 i (by decide) (by simp)
  have lp2 : ∀ (S : Nat) (x2 : Int) (J1 : Nat → Nat → Int64), S < 2 ^ n → x2 = S → Fr [69] [] J J1 → (∀ i, i ≤ S → gl J1 69 i = gl J 69 i) → (∀ S', S < S' → S' < 2 ^ n → (∀ h, h &&& S' = h → gl J 69 (dif S' h) + gl J 68 h ≤ gl J1 69 S') ∧ ∃ h, h &&& S' = h ∧ gl J1 69 S' = gl J 69 (dif S' h) + gl J 68 h) → WP k LAY m_X5_joinTable 2 [(0, vR (some 63)), (2, vI x2)] [] (mem (P, some 5, some 22) I J1) Q := by
    intro S
    induction S with
    | zero =>
      intro x2 J1 hS h2 hF hlo hhi
      subst h2
      refine B_X5_joinTable_2 (by omega) ⟨by decide, fun _ => hQ J1 hF (fun S hS' => ?_), fun z => absurd (Int.le_refl _) z⟩
      by_cases e : S = 0
      · subst e
        have d0 : dif 0 0 = 0 := dif_0 0
        refine ⟨fun h hh => ?_, 0, rfl, ?_⟩
        · rw [Nat.and_zero] at hh
          rw [← hh, d0, h0, hlo 0 (Nat.le_refl _)]
          omega
        · rw [d0, h0, hlo 0 (Nat.le_refl _)]
          omega
      · exact hhi S (by omega) hS'
    | succ S ih =>
      intro x2 J1 hS h2 hF hlo hhi
      subst h2
      refine B_X5_joinTable_2 (by omega) ⟨⟨by omega, by omega⟩, fun z => absurd z (by omega), fun _ => ⟨⟨by omega, by omega⟩, ?_⟩⟩
      rw [Int.toNat_natCast, hlo (S + 1) (Nat.le_refl _)]
      have lp16 : ∀ (d a : Nat) (x3 x5 : Int), a ≤ d → x5 = a → a &&& (S + 1) = a → (∀ h, h &&& (S + 1) = h → (a < h ∨ h = 0) → gl J 69 (dif (S + 1) h) + gl J 68 h ≤ x3) → (∃ h, h &&& (S + 1) = h ∧ x3 = gl J 69 (dif (S + 1) h) + gl J 68 h) → WP k LAY m_X5_joinTable 16 [(0, vR (some 63)), (2, vI ((S + 1 : Nat) : Int)), (3, vL x3), (5, vI x5)] [] (mem (P, some 5, some 22) I J1) Q := by
        intro d
        have fin : ∀ (x3 : Int), (∀ h, h &&& (S + 1) = h → gl J 69 (dif (S + 1) h) + gl J 68 h ≤ x3) → (∃ h, h &&& (S + 1) = h ∧ x3 = gl J 69 (dif (S + 1) h) + gl J 68 h) → WP k LAY m_X5_joinTable 16 [(0, vR (some 63)), (2, vI ((S + 1 : Nat) : Int)), (3, vL x3), (5, vI 0)] [] (mem (P, some 5, some 22) I J1) Q := by
          intro x3 hup hat
          refine B_X5_joinTable_16 (by omega) ⟨by decide, fun _ => ⟨⟨by omega, by omega⟩, ?_⟩, fun z => absurd (Int.le_refl _) z⟩
          rw [Int.toNat_natCast]
          have x3b : inL x3 := by
            obtain ⟨h, hh, e⟩ := hat
            have b1 := (hb (dif (S + 1) h) (dif_lt hS)).1
            have b2 := (hb h (Nat.lt_of_le_of_lt (sub_le hh) hS)).2
            exact ⟨by omega, by omega⟩
          refine ih _ _ (by omega) (by omega) (hF.upL 69 _ _ (Or.inl (by decide))) (fun i hi => ?_) (fun S' h1 h2 => ?_)
          · rw [gl_idx _ _ _ (by omega)]
            exact hlo i (by omega)
          · by_cases e : S' = S + 1
            · rw [e, gl_same _ _ _ x3b]
              exact ⟨hup, hat⟩
            · rw [gl_idx _ _ _ e]
              exact hhi S' (by omega) h2
        induction d with
        | zero =>
          intro a x3 x5 had h5 ha hup hat
          have ea : a = 0 := by omega
          subst ea; subst h5
          exact fin x3 (fun h hh => hup h hh (by omega)) hat
        | succ d ihd =>
          intro a x3 x5 had h5 ha hup hat
          subst h5
          by_cases ea : a = 0
          · subst ea
            exact fin x3 (fun h hh => hup h hh (by omega)) hat
          · have al := sub_le ha
            have ed : and32 ((S + 1 : Nat) : Int) (xor32 (a : Int) (-1)) = ((dif (S + 1) a : Nat) : Int) := andn32_nat (by omega) (by omega)
            have dl := dif_le (S + 1) a
            have dlt : dif (S + 1) a < S + 1 := by
              rcases Nat.lt_or_ge (dif (S + 1) a) (S + 1) with q | q
              · exact q
              · have e1 : dif (S + 1) a = S + 1 := by omega
                have : a = 0 := by
                  refine Nat.eq_of_testBit_eq (fun i => ?_)
                  rw [Nat.zero_testBit]
                  cases hbi : a.testBit i
                  · rfl
                  · have hs := sub_bit ha hbi
                    have := dif_bit (S + 1) a i
                    rw [e1, hs, hbi] at this
                    exact absurd this (by decide)
                exact absurd this ea
            have x3b : inL x3 ∧ -100000000000000 ≤ x3 ∧ x3 ≤ 100000000000000 := by
              obtain ⟨h, hh, e⟩ := hat
              have b1 := (hb (dif (S + 1) h) (dif_lt hS)).1
              have b2 := (hb h (Nat.lt_of_le_of_lt (sub_le hh) hS)).2
              exact ⟨⟨by omega, by omega⟩, by omega, by omega⟩
            have b1 := (hb (dif (S + 1) a) (by omega)).1
            have b2 := (hb a (by omega)).2
            refine B_X5_joinTable_16 (by omega) ?_
            rw [ed, Int.toNat_natCast, Int.toNat_natCast, Int.toNat_natCast, hlo _ (by omega), f68 J1 hF, show ((a : Int) - 1) = ((a - 1 : Nat) : Int) by omega, and32_nat (by omega) (by omega)]
            refine ⟨⟨by omega, by omega⟩, fun z => absurd z (by omega), fun _ => ⟨⟨by omega, by omega⟩, ⟨by omega, by omega⟩, ?_⟩⟩
            refine S_J9_maxL (by omega) x3b.1 ⟨by omega, by omega⟩ ⟨_, _, _, rfl, rfl, ?_⟩
            refine ihd ((a - 1) &&& (S + 1)) _ _ (by have := Nat.and_le_left (n := a - 1) (m := S + 1); omega) rfl and_sub (fun h hh hc => ?_) ?_
            · by_cases e : h = a
              · rw [e]
                omega
              · have : a < h ∨ h = 0 := by
                  rcases hc with c | c
                  · rcases Nat.lt_or_ge a h with q | q
                    · exact Or.inl q
                    · have := sub_next n (S + 1) a h (by omega) hh ha (by omega)
                      omega
                  · exact Or.inr c
                have := hup h hh this
                omega
            · rcases Int.le_total x3 (gl J 69 (dif (S + 1) a) + gl J 68 a) with q | q
              · exact ⟨a, ha, by omega⟩
              · obtain ⟨h, hh, e⟩ := hat
                exact ⟨h, hh, by omega⟩
      refine lp16 (S + 1) (S + 1) _ _ (Nat.le_refl _) rfl (Nat.and_self _) (fun h hh hc => ?_) ⟨0, Nat.zero_and _, ?_⟩
      · have := sub_le hh
        have e : h = 0 := by omega
        rw [e, dif_0, h0]
        omega
      · rw [dif_0, h0]
        omega
  exact lp2 (2 ^ n - 1) _ J (by omega) rfl (Fr.rf _ _ _) (fun i _ => rfl) (fun S' h1 h2 => absurd h2 (by omega))
theorem rem64_neg {m : Int} (hm : 0 < m ∧ m < 1000000000000) : rem64 (-m) 16384 = -(m % 16384) := by
  have e1 : (iL (-m) / iL 16384).toInt = -(m / 16384) := by
    have h1 : (iL (-m)).toInt = -m := iL_to ⟨by omega, by omega⟩
    have h2 : (iL 16384).toInt = 16384 := iL_to (by decide)
    rw [Int64.toInt_div, h1, h2, Int.neg_tdiv, Int.tdiv_eq_ediv_of_nonneg (by omega)]
    exact Int.bmod_eq_of_le (by omega) (by omega)
  have h0 : iL (-m) / iL 16384 = iL (-(m / 16384)) := by
    rw [← e1]
    exact (iL_of _).symm
  unfold rem64
  rw [h0, iL_mul, iL_sub, iL_to ⟨by omega, by omega⟩]
  omega
theorem S_fm14 {k : Nat} {rv : RV} {I : Nat → Nat → Int32} {J : Nat → Nat → Int64} {a : Int} {Q : Option AV → Mem → Prop} (ha : -1000000000000 < a ∧ a < 1000000000000) (h : Q (some (vL (a % 16384))) (mem rv I J)) : WPm k LAY m_J9_floorMod_f86c9 [vL a, vL 16384] (mem rv I J) Q := by
  refine WPm.of k_J9_floorMod_f86c9.1 (Nat.le_of_ble_eq_true rfl) (B_J9_floorMod_f86c9_0 (by omega) ?_)
  rw [xor64_sg ⟨by omega, by omega⟩ (by decide)]
  by_cases h0 : 0 ≤ a
  · have e := rem64_pos (a := a) (b := 16384) ⟨h0, by omega⟩ (by decide)
    refine ⟨by decide, by decide, fun _ => QatL h e.symm, fun q => absurd ⟨fun _ => by decide, fun _ => h0⟩ q⟩
  · have e := rem64_neg (m := -a) ⟨by omega, by omega⟩
    rw [Int.neg_neg] at e
    refine ⟨by decide, by decide, fun q => absurd (q.mpr (by decide)) h0, fun _ => ⟨fun z => QatL h ?_, fun z => QatL h ?_⟩⟩
    · rw [e] at z ⊢
      omega
    · rw [e] at z ⊢
      omega
theorem S_X5_tell {k : Nat} {P : Option Nat} {I : Nat → Nat → Int32} {J : Nat → Nat → Int64} {Q : Option AV → Mem → Prop} {a w b : Int} (ha : 0 ≤ a ∧ a ≤ 48) (hw : 0 ≤ w ∧ w ≤ 3000) (hb : 0 ≤ b ∧ b < 16384) (hk : 1 ≤ k) (hQ : Q none (mem (rv0 P) (si (si (si I 63 12 b) 63 11 w) 63 10 a) J)) : WPm k LAY m_X5_tellFound [vR (some 63), vL ((a * 4096 + w) * 16384 - b)] (mem (rv0 P) I J) Q := by
  refine WPm.of k_X5_tellFound.1 (Nat.le_of_ble_eq_true rfl) (B_X5_tellFound_0 (by omega) ?_)
  refine S_fm14 ⟨by omega, by omega⟩ ⟨_, _, _, rfl, rfl, ?_⟩
  rw [show (-((a * 4096 + w) * 16384 - b)) % 16384 = b by omega]
  dsimp only
  rw [show ((a * 4096 + w) * 16384 - b) + b = (a * 4096 + w) * 16384 by omega, div64_pos (a := (a * 4096 + w) * 16384) (b := 16384) ⟨by omega, by omega⟩ (by decide), show (a * 4096 + w) * 16384 / 16384 = a * 4096 + w by omega, rem64_pos (a := a * 4096 + w) (b := 4096) ⟨by omega, by omega⟩ (by decide), div64_pos (a := a * 4096 + w) (b := 4096) ⟨by omega, by omega⟩ (by decide), show (a * 4096 + w) % 4096 = w by omega, show (a * 4096 + w) / 4096 = a by omega]
  exact hQ
/-- what was found of the seats -/
def zeF (I : Nat → Nat → Int32) (L : Lb) (R : Rl) (H : Hl) : Prop := ∃ b, seBest L R H b ∧ gi I 63 10 = seRd L R H (shd (tN L) (nN L) b) ∧ gi I 63 11 = seWx L R H (shd (tN L) (nN L) b) ∧ gi I 63 12 = ((b : Nat) : Int) ∧ zeZ I L
abbrev CFs : List Nat := [37, 38, 40, 41, 64, 65, 66, 67]
abbrev FFs : List (Nat × Nat) := [(39, 4), (39, 5), (63, 9), (63, 10), (63, 11), (63, 12)]
theorem S_X5_find {k : Nat} {P : Option Nat} {I : Nat → Nat → Int32} {J : Nat → Nat → Int64} {Q : Option AV → Mem → Prop} {L : Lb} {R : Rl} {H : Hl} (hk : 12 ≤ k) (hX : CX I L R H) (hR : 0 < nR L) (hst : gi I 63 9 = gi I 4 6 → zeF I L R H) (hQ : ∀ I' J', Fr CFs FFs I I' → Fr [68, 69] [] J J' → gi I' 63 9 = gi I 4 6 → zeF I' L R H → Q none (mem (rv0 P) I' J')) : WPm k LAY m_X5_find [vR (some 63)] (mem (rv0 P) I J) Q := by
  have hL := hX.1.2.2.2.1
  have hH := hX.2.2
  have hR6 := hL.2.2.1
  have hT5 := hL.2.2.2.1
  have hT0 := hL.2.2.2.2.2.2.1 hR
  have en : ((nN L : Nat) : Int) = nR L := by
    show (((nR L).toNat : Nat) : Int) = nR L
    omega
  have et : ((tN L : Nat) : Int) = nT L := by
    show (((nT L).toNat : Nat) : Int) = nT L
    omega
  have e6 : nN L ≤ 6 := by omega
  have e5 : tN L ≤ 5 := by omega
  have t0 : 0 < tN L := by omega
  have p64 : 2 ^ nN L ≤ 2 ^ 6 := Nat.pow_le_pow_right (by decide) e6
  have p1 := Nat.two_pow_pos (nN L)
  have esh : shl32 1 ((nN L : Nat) : Int) = ((2 ^ nN L : Nat) : Int) := shl1 (by omega)
  have g46 := gi_in I 4 6
  -- the tables
  have lp102 : ∀ (d t : Nat) (x4 : Int) (I1 : Nat → Nat → Int32) (J1 : Nat → Nat → Int64), t + d = tN L → x4 = t → Fr CFs FFs I I1 → Fr [68, 69] [] J J1 → gi I1 63 9 = gi I 4 6 → zeZ I1 L → zeI (zeW L R H) (nN L) t (gl J1 69) → (∀ S, S < 2 ^ nN L → -1000000000000 ≤ gl J1 69 S ∧ gl J1 69 S ≤ (t : Int) * 10000000000) → WP k LAY m_X5_find 102 [(0, vR (some 63)), (1, vI ((tN L : Nat) : Int)), (2, vI ((nN L : Nat) : Int)), (4, vI x4)] [] (mem (P, some 5, some 22) I1 J1) Q := by
    intro d
    induction d with
    | zero =>
      intro t x4 I1 J1 ht h4 hF hJ h9 hZ hI hb
      subst h4
      have ett : t = tN L := by omega
      rw [ett] at hI
      obtain ⟨b, hb1, hb2⟩ := zeI.fin hL hH t0 hI
      have f0 : ∀ r, r < nN L → shd (tN L) (nN L) b r < tN L := fun r _ => shd_lt t0
      have c1 := seRd_bd (R := R) hL hH f0
      have c2 := seWx_bd (R := R) hL hH f0
      have c3 := wy_bd hL f0
      have ev : zeV L R H (shd (tN L) (nN L) b) = (seRd L R H (shd (tN L) (nN L) b) * 4096 + seWx L R H (shd (tN L) (nN L) b)) * 16384 - ((b : Nat) : Int) := by
        unfold zeV
        rw [wy_of hb1.1]
      rw [wy_of hb1.1] at c3
      refine B_X5_find_102 (by omega) ?_
      rw [esh, show (((2 ^ nN L : Nat) : Int) - 1).toNat = 2 ^ nN L - 1 by omega, hb2, ev]
      refine ⟨⟨by omega, by omega⟩, ⟨by omega, by omega⟩, fun _ => ⟨⟨by omega, by omega⟩, ?_⟩, fun z => absurd z (by omega)⟩
      refine S_X5_tell c1 c2 ⟨by omega, by omega⟩ (by omega) ⟨_, _, rfl, rfl, ?_⟩
      have hF2 : Fr CFs FFs I (si (si (si I1 63 12 ((b : Nat) : Int)) 63 11 (seWx L R H (shd (tN L) (nN L) b))) 63 10 (seRd L R H (shd (tN L) (nN L) b))) := ((hF.up 63 12 _ (Or.inr (by decide))).up 63 11 _ (Or.inr (by decide))).up 63 10 _ (Or.inr (by decide))
      refine hQ _ J1 hF2 hJ ?_ ⟨b, hb1, ?_, ?_, ?_, fun r hr => ?_⟩
      · rw [gi_idx _ _ _ (by decide), gi_idx _ _ _ (by decide), gi_idx _ _ _ (by decide)]
        exact h9
      · exact gi_same _ _ _ ⟨by omega, by omega⟩
      · rw [gi_idx _ _ _ (by decide), gi_same _ _ _ ⟨by omega, by omega⟩]
      · rw [gi_idx _ _ _ (by decide), gi_idx _ _ _ (by decide), gi_same _ _ _ ⟨by omega, by omega⟩]
      · rw [gi_cell _ _ _ _ (by decide), gi_cell _ _ _ _ (by decide), gi_cell _ _ _ _ (by decide)]
        exact hZ r hr
    | succ d ih =>
      intro t x4 I1 J1 ht h4 hF hJ h9 hZ hI hb
      subst h4
      have htt : t < tN L := by omega
      have hX1 := hX.fr (hF.cx (by decide) (by decide))
      refine B_X5_find_102 (by omega) ?_
      rw [esh, show (((2 ^ nN L : Nat) : Int) - 1) = ((2 ^ nN L - 1 : Nat) : Int) by omega]
      refine ⟨⟨by omega, by omega⟩, ⟨by omega, by omega⟩, fun z => absurd z (by omega), fun _ => ?_⟩
      refine S_X5_weighTable (by omega) hX1 htt hZ (fun I2 J2 hF2 hJ2 hW => ⟨_, _, rfl, rfl, ?_⟩)
      have e69 : ∀ i, gl J2 69 i = gl J1 69 i := fun i => hJ2.lv 69 i (by decide) (by simp)
      refine S_X5_join (n := nN L) e6 (fun S hS => ?_) ?_ (fun J3 hJ3 hj => ⟨_, _, rfl, rfl, ?_⟩) (by omega)
      · rw [e69, hW S hS]
        have b1 := hb S hS
        have b2 := zeW_bd (R := R) hL hH htt S
        omega
      · rw [hW 0 p1]
        exact zeW_0 t
      · have hF3 : Fr CFs FFs I1 I2 := hF2.mono (by decide) (by decide)
        refine ih (t + 1) _ I2 J3 (by omega) rfl (hF.tr hF3) ((hJ.tr (hJ2.mono (by decide) (by simp))).tr (hJ3.mono (by decide) (by simp))) ((hF2.gv 63 9 (by decide) (by decide)).trans h9) (fun r hr => (hF2.gv 67 r (by decide) (by simp)).trans (hZ r hr)) ?_ (fun S hS => ?_)
        · refine hI.step (fun S hS => (zeW_bd hL hH htt S).2) (fun S hS h hh => ?_) (fun S hS => ?_)
          · have := (hj S hS).1 h hh
            rwa [e69, hW h (Nat.lt_of_le_of_lt (sub_le hh) hS)] at this
          · obtain ⟨h, hh, e⟩ := (hj S hS).2
            refine ⟨h, hh, ?_⟩
            rwa [e69, hW h (Nat.lt_of_le_of_lt (sub_le hh) hS)] at e
        · obtain ⟨h, hh, e⟩ := (hj S hS).2
          have hl : h < 2 ^ nN L := Nat.lt_of_le_of_lt (sub_le hh) hS
          have up := (hj S hS).1 0 (Nat.zero_and S)
          rw [dif_0, hW 0 p1, zeW_0, e69] at up
          rw [e69, hW h hl] at e
          have b1 := hb (dif S h) (dif_lt hS)
          have b2 := hb S hS
          have b3 := zeW_bd (R := R) hL hH htt h
          omega
  -- the weights of the seats
  have lp59 : ∀ (c : Nat) (x3 x4 : Int) (I1 : Nat → Nat → Int32), c ≤ nN L → x4 = (c : Int) - 1 → x3 = ((tN L ^ (nN L - c) : Nat) : Int) → Fr CFs FFs I I1 → gi I1 63 9 = gi I 4 6 → (∀ r, c ≤ r → r < nN L → gi I1 67 r = ((tN L ^ (nN L - 1 - r) : Nat) : Int)) → WP k LAY m_X5_find 59 [(0, vR (some 63)), (1, vI ((tN L : Nat) : Int)), (2, vI ((nN L : Nat) : Int)), (3, vI x3), (4, vI x4)] [] (mem (P, some 5, some 22) I1 J) Q := by
    intro c
    induction c with
    | zero =>
      intro x3 x4 I1 hc h4 h3 hF h9 h67
      subst h4
      refine B_X5_find_59 (by omega) ⟨⟨by omega, by omega⟩, fun _ => ?_, fun z => absurd z (by omega)⟩
      refine S_J7_fillL (n := 64) rfl (by decide) ⟨_, _, rfl, rfl, ?_⟩
      have hn1 : inL (-1000000000000) := by decide
      have gg : ∀ S, S < 64 → S ≠ 0 → gl (sl (flL J 69 64 (-1000000000000)) 69 0 0) 69 S = -1000000000000 := fun S h1 h2 => by
        rw [gl_idx _ _ _ h2, gl_flL _ _ _ hn1 _ h1]
      have g0 : gl (sl (flL J 69 64 (-1000000000000)) 69 0 0) 69 0 = 0 := gl_same _ _ _ (by decide)
      have hJ2 : Fr [68, 69] [] J (sl (flL J 69 64 (-1000000000000)) 69 0 0) := by
        refine Fr.upL ?_ 69 0 0 (Or.inl (by decide))
        intro c j h1 h2
        have c69 : c ≠ 69 := fun z => h1 (by rw [z]; decide)
        rw [show flL J 69 64 (-1000000000000) c = J c from if_neg c69]
      refine lp102 (tN L) 0 0 I1 _ (Nat.zero_add _) rfl hF hJ2 h9 (fun r hr => h67 r (Nat.zero_le _) hr) (zeI_0 g0 (fun S hS h => gg S (by omega) h)) (fun S hS => ?_)
      by_cases e : S = 0
      · rw [e, g0]
        decide
      · rw [gg S (by omega) e]
        decide
    | succ c ih =>
      intro x3 x4 I1 hc h4 h3 hF h9 h67
      subst h4; subst h3
      have p5 : tN L ^ (nN L - (c + 1)) ≤ 3125 := pow5 e5 (by omega)
      refine B_X5_find_59 (by omega) ⟨⟨by omega, by omega⟩, fun z => absurd z (by omega), fun _ => ⟨⟨by omega, by omega⟩, ?_⟩⟩
      rw [show ((((c + 1 : Nat) : Int) - 1) : Int).toNat = c by omega]
      refine ih _ _ _ (by omega) (by omega) ?_ (hF.up 67 _ _ (Or.inl (by decide))) ((gi_cell _ _ _ _ (by decide)).trans h9) (fun r h1 h2 => ?_)
      · rw [← Int.natCast_mul, ← Nat.pow_succ, show (nN L - (c + 1)).succ = nN L - c by omega]
      · by_cases e : r = c
        · rw [e, gi_same _ _ _ ⟨by omega, by omega⟩, show nN L - 1 - c = nN L - (c + 1) by omega]
        · rw [gi_idx _ _ _ e]
          exact h67 r (by omega) h2
  refine WPm.of k_X5_find.1 (Nat.le_of_ble_eq_true rfl) (B_X5_find_0 (by omega) ⟨fun _ => ?_, fun z => ?_⟩)
  · rw [cx_n hX, cx_t hX, ← en, ← et]
    refine lp59 (nN L) _ _ _ (Nat.le_refl _) rfl ?_ ((Fr.rf _ _ I).up 63 9 _ (Or.inr (by decide))) (gi_same _ _ _ g46) (fun r h1 h2 => absurd h2 (by omega))
    rw [Nat.sub_self, Nat.pow_zero]
    rfl
  · exact hQ I J (Fr.rf _ _ _) (Fr.rf _ _ _) z (hst z)
end SEATF

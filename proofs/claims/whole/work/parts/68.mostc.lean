section MOSTC
/-! ===== most known: the class's search with cuts ===== -/
abbrev bst (I : Nat → Nat → Int32) : Key := (gi I 51 4, gi I 51 6, gi I 51 5)
def bstOk (I : Nat → Nat → Int32) : Prop := (-1 ≤ gi I 51 4 ∧ gi I 51 4 ≤ 14) ∧ (0 ≤ gi I 51 6 ∧ gi I 51 6 ≤ 7000) ∧ (0 ≤ gi I 51 5 ∧ gi I 51 5 < 16384)
abbrev FM : List (Nat × Nat) := [(51, 4), (51, 5), (51, 6)]
abbrev feM (L : Lb) (H : Hl) (r : Int) (t : Nat → Int) (lim : Int) (S : Nat) : Prop := feas (ndN L) (kn H r) (nP L).toNat t lim S
theorem mS_bd {n : Nat} {t : Nat → Int} (hn : n ≤ 14) (ht : ∀ p, p < n → 0 ≤ t p ∧ t p ≤ 500) (S : Nat) : 0 ≤ mS n t S ∧ mS n t S ≤ 7000 := by
  have h := smi_bd (n := n) (f := fun p => if S.testBit p = true then t p else 0) (b := 500) (by decide) (fun i hi => by
    have := ht i hi
    show 0 ≤ (if S.testBit i = true then t i else 0) ∧ (if S.testBit i = true then t i else 0) ≤ 500
    split <;> omega)
  unfold mS
  omega
theorem S_X8_choose {P : Option Nat} {J : Nat → Nat → Int64} {L : Lb} {R : Rl} {H : Hl} {r lim : Int} {t : Nat → Int} (hr : 0 ≤ r ∧ r < nR L) (ht : ∀ p, p < (nP L).toNat → 0 ≤ t p ∧ t p ≤ 500) (hlim : lim ≤ 297000) : ∀ (d m s k : Nat) (I : Nat → Nat → Int32) (Q : Option AV → Mem → Prop), m + d = (nP L).toNat → d + 3 ≤ k → CX I L R H → gi I 51 12 = r → gi I 51 10 = lim → (∀ p : Nat, p < (nP L).toNat → gi I 52 p = t p) → bstOk I → s < 2 ^ m → shut (ndN L) (kn H r) m s → mS m t s ≤ lim →
    (∀ I', Fr [] FM I I' → bstOk I' → geq (bst I') (bst I) → (bst I' = bst I ∨ ∃ S, feM L H r t lim S ∧ ext m s S ∧ bst I' = key (nP L).toNat t S) → (∀ S, feM L H r t lim S → ext m s S → geq (bst I') (key (nP L).toNat t S)) → Q none (mem (rv0 P) I' J)) → WPm k LAY m_X8_chooseMost [vR (some 51), vI (m : Int), vI (s : Int), vI (pop s : Int), vI (mS m t s)] (mem (rv0 P) I J) Q := by
  intro d
  induction d with
  | zero =>
    intro m s k I Q hmd hk hX e12 e10 e52 hb hs hsh hms hQ
    have hL := hX.1.2.2.2.1
    have hR6 := hL.2.2.1
    have hP := hL.2.1
    have em : m = (nP L).toNat := by omega
    subst em
    have ps := pop_le s
    have s14 : s < 16384 := Nat.lt_of_lt_of_le hs (pow_le14 (by omega))
    have mb := mS_bd (n := (nP L).toNat) (by omega) ht s
    obtain ⟨b4, b6, b5⟩ := hb
    have hfs : feM L H r t lim s := ⟨hs, hsh, hms⟩
    have only : ∀ S, feM L H r t lim S → ext (nP L).toNat s S → S = s := fun S h1 h2 => ext_eq hs h1.1 h2
    have cut : geq (bst I) (key (nP L).toNat t s) → Q none (mem (P, some 5, some 22) I J) := fun g => hQ I (Fr.rf _ _ _) ⟨b4, b6, b5⟩ (geq.rf _) (Or.inl rfl) (fun S h1 h2 => by rw [only S h1 h2]; exact g)
    have upd : geq (key (nP L).toNat t s) (bst I) → Q none (mem (P, some 5, some 22) (si (si (si I 51 4 (pop s : Int)) 51 5 (s : Int)) 51 6 (mS (nP L).toNat t s)) J) := by
      intro g
      have hF : Fr [] FM I (si (si (si I 51 4 (pop s : Int)) 51 5 (s : Int)) 51 6 (mS (nP L).toNat t s)) := (((Fr.rf _ _ I).up 51 4 _ (Or.inr (by decide))).up 51 5 _ (Or.inr (by decide))).up 51 6 _ (Or.inr (by decide))
      have g4 : gi (si (si (si I 51 4 (pop s : Int)) 51 5 (s : Int)) 51 6 (mS (nP L).toNat t s)) 51 4 = (pop s : Int) := by rw [gi_idx _ _ _ (by decide), gi_idx _ _ _ (by decide), gi_same _ _ _ ⟨by omega, by omega⟩]
      have g5 : gi (si (si (si I 51 4 (pop s : Int)) 51 5 (s : Int)) 51 6 (mS (nP L).toNat t s)) 51 5 = (s : Int) := by rw [gi_idx _ _ _ (by decide), gi_same _ _ _ ⟨by omega, by omega⟩]
      have g6 : gi (si (si (si I 51 4 (pop s : Int)) 51 5 (s : Int)) 51 6 (mS (nP L).toNat t s)) 51 6 = mS (nP L).toNat t s := gi_same _ _ _ ⟨by omega, by omega⟩
      generalize si (si (si I 51 4 (pop s : Int)) 51 5 (s : Int)) 51 6 (mS (nP L).toNat t s) = I' at hF g4 g5 g6 ⊢
      have eb : bst I' = key (nP L).toNat t s := by
        unfold bst key
        rw [g4, g5, g6]
      exact hQ I' hF ⟨by omega, by omega, by omega⟩ (by rw [eb]; exact g) (Or.inr ⟨s, hfs, fun _ _ => rfl, eb⟩) (fun S h1 h2 => by rw [only S h1 h2, eb]; exact geq.rf _)
    have rest : ¬ ((pop s : Int) < gi I 51 4) → ((pop s : Int) = gi I 51 4 → mS (nP L).toNat t s ≤ gi I 51 6) → (inR (((nP L).toNat : Nat) : Int) ∧ (((((nP L).toNat : Nat) : Int) < nP L → False) ∧ (¬ (((nP L).toNat : Nat) : Int) < nP L → (inR (pop s : Int) ∧ (((gi I 51 4) < (pop s : Int) → (Q none (mem (P, some 5, some 22) (si (si (si I 51 4 (pop s : Int)) 51 5 (s : Int)) 51 6 (mS (nP L).toNat t s)) J))) ∧ (¬ (gi I 51 4) < (pop s : Int) → (inR (mS (nP L).toNat t s) ∧ ((mS (nP L).toNat t s < (gi I 51 6) → (Q none (mem (P, some 5, some 22) (si (si (si I 51 4 (pop s : Int)) 51 5 (s : Int)) 51 6 (mS (nP L).toNat t s)) J))) ∧ (¬ mS (nP L).toNat t s < (gi I 51 6) → (inR (s : Int) ∧ (((gi I 51 5) ≤ (s : Int) → (Q none (mem (P, some 5, some 22) I J))) ∧ (¬ (gi I 51 5) ≤ (s : Int) → (Q none (mem (P, some 5, some 22) (si (si (si I 51 4 (pop s : Int)) 51 5 (s : Int)) 51 6 (mS (nP L).toNat t s)) J)))))))))))))) := by
      intro h1 h2
      refine ⟨⟨by omega, by omega⟩, fun q => absurd q (by omega), fun _ => ⟨⟨by omega, by omega⟩, fun q => upd (Or.inl q), fun q => ⟨⟨by omega, by omega⟩, fun q2 => upd ?_, fun q2 => ⟨⟨by omega, by omega⟩, fun q3 => cut ?_, fun q3 => upd ?_⟩⟩⟩⟩
      all_goals unfold geq key bst
      all_goals show _ ∨ _
      all_goals dsimp only
      all_goals omega
    refine WPm.of k_X8_chooseMost.1 (Nat.le_of_ble_eq_true rfl) (B_X8_chooseMost_0 (by omega) ?_)
    rw [cx_p hX, show ((pop s : Int) + nP L) - (((nP L).toNat : Nat) : Int) = (pop s : Int) by omega]
    have nolt : ¬ (((nP L).toNat : Nat) : Int) < nP L := by omega
    refine ⟨⟨by omega, by omega⟩, fun q => cut (Or.inl q), fun q => ⟨fun q2 => ?_, fun q2 => ⟨⟨by omega, by omega⟩, fun q3 => ?_, fun q3 => cut ?_⟩⟩⟩
    · obtain ⟨r1, -, r3⟩ := rest q (fun e => absurd e q2)
      exact ⟨r1, fun w => absurd w nolt, r3⟩
    · obtain ⟨r1, -, r3⟩ := rest q (fun _ => q3)
      exact ⟨r1, fun w => absurd w nolt, fun w => ⟨(r3 w).1, (r3 w).2.1, fun u => ((r3 w).2.2 u).2⟩⟩
    · unfold geq key bst
      dsimp only
      omega
  | succ d ih =>
    intro m s k I Q hmd hk hX e12 e10 e52 hb hs hsh hms hQ
    have hL := hX.1.2.2.2.1
    have hH := hX.2.2
    have hR6 := hL.2.2.1
    have hP := hL.2.1
    have ps := pop_le s
    have s14 : s < 16384 := Nat.lt_of_lt_of_le hs (pow_le14 (by omega))
    have mb := mS_bd (n := m) (t := t) (by omega) (fun p hp => ht p (by omega)) s
    have tm := ht m (by omega)
    have hkl := (kn_lt hL hH hr).2
    have hnd : ∀ p, p ≤ m → ndN L p < 2 ^ p := fun p hp => (nd_lt hL (by omega)).2
    have cut : (∀ S, feM L H r t lim S → ext m s S → geq (bst I) (key (nP L).toNat t S)) → Q none (mem (P, some 5, some 22) I J) := fun g => hQ I (Fr.rf _ _ _) hb (geq.rf _) (Or.inl rfl) g
    have low : ∀ S, feM L H r t lim S → ext m s S → mS m t s ≤ mS (nP L).toNat t S := fun S h1 h2 => by
      rw [← mS_ext h2]
      exact mS_le (fun p hp => (ht p hp).1) (by omega)
    have cnt : ∀ S, feM L H r t lim S → ext m s S → (pop S : Int) ≤ (pop s : Int) + nP L - m := fun S h1 h2 => by
      have := pop_ext (n := (nP L).toNat) (by omega) (by omega) hs h1.1 h2
      omega
    have e1 : ((m : Int) + 1) = ((m + 1 : Nat) : Int) := rfl
    -- without the page, from any memory behind
    have skip : ∀ (I2 : Nat → Nat → Int32) (Q2 : Option AV → Mem → Prop), Fr [] FM I I2 → bstOk I2 → (∀ I', Fr [] FM I2 I' → bstOk I' → geq (bst I') (bst I2) → (bst I' = bst I2 ∨ ∃ S, feM L H r t lim S ∧ ext (m + 1) s S ∧ bst I' = key (nP L).toNat t S) → (∀ S, feM L H r t lim S → ext (m + 1) s S → geq (bst I') (key (nP L).toNat t S)) → Q2 none (mem (rv0 P) I' J)) → WPm (k - 1) LAY m_X8_chooseMost [vR (some 51), vI ((m : Int) + 1), vI (s : Int), vI (pop s : Int), vI (mS m t s)] (mem (P, some 5, some 22) I2 J) Q2 := by
      intro I2 Q2 hF hb2 h2
      have := ih (m + 1) s (k - 1) I2 Q2 (by omega) (by omega) (hX.fr (hF.cx (by decide) (by decide))) ((hF.gv 51 12 (by decide) (by decide)).trans e12) ((hF.gv 51 10 (by decide) (by decide)).trans e10) (fun p hp => (hF.gv 52 p (by decide) (by simp)).trans (e52 p hp)) hb2 (lt_succ_s hs) (shut_out hs hsh) (by rw [mS_out hs]; exact hms) h2
      rw [mS_out hs] at this
      exact this
    have skp : (∀ S, feM L H r t lim S → ext m s S → S.testBit m = false) → WPm (k - 1) LAY m_X8_chooseMost [vR (some 51), vI ((m : Int) + 1), vI (s : Int), vI (pop s : Int), vI (mS m t s)] (mem (P, some 5, some 22) I J) (retV (fun I8 J9 => Q none (mem (P, some 5, some 22) I8 J9)) (P, some 5, some 22)) := by
      intro hno
      refine skip I _ (Fr.rf _ _ _) hb (fun I' f1 f2 f3 f4 f5 => ⟨_, _, rfl, rfl, hQ I' f1 f2 f3 ?_ (fun S h1 h2 => f5 S h1 ((ext_out hs).mpr ⟨h2, hno S h1 h2⟩))⟩)
      rcases f4 with f4 | ⟨S, h1, h2, h3⟩
      · exact Or.inl f4
      · exact Or.inr ⟨S, h1, ((ext_out hs).mp h2).1, h3⟩
    have hbm := hi_bit hs (Nat.le_refl m)
    have eor : or32 (s : Int) (shl32 1 (m : Int)) = ((s ||| 2 ^ m : Nat) : Int) := by rw [shl1 (by omega), or32_nat (by omega) (pow_lt31 (by omega))]
    have expand : inR (m : Int) ∧ (((m : Int) < nP L → ((0 ≤ ((3 + (r * 14)) + 1) ∧ ((3 + (r * 14)) + 1) < 87) ∧ ((0 ≤ ((3 + (r * 14)) + 2) ∧ ((3 + (r * 14)) + 2) < 87) ∧ (∀ y5 : Int, y5 = (or32 (gi I 19 ((3 + (r * 14)) + 1).toNat) (gi I 19 ((3 + (r * 14)) + 2).toNat)) → ((0 ≤ (m : Int) ∧ (m : Int) < 14) ∧ ((¬ (and32 y5 (shl32 1 (m : Int))) = 0 → (WPm (k - 1) LAY m_X8_chooseMost [vR (some 51), vI ((m : Int) + 1), vI (s : Int), vI (pop s : Int), vI (mS m t s)] (mem (P, some 5, some 22) I J) (retV (fun I8 J9 => Q none (mem (P, some 5, some 22) I8 J9)) (P, some 5, some 22)))) ∧ ((and32 y5 (shl32 1 (m : Int))) = 0 → (inR (mS m t s + t m) ∧ ((lim < (mS m t s + t m) → (WPm (k - 1) LAY m_X8_chooseMost [vR (some 51), vI ((m : Int) + 1), vI (s : Int), vI (pop s : Int), vI (mS m t s)] (mem (P, some 5, some 22) I J) (retV (fun I12 J13 => Q none (mem (P, some 5, some 22) I12 J13)) (P, some 5, some 22)))) ∧ (¬ lim < (mS m t s + t m) → ((¬ (and32 (gi I 11 (m : Int).toNat) (xor32 (or32 y5 (s : Int)) (-1)) = 0) → (WPm (k - 1) LAY m_X8_chooseMost [vR (some 51), vI ((m : Int) + 1), vI (s : Int), vI (pop s : Int), vI (mS m t s)] (mem (P, some 5, some 22) I J) (retV (fun I15 J16 => Q none (mem (P, some 5, some 22) I15 J16)) (P, some 5, some 22)))) ∧ ((and32 (gi I 11 (m : Int).toNat) (xor32 (or32 y5 (s : Int)) (-1)) = 0) → (WPm (k - 1) LAY m_X8_chooseMost [vR (some 51), vI ((m : Int) + 1), vI (or32 (s : Int) (shl32 1 (m : Int))), vI ((pop s : Int) + 1), vI (mS m t s + t m)] (mem (P, some 5, some 22) I J) (retV (fun I18 J19 => WPm (k - 1) LAY m_X8_chooseMost [vR (some 51), vI ((m : Int) + 1), vI (s : Int), vI (pop s : Int), vI (mS m t s)] (mem (P, some 5, some 22) I18 J19) (retV (fun I21 J22 => Q none (mem (P, some 5, some 22) I21 J22)) (P, some 5, some 22))) (P, some 5, some 22)))))))))))))))) := by
      refine ⟨⟨by omega, by omega⟩, fun _ => ⟨⟨by omega, by omega⟩, ⟨by omega, by omega⟩, fun y hy => ⟨⟨by omega, by omega⟩, ?_⟩⟩⟩
      rw [cx_kn hX hr] at hy
      subst hy
      rw [bit_iff ⟨by omega, by omega⟩ hkl, Int.toNat_natCast]
      refine ⟨fun q => skp (fun S h1 h2 => ?_), fun q => ⟨⟨by omega, by omega⟩, fun q2 => skp (fun S h1 h2 => ?_), fun q2 => ?_⟩⟩
      · cases h : S.testBit m
        · rfl
        · exact absurd (h1.2.1 m (by omega) h).1 q
      · cases h : S.testBit m
        · rfl
        · have e := (ext_in hs).mpr ⟨h2, h⟩
          have hle : mS (m + 1) t S ≤ mS (nP L).toNat t S := mS_le (fun p hp => (ht p hp).1) (by omega)
          rw [mS_ext e, mS_in] at hle
          have := h1.2.2
          omega
      · have e4 : gi I 11 m = L 4 (m : Int) := by
          have := cx_L4 hX (p := (m : Int)) ⟨by omega, by omega⟩
          rwa [Int.toNat_natCast] at this
        have hks : kn H r ||| s < 16384 := or_lt14 (n := 14) hkl s14
        have hmay := may_iff hL (p := (m : Int)) ⟨by omega, by omega⟩ hks
        rw [Int.toNat_natCast] at hmay
        rw [e4, or32_nat (by omega) (by omega), hmay]
        refine ⟨fun q3 => skp (fun S h1 h2 => ?_), fun q3 => ?_⟩
        · cases h : S.testBit m
          · rfl
          · exact absurd (shut_need (hnd m (Nat.le_refl _)) (by omega) h1.2.1 h2 h).2 q3
        · rw [eor]
          have hp1 : pop (s ||| 2 ^ m) = pop s + 1 := pop_or (by omega) hbm
          have := ih (m + 1) (s ||| 2 ^ m) (k - 1) I (retV (fun I18 J19 => WPm (k - 1) LAY m_X8_chooseMost [vR (some 51), vI ((m : Int) + 1), vI (s : Int), vI (pop s : Int), vI (mS m t s)] (mem (P, some 5, some 22) I18 J19) (retV (fun I21 J22 => Q none (mem (P, some 5, some 22) I21 J22)) (P, some 5, some 22))) (P, some 5, some 22)) (by omega) (by omega) hX e12 e10 e52 hb (lt_succ_or hs) (shut_in hnd hs hsh q q3) (by rw [mS_in]; omega) (fun I18 f1 f2 f3 f4 f5 => ⟨_, _, rfl, rfl, ?_⟩)
          · rw [hp1, mS_in] at this
            exact this
          · refine skip I18 _ f1 f2 (fun I' g1 g2 g3 g4 g5 => ⟨_, _, rfl, rfl, hQ I' (f1.tr g1) g2 (g3.tr f3) ?_ (fun S h1 h2 => ?_)⟩)
            · rcases g4 with g4 | ⟨S, h1, h2, h3⟩
              · rcases f4 with f4 | ⟨S, h1, h2, h3⟩
                · exact Or.inl (g4.trans f4)
                · exact Or.inr ⟨S, h1, ((ext_in hs).mp h2).1, g4.trans h3⟩
              · exact Or.inr ⟨S, h1, ((ext_out hs).mp h2).1, h3⟩
            · cases h : S.testBit m
              · exact g5 S h1 ((ext_out hs).mpr ⟨h2, h⟩)
              · exact g3.tr (f5 S h1 ((ext_in hs).mpr ⟨h2, h⟩))
    refine WPm.of k_X8_chooseMost.1 (Nat.le_of_ble_eq_true rfl) (B_X8_chooseMost_0 (by omega) ?_)
    rw [cx_p hX, e12, e10, show gi I 52 ((m : Int)).toNat = t m from e52 m (by omega)]
    have nolt : (m : Int) < nP L := by omega
    refine ⟨⟨by omega, by omega⟩, fun q => cut (fun S h1 h2 => Or.inl ?_), fun q => ⟨fun q2 => ?_, fun q2 => ⟨⟨by omega, by omega⟩, fun q3 => ?_, fun q3 => cut (fun S h1 h2 => ?_)⟩⟩⟩
    · have := cnt S h1 h2
      show (pop S : Int) < gi I 51 4
      omega
    · exact ⟨expand.1, expand.2, fun w => absurd nolt w⟩
    · exact ⟨expand.1, expand.2, fun w => absurd nolt w⟩
    · have a1 := cnt S h1 h2
      have a2 := low S h1 h2
      unfold geq key bst
      dsimp only
      omega
end MOSTC

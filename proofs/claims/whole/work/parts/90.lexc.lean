section LEXC
/-! ===== the class's tape as tokens ===== -/
theorem own_hit {T : Nat → Int} {s w d : Nat} (hw : w < 25) (hd : d ≤ 7) (hL : ∀ j, j < d → zL (T (s + j)) = true) : ltR T s d = ownR w ↔ (∀ j, j < d → ownZ (7 * w + j) = T (s + j)) ∧ (d = 7 ∨ ownZ (7 * w + d) = 32) := by
  have hl := own_l hw
  unfold ownR
  rw [ltR_eq]
  constructor
  · intro ⟨h1, h2⟩
    refine ⟨fun j hj => ?_, ?_⟩
    · have a1 := zL_t.mp (hL j hj)
      have a2 := h2 j hj
      have a3 := (own_c hw (j := j) (by omega)).1 (by omega)
      omega
    · by_cases e : d = 7
      · exact Or.inl e
      · exact Or.inr ((own_c hw (j := d) (by omega)).2 (by omega))
  · intro ⟨h1, h2⟩
    have e : d = ownL w := by
      by_cases c1 : d < ownL w
      · have a := (own_c hw (j := d) (by omega)).1 c1
        rcases h2 with h2 | h2 <;> omega
      · by_cases c2 : ownL w < d
        · have a1 := zL_t.mp (hL (ownL w) c2)
          have a2 := h1 (ownL w) c2
          have a3 := (own_c hw (j := ownL w) (by omega)).2 (Nat.le_refl _)
          omega
        · omega
    exact ⟨e, fun j hj => by rw [h1 j hj]⟩
set_option maxRecDepth 20000 in
set_option maxHeartbeats 4000000 in
theorem S_X10_ownWord {k : Nat} {P : Option Nat} {I : Nat → Nat → Int32} {J : Nat → Nat → Int64} {Q : Option AV → Mem → Prop} {T : Nat → Int} {n s e : Nat} (hk : 4 ≤ k) (hn : n ≤ 1600) (h3 : gi I 1 3 = s) (h4 : gi I 1 4 = e) (hT : ∀ i, i < n → gi I 2 i = T i) (hse : s ≤ e) (hen : e ≤ n) (hL : ∀ i, s ≤ i → i < e → zL (T i) = true) (h : Q (some (vI (owI (ltR T s (e - s))))) (mem (P, some 5, some 22) I J)) : WPm k LAY m_X10_ownWord [vR (some 1)] (mem (P, some 5, some 22) I J) Q := by
  have hR : inR ((e : Int) - s) := by unfold inR; omega
  refine WPm.of k_X10_ownWord.1 (Nat.le_of_ble_eq_true rfl) ?_
  refine st_aload_n (pc' := 1) dX10_ownWord_0 rfl rfl (j := 0) rfl ?_
  refine G_X10_19_1 dX10_ownWord_1 (pc' := 4) rfl rfl ?_
  refine st_aload_n (pc' := 5) dX10_ownWord_4 rfl rfl (j := 0) rfl ?_
  refine G_X10_28_1 dX10_ownWord_5 (pc' := 8) rfl rfl ?_
  rw [h3, h4]
  refine st_isub (pc' := 9) dX10_ownWord_8 rfl ?_
  refine st_istore_n (pc' := 10) (L' := [(1, vI ((e : Int) - s)), (0, vR (some 1))]) dX10_ownWord_9 rfl rfl (by decide) rfl ?_
  refine st_iload_n (pc' := 11) dX10_ownWord_10 rfl rfl (j := 0) rfl ?_
  refine st_bipush (pc' := 13) dX10_ownWord_11 rfl (by decide) ?_
  refine st_icmp_le (tg := 18) (pc' := 16) dX10_ownWord_13 (by decide) rfl hR (by decide) (fun c => ?_) (fun c => ?_)
  rotate_left
  · refine st_iconst (pc' := 17) dX10_ownWord_16 rfl ?_
    refine st_iret (ty := .int) dX10_ownWord_17 rfl rfl rfl ?_
    refine Qat h ?_
    rcases owI_in (ltR T s (e - s)) with q | ⟨w, hw, -, q⟩
    · rw [q]
    · have a1 := congrArg List.length q
      have a2 := own_l hw
      unfold ownR at a1
      rw [ltR_len, ltR_len] at a1
      omega
  · refine st_iconst (pc' := 19) dX10_ownWord_18 rfl ?_
    refine st_istore_n (pc' := 20) (L' := [(2, vI 0), (1, vI ((e : Int) - s)), (0, vR (some 1))]) dX10_ownWord_19 rfl rfl (by decide) rfl ?_
    refine WP_sub (L' := [(0, vR (some 1)), (1, vI ((e : Int) - s)), (2, vI 0)]) [2, 1, 0] rfl ?_
    have loop : ∀ (d w : Nat) (x : Int), w + d = 25 → x = w → Q (some (vI (owF (ltR T s (e - s)) d))) (mem (P, some 5, some 22) I J) → WP k LAY m_X10_ownWord 20 [(0, vR (some 1)), (1, vI ((e : Int) - s)), (2, vI x)] [] (mem (P, some 5, some 22) I J) Q := by
      intro d
      induction d with
      | zero =>
        intro w x hw hx hq
        subst hx
        refine st_iload_n (pc' := 21) dX10_ownWord_20 rfl rfl (j := 2) rfl ?_
        refine st_bipush (pc' := 23) dX10_ownWord_21 rfl (by decide) ?_
        refine st_icmp_ge (tg := 103) (pc' := 26) dX10_ownWord_23 (by decide) rfl (by unfold inR; omega) (by decide) (fun c => ?_) (fun c => absurd c (by omega))
        refine st_iconst (pc' := 104) dX10_ownWord_103 rfl ?_
        exact st_iret (ty := .int) dX10_ownWord_104 rfl rfl rfl hq
      | succ d ih =>
        intro w x hw hx hq
        subst hx
        have hw25 : w < 25 := by omega
        have hhit := own_hit (T := T) (s := s) (w := w) (d := e - s) hw25 (by omega) (fun j hj => hL _ (by omega) (by omega))
        rw [owF, show 24 - d = w by omega] at hq
        have skip : ∀ j : Int, ¬ ltR T s (e - s) = ownR w → WP k LAY m_X10_ownWord 97 [(0, vR (some 1)), (1, vI ((e : Int) - s)), (2, vI (w : Int)), (3, vI ((w : Int) * 7)), (4, vI j)] [] (mem (P, some 5, some 22) I J) Q := by
          intro j hne
          rw [if_neg hne] at hq
          refine st_iinc (pc' := 100) (L' := [(2, vI ((w : Int) + 1)), (0, vR (some 1)), (1, vI ((e : Int) - s)), (3, vI ((w : Int) * 7)), (4, vI j)]) (j := 2) dX10_ownWord_97 rfl (by decide) rfl rfl ?_
          refine st_goto (pc' := 20) dX10_ownWord_100 (by decide) ?_
          refine WP_sub (L' := [(0, vR (some 1)), (1, vI ((e : Int) - s)), (2, vI ((w : Int) + 1))]) [1, 2, 0] rfl ?_
          exact ih (w + 1) _ (by omega) (by omega) hq
        have hit : ∀ j : Int, ltR T s (e - s) = ownR w → WP k LAY m_X10_ownWord 95 [(0, vR (some 1)), (1, vI ((e : Int) - s)), (2, vI (w : Int)), (3, vI ((w : Int) * 7)), (4, vI j)] [] (mem (P, some 5, some 22) I J) Q := by
          intro j he
          rw [if_pos he] at hq
          refine st_iload_n (pc' := 96) dX10_ownWord_95 rfl rfl (j := 2) rfl ?_
          exact st_iret (ty := .int) dX10_ownWord_96 rfl rfl rfl hq
        have tail : ∀ j : Nat, j ≤ e - s → (∀ i, i < j → ownZ (7 * w + i) = T (s + i)) → (j = e - s ∨ ¬ ownZ (7 * w + j) = T (s + j)) → WP k LAY m_X10_ownWord 70 [(0, vR (some 1)), (1, vI ((e : Int) - s)), (2, vI (w : Int)), (3, vI ((w : Int) * 7)), (4, vI (j : Int))] [] (mem (P, some 5, some 22) I J) Q := by
          intro j hj ha hb
          refine st_iload (pc' := 72) dX10_ownWord_70 rfl (j := 4) rfl ?_
          refine st_iload_n (pc' := 73) dX10_ownWord_72 rfl rfl (j := 1) rfl ?_
          refine st_icmp_ne (tg := 97) (pc' := 76) dX10_ownWord_73 (by decide) rfl (by unfold inR; omega) hR (fun c => ?_) (fun c => ?_)
          · refine skip _ (fun q => ?_)
            rcases hb with hb | hb
            · omega
            · exact hb ((hhit.mp q).1 j (by omega))
          · have ej : j = e - s := by omega
            subst ej
            refine st_iload_n (pc' := 77) dX10_ownWord_76 rfl rfl (j := 1) rfl ?_
            refine st_bipush (pc' := 79) dX10_ownWord_77 rfl (by decide) ?_
            refine st_icmp_eq (tg := 95) (pc' := 82) dX10_ownWord_79 (by decide) rfl hR (by decide) (fun c7 => ?_) (fun c7 => ?_)
            · exact hit _ (hhit.mpr ⟨ha, Or.inl (by omega)⟩)
            · refine st_ldcS (pc' := 84) dX10_ownWord_82 rfl rfl ?_
              refine st_iload_n (pc' := 85) dX10_ownWord_84 rfl rfl (j := 3) rfl ?_
              refine st_iload_n (pc' := 86) dX10_ownWord_85 rfl rfl (j := 1) rfl ?_
              refine st_iadd (pc' := 87) dX10_ownWord_86 rfl ?_
              refine st_callStr (pc' := 90) (kc := k - 1) (E' := LAY) (cal := m_J0_charAt_5068e) (n := 1) (as := [vI ((w : Int) * 7 + ((e : Int) - s))]) (S := []) dX10_ownWord_87 rfl l_X10_63 k_J0_charAt_5068e rfl rfl rfl (Nat.le_of_ble_eq_true rfl) (by omega) ⟨Nat.le_refl _, Nat.le_refl _, Nat.le_refl _, Nat.le_refl _⟩ (Q1 := fun r M' => r = some (vI (ownZ ((w : Int) * 7 + ((e : Int) - s)).toNat)) ∧ M' = mem (P, some 5, some 22) I J) (S_charAt (by omega) (by omega) ⟨rfl, rfl⟩) (fun r M' q => ?_)
              obtain ⟨rfl, rfl⟩ := q
              rw [show ((w : Int) * 7 + ((e : Int) - s)).toNat = 7 * w + (e - s) by omega]
              change WP _ LAY m_X10_ownWord 90 _ [vI (ownZ (7 * w + (e - s)))] (mem (P, some 5, some 22) I J) Q
              refine st_bipush (pc' := 92) dX10_ownWord_90 rfl (by decide) ?_
              have ho := (own_at (j := 7 * w + (e - s)) (by omega)).2.2
              refine st_icmp_ne (tg := 97) (pc' := 95) dX10_ownWord_92 (by decide) rfl (by unfold inR; omega) (by decide) (fun c32 => ?_) (fun c32 => ?_)
              · refine skip _ (fun q => ?_)
                rcases (hhit.mp q).2 with q | q
                · omega
                · exact c32 q
              · exact hit _ (hhit.mpr ⟨ha, Or.inr c32⟩)
        have inner : ∀ (m j : Nat) (y : Int), j + m = e - s → y = j → (∀ i, i < j → ownZ (7 * w + i) = T (s + i)) → WP k LAY m_X10_ownWord 34 [(0, vR (some 1)), (1, vI ((e : Int) - s)), (2, vI (w : Int)), (3, vI ((w : Int) * 7)), (4, vI y)] [] (mem (P, some 5, some 22) I J) Q := by
          intro m
          induction m with
          | zero =>
            intro j y hj hy ha
            subst hy
            refine st_iload (pc' := 36) dX10_ownWord_34 rfl (j := 4) rfl ?_
            refine st_iload_n (pc' := 37) dX10_ownWord_36 rfl rfl (j := 1) rfl ?_
            refine st_icmp_ge (tg := 70) (pc' := 40) dX10_ownWord_37 (by decide) rfl (by unfold inR; omega) hR (fun c => ?_) (fun c => absurd c (by omega))
            exact tail j (by omega) ha (Or.inl (by omega))
          | succ m ih2 =>
            intro j y hj hy ha
            subst hy
            refine st_iload (pc' := 36) dX10_ownWord_34 rfl (j := 4) rfl ?_
            refine st_iload_n (pc' := 37) dX10_ownWord_36 rfl rfl (j := 1) rfl ?_
            refine st_icmp_ge (tg := 70) (pc' := 40) dX10_ownWord_37 (by decide) rfl (by unfold inR; omega) hR (fun c => absurd c (by omega)) (fun c => ?_)
            refine st_ldcS (pc' := 42) dX10_ownWord_40 rfl rfl ?_
            refine st_iload_n (pc' := 43) dX10_ownWord_42 rfl rfl (j := 3) rfl ?_
            refine st_iload (pc' := 45) dX10_ownWord_43 rfl (j := 4) rfl ?_
            refine st_iadd (pc' := 46) dX10_ownWord_45 rfl ?_
            refine st_callStr (pc' := 49) (kc := k - 1) (E' := LAY) (cal := m_J0_charAt_5068e) (n := 1) (as := [vI ((w : Int) * 7 + (j : Int))]) (S := []) dX10_ownWord_46 rfl l_X10_63 k_J0_charAt_5068e rfl rfl rfl (Nat.le_of_ble_eq_true rfl) (by omega) ⟨Nat.le_refl _, Nat.le_refl _, Nat.le_refl _, Nat.le_refl _⟩ (Q1 := fun r M' => r = some (vI (ownZ ((w : Int) * 7 + (j : Int)).toNat)) ∧ M' = mem (P, some 5, some 22) I J) (S_charAt (by omega) (by omega) ⟨rfl, rfl⟩) (fun r M' q => ?_)
            obtain ⟨rfl, rfl⟩ := q
            rw [show ((w : Int) * 7 + (j : Int)).toNat = 7 * w + j by omega]
            change WP _ LAY m_X10_ownWord 49 _ [vI (ownZ (7 * w + j))] (mem (P, some 5, some 22) I J) Q
            have ho := (own_at (j := 7 * w + j) (by omega)).2.2
            refine st_aload_n (pc' := 50) dX10_ownWord_49 rfl rfl (j := 0) rfl ?_
            refine G_X10_9_1 dX10_ownWord_50 (pc' := 53) rfl rfl ?_
            refine st_aload_n (pc' := 54) dX10_ownWord_53 rfl rfl (j := 0) rfl ?_
            refine G_X10_28_1 dX10_ownWord_54 (pc' := 57) rfl rfl ?_
            rw [h3]
            refine st_iload (pc' := 59) dX10_ownWord_57 rfl (j := 4) rfl ?_
            refine st_iadd (pc' := 60) dX10_ownWord_59 rfl ?_
            refine st_iaload (pc' := 61) (v := gi I 2 ((s : Int) + j).toNat) dX10_ownWord_60 rfl L_2 (by decide) (by omega) rfl ?_
            have eT : gi I 2 ((s : Int) + j).toNat = T (s + j) := by
              rw [show ((s : Int) + j).toNat = s + j by omega, hT _ (by omega)]
            have iT : inR (T (s + j)) := by
              rw [← eT]
              exact gi_in _ _ _
            rw [eT]
            refine st_icmp_ne (tg := 70) (pc' := 64) dX10_ownWord_61 (by decide) rfl (by unfold inR; omega) iT (fun cc => ?_) (fun cc => ?_)
            · exact tail j (by omega) ha (Or.inr cc)
            · refine st_iinc (pc' := 67) (L' := [(4, vI ((j : Int) + 1)), (0, vR (some 1)), (1, vI ((e : Int) - s)), (2, vI (w : Int)), (3, vI ((w : Int) * 7))]) (j := 4) dX10_ownWord_64 rfl (by decide) rfl rfl ?_
              refine st_goto (pc' := 34) dX10_ownWord_67 (by decide) ?_
              refine WP_sub (L' := [(0, vR (some 1)), (1, vI ((e : Int) - s)), (2, vI (w : Int)), (3, vI ((w : Int) * 7)), (4, vI ((j : Int) + 1))]) [1, 2, 3, 4, 0] rfl ?_
              refine ih2 (j + 1) _ (by omega) (by omega) (fun i hi => ?_)
              by_cases ei : i = j
              · rw [ei]; exact cc
              · exact ha i (by omega)
        refine st_iload_n (pc' := 21) dX10_ownWord_20 rfl rfl (j := 2) rfl ?_
        refine st_bipush (pc' := 23) dX10_ownWord_21 rfl (by decide) ?_
        refine st_icmp_ge (tg := 103) (pc' := 26) dX10_ownWord_23 (by decide) rfl (by unfold inR; omega) (by decide) (fun c => absurd c (by omega)) (fun c => ?_)
        refine st_iload_n (pc' := 27) dX10_ownWord_26 rfl rfl (j := 2) rfl ?_
        refine st_bipush (pc' := 29) dX10_ownWord_27 rfl (by decide) ?_
        refine st_imul (pc' := 30) dX10_ownWord_29 rfl ?_
        refine st_istore_n (pc' := 31) (L' := [(3, vI ((w : Int) * 7)), (0, vR (some 1)), (1, vI ((e : Int) - s)), (2, vI (w : Int))]) dX10_ownWord_30 rfl rfl (by decide) rfl ?_
        refine st_iconst (pc' := 32) dX10_ownWord_31 rfl ?_
        refine st_istore (pc' := 34) (L' := [(4, vI 0), (3, vI ((w : Int) * 7)), (0, vR (some 1)), (1, vI ((e : Int) - s)), (2, vI (w : Int))]) dX10_ownWord_32 rfl (by decide) rfl ?_
        refine WP_sub (L' := [(0, vR (some 1)), (1, vI ((e : Int) - s)), (2, vI (w : Int)), (3, vI ((w : Int) * 7)), (4, vI 0)]) [2, 3, 4, 1, 0] rfl ?_
        exact inner (e - s) 0 0 (by omega) rfl (fun i hi => absurd hi (Nat.not_lt_zero _))
    exact loop 25 0 0 rfl rfl h
end LEXC

section WX8
set_option maxRecDepth 20000 in
set_option maxHeartbeats 4000000 in
theorem B_X8_pagesOf_0 {k : Nat} {P : Option Nat} {I : Nat → Nat → Int32} {J : Nat → Nat → Int64} {x1 : Int} {x2 : Int} {x3 : Int} {Q : Option AV → Mem → Prop} (hk : 2 ≤ k) (h : (0 ≤ ((3 + (x1 * 14)) + 1) ∧ ((3 + (x1 * 14)) + 1) < 87) ∧ ((0 ≤ ((3 + (x1 * 14)) + 2) ∧ ((3 + (x1 * 14)) + 2) < 87) ∧ (∀ y3 : Int, y3 = (xor32 (or32 (gi I 19 ((3 + (x1 * 14)) + 1).toNat) (gi I 19 ((3 + (x1 * 14)) + 2).toNat)) (-1)) → (inR x3 ∧ ((¬ x3 = (-1) → (WP k LAY m_X8_pagesOf 54 [(0, vR (some 51)), (5, vI (and32 x2 y3)), (6, vI (and32 y3 (xor32 (shl32 1 x3) (-1)))), (7, vI ((gi I 6 1) - 1))] [] (mem (P, some 5, some 22) I J) Q)) ∧ (x3 = (-1) → (WP k LAY m_X8_pagesOf 54 [(0, vR (some 51)), (5, vI (and32 x2 y3)), (6, vI y3), (7, vI ((gi I 6 1) - 1))] [] (mem (P, some 5, some 22) I J) Q))))))) : WP k LAY m_X8_pagesOf 0 [(0, vR (some 51)), (1, vI x1), (2, vI x2), (3, vI x3)] [] (mem (P, some 5, some 22) I J) Q := by
  refine st_aload_n (pc' := 1) dX8_pagesOf_0 rfl rfl (j := 0) rfl ?_
  refine G_X8_25_51 dX8_pagesOf_1 (pc' := 4) rfl rfl ?_
  refine st_iload_n (pc' := 5) dX8_pagesOf_4 rfl rfl (j := 1) rfl ?_
  refine st_callV (pc' := 8) (kc := k - 1) (E' := LAY) (cal := m_X2_known) (n := 1) (as := [vI x1]) (S := []) dX8_pagesOf_5 rfl l_X8_53 k_X2_known rfl L_4 c_X2 rfl rfl (Nat.le_of_ble_eq_true rfl) (by omega) ⟨Nat.le_refl _, Nat.le_refl _, Nat.le_refl _, Nat.le_refl _⟩ (Q1 := fun r M' => WP k LAY m_X8_pagesOf 8 [(0, vR (some 51)), (1, vI x1), (2, vI x2), (3, vI x3)] (r.toList ++ []) M' Q) (WPm.of k_X2_known.1 (Nat.le_of_ble_eq_true rfl) (B_X2_known_0 (by omega) ?_)) (fun r M' q => q)
  obtain ⟨e1, h⟩ := h
  refine ⟨e1, ?_⟩
  obtain ⟨e2, h⟩ := h
  refine ⟨e2, ?_⟩
  change WP _ LAY m_X8_pagesOf 8 [(0, vR (some 51)), (1, vI x1), (2, vI x2), (3, vI x3)] [vI (or32 (gi I 19 ((3 + (x1 * 14)) + 1).toNat) (gi I 19 ((3 + (x1 * 14)) + 2).toNat))] (mem (P, some 5, some 22) I J) Q
  refine st_iconst (pc' := 9) dX8_pagesOf_8 rfl ?_
  refine st_ixor (pc' := 10) (z := (xor32 (or32 (gi I 19 ((3 + (x1 * 14)) + 1).toNat) (gi I 19 ((3 + (x1 * 14)) + 2).toNat)) (-1))) dX8_pagesOf_9 rfl rfl ?_
  obtain ⟨y3, hy3⟩ : ∃ y : Int, y = (xor32 (or32 (gi I 19 ((3 + (x1 * 14)) + 1).toNat) (gi I 19 ((3 + (x1 * 14)) + 2).toNat)) (-1)) := ⟨_, rfl⟩
  rw [← hy3]
  replace h := h y3 hy3
  refine st_istore (pc' := 12) (L' := [(4, vI y3), (0, vR (some 51)), (1, vI x1), (2, vI x2), (3, vI x3)]) dX8_pagesOf_10 rfl (by decide) rfl ?_
  refine st_iload_n (pc' := 13) dX8_pagesOf_12 rfl rfl (j := 3) rfl ?_
  refine st_iload (pc' := 15) dX8_pagesOf_13 rfl (j := 0) rfl ?_
  refine st_iand (pc' := 16) (z := (and32 x2 y3)) dX8_pagesOf_15 rfl rfl ?_
  refine st_istore (pc' := 18) (L' := [(5, vI (and32 x2 y3)), (4, vI y3), (0, vR (some 51)), (1, vI x1), (2, vI x2), (3, vI x3)]) dX8_pagesOf_16 rfl (by decide) rfl ?_
  refine st_iload_n (pc' := 19) dX8_pagesOf_18 rfl rfl (j := 5) rfl ?_
  refine st_iconst (pc' := 20) dX8_pagesOf_19 rfl ?_
  obtain ⟨e4, h⟩ := h
  refine st_icmp_ne (tg := 28) (pc' := 23) dX8_pagesOf_20 (by decide) rfl e4 (by decide) (fun c => ?_) (fun c => ?_)
  · replace h := h.1 c
    refine st_iload (pc' := 30) dX8_pagesOf_28 rfl (j := 1) rfl ?_
    refine st_iconst (pc' := 31) dX8_pagesOf_30 rfl ?_
    refine st_iload_n (pc' := 32) dX8_pagesOf_31 rfl rfl (j := 5) rfl ?_
    refine st_ishl (pc' := 33) (z := (shl32 1 x3)) dX8_pagesOf_32 rfl rfl ?_
    refine st_iconst (pc' := 34) dX8_pagesOf_33 rfl ?_
    refine st_ixor (pc' := 35) (z := (xor32 (shl32 1 x3) (-1))) dX8_pagesOf_34 rfl rfl ?_
    refine st_iand (pc' := 36) (z := (and32 y3 (xor32 (shl32 1 x3) (-1)))) dX8_pagesOf_35 rfl rfl ?_
    refine st_istore (pc' := 38) (L' := [(6, vI (and32 y3 (xor32 (shl32 1 x3) (-1)))), (5, vI (and32 x2 y3)), (4, vI y3), (0, vR (some 51)), (1, vI x1), (2, vI x2), (3, vI x3)]) dX8_pagesOf_36 rfl (by decide) rfl ?_
    refine st_aload_n (pc' := 39) dX8_pagesOf_38 rfl rfl (j := 3) rfl ?_
    refine G_X8_25_51 dX8_pagesOf_39 (pc' := 42) rfl rfl ?_
    refine G_X8_39_4 dX8_pagesOf_42 (pc' := 45) rfl rfl ?_
    refine G_X8_57_5 dX8_pagesOf_45 (pc' := 48) rfl rfl ?_
    refine st_iconst (pc' := 49) dX8_pagesOf_48 rfl ?_
    refine st_iaload (pc' := 50) (v := (gi I 6 1)) dX8_pagesOf_49 rfl L_6 (by decide) (by decide) (show gi I 6 1 = (gi I 6 1) from rfl) ?_
    refine st_iconst (pc' := 51) dX8_pagesOf_50 rfl ?_
    refine st_isub (pc' := 52) dX8_pagesOf_51 rfl ?_
    refine st_istore (pc' := 54) (L' := [(7, vI ((gi I 6 1) - 1)), (6, vI (and32 y3 (xor32 (shl32 1 x3) (-1)))), (5, vI (and32 x2 y3)), (4, vI y3), (0, vR (some 51)), (1, vI x1), (2, vI x2), (3, vI x3)]) dX8_pagesOf_52 rfl (by decide) rfl ?_
    refine WP_sub (L' := [(0, vR (some 51)), (5, vI (and32 x2 y3)), (6, vI (and32 y3 (xor32 (shl32 1 x3) (-1)))), (7, vI ((gi I 6 1) - 1))]) [4, 2, 1, 0] rfl ?_
    exact h
  · replace h := h.2 c
    refine st_iload (pc' := 25) dX8_pagesOf_23 rfl (j := 1) rfl ?_
    refine st_goto (pc' := 36) dX8_pagesOf_25 (by decide) ?_
    refine st_istore (pc' := 38) (L' := [(6, vI y3), (5, vI (and32 x2 y3)), (4, vI y3), (0, vR (some 51)), (1, vI x1), (2, vI x2), (3, vI x3)]) dX8_pagesOf_36 rfl (by decide) rfl ?_
    refine st_aload_n (pc' := 39) dX8_pagesOf_38 rfl rfl (j := 3) rfl ?_
    refine G_X8_25_51 dX8_pagesOf_39 (pc' := 42) rfl rfl ?_
    refine G_X8_39_4 dX8_pagesOf_42 (pc' := 45) rfl rfl ?_
    refine G_X8_57_5 dX8_pagesOf_45 (pc' := 48) rfl rfl ?_
    refine st_iconst (pc' := 49) dX8_pagesOf_48 rfl ?_
    refine st_iaload (pc' := 50) (v := (gi I 6 1)) dX8_pagesOf_49 rfl L_6 (by decide) (by decide) (show gi I 6 1 = (gi I 6 1) from rfl) ?_
    refine st_iconst (pc' := 51) dX8_pagesOf_50 rfl ?_
    refine st_isub (pc' := 52) dX8_pagesOf_51 rfl ?_
    refine st_istore (pc' := 54) (L' := [(7, vI ((gi I 6 1) - 1)), (6, vI y3), (5, vI (and32 x2 y3)), (4, vI y3), (0, vR (some 51)), (1, vI x1), (2, vI x2), (3, vI x3)]) dX8_pagesOf_52 rfl (by decide) rfl ?_
    refine WP_sub (L' := [(0, vR (some 51)), (5, vI (and32 x2 y3)), (6, vI y3), (7, vI ((gi I 6 1) - 1))]) [4, 2, 1, 0] rfl ?_
    exact h
set_option maxRecDepth 20000 in
set_option maxHeartbeats 4000000 in
theorem B_X8_pagesOf_54 {k : Nat} {P : Option Nat} {I : Nat → Nat → Int32} {J : Nat → Nat → Int64} {x5 : Int} {x6 : Int} {x7 : Int} {Q : Option AV → Mem → Prop} (hk : 0 ≤ k) (h : inR x7 ∧ ((x7 < 0 → (Q (some (vI x5)) (mem (P, some 5, some 22) I J))) ∧ (¬ x7 < 0 → (((and32 x5 (shl32 1 x7)) = 0 → (WP k LAY m_X8_pagesOf 54 [(0, vR (some 51)), (5, vI x5), (6, vI x6), (7, vI (x7 + (-1)))] [] (mem (P, some 5, some 22) I J) Q)) ∧ (¬ (and32 x5 (shl32 1 x7)) = 0 → ((0 ≤ x7 ∧ x7 < 14) ∧ (WP k LAY m_X8_pagesOf 54 [(0, vR (some 51)), (5, vI (or32 x5 (and32 (gi I 11 (x7).toNat) x6))), (6, vI x6), (7, vI (x7 + (-1)))] [] (mem (P, some 5, some 22) I J) Q))))))) : WP k LAY m_X8_pagesOf 54 [(0, vR (some 51)), (5, vI x5), (6, vI x6), (7, vI x7)] [] (mem (P, some 5, some 22) I J) Q := by
  refine st_iload (pc' := 56) dX8_pagesOf_54 rfl (j := 3) rfl ?_
  obtain ⟨e1, h⟩ := h
  refine st_if_lt (tg := 96) (pc' := 59) dX8_pagesOf_56 (by decide) rfl e1 (fun c => ?_) (fun c => ?_)
  · replace h := h.1 c
    refine st_iload (pc' := 98) dX8_pagesOf_96 rfl (j := 1) rfl ?_
    exact st_iret (ty := .int) dX8_pagesOf_98 rfl rfl rfl h
  · replace h := h.2 c
    refine st_iload (pc' := 61) dX8_pagesOf_59 rfl (j := 1) rfl ?_
    refine st_iconst (pc' := 62) dX8_pagesOf_61 rfl ?_
    refine st_iload (pc' := 64) dX8_pagesOf_62 rfl (j := 3) rfl ?_
    refine st_ishl (pc' := 65) (z := (shl32 1 x7)) dX8_pagesOf_64 rfl rfl ?_
    refine st_iand (pc' := 66) (z := (and32 x5 (shl32 1 x7))) dX8_pagesOf_65 rfl rfl ?_
    refine st_if_eq (tg := 90) (pc' := 69) dX8_pagesOf_66 (by decide) rfl (and32_in _ _) (fun c => ?_) (fun c => ?_)
    · replace h := h.1 c
      refine st_iinc (pc' := 93) (L' := [(7, vI (x7 + (-1))), (0, vR (some 51)), (5, vI x5), (6, vI x6)]) (j := 3) dX8_pagesOf_90 rfl (by decide) rfl rfl ?_
      refine st_goto (pc' := 54) dX8_pagesOf_93 (by decide) ?_
      refine WP_sub (L' := [(0, vR (some 51)), (5, vI x5), (6, vI x6), (7, vI (x7 + (-1)))]) [1, 2, 3, 0] rfl ?_
      exact h
    · replace h := h.2 c
      refine st_iload (pc' := 71) dX8_pagesOf_69 rfl (j := 1) rfl ?_
      refine st_aload_n (pc' := 72) dX8_pagesOf_71 rfl rfl (j := 0) rfl ?_
      refine G_X8_25_51 dX8_pagesOf_72 (pc' := 75) rfl rfl ?_
      refine G_X8_39_4 dX8_pagesOf_75 (pc' := 78) rfl rfl ?_
      refine G_X8_60_5 dX8_pagesOf_78 (pc' := 81) rfl rfl ?_
      refine st_iload (pc' := 83) dX8_pagesOf_81 rfl (j := 3) rfl ?_
      obtain ⟨e2, h⟩ := h
      refine st_iaload (pc' := 84) (v := (gi I 11 (x7).toNat)) dX8_pagesOf_83 rfl L_11 (by decide) e2 (show gi I 11 (x7).toNat = (gi I 11 (x7).toNat) from rfl) ?_
      refine st_iload (pc' := 86) dX8_pagesOf_84 rfl (j := 2) rfl ?_
      refine st_iand (pc' := 87) (z := (and32 (gi I 11 (x7).toNat) x6)) dX8_pagesOf_86 rfl rfl ?_
      refine st_ior (pc' := 88) (z := (or32 x5 (and32 (gi I 11 (x7).toNat) x6))) dX8_pagesOf_87 rfl rfl ?_
      refine st_istore (pc' := 90) (L' := [(5, vI (or32 x5 (and32 (gi I 11 (x7).toNat) x6))), (0, vR (some 51)), (6, vI x6), (7, vI x7)]) dX8_pagesOf_88 rfl (by decide) rfl ?_
      refine st_iinc (pc' := 93) (L' := [(7, vI (x7 + (-1))), (5, vI (or32 x5 (and32 (gi I 11 (x7).toNat) x6))), (0, vR (some 51)), (6, vI x6)]) (j := 3) dX8_pagesOf_90 rfl (by decide) rfl rfl ?_
      refine st_goto (pc' := 54) dX8_pagesOf_93 (by decide) ?_
      refine WP_sub (L' := [(0, vR (some 51)), (5, vI (or32 x5 (and32 (gi I 11 (x7).toNat) x6))), (6, vI x6), (7, vI (x7 + (-1)))]) [2, 1, 3, 0] rfl ?_
      exact h
set_option maxRecDepth 20000 in
set_option maxHeartbeats 4000000 in
theorem B_X8_workOf_0 {k : Nat} {P : Option Nat} {I : Nat → Nat → Int32} {J : Nat → Nat → Int64} {x1 : Int} {x2 : Int} {x3 : Int} {Q : Option AV → Mem → Prop} (hk : 1 ≤ k) (h : WPm (k - 1) LAY m_X8_pagesOf [vR (some 51), vI x1, vI x2, vI x3] (mem (P, some 5, some 22) I J) (retI (fun v1 I2 J3 => WPm (k - 1) LAY m_X9_setNow [vR (some 36), vI x1] (mem (P, some 5, some 22) I2 J3) (retV (fun I5 J6 => WP k LAY m_X8_workOf 23 [(0, vR (some 51)), (4, vI v1), (5, vI 0), (6, vI 0)] [] (mem (P, some 5, some 22) I5 J6) Q) (P, some 5, some 22))) (P, some 5, some 22))) : WP k LAY m_X8_workOf 0 [(0, vR (some 51)), (1, vI x1), (2, vI x2), (3, vI x3)] [] (mem (P, some 5, some 22) I J) Q := by
  refine st_aload_n (pc' := 1) dX8_workOf_0 rfl rfl (j := 0) rfl ?_
  refine st_iload_n (pc' := 2) dX8_workOf_1 rfl rfl (j := 1) rfl ?_
  refine st_iload_n (pc' := 3) dX8_workOf_2 rfl rfl (j := 2) rfl ?_
  refine st_iload_n (pc' := 4) dX8_workOf_3 rfl rfl (j := 3) rfl ?_
  refine st_callV (pc' := 7) (kc := k - 1) (E' := LAY) (cal := m_X8_pagesOf) (n := 3) (as := [vI x1, vI x2, vI x3]) (S := []) dX8_workOf_4 rfl l_X8_63 k_X8_pagesOf rfl L_51 c_X8 rfl rfl (Nat.le_of_ble_eq_true rfl) (by omega) ⟨Nat.le_refl _, Nat.le_refl _, Nat.le_refl _, Nat.le_refl _⟩ h (fun r M' q => ?_)
  obtain ⟨v1, I2, J3, rfl, rfl, h⟩ := q
  change WP _ LAY m_X8_workOf 7 [(0, vR (some 51)), (1, vI x1), (2, vI x2), (3, vI x3)] [vI v1] (mem (P, some 5, some 22) I2 J3) Q
  refine st_istore (pc' := 9) (L' := [(4, vI v1), (0, vR (some 51)), (1, vI x1), (2, vI x2), (3, vI x3)]) dX8_workOf_7 rfl (by decide) rfl ?_
  refine st_aload_n (pc' := 10) dX8_workOf_9 rfl rfl (j := 1) rfl ?_
  refine G_X8_29_51 dX8_workOf_10 (pc' := 13) rfl rfl ?_
  refine st_iload_n (pc' := 14) dX8_workOf_13 rfl rfl (j := 2) rfl ?_
  refine st_callV (pc' := 17) (kc := k - 1) (E' := LAY) (cal := m_X9_setNow) (n := 1) (as := [vI x1]) (S := []) dX8_workOf_14 rfl l_X8_67 k_X9_setNow rfl L_36 c_X9 rfl rfl (Nat.le_of_ble_eq_true rfl) (by omega) ⟨Nat.le_refl _, Nat.le_refl _, Nat.le_refl _, Nat.le_refl _⟩ h (fun r M' q => ?_)
  obtain ⟨I5, J6, rfl, rfl, h⟩ := q
  change WP _ LAY m_X8_workOf 17 [(4, vI v1), (0, vR (some 51)), (1, vI x1), (2, vI x2), (3, vI x3)] [] (mem (P, some 5, some 22) I5 J6) Q
  refine st_iconst (pc' := 18) dX8_workOf_17 rfl ?_
  refine st_istore (pc' := 20) (L' := [(5, vI 0), (4, vI v1), (0, vR (some 51)), (1, vI x1), (2, vI x2), (3, vI x3)]) dX8_workOf_18 rfl (by decide) rfl ?_
  refine st_iconst (pc' := 21) dX8_workOf_20 rfl ?_
  refine st_istore (pc' := 23) (L' := [(6, vI 0), (5, vI 0), (4, vI v1), (0, vR (some 51)), (1, vI x1), (2, vI x2), (3, vI x3)]) dX8_workOf_21 rfl (by decide) rfl ?_
  refine WP_sub (L' := [(0, vR (some 51)), (4, vI v1), (5, vI 0), (6, vI 0)]) [3, 2, 1, 0] rfl ?_
  exact h
set_option maxRecDepth 20000 in
set_option maxHeartbeats 4000000 in
theorem B_X8_workOf_23 {k : Nat} {P : Option Nat} {I : Nat → Nat → Int32} {J : Nat → Nat → Int64} {x4 : Int} {x5 : Int} {x6 : Int} {Q : Option AV → Mem → Prop} (hk : 1 ≤ k) (h : inR x6 ∧ (((gi I 6 1) ≤ x6 → (Q (some (vI x5)) (mem (P, some 5, some 22) I J))) ∧ (¬ (gi I 6 1) ≤ x6 → (((and32 x4 (shl32 1 x6)) = 0 → (WP k LAY m_X8_workOf 23 [(0, vR (some 51)), (4, vI x4), (5, vI x5), (6, vI (x6 + 1))] [] (mem (P, some 5, some 22) I J) Q)) ∧ (¬ (and32 x4 (shl32 1 x6)) = 0 → (WPm (k - 1) LAY m_X9_pageMinutes [vR (some 36), vI x6] (mem (P, some 5, some 22) I J) (retI (fun v2 I3 J4 => WP k LAY m_X8_workOf 23 [(0, vR (some 51)), (4, vI x4), (5, vI (x5 + v2)), (6, vI (x6 + 1))] [] (mem (P, some 5, some 22) I3 J4) Q) (P, some 5, some 22)))))))) : WP k LAY m_X8_workOf 23 [(0, vR (some 51)), (4, vI x4), (5, vI x5), (6, vI x6)] [] (mem (P, some 5, some 22) I J) Q := by
  refine st_iload (pc' := 25) dX8_workOf_23 rfl (j := 3) rfl ?_
  refine st_aload_n (pc' := 26) dX8_workOf_25 rfl rfl (j := 0) rfl ?_
  refine G_X8_25_51 dX8_workOf_26 (pc' := 29) rfl rfl ?_
  refine G_X8_39_4 dX8_workOf_29 (pc' := 32) rfl rfl ?_
  refine G_X8_57_5 dX8_workOf_32 (pc' := 35) rfl rfl ?_
  refine st_iconst (pc' := 36) dX8_workOf_35 rfl ?_
  refine st_iaload (pc' := 37) (v := (gi I 6 1)) dX8_workOf_36 rfl L_6 (by decide) (by decide) (show gi I 6 1 = (gi I 6 1) from rfl) ?_
  obtain ⟨e1, h⟩ := h
  refine st_icmp_ge (tg := 70) (pc' := 40) dX8_workOf_37 (by decide) rfl e1 (gi_in _ _ _) (fun c => ?_) (fun c => ?_)
  · replace h := h.1 c
    refine st_iload (pc' := 72) dX8_workOf_70 rfl (j := 2) rfl ?_
    exact st_iret (ty := .int) dX8_workOf_72 rfl rfl rfl h
  · replace h := h.2 c
    refine st_iload (pc' := 42) dX8_workOf_40 rfl (j := 1) rfl ?_
    refine st_iconst (pc' := 43) dX8_workOf_42 rfl ?_
    refine st_iload (pc' := 45) dX8_workOf_43 rfl (j := 3) rfl ?_
    refine st_ishl (pc' := 46) (z := (shl32 1 x6)) dX8_workOf_45 rfl rfl ?_
    refine st_iand (pc' := 47) (z := (and32 x4 (shl32 1 x6))) dX8_workOf_46 rfl rfl ?_
    refine st_if_eq (tg := 64) (pc' := 50) dX8_workOf_47 (by decide) rfl (and32_in _ _) (fun c => ?_) (fun c => ?_)
    · replace h := h.1 c
      refine st_iinc (pc' := 67) (L' := [(6, vI (x6 + 1)), (0, vR (some 51)), (4, vI x4), (5, vI x5)]) (j := 3) dX8_workOf_64 rfl (by decide) rfl rfl ?_
      refine st_goto (pc' := 23) dX8_workOf_67 (by decide) ?_
      refine WP_sub (L' := [(0, vR (some 51)), (4, vI x4), (5, vI x5), (6, vI (x6 + 1))]) [1, 2, 3, 0] rfl ?_
      exact h
    · replace h := h.2 c
      refine st_iload (pc' := 52) dX8_workOf_50 rfl (j := 2) rfl ?_
      refine st_aload_n (pc' := 53) dX8_workOf_52 rfl rfl (j := 0) rfl ?_
      refine G_X8_29_51 dX8_workOf_53 (pc' := 56) rfl rfl ?_
      refine st_iload (pc' := 58) dX8_workOf_56 rfl (j := 3) rfl ?_
      refine st_callV (pc' := 61) (kc := k - 1) (E' := LAY) (cal := m_X9_pageMinutes) (n := 1) (as := [vI x6]) (S := [vI x5]) dX8_workOf_58 rfl l_X8_71 k_X9_pageMinutes rfl L_36 c_X9 rfl rfl (Nat.le_of_ble_eq_true rfl) (by omega) ⟨Nat.le_refl _, Nat.le_refl _, Nat.le_refl _, Nat.le_refl _⟩ h (fun r M' q => ?_)
      obtain ⟨v2, I3, J4, rfl, rfl, h⟩ := q
      change WP _ LAY m_X8_workOf 61 [(0, vR (some 51)), (4, vI x4), (5, vI x5), (6, vI x6)] [vI v2, vI x5] (mem (P, some 5, some 22) I3 J4) Q
      refine st_iadd (pc' := 62) dX8_workOf_61 rfl ?_
      refine st_istore (pc' := 64) (L' := [(5, vI (x5 + v2)), (0, vR (some 51)), (4, vI x4), (6, vI x6)]) dX8_workOf_62 rfl (by decide) rfl ?_
      refine st_iinc (pc' := 67) (L' := [(6, vI (x6 + 1)), (5, vI (x5 + v2)), (0, vR (some 51)), (4, vI x4)]) (j := 3) dX8_workOf_64 rfl (by decide) rfl rfl ?_
      refine st_goto (pc' := 23) dX8_workOf_67 (by decide) ?_
      refine WP_sub (L' := [(0, vR (some 51)), (4, vI x4), (5, vI (x5 + v2)), (6, vI (x6 + 1))]) [2, 3, 1, 0] rfl ?_
      exact h
set_option maxRecDepth 20000 in
set_option maxHeartbeats 4000000 in
theorem B_X8_workOfAll_0 {k : Nat} {P : Option Nat} {I : Nat → Nat → Int32} {J : Nat → Nat → Int64} {x1 : Int} {x2 : Int} {Q : Option AV → Mem → Prop} (hk : 0 ≤ k) (h : WP k LAY m_X8_workOfAll 5 [(0, vR (some 51)), (1, vI x1), (2, vI x2), (3, vI 0), (4, vI 0)] [] (mem (P, some 5, some 22) I J) Q) : WP k LAY m_X8_workOfAll 0 [(0, vR (some 51)), (1, vI x1), (2, vI x2)] [] (mem (P, some 5, some 22) I J) Q := by
  refine st_iconst (pc' := 1) dX8_workOfAll_0 rfl ?_
  refine st_istore_n (pc' := 2) (L' := [(3, vI 0), (0, vR (some 51)), (1, vI x1), (2, vI x2)]) dX8_workOfAll_1 rfl rfl (by decide) rfl ?_
  refine st_iconst (pc' := 3) dX8_workOfAll_2 rfl ?_
  refine st_istore (pc' := 5) (L' := [(4, vI 0), (3, vI 0), (0, vR (some 51)), (1, vI x1), (2, vI x2)]) dX8_workOfAll_3 rfl (by decide) rfl ?_
  refine WP_sub (L' := [(0, vR (some 51)), (1, vI x1), (2, vI x2), (3, vI 0), (4, vI 0)]) [2, 3, 4, 1, 0] rfl ?_
  exact h
set_option maxRecDepth 20000 in
set_option maxHeartbeats 4000000 in
theorem B_X8_workOfAll_5 {k : Nat} {P : Option Nat} {I : Nat → Nat → Int32} {J : Nat → Nat → Int64} {x1 : Int} {x2 : Int} {x3 : Int} {x4 : Int} {Q : Option AV → Mem → Prop} (hk : 1 ≤ k) (h : inR x4 ∧ (((gi I 6 2) ≤ x4 → (Q (some (vI x3)) (mem (P, some 5, some 22) I J))) ∧ (¬ (gi I 6 2) ≤ x4 → (WPm (k - 1) LAY m_X8_workOf [vR (some 51), vI x4, vI x1, vI x2] (mem (P, some 5, some 22) I J) (retI (fun v2 I3 J4 => WP k LAY m_X8_workOfAll 5 [(0, vR (some 51)), (1, vI x1), (2, vI x2), (3, vI (x3 + v2)), (4, vI (x4 + 1))] [] (mem (P, some 5, some 22) I3 J4) Q) (P, some 5, some 22)))))) : WP k LAY m_X8_workOfAll 5 [(0, vR (some 51)), (1, vI x1), (2, vI x2), (3, vI x3), (4, vI x4)] [] (mem (P, some 5, some 22) I J) Q := by
  refine st_iload (pc' := 7) dX8_workOfAll_5 rfl (j := 4) rfl ?_
  refine st_aload_n (pc' := 8) dX8_workOfAll_7 rfl rfl (j := 0) rfl ?_
  refine G_X8_25_51 dX8_workOfAll_8 (pc' := 11) rfl rfl ?_
  refine G_X8_39_4 dX8_workOfAll_11 (pc' := 14) rfl rfl ?_
  refine G_X8_57_5 dX8_workOfAll_14 (pc' := 17) rfl rfl ?_
  refine st_iconst (pc' := 18) dX8_workOfAll_17 rfl ?_
  refine st_iaload (pc' := 19) (v := (gi I 6 2)) dX8_workOfAll_18 rfl L_6 (by decide) (by decide) (show gi I 6 2 = (gi I 6 2) from rfl) ?_
  obtain ⟨e1, h⟩ := h
  refine st_icmp_ge (tg := 39) (pc' := 22) dX8_workOfAll_19 (by decide) rfl e1 (gi_in _ _ _) (fun c => ?_) (fun c => ?_)
  · replace h := h.1 c
    refine st_iload_n (pc' := 40) dX8_workOfAll_39 rfl rfl (j := 3) rfl ?_
    exact st_iret (ty := .int) dX8_workOfAll_40 rfl rfl rfl h
  · replace h := h.2 c
    refine st_iload_n (pc' := 23) dX8_workOfAll_22 rfl rfl (j := 3) rfl ?_
    refine st_aload_n (pc' := 24) dX8_workOfAll_23 rfl rfl (j := 0) rfl ?_
    refine st_iload (pc' := 26) dX8_workOfAll_24 rfl (j := 4) rfl ?_
    refine st_iload_n (pc' := 27) dX8_workOfAll_26 rfl rfl (j := 1) rfl ?_
    refine st_iload_n (pc' := 28) dX8_workOfAll_27 rfl rfl (j := 2) rfl ?_
    refine st_callV (pc' := 31) (kc := k - 1) (E' := LAY) (cal := m_X8_workOf) (n := 3) (as := [vI x4, vI x1, vI x2]) (S := [vI x3]) dX8_workOfAll_28 rfl l_X8_74 k_X8_workOf rfl L_51 c_X8 rfl rfl (Nat.le_of_ble_eq_true rfl) (by omega) ⟨Nat.le_refl _, Nat.le_refl _, Nat.le_refl _, Nat.le_refl _⟩ h (fun r M' q => ?_)
    obtain ⟨v2, I3, J4, rfl, rfl, h⟩ := q
    change WP _ LAY m_X8_workOfAll 31 [(0, vR (some 51)), (1, vI x1), (2, vI x2), (3, vI x3), (4, vI x4)] [vI v2, vI x3] (mem (P, some 5, some 22) I3 J4) Q
    refine st_iadd (pc' := 32) dX8_workOfAll_31 rfl ?_
    refine st_istore_n (pc' := 33) (L' := [(3, vI (x3 + v2)), (0, vR (some 51)), (1, vI x1), (2, vI x2), (4, vI x4)]) dX8_workOfAll_32 rfl rfl (by decide) rfl ?_
    refine st_iinc (pc' := 36) (L' := [(4, vI (x4 + 1)), (3, vI (x3 + v2)), (0, vR (some 51)), (1, vI x1), (2, vI x2)]) (j := 4) dX8_workOfAll_33 rfl (by decide) rfl rfl ?_
    refine st_goto (pc' := 5) dX8_workOfAll_36 (by decide) ?_
    refine WP_sub (L' := [(0, vR (some 51)), (1, vI x1), (2, vI x2), (3, vI (x3 + v2)), (4, vI (x4 + 1))]) [2, 3, 4, 1, 0] rfl ?_
    exact h
set_option maxRecDepth 20000 in
set_option maxHeartbeats 4000000 in
theorem B_X8_lightOf_0 {k : Nat} {P : Option Nat} {I : Nat → Nat → Int32} {J : Nat → Nat → Int64} {x1 : Int} {Q : Option AV → Mem → Prop} (hk : 1 ≤ k) (h : (0 ≤ ((3 + (x1 * 14)) + 0) ∧ ((3 + (x1 * 14)) + 0) < 87) ∧ ((0 ≤ (gi I 19 ((3 + (x1 * 14)) + 0).toNat) ∧ (gi I 19 ((3 + (x1 * 14)) + 0).toNat) < 5) ∧ (WPm (k - 1) LAY m_X9_lightAt [vR (some 36), vI (gi I 19 ((3 + (x1 * 14)) + 0).toNat), vI (gi I 15 (gi I 19 ((3 + (x1 * 14)) + 0).toNat).toNat)] (mem (P, some 5, some 22) I J) (retI (fun v3 I4 J5 => Q (some (vI v3)) (mem (P, some 5, some 22) I4 J5)) (P, some 5, some 22))))) : WP k LAY m_X8_lightOf 0 [(0, vR (some 51)), (1, vI x1)] [] (mem (P, some 5, some 22) I J) Q := by
  refine st_aload_n (pc' := 1) dX8_lightOf_0 rfl rfl (j := 0) rfl ?_
  refine G_X8_25_51 dX8_lightOf_1 (pc' := 4) rfl rfl ?_
  refine st_iload_n (pc' := 5) dX8_lightOf_4 rfl rfl (j := 1) rfl ?_
  refine st_iconst (pc' := 6) dX8_lightOf_5 rfl ?_
  refine st_callV (pc' := 9) (kc := k - 1) (E' := LAY) (cal := m_X2_of) (n := 2) (as := [vI x1, vI 0]) (S := []) dX8_lightOf_6 rfl l_X8_33 k_X2_of rfl L_4 c_X2 rfl rfl (Nat.le_of_ble_eq_true rfl) (by omega) ⟨Nat.le_refl _, Nat.le_refl _, Nat.le_refl _, Nat.le_refl _⟩ (Q1 := fun r M' => WP k LAY m_X8_lightOf 9 [(0, vR (some 51)), (1, vI x1)] (r.toList ++ []) M' Q) (WPm.of k_X2_of.1 (Nat.le_of_ble_eq_true rfl) (B_X2_of_0 (by omega) ?_)) (fun r M' q => q)
  obtain ⟨e1, h⟩ := h
  refine ⟨e1, ?_⟩
  change WP _ LAY m_X8_lightOf 9 [(0, vR (some 51)), (1, vI x1)] [vI (gi I 19 ((3 + (x1 * 14)) + 0).toNat)] (mem (P, some 5, some 22) I J) Q
  refine st_istore_n (pc' := 10) (L' := [(2, vI (gi I 19 ((3 + (x1 * 14)) + 0).toNat)), (0, vR (some 51)), (1, vI x1)]) dX8_lightOf_9 rfl rfl (by decide) rfl ?_
  refine st_aload_n (pc' := 11) dX8_lightOf_10 rfl rfl (j := 1) rfl ?_
  refine G_X8_29_51 dX8_lightOf_11 (pc' := 14) rfl rfl ?_
  refine st_iload_n (pc' := 15) dX8_lightOf_14 rfl rfl (j := 0) rfl ?_
  refine st_aload_n (pc' := 16) dX8_lightOf_15 rfl rfl (j := 1) rfl ?_
  refine G_X8_25_51 dX8_lightOf_16 (pc' := 19) rfl rfl ?_
  refine G_X8_39_4 dX8_lightOf_19 (pc' := 22) rfl rfl ?_
  refine G_X8_43_5 dX8_lightOf_22 (pc' := 25) rfl rfl ?_
  refine st_iload_n (pc' := 26) dX8_lightOf_25 rfl rfl (j := 0) rfl ?_
  obtain ⟨e2, h⟩ := h
  refine st_iaload (pc' := 27) (v := (gi I 15 (gi I 19 ((3 + (x1 * 14)) + 0).toNat).toNat)) dX8_lightOf_26 rfl L_15 (by decide) e2 (show gi I 15 (gi I 19 ((3 + (x1 * 14)) + 0).toNat).toNat = (gi I 15 (gi I 19 ((3 + (x1 * 14)) + 0).toNat).toNat) from rfl) ?_
  refine st_callV (pc' := 30) (kc := k - 1) (E' := LAY) (cal := m_X9_lightAt) (n := 2) (as := [vI (gi I 19 ((3 + (x1 * 14)) + 0).toNat), vI (gi I 15 (gi I 19 ((3 + (x1 * 14)) + 0).toNat).toNat)]) (S := []) dX8_lightOf_27 rfl l_X8_48 k_X9_lightAt rfl L_36 c_X9 rfl rfl (Nat.le_of_ble_eq_true rfl) (by omega) ⟨Nat.le_refl _, Nat.le_refl _, Nat.le_refl _, Nat.le_refl _⟩ h (fun r M' q => ?_)
  obtain ⟨v3, I4, J5, rfl, rfl, h⟩ := q
  change WP _ LAY m_X8_lightOf 30 [(2, vI (gi I 19 ((3 + (x1 * 14)) + 0).toNat)), (0, vR (some 51)), (1, vI x1)] [vI v3] (mem (P, some 5, some 22) I4 J5) Q
  exact st_iret (ty := .int) dX8_lightOf_30 rfl rfl rfl h
set_option maxRecDepth 20000 in
set_option maxHeartbeats 4000000 in
theorem B_X8_measurePages_0 {k : Nat} {P : Option Nat} {I : Nat → Nat → Int32} {J : Nat → Nat → Int64}  {Q : Option AV → Mem → Prop} (hk : 0 ≤ k) (h : (0 ≤ (gi I 6 1) ∧ (gi I 6 1) < 15) ∧ (WP k LAY m_X8_measurePages 24 [(0, vR (some 51)), (2, vI ((gi I 6 1) - 1))] [] (mem (P, some 5, some 22) (si I 53 (gi I 6 1).toNat 0) J) Q)) : WP k LAY m_X8_measurePages 0 [(0, vR (some 51))] [] (mem (P, some 5, some 22) I J) Q := by
  refine st_aload_n (pc' := 1) dX8_measurePages_0 rfl rfl (j := 0) rfl ?_
  refine G_X8_25_51 dX8_measurePages_1 (pc' := 4) rfl rfl ?_
  refine G_X8_39_4 dX8_measurePages_4 (pc' := 7) rfl rfl ?_
  refine G_X8_57_5 dX8_measurePages_7 (pc' := 10) rfl rfl ?_
  refine st_iconst (pc' := 11) dX8_measurePages_10 rfl ?_
  refine st_iaload (pc' := 12) (v := (gi I 6 1)) dX8_measurePages_11 rfl L_6 (by decide) (by decide) (show gi I 6 1 = (gi I 6 1) from rfl) ?_
  refine st_istore_n (pc' := 13) (L' := [(1, vI (gi I 6 1)), (0, vR (some 51))]) dX8_measurePages_12 rfl rfl (by decide) rfl ?_
  refine st_aload_n (pc' := 14) dX8_measurePages_13 rfl rfl (j := 1) rfl ?_
  refine G_X8_15_51 dX8_measurePages_14 (pc' := 17) rfl rfl ?_
  refine st_iload_n (pc' := 18) dX8_measurePages_17 rfl rfl (j := 0) rfl ?_
  refine st_iconst (pc' := 19) dX8_measurePages_18 rfl ?_
  obtain ⟨e1, h⟩ := h
  refine st_iastore (pc' := 20) (M' := (mem (P, some 5, some 22) (si I 53 (gi I 6 1).toNat 0) J)) dX8_measurePages_19 rfl L_53 (by decide) e1 rfl ?_
  refine st_iload_n (pc' := 21) dX8_measurePages_20 rfl rfl (j := 0) rfl ?_
  refine st_iconst (pc' := 22) dX8_measurePages_21 rfl ?_
  refine st_isub (pc' := 23) dX8_measurePages_22 rfl ?_
  refine st_istore_n (pc' := 24) (L' := [(2, vI ((gi I 6 1) - 1)), (1, vI (gi I 6 1)), (0, vR (some 51))]) dX8_measurePages_23 rfl rfl (by decide) rfl ?_
  refine WP_sub (L' := [(0, vR (some 51)), (2, vI ((gi I 6 1) - 1))]) [2, 0] rfl ?_
  exact h
set_option maxRecDepth 20000 in
set_option maxHeartbeats 4000000 in
theorem B_X8_measurePages_24 {k : Nat} {P : Option Nat} {I : Nat → Nat → Int32} {J : Nat → Nat → Int64} {x2 : Int} {Q : Option AV → Mem → Prop} (hk : 1 ≤ k) (h : inR x2 ∧ ((x2 < 0 → (Q none (mem (P, some 5, some 22) I J))) ∧ (¬ x2 < 0 → (WPm (k - 1) LAY m_X9_pageMinutes [vR (some 36), vI x2] (mem (P, some 5, some 22) I J) (retI (fun v2 I3 J4 => (0 ≤ x2 ∧ x2 < 14) ∧ ((0 ≤ (x2 + 1) ∧ (x2 + 1) < 15) ∧ ((0 ≤ x2 ∧ x2 < 15) ∧ (WP k LAY m_X8_measurePages 24 [(0, vR (some 51)), (2, vI (x2 + (-1)))] [] (mem (P, some 5, some 22) (si (si I3 52 (x2).toNat v2) 53 (x2).toNat ((gi I3 53 (x2 + 1).toNat) + (gi (si I3 52 (x2).toNat v2) 52 (x2).toNat))) J4) Q)))) (P, some 5, some 22)))))) : WP k LAY m_X8_measurePages 24 [(0, vR (some 51)), (2, vI x2)] [] (mem (P, some 5, some 22) I J) Q := by
  refine st_iload_n (pc' := 25) dX8_measurePages_24 rfl rfl (j := 1) rfl ?_
  obtain ⟨e1, h⟩ := h
  refine st_if_lt (tg := 69) (pc' := 28) dX8_measurePages_25 (by decide) rfl e1 (fun c => ?_) (fun c => ?_)
  · replace h := h.1 c
    exact st_vret dX8_measurePages_69 rfl rfl h
  · replace h := h.2 c
    refine st_aload_n (pc' := 29) dX8_measurePages_28 rfl rfl (j := 0) rfl ?_
    refine G_X8_9_51 dX8_measurePages_29 (pc' := 32) rfl rfl ?_
    refine st_iload_n (pc' := 33) dX8_measurePages_32 rfl rfl (j := 1) rfl ?_
    refine st_aload_n (pc' := 34) dX8_measurePages_33 rfl rfl (j := 0) rfl ?_
    refine G_X8_29_51 dX8_measurePages_34 (pc' := 37) rfl rfl ?_
    refine st_iload_n (pc' := 38) dX8_measurePages_37 rfl rfl (j := 1) rfl ?_
    refine st_callV (pc' := 41) (kc := k - 1) (E' := LAY) (cal := m_X9_pageMinutes) (n := 1) (as := [vI x2]) (S := [vI x2, vR (some 52)]) dX8_measurePages_38 rfl l_X8_71 k_X9_pageMinutes rfl L_36 c_X9 rfl rfl (Nat.le_of_ble_eq_true rfl) (by omega) ⟨Nat.le_refl _, Nat.le_refl _, Nat.le_refl _, Nat.le_refl _⟩ h (fun r M' q => ?_)
    obtain ⟨v2, I3, J4, rfl, rfl, h⟩ := q
    change WP _ LAY m_X8_measurePages 41 [(0, vR (some 51)), (2, vI x2)] [vI v2, vI x2, vR (some 52)] (mem (P, some 5, some 22) I3 J4) Q
    obtain ⟨e5, h⟩ := h
    refine st_iastore (pc' := 42) (M' := (mem (P, some 5, some 22) (si I3 52 (x2).toNat v2) J4)) dX8_measurePages_41 rfl L_52 (by decide) e5 rfl ?_
    refine st_aload_n (pc' := 43) dX8_measurePages_42 rfl rfl (j := 0) rfl ?_
    refine G_X8_15_51 dX8_measurePages_43 (pc' := 46) rfl rfl ?_
    refine st_iload_n (pc' := 47) dX8_measurePages_46 rfl rfl (j := 1) rfl ?_
    refine st_aload_n (pc' := 48) dX8_measurePages_47 rfl rfl (j := 0) rfl ?_
    refine G_X8_15_51 dX8_measurePages_48 (pc' := 51) rfl rfl ?_
    refine st_iload_n (pc' := 52) dX8_measurePages_51 rfl rfl (j := 1) rfl ?_
    refine st_iconst (pc' := 53) dX8_measurePages_52 rfl ?_
    refine st_iadd (pc' := 54) dX8_measurePages_53 rfl ?_
    obtain ⟨e6, h⟩ := h
    refine st_iaload (pc' := 55) (v := (gi I3 53 (x2 + 1).toNat)) dX8_measurePages_54 rfl L_53 (by decide) e6 (show gi (si I3 52 (x2).toNat v2) 53 (x2 + 1).toNat = (gi I3 53 (x2 + 1).toNat) from (gi_cell _ _ _ _ (by decide))) ?_
    refine st_aload_n (pc' := 56) dX8_measurePages_55 rfl rfl (j := 0) rfl ?_
    refine G_X8_9_51 dX8_measurePages_56 (pc' := 59) rfl rfl ?_
    refine st_iload_n (pc' := 60) dX8_measurePages_59 rfl rfl (j := 1) rfl ?_
    refine st_iaload (pc' := 61) (v := (gi (si I3 52 (x2).toNat v2) 52 (x2).toNat)) dX8_measurePages_60 rfl L_52 (by decide) e5 (show gi (si I3 52 (x2).toNat v2) 52 (x2).toNat = (gi (si I3 52 (x2).toNat v2) 52 (x2).toNat) from rfl) ?_
    refine st_iadd (pc' := 62) dX8_measurePages_61 rfl ?_
    obtain ⟨e7, h⟩ := h
    refine st_iastore (pc' := 63) (M' := (mem (P, some 5, some 22) (si (si I3 52 (x2).toNat v2) 53 (x2).toNat ((gi I3 53 (x2 + 1).toNat) + (gi (si I3 52 (x2).toNat v2) 52 (x2).toNat))) J4)) dX8_measurePages_62 rfl L_53 (by decide) e7 rfl ?_
    refine st_iinc (pc' := 66) (L' := [(2, vI (x2 + (-1))), (0, vR (some 51))]) (j := 1) dX8_measurePages_63 rfl (by decide) rfl rfl ?_
    refine st_goto (pc' := 24) dX8_measurePages_66 (by decide) ?_
    refine WP_sub (L' := [(0, vR (some 51)), (2, vI (x2 + (-1)))]) [1, 0] rfl ?_
    exact h
set_option maxRecDepth 20000 in
set_option maxHeartbeats 4000000 in
theorem B_X8_tryMost_0 {k : Nat} {P : Option Nat} {I : Nat → Nat → Int32} {J : Nat → Nat → Int64} {x1 : Int} {x2 : Int} {x3 : Int} {Q : Option AV → Mem → Prop} (hk : 0 ≤ k) (h : inR x2 ∧ (((gi I 51 4) < x2 → (Q none (mem (P, some 5, some 22) (si (si (si I 51 4 x2) 51 5 x1) 51 6 x3) J))) ∧ (¬ (gi I 51 4) < x2 → (inR x3 ∧ ((x3 < (gi I 51 6) → (Q none (mem (P, some 5, some 22) (si (si (si I 51 4 x2) 51 5 x1) 51 6 x3) J))) ∧ (¬ x3 < (gi I 51 6) → (inR x1 ∧ (((gi I 51 5) ≤ x1 → (Q none (mem (P, some 5, some 22) I J))) ∧ (¬ (gi I 51 5) ≤ x1 → (Q none (mem (P, some 5, some 22) (si (si (si I 51 4 x2) 51 5 x1) 51 6 x3) J))))))))))) : WP k LAY m_X8_tryMost 0 [(0, vR (some 51)), (1, vI x1), (2, vI x2), (3, vI x3)] [] (mem (P, some 5, some 22) I J) Q := by
  refine st_iload_n (pc' := 1) dX8_tryMost_0 rfl rfl (j := 2) rfl ?_
  refine st_aload_n (pc' := 2) dX8_tryMost_1 rfl rfl (j := 0) rfl ?_
  refine G_X8_98_51 dX8_tryMost_2 (pc' := 5) rfl rfl ?_
  obtain ⟨e1, h⟩ := h
  refine st_icmp_gt (tg := 24) (pc' := 8) dX8_tryMost_5 (by decide) rfl e1 (gi_in _ _ _) (fun c => ?_) (fun c => ?_)
  · replace h := h.1 c
    refine st_aload_n (pc' := 25) dX8_tryMost_24 rfl rfl (j := 0) rfl ?_
    refine st_iload_n (pc' := 26) dX8_tryMost_25 rfl rfl (j := 2) rfl ?_
    refine P_X8_98_51 dX8_tryMost_26 (pc' := 29) rfl rfl ?_
    refine st_aload_n (pc' := 30) dX8_tryMost_29 rfl rfl (j := 0) rfl ?_
    refine st_iload_n (pc' := 31) dX8_tryMost_30 rfl rfl (j := 1) rfl ?_
    refine P_X8_101_51 dX8_tryMost_31 (pc' := 34) rfl rfl ?_
    refine st_aload_n (pc' := 35) dX8_tryMost_34 rfl rfl (j := 0) rfl ?_
    refine st_iload_n (pc' := 36) dX8_tryMost_35 rfl rfl (j := 3) rfl ?_
    refine P_X8_104_51 dX8_tryMost_36 (pc' := 39) rfl rfl ?_
    exact st_vret dX8_tryMost_39 rfl rfl h
  · replace h := h.2 c
    refine st_iload_n (pc' := 9) dX8_tryMost_8 rfl rfl (j := 3) rfl ?_
    refine st_aload_n (pc' := 10) dX8_tryMost_9 rfl rfl (j := 0) rfl ?_
    refine G_X8_104_51 dX8_tryMost_10 (pc' := 13) rfl rfl ?_
    obtain ⟨e2, h⟩ := h
    refine st_icmp_lt (tg := 24) (pc' := 16) dX8_tryMost_13 (by decide) rfl e2 (gi_in _ _ _) (fun c => ?_) (fun c => ?_)
    · replace h := h.1 c
      refine st_aload_n (pc' := 25) dX8_tryMost_24 rfl rfl (j := 0) rfl ?_
      refine st_iload_n (pc' := 26) dX8_tryMost_25 rfl rfl (j := 2) rfl ?_
      refine P_X8_98_51 dX8_tryMost_26 (pc' := 29) rfl rfl ?_
      refine st_aload_n (pc' := 30) dX8_tryMost_29 rfl rfl (j := 0) rfl ?_
      refine st_iload_n (pc' := 31) dX8_tryMost_30 rfl rfl (j := 1) rfl ?_
      refine P_X8_101_51 dX8_tryMost_31 (pc' := 34) rfl rfl ?_
      refine st_aload_n (pc' := 35) dX8_tryMost_34 rfl rfl (j := 0) rfl ?_
      refine st_iload_n (pc' := 36) dX8_tryMost_35 rfl rfl (j := 3) rfl ?_
      refine P_X8_104_51 dX8_tryMost_36 (pc' := 39) rfl rfl ?_
      exact st_vret dX8_tryMost_39 rfl rfl h
    · replace h := h.2 c
      refine st_iload_n (pc' := 17) dX8_tryMost_16 rfl rfl (j := 1) rfl ?_
      refine st_aload_n (pc' := 18) dX8_tryMost_17 rfl rfl (j := 0) rfl ?_
      refine G_X8_101_51 dX8_tryMost_18 (pc' := 21) rfl rfl ?_
      obtain ⟨e3, h⟩ := h
      refine st_icmp_ge (tg := 39) (pc' := 24) dX8_tryMost_21 (by decide) rfl e3 (gi_in _ _ _) (fun c => ?_) (fun c => ?_)
      · replace h := h.1 c
        exact st_vret dX8_tryMost_39 rfl rfl h
      · replace h := h.2 c
        refine st_aload_n (pc' := 25) dX8_tryMost_24 rfl rfl (j := 0) rfl ?_
        refine st_iload_n (pc' := 26) dX8_tryMost_25 rfl rfl (j := 2) rfl ?_
        refine P_X8_98_51 dX8_tryMost_26 (pc' := 29) rfl rfl ?_
        refine st_aload_n (pc' := 30) dX8_tryMost_29 rfl rfl (j := 0) rfl ?_
        refine st_iload_n (pc' := 31) dX8_tryMost_30 rfl rfl (j := 1) rfl ?_
        refine P_X8_101_51 dX8_tryMost_31 (pc' := 34) rfl rfl ?_
        refine st_aload_n (pc' := 35) dX8_tryMost_34 rfl rfl (j := 0) rfl ?_
        refine st_iload_n (pc' := 36) dX8_tryMost_35 rfl rfl (j := 3) rfl ?_
        refine P_X8_104_51 dX8_tryMost_36 (pc' := 39) rfl rfl ?_
        exact st_vret dX8_tryMost_39 rfl rfl h
set_option maxRecDepth 20000 in
set_option maxHeartbeats 4000000 in
theorem B_X8_chooseMost_0 {k : Nat} {P : Option Nat} {I : Nat → Nat → Int32} {J : Nat → Nat → Int64} {x1 : Int} {x2 : Int} {x3 : Int} {x4 : Int} {Q : Option AV → Mem → Prop} (hk : 2 ≤ k) (h : inR ((x3 + (gi I 6 1)) - x1) ∧ ((((x3 + (gi I 6 1)) - x1) < (gi I 51 4) → (Q none (mem (P, some 5, some 22) I J))) ∧ (¬ ((x3 + (gi I 6 1)) - x1) < (gi I 51 4) → ((¬ ((x3 + (gi I 6 1)) - x1) = (gi I 51 4) → (inR x1 ∧ ((x1 < (gi I 6 1) → ((0 ≤ ((3 + ((gi I 51 12) * 14)) + 1) ∧ ((3 + ((gi I 51 12) * 14)) + 1) < 87) ∧ ((0 ≤ ((3 + ((gi I 51 12) * 14)) + 2) ∧ ((3 + ((gi I 51 12) * 14)) + 2) < 87) ∧ (∀ y5 : Int, y5 = (or32 (gi I 19 (((3 + ((gi I 51 12) * 14)) + 1) : Int).toNat) (gi I 19 (((3 + ((gi I 51 12) * 14)) + 2) : Int).toNat)) → ((0 ≤ x1 ∧ x1 < 14) ∧ ((¬ (and32 y5 (shl32 1 x1)) = 0 → (WPm (k - 1) LAY m_X8_chooseMost [vR (some 51), vI (x1 + 1), vI x2, vI x3, vI x4] (mem (P, some 5, some 22) I J) (retV (fun I8 J9 => Q none (mem (P, some 5, some 22) I8 J9)) (P, some 5, some 22)))) ∧ ((and32 y5 (shl32 1 x1)) = 0 → (inR (x4 + (gi I 52 (x1).toNat)) ∧ (((gi I 51 10) < (x4 + (gi I 52 (x1).toNat)) → (WPm (k - 1) LAY m_X8_chooseMost [vR (some 51), vI (x1 + 1), vI x2, vI x3, vI x4] (mem (P, some 5, some 22) I J) (retV (fun I12 J13 => Q none (mem (P, some 5, some 22) I12 J13)) (P, some 5, some 22)))) ∧ (¬ (gi I 51 10) < (x4 + (gi I 52 (x1).toNat)) → ((¬ (and32 (gi I 11 (x1 : Int).toNat) (xor32 (or32 y5 x2) (-1)) = 0) → (WPm (k - 1) LAY m_X8_chooseMost [vR (some 51), vI (x1 + 1), vI x2, vI x3, vI x4] (mem (P, some 5, some 22) I J) (retV (fun I15 J16 => Q none (mem (P, some 5, some 22) I15 J16)) (P, some 5, some 22)))) ∧ ((and32 (gi I 11 (x1 : Int).toNat) (xor32 (or32 y5 x2) (-1)) = 0) → (WPm (k - 1) LAY m_X8_chooseMost [vR (some 51), vI (x1 + 1), vI (or32 x2 (shl32 1 x1)), vI (x3 + 1), vI (x4 + (gi I 52 (x1).toNat))] (mem (P, some 5, some 22) I J) (retV (fun I18 J19 => WPm (k - 1) LAY m_X8_chooseMost [vR (some 51), vI (x1 + 1), vI x2, vI x3, vI x4] (mem (P, some 5, some 22) I18 J19) (retV (fun I21 J22 => Q none (mem (P, some 5, some 22) I21 J22)) (P, some 5, some 22))) (P, some 5, some 22))))))))))))))) ∧ (¬ x1 < (gi I 6 1) → (inR x3 ∧ (((gi I 51 4) < x3 → (Q none (mem (P, some 5, some 22) (si (si (si I 51 4 x3) 51 5 x2) 51 6 x4) J))) ∧ (¬ (gi I 51 4) < x3 → (inR x4 ∧ ((x4 < (gi I 51 6) → (Q none (mem (P, some 5, some 22) (si (si (si I 51 4 x3) 51 5 x2) 51 6 x4) J))) ∧ (¬ x4 < (gi I 51 6) → (inR x2 ∧ (((gi I 51 5) ≤ x2 → (Q none (mem (P, some 5, some 22) I J))) ∧ (¬ (gi I 51 5) ≤ x2 → (Q none (mem (P, some 5, some 22) (si (si (si I 51 4 x3) 51 5 x2) 51 6 x4) J))))))))))))))) ∧ (((x3 + (gi I 6 1)) - x1) = (gi I 51 4) → (inR x4 ∧ ((x4 ≤ (gi I 51 6) → (inR x1 ∧ ((x1 < (gi I 6 1) → ((0 ≤ ((3 + ((gi I 51 12) * 14)) + 1) ∧ ((3 + ((gi I 51 12) * 14)) + 1) < 87) ∧ ((0 ≤ ((3 + ((gi I 51 12) * 14)) + 2) ∧ ((3 + ((gi I 51 12) * 14)) + 2) < 87) ∧ (∀ y30 : Int, y30 = (or32 (gi I 19 (((3 + ((gi I 51 12) * 14)) + 1) : Int).toNat) (gi I 19 (((3 + ((gi I 51 12) * 14)) + 2) : Int).toNat)) → ((0 ≤ x1 ∧ x1 < 14) ∧ ((¬ (and32 y30 (shl32 1 x1)) = 0 → (WPm (k - 1) LAY m_X8_chooseMost [vR (some 51), vI (x1 + 1), vI x2, vI x3, vI x4] (mem (P, some 5, some 22) I J) (retV (fun I33 J34 => Q none (mem (P, some 5, some 22) I33 J34)) (P, some 5, some 22)))) ∧ ((and32 y30 (shl32 1 x1)) = 0 → (inR (x4 + (gi I 52 (x1).toNat)) ∧ (((gi I 51 10) < (x4 + (gi I 52 (x1).toNat)) → (WPm (k - 1) LAY m_X8_chooseMost [vR (some 51), vI (x1 + 1), vI x2, vI x3, vI x4] (mem (P, some 5, some 22) I J) (retV (fun I37 J38 => Q none (mem (P, some 5, some 22) I37 J38)) (P, some 5, some 22)))) ∧ (¬ (gi I 51 10) < (x4 + (gi I 52 (x1).toNat)) → ((¬ (and32 (gi I 11 (x1 : Int).toNat) (xor32 (or32 y30 x2) (-1)) = 0) → (WPm (k - 1) LAY m_X8_chooseMost [vR (some 51), vI (x1 + 1), vI x2, vI x3, vI x4] (mem (P, some 5, some 22) I J) (retV (fun I40 J41 => Q none (mem (P, some 5, some 22) I40 J41)) (P, some 5, some 22)))) ∧ ((and32 (gi I 11 (x1 : Int).toNat) (xor32 (or32 y30 x2) (-1)) = 0) → (WPm (k - 1) LAY m_X8_chooseMost [vR (some 51), vI (x1 + 1), vI (or32 x2 (shl32 1 x1)), vI (x3 + 1), vI (x4 + (gi I 52 (x1).toNat))] (mem (P, some 5, some 22) I J) (retV (fun I43 J44 => WPm (k - 1) LAY m_X8_chooseMost [vR (some 51), vI (x1 + 1), vI x2, vI x3, vI x4] (mem (P, some 5, some 22) I43 J44) (retV (fun I46 J47 => Q none (mem (P, some 5, some 22) I46 J47)) (P, some 5, some 22))) (P, some 5, some 22))))))))))))))) ∧ (¬ x1 < (gi I 6 1) → (inR x3 ∧ (((gi I 51 4) < x3 → (Q none (mem (P, some 5, some 22) (si (si (si I 51 4 x3) 51 5 x2) 51 6 x4) J))) ∧ (¬ (gi I 51 4) < x3 → ((x4 < (gi I 51 6) → (Q none (mem (P, some 5, some 22) (si (si (si I 51 4 x3) 51 5 x2) 51 6 x4) J))) ∧ (¬ x4 < (gi I 51 6) → (inR x2 ∧ (((gi I 51 5) ≤ x2 → (Q none (mem (P, some 5, some 22) I J))) ∧ (¬ (gi I 51 5) ≤ x2 → (Q none (mem (P, some 5, some 22) (si (si (si I 51 4 x3) 51 5 x2) 51 6 x4) J)))))))))))))) ∧ (¬ x4 ≤ (gi I 51 6) → (Q none (mem (P, some 5, some 22) I J)))))))))) : WP k LAY m_X8_chooseMost 0 [(0, vR (some 51)), (1, vI x1), (2, vI x2), (3, vI x3), (4, vI x4)] [] (mem (P, some 5, some 22) I J) Q := by
  refine st_aload_n (pc' := 1) dX8_chooseMost_0 rfl rfl (j := 0) rfl ?_
  refine G_X8_25_51 dX8_chooseMost_1 (pc' := 4) rfl rfl ?_
  refine G_X8_39_4 dX8_chooseMost_4 (pc' := 7) rfl rfl ?_
  refine st_astore (pc' := 9) (L' := [(5, vR (some 5)), (0, vR (some 51)), (1, vI x1), (2, vI x2), (3, vI x3), (4, vI x4)]) dX8_chooseMost_7 rfl (by decide) rfl ?_
  refine st_aload (pc' := 11) dX8_chooseMost_9 rfl (j := 0) rfl ?_
  refine G_X8_57_5 dX8_chooseMost_11 (pc' := 14) rfl rfl ?_
  refine st_iconst (pc' := 15) dX8_chooseMost_14 rfl ?_
  refine st_iaload (pc' := 16) (v := (gi I 6 1)) dX8_chooseMost_15 rfl L_6 (by decide) (by decide) (show gi I 6 1 = (gi I 6 1) from rfl) ?_
  refine st_istore (pc' := 18) (L' := [(6, vI (gi I 6 1)), (5, vR (some 5)), (0, vR (some 51)), (1, vI x1), (2, vI x2), (3, vI x3), (4, vI x4)]) dX8_chooseMost_16 rfl (by decide) rfl ?_
  refine st_iload_n (pc' := 19) dX8_chooseMost_18 rfl rfl (j := 5) rfl ?_
  refine st_iload (pc' := 21) dX8_chooseMost_19 rfl (j := 0) rfl ?_
  refine st_iadd (pc' := 22) dX8_chooseMost_21 rfl ?_
  refine st_iload_n (pc' := 23) dX8_chooseMost_22 rfl rfl (j := 3) rfl ?_
  refine st_isub (pc' := 24) dX8_chooseMost_23 rfl ?_
  refine st_istore (pc' := 26) (L' := [(7, vI ((x3 + (gi I 6 1)) - x1)), (6, vI (gi I 6 1)), (5, vR (some 5)), (0, vR (some 51)), (1, vI x1), (2, vI x2), (3, vI x3), (4, vI x4)]) dX8_chooseMost_24 rfl (by decide) rfl ?_
  refine st_iload (pc' := 28) dX8_chooseMost_26 rfl (j := 0) rfl ?_
  refine st_aload_n (pc' := 29) dX8_chooseMost_28 rfl rfl (j := 3) rfl ?_
  refine G_X8_98_51 dX8_chooseMost_29 (pc' := 32) rfl rfl ?_
  obtain ⟨e1, h⟩ := h
  refine st_icmp_lt (tg := 53) (pc' := 35) dX8_chooseMost_32 (by decide) rfl e1 (gi_in _ _ _) (fun c => ?_) (fun c => ?_)
  · replace h := h.1 c
    exact st_vret dX8_chooseMost_53 rfl rfl h
  · replace h := h.2 c
    refine st_iload (pc' := 37) dX8_chooseMost_35 rfl (j := 0) rfl ?_
    refine st_aload_n (pc' := 38) dX8_chooseMost_37 rfl rfl (j := 3) rfl ?_
    refine G_X8_98_51 dX8_chooseMost_38 (pc' := 41) rfl rfl ?_
    refine st_icmp_ne (tg := 54) (pc' := 44) dX8_chooseMost_41 (by decide) rfl e1 (gi_in _ _ _) (fun c => ?_) (fun c => ?_)
    · replace h := h.1 c
      refine st_iload_n (pc' := 55) dX8_chooseMost_54 rfl rfl (j := 4) rfl ?_
      refine st_iload (pc' := 57) dX8_chooseMost_55 rfl (j := 1) rfl ?_
      obtain ⟨e2, h⟩ := h
      refine st_icmp_lt (tg := 69) (pc' := 60) dX8_chooseMost_57 (by decide) rfl e2 (gi_in _ _ _) (fun c => ?_) (fun c => ?_)
      · replace h := h.1 c
        refine st_aload_n (pc' := 70) dX8_chooseMost_69 rfl rfl (j := 3) rfl ?_
        refine G_X8_25_51 dX8_chooseMost_70 (pc' := 73) rfl rfl ?_
        refine st_aload_n (pc' := 74) dX8_chooseMost_73 rfl rfl (j := 3) rfl ?_
        refine G_X8_86_51 dX8_chooseMost_74 (pc' := 77) rfl rfl ?_
        refine st_callV (pc' := 80) (kc := k - 1) (E' := LAY) (cal := m_X2_known) (n := 1) (as := [vI (gi I 51 12)]) (S := []) dX8_chooseMost_77 rfl l_X8_53 k_X2_known rfl L_4 c_X2 rfl rfl (Nat.le_of_ble_eq_true rfl) (by omega) ⟨Nat.le_refl _, Nat.le_refl _, Nat.le_refl _, Nat.le_refl _⟩ (Q1 := fun r M' => WP k LAY m_X8_chooseMost 80 [(7, vI ((x3 + (gi I 6 1)) - x1)), (6, vI (gi I 6 1)), (5, vR (some 5)), (0, vR (some 51)), (1, vI x1), (2, vI x2), (3, vI x3), (4, vI x4)] (r.toList ++ []) M' Q) (WPm.of k_X2_known.1 (Nat.le_of_ble_eq_true rfl) (B_X2_known_0 (by omega) ?_)) (fun r M' q => q)
        obtain ⟨e3, h⟩ := h
        refine ⟨e3, ?_⟩
        obtain ⟨e4, h⟩ := h
        refine ⟨e4, ?_⟩
        change WP _ LAY m_X8_chooseMost 80 [(7, vI ((x3 + (gi I 6 1)) - x1)), (6, vI (gi I 6 1)), (5, vR (some 5)), (0, vR (some 51)), (1, vI x1), (2, vI x2), (3, vI x3), (4, vI x4)] [vI (or32 (gi I 19 (((3 + ((gi I 51 12) * 14)) + 1) : Int).toNat) (gi I 19 (((3 + ((gi I 51 12) * 14)) + 2) : Int).toNat))] (mem (P, some 5, some 22) I J) Q
        obtain ⟨y5, hy5⟩ : ∃ y : Int, y = (or32 (gi I 19 (((3 + ((gi I 51 12) * 14)) + 1) : Int).toNat) (gi I 19 (((3 + ((gi I 51 12) * 14)) + 2) : Int).toNat)) := ⟨_, rfl⟩
        rw [← hy5]
        replace h := h y5 hy5
        refine st_istore (pc' := 82) (L' := [(8, vI y5), (7, vI ((x3 + (gi I 6 1)) - x1)), (6, vI (gi I 6 1)), (5, vR (some 5)), (0, vR (some 51)), (1, vI x1), (2, vI x2), (3, vI x3), (4, vI x4)]) dX8_chooseMost_80 rfl (by decide) rfl ?_
        refine st_iload (pc' := 84) dX8_chooseMost_82 rfl (j := 8) rfl ?_
        refine st_aload_n (pc' := 85) dX8_chooseMost_84 rfl rfl (j := 4) rfl ?_
        refine G_X8_9_51 dX8_chooseMost_85 (pc' := 88) rfl rfl ?_
        refine st_iload_n (pc' := 89) dX8_chooseMost_88 rfl rfl (j := 5) rfl ?_
        obtain ⟨e6, h⟩ := h
        refine st_iaload (pc' := 90) (v := (gi I 52 (x1).toNat)) dX8_chooseMost_89 rfl L_52 (by decide) e6 (show gi I 52 (x1).toNat = (gi I 52 (x1).toNat) from rfl) ?_
        refine st_iadd (pc' := 91) dX8_chooseMost_90 rfl ?_
        refine st_istore (pc' := 93) (L' := [(9, vI (x4 + (gi I 52 (x1).toNat))), (8, vI y5), (7, vI ((x3 + (gi I 6 1)) - x1)), (6, vI (gi I 6 1)), (5, vR (some 5)), (0, vR (some 51)), (1, vI x1), (2, vI x2), (3, vI x3), (4, vI x4)]) dX8_chooseMost_91 rfl (by decide) rfl ?_
        refine st_iload (pc' := 95) dX8_chooseMost_93 rfl (j := 1) rfl ?_
        refine st_iconst (pc' := 96) dX8_chooseMost_95 rfl ?_
        refine st_iload_n (pc' := 97) dX8_chooseMost_96 rfl rfl (j := 6) rfl ?_
        refine st_ishl (pc' := 98) (z := (shl32 1 x1)) dX8_chooseMost_97 rfl rfl ?_
        refine st_iand (pc' := 99) (z := (and32 y5 (shl32 1 x1))) dX8_chooseMost_98 rfl rfl ?_
        refine st_if_ne (tg := 141) (pc' := 102) dX8_chooseMost_99 (by decide) rfl (and32_in _ _) (fun c => ?_) (fun c => ?_)
        · replace h := h.1 c
          refine st_aload_n (pc' := 142) dX8_chooseMost_141 rfl rfl (j := 5) rfl ?_
          refine st_iload_n (pc' := 143) dX8_chooseMost_142 rfl rfl (j := 6) rfl ?_
          refine st_iconst (pc' := 144) dX8_chooseMost_143 rfl ?_
          refine st_iadd (pc' := 145) dX8_chooseMost_144 rfl ?_
          refine st_iload_n (pc' := 146) dX8_chooseMost_145 rfl rfl (j := 7) rfl ?_
          refine st_iload_n (pc' := 147) dX8_chooseMost_146 rfl rfl (j := 8) rfl ?_
          refine st_iload (pc' := 149) dX8_chooseMost_147 rfl (j := 9) rfl ?_
          refine st_callS (pc' := 152) (kc := k - 1) (E' := LAY) (cal := m_X8_chooseMost) (n := 5) (as := [vR (some 51), vI (x1 + 1), vI x2, vI x3, vI x4]) (S := []) dX8_chooseMost_149 rfl l_X8_107 k_X8_chooseMost rfl rfl (Nat.le_of_ble_eq_true rfl) (by omega) ⟨Nat.le_refl _, Nat.le_refl _, Nat.le_refl _, Nat.le_refl _⟩ h (fun r M' q => ?_)
          obtain ⟨I8, J9, rfl, rfl, h⟩ := q
          change WP _ LAY m_X8_chooseMost 152 [(9, vI (x4 + (gi I 52 (x1).toNat))), (8, vI y5), (7, vI ((x3 + (gi I 6 1)) - x1)), (6, vI (gi I 6 1)), (5, vR (some 5)), (0, vR (some 51)), (1, vI x1), (2, vI x2), (3, vI x3), (4, vI x4)] [] (mem (P, some 5, some 22) I8 J9) Q
          exact st_vret dX8_chooseMost_152 rfl rfl h
        · replace h := h.2 c
          refine st_iload (pc' := 104) dX8_chooseMost_102 rfl (j := 0) rfl ?_
          refine st_aload_n (pc' := 105) dX8_chooseMost_104 rfl rfl (j := 5) rfl ?_
          refine G_X8_92_51 dX8_chooseMost_105 (pc' := 108) rfl rfl ?_
          obtain ⟨e10, h⟩ := h
          refine st_icmp_gt (tg := 141) (pc' := 111) dX8_chooseMost_108 (by decide) rfl e10 (gi_in _ _ _) (fun c => ?_) (fun c => ?_)
          · replace h := h.1 c
            refine st_aload_n (pc' := 142) dX8_chooseMost_141 rfl rfl (j := 5) rfl ?_
            refine st_iload_n (pc' := 143) dX8_chooseMost_142 rfl rfl (j := 6) rfl ?_
            refine st_iconst (pc' := 144) dX8_chooseMost_143 rfl ?_
            refine st_iadd (pc' := 145) dX8_chooseMost_144 rfl ?_
            refine st_iload_n (pc' := 146) dX8_chooseMost_145 rfl rfl (j := 7) rfl ?_
            refine st_iload_n (pc' := 147) dX8_chooseMost_146 rfl rfl (j := 8) rfl ?_
            refine st_iload (pc' := 149) dX8_chooseMost_147 rfl (j := 9) rfl ?_
            refine st_callS (pc' := 152) (kc := k - 1) (E' := LAY) (cal := m_X8_chooseMost) (n := 5) (as := [vR (some 51), vI (x1 + 1), vI x2, vI x3, vI x4]) (S := []) dX8_chooseMost_149 rfl l_X8_107 k_X8_chooseMost rfl rfl (Nat.le_of_ble_eq_true rfl) (by omega) ⟨Nat.le_refl _, Nat.le_refl _, Nat.le_refl _, Nat.le_refl _⟩ h (fun r M' q => ?_)
            obtain ⟨I12, J13, rfl, rfl, h⟩ := q
            change WP _ LAY m_X8_chooseMost 152 [(9, vI (x4 + (gi I 52 (x1).toNat))), (8, vI y5), (7, vI ((x3 + (gi I 6 1)) - x1)), (6, vI (gi I 6 1)), (5, vR (some 5)), (0, vR (some 51)), (1, vI x1), (2, vI x2), (3, vI x3), (4, vI x4)] [] (mem (P, some 5, some 22) I12 J13) Q
            exact st_vret dX8_chooseMost_152 rfl rfl h
          · replace h := h.2 c
            refine st_aload (pc' := 113) dX8_chooseMost_111 rfl (j := 4) rfl ?_
            refine st_iload (pc' := 115) dX8_chooseMost_113 rfl (j := 1) rfl ?_
            refine st_iload_n (pc' := 116) dX8_chooseMost_115 rfl rfl (j := 7) rfl ?_
            refine st_ior (pc' := 117) (z := (or32 y5 x2)) dX8_chooseMost_116 rfl rfl ?_
            refine st_iload_n (pc' := 118) dX8_chooseMost_117 rfl rfl (j := 6) rfl ?_
            refine st_callV (pc' := 121) (kc := k - 1) (E' := LAY) (cal := m_X7_mayRead) (n := 2) (as := [vI (or32 y5 x2), vI x1]) (S := []) dX8_chooseMost_118 rfl l_X8_115 k_X7_mayRead rfl L_5 c_X7 rfl rfl (Nat.le_of_ble_eq_true rfl) (by omega) ⟨Nat.le_refl _, Nat.le_refl _, Nat.le_refl _, Nat.le_refl _⟩ (Q1 := fun r M' => WP k LAY m_X8_chooseMost 121 [(9, vI (x4 + (gi I 52 (x1).toNat))), (8, vI y5), (7, vI ((x3 + (gi I 6 1)) - x1)), (6, vI (gi I 6 1)), (5, vR (some 5)), (0, vR (some 51)), (1, vI x1), (2, vI x2), (3, vI x3), (4, vI x4)] (r.toList ++ []) M' Q) (S_X7_mayRead_5 (by omega) e6 ?_) (fun r M' q => q)
            change WP _ LAY m_X8_chooseMost 121 [(9, vI (x4 + (gi I 52 (x1).toNat))), (8, vI y5), (7, vI ((x3 + (gi I 6 1)) - x1)), (6, vI (gi I 6 1)), (5, vR (some 5)), (0, vR (some 51)), (1, vI x1), (2, vI x2), (3, vI x3), (4, vI x4)] [vI (b2i (and32 (gi I 11 (x1 : Int).toNat) (xor32 (or32 y5 x2) (-1)) = 0))] (mem (P, some 5, some 22) I J) Q
            refine st_if_eq (tg := 141) (pc' := 124) dX8_chooseMost_121 (by decide) rfl (b2i_in _) (fun c => ?_) (fun c => ?_)
            · replace h := h.1 (b2i_f.mp c)
              refine st_aload_n (pc' := 142) dX8_chooseMost_141 rfl rfl (j := 5) rfl ?_
              refine st_iload_n (pc' := 143) dX8_chooseMost_142 rfl rfl (j := 6) rfl ?_
              refine st_iconst (pc' := 144) dX8_chooseMost_143 rfl ?_
              refine st_iadd (pc' := 145) dX8_chooseMost_144 rfl ?_
              refine st_iload_n (pc' := 146) dX8_chooseMost_145 rfl rfl (j := 7) rfl ?_
              refine st_iload_n (pc' := 147) dX8_chooseMost_146 rfl rfl (j := 8) rfl ?_
              refine st_iload (pc' := 149) dX8_chooseMost_147 rfl (j := 9) rfl ?_
              refine st_callS (pc' := 152) (kc := k - 1) (E' := LAY) (cal := m_X8_chooseMost) (n := 5) (as := [vR (some 51), vI (x1 + 1), vI x2, vI x3, vI x4]) (S := []) dX8_chooseMost_149 rfl l_X8_107 k_X8_chooseMost rfl rfl (Nat.le_of_ble_eq_true rfl) (by omega) ⟨Nat.le_refl _, Nat.le_refl _, Nat.le_refl _, Nat.le_refl _⟩ h (fun r M' q => ?_)
              obtain ⟨I15, J16, rfl, rfl, h⟩ := q
              change WP _ LAY m_X8_chooseMost 152 [(9, vI (x4 + (gi I 52 (x1).toNat))), (8, vI y5), (7, vI ((x3 + (gi I 6 1)) - x1)), (6, vI (gi I 6 1)), (5, vR (some 5)), (0, vR (some 51)), (1, vI x1), (2, vI x2), (3, vI x3), (4, vI x4)] [] (mem (P, some 5, some 22) I15 J16) Q
              exact st_vret dX8_chooseMost_152 rfl rfl h
            · replace h := h.2 (b2i_t.mp c)
              refine st_aload_n (pc' := 125) dX8_chooseMost_124 rfl rfl (j := 5) rfl ?_
              refine st_iload_n (pc' := 126) dX8_chooseMost_125 rfl rfl (j := 6) rfl ?_
              refine st_iconst (pc' := 127) dX8_chooseMost_126 rfl ?_
              refine st_iadd (pc' := 128) dX8_chooseMost_127 rfl ?_
              refine st_iload_n (pc' := 129) dX8_chooseMost_128 rfl rfl (j := 7) rfl ?_
              refine st_iconst (pc' := 130) dX8_chooseMost_129 rfl ?_
              refine st_iload_n (pc' := 131) dX8_chooseMost_130 rfl rfl (j := 6) rfl ?_
              refine st_ishl (pc' := 132) (z := (shl32 1 x1)) dX8_chooseMost_131 rfl rfl ?_
              refine st_ior (pc' := 133) (z := (or32 x2 (shl32 1 x1))) dX8_chooseMost_132 rfl rfl ?_
              refine st_iload_n (pc' := 134) dX8_chooseMost_133 rfl rfl (j := 8) rfl ?_
              refine st_iconst (pc' := 135) dX8_chooseMost_134 rfl ?_
              refine st_iadd (pc' := 136) dX8_chooseMost_135 rfl ?_
              refine st_iload (pc' := 138) dX8_chooseMost_136 rfl (j := 0) rfl ?_
              refine st_callS (pc' := 141) (kc := k - 1) (E' := LAY) (cal := m_X8_chooseMost) (n := 5) (as := [vR (some 51), vI (x1 + 1), vI (or32 x2 (shl32 1 x1)), vI (x3 + 1), vI (x4 + (gi I 52 (x1).toNat))]) (S := []) dX8_chooseMost_138 rfl l_X8_107 k_X8_chooseMost rfl rfl (Nat.le_of_ble_eq_true rfl) (by omega) ⟨Nat.le_refl _, Nat.le_refl _, Nat.le_refl _, Nat.le_refl _⟩ h (fun r M' q => ?_)
              obtain ⟨I18, J19, rfl, rfl, h⟩ := q
              change WP _ LAY m_X8_chooseMost 141 [(9, vI (x4 + (gi I 52 (x1).toNat))), (8, vI y5), (7, vI ((x3 + (gi I 6 1)) - x1)), (6, vI (gi I 6 1)), (5, vR (some 5)), (0, vR (some 51)), (1, vI x1), (2, vI x2), (3, vI x3), (4, vI x4)] [] (mem (P, some 5, some 22) I18 J19) Q
              refine st_aload_n (pc' := 142) dX8_chooseMost_141 rfl rfl (j := 5) rfl ?_
              refine st_iload_n (pc' := 143) dX8_chooseMost_142 rfl rfl (j := 6) rfl ?_
              refine st_iconst (pc' := 144) dX8_chooseMost_143 rfl ?_
              refine st_iadd (pc' := 145) dX8_chooseMost_144 rfl ?_
              refine st_iload_n (pc' := 146) dX8_chooseMost_145 rfl rfl (j := 7) rfl ?_
              refine st_iload_n (pc' := 147) dX8_chooseMost_146 rfl rfl (j := 8) rfl ?_
              refine st_iload (pc' := 149) dX8_chooseMost_147 rfl (j := 9) rfl ?_
              refine st_callS (pc' := 152) (kc := k - 1) (E' := LAY) (cal := m_X8_chooseMost) (n := 5) (as := [vR (some 51), vI (x1 + 1), vI x2, vI x3, vI x4]) (S := []) dX8_chooseMost_149 rfl l_X8_107 k_X8_chooseMost rfl rfl (Nat.le_of_ble_eq_true rfl) (by omega) ⟨Nat.le_refl _, Nat.le_refl _, Nat.le_refl _, Nat.le_refl _⟩ h (fun r M' q => ?_)
              obtain ⟨I21, J22, rfl, rfl, h⟩ := q
              change WP _ LAY m_X8_chooseMost 152 [(9, vI (x4 + (gi I 52 (x1).toNat))), (8, vI y5), (7, vI ((x3 + (gi I 6 1)) - x1)), (6, vI (gi I 6 1)), (5, vR (some 5)), (0, vR (some 51)), (1, vI x1), (2, vI x2), (3, vI x3), (4, vI x4)] [] (mem (P, some 5, some 22) I21 J22) Q
              exact st_vret dX8_chooseMost_152 rfl rfl h
      · replace h := h.2 c
        refine st_aload_n (pc' := 61) dX8_chooseMost_60 rfl rfl (j := 3) rfl ?_
        refine st_iload_n (pc' := 62) dX8_chooseMost_61 rfl rfl (j := 5) rfl ?_
        refine st_iload_n (pc' := 63) dX8_chooseMost_62 rfl rfl (j := 6) rfl ?_
        refine st_iload (pc' := 65) dX8_chooseMost_63 rfl (j := 7) rfl ?_
        refine st_callV (pc' := 68) (kc := k - 1) (E' := LAY) (cal := m_X8_tryMost) (n := 3) (as := [vI x2, vI x3, vI x4]) (S := []) dX8_chooseMost_65 rfl l_X8_111 k_X8_tryMost rfl L_51 c_X8 rfl rfl (Nat.le_of_ble_eq_true rfl) (by omega) ⟨Nat.le_refl _, Nat.le_refl _, Nat.le_refl _, Nat.le_refl _⟩ (Q1 := fun r M' => WP k LAY m_X8_chooseMost 68 [(7, vI ((x3 + (gi I 6 1)) - x1)), (6, vI (gi I 6 1)), (5, vR (some 5)), (0, vR (some 51)), (1, vI x1), (2, vI x2), (3, vI x3), (4, vI x4)] (r.toList ++ []) M' Q) (WPm.of k_X8_tryMost.1 (Nat.le_of_ble_eq_true rfl) (B_X8_tryMost_0 (by omega) ?_)) (fun r M' q => q)
        obtain ⟨e23, h⟩ := h
        refine ⟨e23, ?_⟩
        refine ⟨fun c => ?_, fun c => ?_⟩
        · replace h := h.1 c
          change WP _ LAY m_X8_chooseMost 68 [(7, vI ((x3 + (gi I 6 1)) - x1)), (6, vI (gi I 6 1)), (5, vR (some 5)), (0, vR (some 51)), (1, vI x1), (2, vI x2), (3, vI x3), (4, vI x4)] [] (mem (P, some 5, some 22) (si (si (si I 51 4 x3) 51 5 x2) 51 6 x4) J) Q
          exact st_vret dX8_chooseMost_68 rfl rfl h
        · replace h := h.2 c
          obtain ⟨e24, h⟩ := h
          refine ⟨e24, ?_⟩
          refine ⟨fun c => ?_, fun c => ?_⟩
          · replace h := h.1 c
            change WP _ LAY m_X8_chooseMost 68 [(7, vI ((x3 + (gi I 6 1)) - x1)), (6, vI (gi I 6 1)), (5, vR (some 5)), (0, vR (some 51)), (1, vI x1), (2, vI x2), (3, vI x3), (4, vI x4)] [] (mem (P, some 5, some 22) (si (si (si I 51 4 x3) 51 5 x2) 51 6 x4) J) Q
            exact st_vret dX8_chooseMost_68 rfl rfl h
          · replace h := h.2 c
            obtain ⟨e25, h⟩ := h
            refine ⟨e25, ?_⟩
            refine ⟨fun c => ?_, fun c => ?_⟩
            · replace h := h.1 c
              change WP _ LAY m_X8_chooseMost 68 [(7, vI ((x3 + (gi I 6 1)) - x1)), (6, vI (gi I 6 1)), (5, vR (some 5)), (0, vR (some 51)), (1, vI x1), (2, vI x2), (3, vI x3), (4, vI x4)] [] (mem (P, some 5, some 22) I J) Q
              exact st_vret dX8_chooseMost_68 rfl rfl h
            · replace h := h.2 c
              change WP _ LAY m_X8_chooseMost 68 [(7, vI ((x3 + (gi I 6 1)) - x1)), (6, vI (gi I 6 1)), (5, vR (some 5)), (0, vR (some 51)), (1, vI x1), (2, vI x2), (3, vI x3), (4, vI x4)] [] (mem (P, some 5, some 22) (si (si (si I 51 4 x3) 51 5 x2) 51 6 x4) J) Q
              exact st_vret dX8_chooseMost_68 rfl rfl h
    · replace h := h.2 c
      refine st_iload (pc' := 46) dX8_chooseMost_44 rfl (j := 7) rfl ?_
      refine st_aload_n (pc' := 47) dX8_chooseMost_46 rfl rfl (j := 3) rfl ?_
      refine G_X8_104_51 dX8_chooseMost_47 (pc' := 50) rfl rfl ?_
      obtain ⟨e26, h⟩ := h
      refine st_icmp_le (tg := 54) (pc' := 53) dX8_chooseMost_50 (by decide) rfl e26 (gi_in _ _ _) (fun c => ?_) (fun c => ?_)
      · replace h := h.1 c
        refine st_iload_n (pc' := 55) dX8_chooseMost_54 rfl rfl (j := 4) rfl ?_
        refine st_iload (pc' := 57) dX8_chooseMost_55 rfl (j := 1) rfl ?_
        obtain ⟨e27, h⟩ := h
        refine st_icmp_lt (tg := 69) (pc' := 60) dX8_chooseMost_57 (by decide) rfl e27 (gi_in _ _ _) (fun c => ?_) (fun c => ?_)
        · replace h := h.1 c
          refine st_aload_n (pc' := 70) dX8_chooseMost_69 rfl rfl (j := 3) rfl ?_
          refine G_X8_25_51 dX8_chooseMost_70 (pc' := 73) rfl rfl ?_
          refine st_aload_n (pc' := 74) dX8_chooseMost_73 rfl rfl (j := 3) rfl ?_
          refine G_X8_86_51 dX8_chooseMost_74 (pc' := 77) rfl rfl ?_
          refine st_callV (pc' := 80) (kc := k - 1) (E' := LAY) (cal := m_X2_known) (n := 1) (as := [vI (gi I 51 12)]) (S := []) dX8_chooseMost_77 rfl l_X8_53 k_X2_known rfl L_4 c_X2 rfl rfl (Nat.le_of_ble_eq_true rfl) (by omega) ⟨Nat.le_refl _, Nat.le_refl _, Nat.le_refl _, Nat.le_refl _⟩ (Q1 := fun r M' => WP k LAY m_X8_chooseMost 80 [(7, vI ((x3 + (gi I 6 1)) - x1)), (6, vI (gi I 6 1)), (5, vR (some 5)), (0, vR (some 51)), (1, vI x1), (2, vI x2), (3, vI x3), (4, vI x4)] (r.toList ++ []) M' Q) (WPm.of k_X2_known.1 (Nat.le_of_ble_eq_true rfl) (B_X2_known_0 (by omega) ?_)) (fun r M' q => q)
          obtain ⟨e28, h⟩ := h
          refine ⟨e28, ?_⟩
          obtain ⟨e29, h⟩ := h
          refine ⟨e29, ?_⟩
          change WP _ LAY m_X8_chooseMost 80 [(7, vI ((x3 + (gi I 6 1)) - x1)), (6, vI (gi I 6 1)), (5, vR (some 5)), (0, vR (some 51)), (1, vI x1), (2, vI x2), (3, vI x3), (4, vI x4)] [vI (or32 (gi I 19 (((3 + ((gi I 51 12) * 14)) + 1) : Int).toNat) (gi I 19 (((3 + ((gi I 51 12) * 14)) + 2) : Int).toNat))] (mem (P, some 5, some 22) I J) Q
          obtain ⟨y30, hy30⟩ : ∃ y : Int, y = (or32 (gi I 19 (((3 + ((gi I 51 12) * 14)) + 1) : Int).toNat) (gi I 19 (((3 + ((gi I 51 12) * 14)) + 2) : Int).toNat)) := ⟨_, rfl⟩
          rw [← hy30]
          replace h := h y30 hy30
          refine st_istore (pc' := 82) (L' := [(8, vI y30), (7, vI ((x3 + (gi I 6 1)) - x1)), (6, vI (gi I 6 1)), (5, vR (some 5)), (0, vR (some 51)), (1, vI x1), (2, vI x2), (3, vI x3), (4, vI x4)]) dX8_chooseMost_80 rfl (by decide) rfl ?_
          refine st_iload (pc' := 84) dX8_chooseMost_82 rfl (j := 8) rfl ?_
          refine st_aload_n (pc' := 85) dX8_chooseMost_84 rfl rfl (j := 4) rfl ?_
          refine G_X8_9_51 dX8_chooseMost_85 (pc' := 88) rfl rfl ?_
          refine st_iload_n (pc' := 89) dX8_chooseMost_88 rfl rfl (j := 5) rfl ?_
          obtain ⟨e31, h⟩ := h
          refine st_iaload (pc' := 90) (v := (gi I 52 (x1).toNat)) dX8_chooseMost_89 rfl L_52 (by decide) e31 (show gi I 52 (x1).toNat = (gi I 52 (x1).toNat) from rfl) ?_
          refine st_iadd (pc' := 91) dX8_chooseMost_90 rfl ?_
          refine st_istore (pc' := 93) (L' := [(9, vI (x4 + (gi I 52 (x1).toNat))), (8, vI y30), (7, vI ((x3 + (gi I 6 1)) - x1)), (6, vI (gi I 6 1)), (5, vR (some 5)), (0, vR (some 51)), (1, vI x1), (2, vI x2), (3, vI x3), (4, vI x4)]) dX8_chooseMost_91 rfl (by decide) rfl ?_
          refine st_iload (pc' := 95) dX8_chooseMost_93 rfl (j := 1) rfl ?_
          refine st_iconst (pc' := 96) dX8_chooseMost_95 rfl ?_
          refine st_iload_n (pc' := 97) dX8_chooseMost_96 rfl rfl (j := 6) rfl ?_
          refine st_ishl (pc' := 98) (z := (shl32 1 x1)) dX8_chooseMost_97 rfl rfl ?_
          refine st_iand (pc' := 99) (z := (and32 y30 (shl32 1 x1))) dX8_chooseMost_98 rfl rfl ?_
          refine st_if_ne (tg := 141) (pc' := 102) dX8_chooseMost_99 (by decide) rfl (and32_in _ _) (fun c => ?_) (fun c => ?_)
          · replace h := h.1 c
            refine st_aload_n (pc' := 142) dX8_chooseMost_141 rfl rfl (j := 5) rfl ?_
            refine st_iload_n (pc' := 143) dX8_chooseMost_142 rfl rfl (j := 6) rfl ?_
            refine st_iconst (pc' := 144) dX8_chooseMost_143 rfl ?_
            refine st_iadd (pc' := 145) dX8_chooseMost_144 rfl ?_
            refine st_iload_n (pc' := 146) dX8_chooseMost_145 rfl rfl (j := 7) rfl ?_
            refine st_iload_n (pc' := 147) dX8_chooseMost_146 rfl rfl (j := 8) rfl ?_
            refine st_iload (pc' := 149) dX8_chooseMost_147 rfl (j := 9) rfl ?_
            refine st_callS (pc' := 152) (kc := k - 1) (E' := LAY) (cal := m_X8_chooseMost) (n := 5) (as := [vR (some 51), vI (x1 + 1), vI x2, vI x3, vI x4]) (S := []) dX8_chooseMost_149 rfl l_X8_107 k_X8_chooseMost rfl rfl (Nat.le_of_ble_eq_true rfl) (by omega) ⟨Nat.le_refl _, Nat.le_refl _, Nat.le_refl _, Nat.le_refl _⟩ h (fun r M' q => ?_)
            obtain ⟨I33, J34, rfl, rfl, h⟩ := q
            change WP _ LAY m_X8_chooseMost 152 [(9, vI (x4 + (gi I 52 (x1).toNat))), (8, vI y30), (7, vI ((x3 + (gi I 6 1)) - x1)), (6, vI (gi I 6 1)), (5, vR (some 5)), (0, vR (some 51)), (1, vI x1), (2, vI x2), (3, vI x3), (4, vI x4)] [] (mem (P, some 5, some 22) I33 J34) Q
            exact st_vret dX8_chooseMost_152 rfl rfl h
          · replace h := h.2 c
            refine st_iload (pc' := 104) dX8_chooseMost_102 rfl (j := 0) rfl ?_
            refine st_aload_n (pc' := 105) dX8_chooseMost_104 rfl rfl (j := 5) rfl ?_
            refine G_X8_92_51 dX8_chooseMost_105 (pc' := 108) rfl rfl ?_
            obtain ⟨e35, h⟩ := h
            refine st_icmp_gt (tg := 141) (pc' := 111) dX8_chooseMost_108 (by decide) rfl e35 (gi_in _ _ _) (fun c => ?_) (fun c => ?_)
            · replace h := h.1 c
              refine st_aload_n (pc' := 142) dX8_chooseMost_141 rfl rfl (j := 5) rfl ?_
              refine st_iload_n (pc' := 143) dX8_chooseMost_142 rfl rfl (j := 6) rfl ?_
              refine st_iconst (pc' := 144) dX8_chooseMost_143 rfl ?_
              refine st_iadd (pc' := 145) dX8_chooseMost_144 rfl ?_
              refine st_iload_n (pc' := 146) dX8_chooseMost_145 rfl rfl (j := 7) rfl ?_
              refine st_iload_n (pc' := 147) dX8_chooseMost_146 rfl rfl (j := 8) rfl ?_
              refine st_iload (pc' := 149) dX8_chooseMost_147 rfl (j := 9) rfl ?_
              refine st_callS (pc' := 152) (kc := k - 1) (E' := LAY) (cal := m_X8_chooseMost) (n := 5) (as := [vR (some 51), vI (x1 + 1), vI x2, vI x3, vI x4]) (S := []) dX8_chooseMost_149 rfl l_X8_107 k_X8_chooseMost rfl rfl (Nat.le_of_ble_eq_true rfl) (by omega) ⟨Nat.le_refl _, Nat.le_refl _, Nat.le_refl _, Nat.le_refl _⟩ h (fun r M' q => ?_)
              obtain ⟨I37, J38, rfl, rfl, h⟩ := q
              change WP _ LAY m_X8_chooseMost 152 [(9, vI (x4 + (gi I 52 (x1).toNat))), (8, vI y30), (7, vI ((x3 + (gi I 6 1)) - x1)), (6, vI (gi I 6 1)), (5, vR (some 5)), (0, vR (some 51)), (1, vI x1), (2, vI x2), (3, vI x3), (4, vI x4)] [] (mem (P, some 5, some 22) I37 J38) Q
              exact st_vret dX8_chooseMost_152 rfl rfl h
            · replace h := h.2 c
              refine st_aload (pc' := 113) dX8_chooseMost_111 rfl (j := 4) rfl ?_
              refine st_iload (pc' := 115) dX8_chooseMost_113 rfl (j := 1) rfl ?_
              refine st_iload_n (pc' := 116) dX8_chooseMost_115 rfl rfl (j := 7) rfl ?_
              refine st_ior (pc' := 117) (z := (or32 y30 x2)) dX8_chooseMost_116 rfl rfl ?_
              refine st_iload_n (pc' := 118) dX8_chooseMost_117 rfl rfl (j := 6) rfl ?_
              refine st_callV (pc' := 121) (kc := k - 1) (E' := LAY) (cal := m_X7_mayRead) (n := 2) (as := [vI (or32 y30 x2), vI x1]) (S := []) dX8_chooseMost_118 rfl l_X8_115 k_X7_mayRead rfl L_5 c_X7 rfl rfl (Nat.le_of_ble_eq_true rfl) (by omega) ⟨Nat.le_refl _, Nat.le_refl _, Nat.le_refl _, Nat.le_refl _⟩ (Q1 := fun r M' => WP k LAY m_X8_chooseMost 121 [(9, vI (x4 + (gi I 52 (x1).toNat))), (8, vI y30), (7, vI ((x3 + (gi I 6 1)) - x1)), (6, vI (gi I 6 1)), (5, vR (some 5)), (0, vR (some 51)), (1, vI x1), (2, vI x2), (3, vI x3), (4, vI x4)] (r.toList ++ []) M' Q) (S_X7_mayRead_5 (by omega) e31 ?_) (fun r M' q => q)
              change WP _ LAY m_X8_chooseMost 121 [(9, vI (x4 + (gi I 52 (x1).toNat))), (8, vI y30), (7, vI ((x3 + (gi I 6 1)) - x1)), (6, vI (gi I 6 1)), (5, vR (some 5)), (0, vR (some 51)), (1, vI x1), (2, vI x2), (3, vI x3), (4, vI x4)] [vI (b2i (and32 (gi I 11 (x1 : Int).toNat) (xor32 (or32 y30 x2) (-1)) = 0))] (mem (P, some 5, some 22) I J) Q
              refine st_if_eq (tg := 141) (pc' := 124) dX8_chooseMost_121 (by decide) rfl (b2i_in _) (fun c => ?_) (fun c => ?_)
              · replace h := h.1 (b2i_f.mp c)
                refine st_aload_n (pc' := 142) dX8_chooseMost_141 rfl rfl (j := 5) rfl ?_
                refine st_iload_n (pc' := 143) dX8_chooseMost_142 rfl rfl (j := 6) rfl ?_
                refine st_iconst (pc' := 144) dX8_chooseMost_143 rfl ?_
                refine st_iadd (pc' := 145) dX8_chooseMost_144 rfl ?_
                refine st_iload_n (pc' := 146) dX8_chooseMost_145 rfl rfl (j := 7) rfl ?_
                refine st_iload_n (pc' := 147) dX8_chooseMost_146 rfl rfl (j := 8) rfl ?_
                refine st_iload (pc' := 149) dX8_chooseMost_147 rfl (j := 9) rfl ?_
                refine st_callS (pc' := 152) (kc := k - 1) (E' := LAY) (cal := m_X8_chooseMost) (n := 5) (as := [vR (some 51), vI (x1 + 1), vI x2, vI x3, vI x4]) (S := []) dX8_chooseMost_149 rfl l_X8_107 k_X8_chooseMost rfl rfl (Nat.le_of_ble_eq_true rfl) (by omega) ⟨Nat.le_refl _, Nat.le_refl _, Nat.le_refl _, Nat.le_refl _⟩ h (fun r M' q => ?_)
                obtain ⟨I40, J41, rfl, rfl, h⟩ := q
                change WP _ LAY m_X8_chooseMost 152 [(9, vI (x4 + (gi I 52 (x1).toNat))), (8, vI y30), (7, vI ((x3 + (gi I 6 1)) - x1)), (6, vI (gi I 6 1)), (5, vR (some 5)), (0, vR (some 51)), (1, vI x1), (2, vI x2), (3, vI x3), (4, vI x4)] [] (mem (P, some 5, some 22) I40 J41) Q
                exact st_vret dX8_chooseMost_152 rfl rfl h
              · replace h := h.2 (b2i_t.mp c)
                refine st_aload_n (pc' := 125) dX8_chooseMost_124 rfl rfl (j := 5) rfl ?_
                refine st_iload_n (pc' := 126) dX8_chooseMost_125 rfl rfl (j := 6) rfl ?_
                refine st_iconst (pc' := 127) dX8_chooseMost_126 rfl ?_
                refine st_iadd (pc' := 128) dX8_chooseMost_127 rfl ?_
                refine st_iload_n (pc' := 129) dX8_chooseMost_128 rfl rfl (j := 7) rfl ?_
                refine st_iconst (pc' := 130) dX8_chooseMost_129 rfl ?_
                refine st_iload_n (pc' := 131) dX8_chooseMost_130 rfl rfl (j := 6) rfl ?_
                refine st_ishl (pc' := 132) (z := (shl32 1 x1)) dX8_chooseMost_131 rfl rfl ?_
                refine st_ior (pc' := 133) (z := (or32 x2 (shl32 1 x1))) dX8_chooseMost_132 rfl rfl ?_
                refine st_iload_n (pc' := 134) dX8_chooseMost_133 rfl rfl (j := 8) rfl ?_
                refine st_iconst (pc' := 135) dX8_chooseMost_134 rfl ?_
                refine st_iadd (pc' := 136) dX8_chooseMost_135 rfl ?_
                refine st_iload (pc' := 138) dX8_chooseMost_136 rfl (j := 0) rfl ?_
                refine st_callS (pc' := 141) (kc := k - 1) (E' := LAY) (cal := m_X8_chooseMost) (n := 5) (as := [vR (some 51), vI (x1 + 1), vI (or32 x2 (shl32 1 x1)), vI (x3 + 1), vI (x4 + (gi I 52 (x1).toNat))]) (S := []) dX8_chooseMost_138 rfl l_X8_107 k_X8_chooseMost rfl rfl (Nat.le_of_ble_eq_true rfl) (by omega) ⟨Nat.le_refl _, Nat.le_refl _, Nat.le_refl _, Nat.le_refl _⟩ h (fun r M' q => ?_)
                obtain ⟨I43, J44, rfl, rfl, h⟩ := q
                change WP _ LAY m_X8_chooseMost 141 [(9, vI (x4 + (gi I 52 (x1).toNat))), (8, vI y30), (7, vI ((x3 + (gi I 6 1)) - x1)), (6, vI (gi I 6 1)), (5, vR (some 5)), (0, vR (some 51)), (1, vI x1), (2, vI x2), (3, vI x3), (4, vI x4)] [] (mem (P, some 5, some 22) I43 J44) Q
                refine st_aload_n (pc' := 142) dX8_chooseMost_141 rfl rfl (j := 5) rfl ?_
                refine st_iload_n (pc' := 143) dX8_chooseMost_142 rfl rfl (j := 6) rfl ?_
                refine st_iconst (pc' := 144) dX8_chooseMost_143 rfl ?_
                refine st_iadd (pc' := 145) dX8_chooseMost_144 rfl ?_
                refine st_iload_n (pc' := 146) dX8_chooseMost_145 rfl rfl (j := 7) rfl ?_
                refine st_iload_n (pc' := 147) dX8_chooseMost_146 rfl rfl (j := 8) rfl ?_
                refine st_iload (pc' := 149) dX8_chooseMost_147 rfl (j := 9) rfl ?_
                refine st_callS (pc' := 152) (kc := k - 1) (E' := LAY) (cal := m_X8_chooseMost) (n := 5) (as := [vR (some 51), vI (x1 + 1), vI x2, vI x3, vI x4]) (S := []) dX8_chooseMost_149 rfl l_X8_107 k_X8_chooseMost rfl rfl (Nat.le_of_ble_eq_true rfl) (by omega) ⟨Nat.le_refl _, Nat.le_refl _, Nat.le_refl _, Nat.le_refl _⟩ h (fun r M' q => ?_)
                obtain ⟨I46, J47, rfl, rfl, h⟩ := q
                change WP _ LAY m_X8_chooseMost 152 [(9, vI (x4 + (gi I 52 (x1).toNat))), (8, vI y30), (7, vI ((x3 + (gi I 6 1)) - x1)), (6, vI (gi I 6 1)), (5, vR (some 5)), (0, vR (some 51)), (1, vI x1), (2, vI x2), (3, vI x3), (4, vI x4)] [] (mem (P, some 5, some 22) I46 J47) Q
                exact st_vret dX8_chooseMost_152 rfl rfl h
        · replace h := h.2 c
          refine st_aload_n (pc' := 61) dX8_chooseMost_60 rfl rfl (j := 3) rfl ?_
          refine st_iload_n (pc' := 62) dX8_chooseMost_61 rfl rfl (j := 5) rfl ?_
          refine st_iload_n (pc' := 63) dX8_chooseMost_62 rfl rfl (j := 6) rfl ?_
          refine st_iload (pc' := 65) dX8_chooseMost_63 rfl (j := 7) rfl ?_
          refine st_callV (pc' := 68) (kc := k - 1) (E' := LAY) (cal := m_X8_tryMost) (n := 3) (as := [vI x2, vI x3, vI x4]) (S := []) dX8_chooseMost_65 rfl l_X8_111 k_X8_tryMost rfl L_51 c_X8 rfl rfl (Nat.le_of_ble_eq_true rfl) (by omega) ⟨Nat.le_refl _, Nat.le_refl _, Nat.le_refl _, Nat.le_refl _⟩ (Q1 := fun r M' => WP k LAY m_X8_chooseMost 68 [(7, vI ((x3 + (gi I 6 1)) - x1)), (6, vI (gi I 6 1)), (5, vR (some 5)), (0, vR (some 51)), (1, vI x1), (2, vI x2), (3, vI x3), (4, vI x4)] (r.toList ++ []) M' Q) (WPm.of k_X8_tryMost.1 (Nat.le_of_ble_eq_true rfl) (B_X8_tryMost_0 (by omega) ?_)) (fun r M' q => q)
          obtain ⟨e48, h⟩ := h
          refine ⟨e48, ?_⟩
          refine ⟨fun c => ?_, fun c => ?_⟩
          · replace h := h.1 c
            change WP _ LAY m_X8_chooseMost 68 [(7, vI ((x3 + (gi I 6 1)) - x1)), (6, vI (gi I 6 1)), (5, vR (some 5)), (0, vR (some 51)), (1, vI x1), (2, vI x2), (3, vI x3), (4, vI x4)] [] (mem (P, some 5, some 22) (si (si (si I 51 4 x3) 51 5 x2) 51 6 x4) J) Q
            exact st_vret dX8_chooseMost_68 rfl rfl h
          · replace h := h.2 c
            refine ⟨e26, ?_⟩
            refine ⟨fun c => ?_, fun c => ?_⟩
            · replace h := h.1 c
              change WP _ LAY m_X8_chooseMost 68 [(7, vI ((x3 + (gi I 6 1)) - x1)), (6, vI (gi I 6 1)), (5, vR (some 5)), (0, vR (some 51)), (1, vI x1), (2, vI x2), (3, vI x3), (4, vI x4)] [] (mem (P, some 5, some 22) (si (si (si I 51 4 x3) 51 5 x2) 51 6 x4) J) Q
              exact st_vret dX8_chooseMost_68 rfl rfl h
            · replace h := h.2 c
              obtain ⟨e49, h⟩ := h
              refine ⟨e49, ?_⟩
              refine ⟨fun c => ?_, fun c => ?_⟩
              · replace h := h.1 c
                change WP _ LAY m_X8_chooseMost 68 [(7, vI ((x3 + (gi I 6 1)) - x1)), (6, vI (gi I 6 1)), (5, vR (some 5)), (0, vR (some 51)), (1, vI x1), (2, vI x2), (3, vI x3), (4, vI x4)] [] (mem (P, some 5, some 22) I J) Q
                exact st_vret dX8_chooseMost_68 rfl rfl h
              · replace h := h.2 c
                change WP _ LAY m_X8_chooseMost 68 [(7, vI ((x3 + (gi I 6 1)) - x1)), (6, vI (gi I 6 1)), (5, vR (some 5)), (0, vR (some 51)), (1, vI x1), (2, vI x2), (3, vI x3), (4, vI x4)] [] (mem (P, some 5, some 22) (si (si (si I 51 4 x3) 51 5 x2) 51 6 x4) J) Q
                exact st_vret dX8_chooseMost_68 rfl rfl h
      · replace h := h.2 c
        exact st_vret dX8_chooseMost_53 rfl rfl h
set_option maxRecDepth 20000 in
set_option maxHeartbeats 4000000 in
theorem B_X8_findMost_0 {k : Nat} {P : Option Nat} {I : Nat → Nat → Int32} {J : Nat → Nat → Int64} {x1 : Int} {x2 : Int} {Q : Option AV → Mem → Prop} (hk : 1 ≤ k) (h : (¬ (gi I 51 11) = (gi I 4 6) → (WPm (k - 1) LAY m_X8_lightOf [vR (some 51), vI x1] (mem (P, some 5, some 22) (si (si (si I 51 11 (gi I 4 6)) 51 12 x1) 51 13 x2) J) (retI (fun v1 I2 J3 => WPm (k - 1) LAY m_X9_setNow [vR (some 36), vI x1] (mem (P, some 5, some 22) (si I2 51 10 (x2 * v1)) J3) (retV (fun I5 J6 => WPm (k - 1) LAY m_X8_measurePages [vR (some 51)] (mem (P, some 5, some 22) I5 J6) (retV (fun I8 J9 => WPm (k - 1) LAY m_X8_chooseMost [vR (some 51), vI 0, vI 0, vI 0, vI 0] (mem (P, some 5, some 22) (si (si (si I8 51 4 (-1)) 51 5 0) 51 6 0) J9) (retV (fun I11 J12 => Q none (mem (P, some 5, some 22) I11 J12)) (P, some 5, some 22))) (P, some 5, some 22))) (P, some 5, some 22))) (P, some 5, some 22)))) ∧ ((gi I 51 11) = (gi I 4 6) → (inR x1 ∧ ((¬ (gi I 51 12) = x1 → (WPm (k - 1) LAY m_X8_lightOf [vR (some 51), vI x1] (mem (P, some 5, some 22) (si (si (si I 51 11 (gi I 4 6)) 51 12 x1) 51 13 x2) J) (retI (fun v14 I15 J16 => WPm (k - 1) LAY m_X9_setNow [vR (some 36), vI x1] (mem (P, some 5, some 22) (si I15 51 10 (x2 * v14)) J16) (retV (fun I18 J19 => WPm (k - 1) LAY m_X8_measurePages [vR (some 51)] (mem (P, some 5, some 22) I18 J19) (retV (fun I21 J22 => WPm (k - 1) LAY m_X8_chooseMost [vR (some 51), vI 0, vI 0, vI 0, vI 0] (mem (P, some 5, some 22) (si (si (si I21 51 4 (-1)) 51 5 0) 51 6 0) J22) (retV (fun I24 J25 => Q none (mem (P, some 5, some 22) I24 J25)) (P, some 5, some 22))) (P, some 5, some 22))) (P, some 5, some 22))) (P, some 5, some 22)))) ∧ ((gi I 51 12) = x1 → (inR x2 ∧ ((¬ (gi I 51 13) = x2 → (WPm (k - 1) LAY m_X8_lightOf [vR (some 51), vI x1] (mem (P, some 5, some 22) (si (si (si I 51 11 (gi I 4 6)) 51 12 x1) 51 13 x2) J) (retI (fun v27 I28 J29 => WPm (k - 1) LAY m_X9_setNow [vR (some 36), vI x1] (mem (P, some 5, some 22) (si I28 51 10 (x2 * v27)) J29) (retV (fun I31 J32 => WPm (k - 1) LAY m_X8_measurePages [vR (some 51)] (mem (P, some 5, some 22) I31 J32) (retV (fun I34 J35 => WPm (k - 1) LAY m_X8_chooseMost [vR (some 51), vI 0, vI 0, vI 0, vI 0] (mem (P, some 5, some 22) (si (si (si I34 51 4 (-1)) 51 5 0) 51 6 0) J35) (retV (fun I37 J38 => Q none (mem (P, some 5, some 22) I37 J38)) (P, some 5, some 22))) (P, some 5, some 22))) (P, some 5, some 22))) (P, some 5, some 22)))) ∧ ((gi I 51 13) = x2 → (Q none (mem (P, some 5, some 22) I J)))))))))) : WP k LAY m_X8_findMost 0 [(0, vR (some 51)), (1, vI x1), (2, vI x2)] [] (mem (P, some 5, some 22) I J) Q := by
  refine st_aload_n (pc' := 1) dX8_findMost_0 rfl rfl (j := 0) rfl ?_
  refine G_X8_18_51 dX8_findMost_1 (pc' := 4) rfl rfl ?_
  refine st_aload_n (pc' := 5) dX8_findMost_4 rfl rfl (j := 0) rfl ?_
  refine G_X8_25_51 dX8_findMost_5 (pc' := 8) rfl rfl ?_
  refine G_X8_83_4 dX8_findMost_8 (pc' := 11) rfl rfl ?_
  refine st_icmp_ne (tg := 31) (pc' := 14) dX8_findMost_11 (by decide) rfl (gi_in _ _ _) (gi_in _ _ _) (fun c => ?_) (fun c => ?_)
  · replace h := h.1 c
    refine st_aload_n (pc' := 32) dX8_findMost_31 rfl rfl (j := 0) rfl ?_
    refine st_aload_n (pc' := 33) dX8_findMost_32 rfl rfl (j := 0) rfl ?_
    refine G_X8_25_51 dX8_findMost_33 (pc' := 36) rfl rfl ?_
    refine G_X8_83_4 dX8_findMost_36 (pc' := 39) rfl rfl ?_
    refine P_X8_18_51 dX8_findMost_39 (pc' := 42) rfl rfl ?_
    refine st_aload_n (pc' := 43) dX8_findMost_42 rfl rfl (j := 0) rfl ?_
    refine st_iload_n (pc' := 44) dX8_findMost_43 rfl rfl (j := 1) rfl ?_
    refine P_X8_86_51 dX8_findMost_44 (pc' := 47) rfl rfl ?_
    refine st_aload_n (pc' := 48) dX8_findMost_47 rfl rfl (j := 0) rfl ?_
    refine st_iload_n (pc' := 49) dX8_findMost_48 rfl rfl (j := 2) rfl ?_
    refine P_X8_89_51 dX8_findMost_49 (pc' := 52) rfl rfl ?_
    refine st_aload_n (pc' := 53) dX8_findMost_52 rfl rfl (j := 0) rfl ?_
    refine st_iload_n (pc' := 54) dX8_findMost_53 rfl rfl (j := 2) rfl ?_
    refine st_aload_n (pc' := 55) dX8_findMost_54 rfl rfl (j := 0) rfl ?_
    refine st_iload_n (pc' := 56) dX8_findMost_55 rfl rfl (j := 1) rfl ?_
    refine st_callV (pc' := 59) (kc := k - 1) (E' := LAY) (cal := m_X8_lightOf) (n := 1) (as := [vI x1]) (S := [vI x2, vR (some 51)]) dX8_findMost_56 rfl l_X8_77 k_X8_lightOf rfl L_51 c_X8 rfl rfl (Nat.le_of_ble_eq_true rfl) (by omega) ⟨Nat.le_refl _, Nat.le_refl _, Nat.le_refl _, Nat.le_refl _⟩ h (fun r M' q => ?_)
    obtain ⟨v1, I2, J3, rfl, rfl, h⟩ := q
    change WP _ LAY m_X8_findMost 59 [(0, vR (some 51)), (1, vI x1), (2, vI x2)] [vI v1, vI x2, vR (some 51)] (mem (P, some 5, some 22) I2 J3) Q
    refine st_imul (pc' := 60) dX8_findMost_59 rfl ?_
    refine P_X8_92_51 dX8_findMost_60 (pc' := 63) rfl rfl ?_
    refine st_aload_n (pc' := 64) dX8_findMost_63 rfl rfl (j := 0) rfl ?_
    refine G_X8_29_51 dX8_findMost_64 (pc' := 67) rfl rfl ?_
    refine st_iload_n (pc' := 68) dX8_findMost_67 rfl rfl (j := 1) rfl ?_
    refine st_callV (pc' := 71) (kc := k - 1) (E' := LAY) (cal := m_X9_setNow) (n := 1) (as := [vI x1]) (S := []) dX8_findMost_68 rfl l_X8_67 k_X9_setNow rfl L_36 c_X9 rfl rfl (Nat.le_of_ble_eq_true rfl) (by omega) ⟨Nat.le_refl _, Nat.le_refl _, Nat.le_refl _, Nat.le_refl _⟩ h (fun r M' q => ?_)
    obtain ⟨I5, J6, rfl, rfl, h⟩ := q
    change WP _ LAY m_X8_findMost 71 [(0, vR (some 51)), (1, vI x1), (2, vI x2)] [] (mem (P, some 5, some 22) I5 J6) Q
    refine st_aload_n (pc' := 72) dX8_findMost_71 rfl rfl (j := 0) rfl ?_
    refine st_callV (pc' := 75) (kc := k - 1) (E' := LAY) (cal := m_X8_measurePages) (n := 0) (as := []) (S := []) dX8_findMost_72 rfl l_X8_95 k_X8_measurePages rfl L_51 c_X8 rfl rfl (Nat.le_of_ble_eq_true rfl) (by omega) ⟨Nat.le_refl _, Nat.le_refl _, Nat.le_refl _, Nat.le_refl _⟩ h (fun r M' q => ?_)
    obtain ⟨I8, J9, rfl, rfl, h⟩ := q
    change WP _ LAY m_X8_findMost 75 [(0, vR (some 51)), (1, vI x1), (2, vI x2)] [] (mem (P, some 5, some 22) I8 J9) Q
    refine st_aload_n (pc' := 76) dX8_findMost_75 rfl rfl (j := 0) rfl ?_
    refine st_iconst (pc' := 77) dX8_findMost_76 rfl ?_
    refine P_X8_98_51 dX8_findMost_77 (pc' := 80) rfl rfl ?_
    refine st_aload_n (pc' := 81) dX8_findMost_80 rfl rfl (j := 0) rfl ?_
    refine st_iconst (pc' := 82) dX8_findMost_81 rfl ?_
    refine P_X8_101_51 dX8_findMost_82 (pc' := 85) rfl rfl ?_
    refine st_aload_n (pc' := 86) dX8_findMost_85 rfl rfl (j := 0) rfl ?_
    refine st_iconst (pc' := 87) dX8_findMost_86 rfl ?_
    refine P_X8_104_51 dX8_findMost_87 (pc' := 90) rfl rfl ?_
    refine st_aload_n (pc' := 91) dX8_findMost_90 rfl rfl (j := 0) rfl ?_
    refine st_iconst (pc' := 92) dX8_findMost_91 rfl ?_
    refine st_iconst (pc' := 93) dX8_findMost_92 rfl ?_
    refine st_iconst (pc' := 94) dX8_findMost_93 rfl ?_
    refine st_iconst (pc' := 95) dX8_findMost_94 rfl ?_
    refine st_callS (pc' := 98) (kc := k - 1) (E' := LAY) (cal := m_X8_chooseMost) (n := 5) (as := [vR (some 51), vI 0, vI 0, vI 0, vI 0]) (S := []) dX8_findMost_95 rfl l_X8_107 k_X8_chooseMost rfl rfl (Nat.le_of_ble_eq_true rfl) (by omega) ⟨Nat.le_refl _, Nat.le_refl _, Nat.le_refl _, Nat.le_refl _⟩ h (fun r M' q => ?_)
    obtain ⟨I11, J12, rfl, rfl, h⟩ := q
    change WP _ LAY m_X8_findMost 98 [(0, vR (some 51)), (1, vI x1), (2, vI x2)] [] (mem (P, some 5, some 22) I11 J12) Q
    exact st_vret dX8_findMost_98 rfl rfl h
  · replace h := h.2 c
    refine st_aload_n (pc' := 15) dX8_findMost_14 rfl rfl (j := 0) rfl ?_
    refine G_X8_86_51 dX8_findMost_15 (pc' := 18) rfl rfl ?_
    refine st_iload_n (pc' := 19) dX8_findMost_18 rfl rfl (j := 1) rfl ?_
    obtain ⟨e13, h⟩ := h
    refine st_icmp_ne (tg := 31) (pc' := 22) dX8_findMost_19 (by decide) rfl (gi_in _ _ _) e13 (fun c => ?_) (fun c => ?_)
    · replace h := h.1 c
      refine st_aload_n (pc' := 32) dX8_findMost_31 rfl rfl (j := 0) rfl ?_
      refine st_aload_n (pc' := 33) dX8_findMost_32 rfl rfl (j := 0) rfl ?_
      refine G_X8_25_51 dX8_findMost_33 (pc' := 36) rfl rfl ?_
      refine G_X8_83_4 dX8_findMost_36 (pc' := 39) rfl rfl ?_
      refine P_X8_18_51 dX8_findMost_39 (pc' := 42) rfl rfl ?_
      refine st_aload_n (pc' := 43) dX8_findMost_42 rfl rfl (j := 0) rfl ?_
      refine st_iload_n (pc' := 44) dX8_findMost_43 rfl rfl (j := 1) rfl ?_
      refine P_X8_86_51 dX8_findMost_44 (pc' := 47) rfl rfl ?_
      refine st_aload_n (pc' := 48) dX8_findMost_47 rfl rfl (j := 0) rfl ?_
      refine st_iload_n (pc' := 49) dX8_findMost_48 rfl rfl (j := 2) rfl ?_
      refine P_X8_89_51 dX8_findMost_49 (pc' := 52) rfl rfl ?_
      refine st_aload_n (pc' := 53) dX8_findMost_52 rfl rfl (j := 0) rfl ?_
      refine st_iload_n (pc' := 54) dX8_findMost_53 rfl rfl (j := 2) rfl ?_
      refine st_aload_n (pc' := 55) dX8_findMost_54 rfl rfl (j := 0) rfl ?_
      refine st_iload_n (pc' := 56) dX8_findMost_55 rfl rfl (j := 1) rfl ?_
      refine st_callV (pc' := 59) (kc := k - 1) (E' := LAY) (cal := m_X8_lightOf) (n := 1) (as := [vI x1]) (S := [vI x2, vR (some 51)]) dX8_findMost_56 rfl l_X8_77 k_X8_lightOf rfl L_51 c_X8 rfl rfl (Nat.le_of_ble_eq_true rfl) (by omega) ⟨Nat.le_refl _, Nat.le_refl _, Nat.le_refl _, Nat.le_refl _⟩ h (fun r M' q => ?_)
      obtain ⟨v14, I15, J16, rfl, rfl, h⟩ := q
      change WP _ LAY m_X8_findMost 59 [(0, vR (some 51)), (1, vI x1), (2, vI x2)] [vI v14, vI x2, vR (some 51)] (mem (P, some 5, some 22) I15 J16) Q
      refine st_imul (pc' := 60) dX8_findMost_59 rfl ?_
      refine P_X8_92_51 dX8_findMost_60 (pc' := 63) rfl rfl ?_
      refine st_aload_n (pc' := 64) dX8_findMost_63 rfl rfl (j := 0) rfl ?_
      refine G_X8_29_51 dX8_findMost_64 (pc' := 67) rfl rfl ?_
      refine st_iload_n (pc' := 68) dX8_findMost_67 rfl rfl (j := 1) rfl ?_
      refine st_callV (pc' := 71) (kc := k - 1) (E' := LAY) (cal := m_X9_setNow) (n := 1) (as := [vI x1]) (S := []) dX8_findMost_68 rfl l_X8_67 k_X9_setNow rfl L_36 c_X9 rfl rfl (Nat.le_of_ble_eq_true rfl) (by omega) ⟨Nat.le_refl _, Nat.le_refl _, Nat.le_refl _, Nat.le_refl _⟩ h (fun r M' q => ?_)
      obtain ⟨I18, J19, rfl, rfl, h⟩ := q
      change WP _ LAY m_X8_findMost 71 [(0, vR (some 51)), (1, vI x1), (2, vI x2)] [] (mem (P, some 5, some 22) I18 J19) Q
      refine st_aload_n (pc' := 72) dX8_findMost_71 rfl rfl (j := 0) rfl ?_
      refine st_callV (pc' := 75) (kc := k - 1) (E' := LAY) (cal := m_X8_measurePages) (n := 0) (as := []) (S := []) dX8_findMost_72 rfl l_X8_95 k_X8_measurePages rfl L_51 c_X8 rfl rfl (Nat.le_of_ble_eq_true rfl) (by omega) ⟨Nat.le_refl _, Nat.le_refl _, Nat.le_refl _, Nat.le_refl _⟩ h (fun r M' q => ?_)
      obtain ⟨I21, J22, rfl, rfl, h⟩ := q
      change WP _ LAY m_X8_findMost 75 [(0, vR (some 51)), (1, vI x1), (2, vI x2)] [] (mem (P, some 5, some 22) I21 J22) Q
      refine st_aload_n (pc' := 76) dX8_findMost_75 rfl rfl (j := 0) rfl ?_
      refine st_iconst (pc' := 77) dX8_findMost_76 rfl ?_
      refine P_X8_98_51 dX8_findMost_77 (pc' := 80) rfl rfl ?_
      refine st_aload_n (pc' := 81) dX8_findMost_80 rfl rfl (j := 0) rfl ?_
      refine st_iconst (pc' := 82) dX8_findMost_81 rfl ?_
      refine P_X8_101_51 dX8_findMost_82 (pc' := 85) rfl rfl ?_
      refine st_aload_n (pc' := 86) dX8_findMost_85 rfl rfl (j := 0) rfl ?_
      refine st_iconst (pc' := 87) dX8_findMost_86 rfl ?_
      refine P_X8_104_51 dX8_findMost_87 (pc' := 90) rfl rfl ?_
      refine st_aload_n (pc' := 91) dX8_findMost_90 rfl rfl (j := 0) rfl ?_
      refine st_iconst (pc' := 92) dX8_findMost_91 rfl ?_
      refine st_iconst (pc' := 93) dX8_findMost_92 rfl ?_
      refine st_iconst (pc' := 94) dX8_findMost_93 rfl ?_
      refine st_iconst (pc' := 95) dX8_findMost_94 rfl ?_
      refine st_callS (pc' := 98) (kc := k - 1) (E' := LAY) (cal := m_X8_chooseMost) (n := 5) (as := [vR (some 51), vI 0, vI 0, vI 0, vI 0]) (S := []) dX8_findMost_95 rfl l_X8_107 k_X8_chooseMost rfl rfl (Nat.le_of_ble_eq_true rfl) (by omega) ⟨Nat.le_refl _, Nat.le_refl _, Nat.le_refl _, Nat.le_refl _⟩ h (fun r M' q => ?_)
      obtain ⟨I24, J25, rfl, rfl, h⟩ := q
      change WP _ LAY m_X8_findMost 98 [(0, vR (some 51)), (1, vI x1), (2, vI x2)] [] (mem (P, some 5, some 22) I24 J25) Q
      exact st_vret dX8_findMost_98 rfl rfl h
    · replace h := h.2 c
      refine st_aload_n (pc' := 23) dX8_findMost_22 rfl rfl (j := 0) rfl ?_
      refine G_X8_89_51 dX8_findMost_23 (pc' := 26) rfl rfl ?_
      refine st_iload_n (pc' := 27) dX8_findMost_26 rfl rfl (j := 2) rfl ?_
      obtain ⟨e26, h⟩ := h
      refine st_icmp_ne (tg := 31) (pc' := 30) dX8_findMost_27 (by decide) rfl (gi_in _ _ _) e26 (fun c => ?_) (fun c => ?_)
      · replace h := h.1 c
        refine st_aload_n (pc' := 32) dX8_findMost_31 rfl rfl (j := 0) rfl ?_
        refine st_aload_n (pc' := 33) dX8_findMost_32 rfl rfl (j := 0) rfl ?_
        refine G_X8_25_51 dX8_findMost_33 (pc' := 36) rfl rfl ?_
        refine G_X8_83_4 dX8_findMost_36 (pc' := 39) rfl rfl ?_
        refine P_X8_18_51 dX8_findMost_39 (pc' := 42) rfl rfl ?_
        refine st_aload_n (pc' := 43) dX8_findMost_42 rfl rfl (j := 0) rfl ?_
        refine st_iload_n (pc' := 44) dX8_findMost_43 rfl rfl (j := 1) rfl ?_
        refine P_X8_86_51 dX8_findMost_44 (pc' := 47) rfl rfl ?_
        refine st_aload_n (pc' := 48) dX8_findMost_47 rfl rfl (j := 0) rfl ?_
        refine st_iload_n (pc' := 49) dX8_findMost_48 rfl rfl (j := 2) rfl ?_
        refine P_X8_89_51 dX8_findMost_49 (pc' := 52) rfl rfl ?_
        refine st_aload_n (pc' := 53) dX8_findMost_52 rfl rfl (j := 0) rfl ?_
        refine st_iload_n (pc' := 54) dX8_findMost_53 rfl rfl (j := 2) rfl ?_
        refine st_aload_n (pc' := 55) dX8_findMost_54 rfl rfl (j := 0) rfl ?_
        refine st_iload_n (pc' := 56) dX8_findMost_55 rfl rfl (j := 1) rfl ?_
        refine st_callV (pc' := 59) (kc := k - 1) (E' := LAY) (cal := m_X8_lightOf) (n := 1) (as := [vI x1]) (S := [vI x2, vR (some 51)]) dX8_findMost_56 rfl l_X8_77 k_X8_lightOf rfl L_51 c_X8 rfl rfl (Nat.le_of_ble_eq_true rfl) (by omega) ⟨Nat.le_refl _, Nat.le_refl _, Nat.le_refl _, Nat.le_refl _⟩ h (fun r M' q => ?_)
        obtain ⟨v27, I28, J29, rfl, rfl, h⟩ := q
        change WP _ LAY m_X8_findMost 59 [(0, vR (some 51)), (1, vI x1), (2, vI x2)] [vI v27, vI x2, vR (some 51)] (mem (P, some 5, some 22) I28 J29) Q
        refine st_imul (pc' := 60) dX8_findMost_59 rfl ?_
        refine P_X8_92_51 dX8_findMost_60 (pc' := 63) rfl rfl ?_
        refine st_aload_n (pc' := 64) dX8_findMost_63 rfl rfl (j := 0) rfl ?_
        refine G_X8_29_51 dX8_findMost_64 (pc' := 67) rfl rfl ?_
        refine st_iload_n (pc' := 68) dX8_findMost_67 rfl rfl (j := 1) rfl ?_
        refine st_callV (pc' := 71) (kc := k - 1) (E' := LAY) (cal := m_X9_setNow) (n := 1) (as := [vI x1]) (S := []) dX8_findMost_68 rfl l_X8_67 k_X9_setNow rfl L_36 c_X9 rfl rfl (Nat.le_of_ble_eq_true rfl) (by omega) ⟨Nat.le_refl _, Nat.le_refl _, Nat.le_refl _, Nat.le_refl _⟩ h (fun r M' q => ?_)
        obtain ⟨I31, J32, rfl, rfl, h⟩ := q
        change WP _ LAY m_X8_findMost 71 [(0, vR (some 51)), (1, vI x1), (2, vI x2)] [] (mem (P, some 5, some 22) I31 J32) Q
        refine st_aload_n (pc' := 72) dX8_findMost_71 rfl rfl (j := 0) rfl ?_
        refine st_callV (pc' := 75) (kc := k - 1) (E' := LAY) (cal := m_X8_measurePages) (n := 0) (as := []) (S := []) dX8_findMost_72 rfl l_X8_95 k_X8_measurePages rfl L_51 c_X8 rfl rfl (Nat.le_of_ble_eq_true rfl) (by omega) ⟨Nat.le_refl _, Nat.le_refl _, Nat.le_refl _, Nat.le_refl _⟩ h (fun r M' q => ?_)
        obtain ⟨I34, J35, rfl, rfl, h⟩ := q
        change WP _ LAY m_X8_findMost 75 [(0, vR (some 51)), (1, vI x1), (2, vI x2)] [] (mem (P, some 5, some 22) I34 J35) Q
        refine st_aload_n (pc' := 76) dX8_findMost_75 rfl rfl (j := 0) rfl ?_
        refine st_iconst (pc' := 77) dX8_findMost_76 rfl ?_
        refine P_X8_98_51 dX8_findMost_77 (pc' := 80) rfl rfl ?_
        refine st_aload_n (pc' := 81) dX8_findMost_80 rfl rfl (j := 0) rfl ?_
        refine st_iconst (pc' := 82) dX8_findMost_81 rfl ?_
        refine P_X8_101_51 dX8_findMost_82 (pc' := 85) rfl rfl ?_
        refine st_aload_n (pc' := 86) dX8_findMost_85 rfl rfl (j := 0) rfl ?_
        refine st_iconst (pc' := 87) dX8_findMost_86 rfl ?_
        refine P_X8_104_51 dX8_findMost_87 (pc' := 90) rfl rfl ?_
        refine st_aload_n (pc' := 91) dX8_findMost_90 rfl rfl (j := 0) rfl ?_
        refine st_iconst (pc' := 92) dX8_findMost_91 rfl ?_
        refine st_iconst (pc' := 93) dX8_findMost_92 rfl ?_
        refine st_iconst (pc' := 94) dX8_findMost_93 rfl ?_
        refine st_iconst (pc' := 95) dX8_findMost_94 rfl ?_
        refine st_callS (pc' := 98) (kc := k - 1) (E' := LAY) (cal := m_X8_chooseMost) (n := 5) (as := [vR (some 51), vI 0, vI 0, vI 0, vI 0]) (S := []) dX8_findMost_95 rfl l_X8_107 k_X8_chooseMost rfl rfl (Nat.le_of_ble_eq_true rfl) (by omega) ⟨Nat.le_refl _, Nat.le_refl _, Nat.le_refl _, Nat.le_refl _⟩ h (fun r M' q => ?_)
        obtain ⟨I37, J38, rfl, rfl, h⟩ := q
        change WP _ LAY m_X8_findMost 98 [(0, vR (some 51)), (1, vI x1), (2, vI x2)] [] (mem (P, some 5, some 22) I37 J38) Q
        exact st_vret dX8_findMost_98 rfl rfl h
      · replace h := h.2 c
        exact st_vret dX8_findMost_30 rfl rfl h
set_option maxRecDepth 20000 in
set_option maxHeartbeats 4000000 in
theorem B_X8_nightsFor_0 {k : Nat} {P : Option Nat} {I : Nat → Nat → Int32} {J : Nat → Nat → Int64} {x0 : Int} {x1 : Int} {Q : Option AV → Mem → Prop} (hk : 0 ≤ k) (h : inR x0 ∧ ((¬ x0 = 0 → (inR x1 ∧ ((x1 ≤ 0 → (Q (some (vI (-1))) (mem (P, some 5, some 22) I J))) ∧ (¬ x1 ≤ 0 → (¬ x1 = 0 ∧ (Q (some (vI (div32 ((x0 + x1) - 1) x1))) (mem (P, some 5, some 22) I J))))))) ∧ (x0 = 0 → (Q (some (vI 0)) (mem (P, some 5, some 22) I J))))) : WP k LAY m_X8_nightsFor 0 [(0, vI x0), (1, vI x1)] [] (mem (P, some 5, some 22) I J) Q := by
  refine st_iload_n (pc' := 1) dX8_nightsFor_0 rfl rfl (j := 0) rfl ?_
  obtain ⟨e1, h⟩ := h
  refine st_if_ne (tg := 6) (pc' := 4) dX8_nightsFor_1 (by decide) rfl e1 (fun c => ?_) (fun c => ?_)
  · replace h := h.1 c
    refine st_iload_n (pc' := 7) dX8_nightsFor_6 rfl rfl (j := 1) rfl ?_
    obtain ⟨e2, h⟩ := h
    refine st_if_le (tg := 20) (pc' := 10) dX8_nightsFor_7 (by decide) rfl e2 (fun c => ?_) (fun c => ?_)
    · replace h := h.1 c
      refine st_iconst (pc' := 21) dX8_nightsFor_20 rfl ?_
      exact st_iret (ty := .int) dX8_nightsFor_21 rfl rfl rfl h
    · replace h := h.2 c
      refine st_iload_n (pc' := 11) dX8_nightsFor_10 rfl rfl (j := 0) rfl ?_
      refine st_iload_n (pc' := 12) dX8_nightsFor_11 rfl rfl (j := 1) rfl ?_
      refine st_iadd (pc' := 13) dX8_nightsFor_12 rfl ?_
      refine st_iconst (pc' := 14) dX8_nightsFor_13 rfl ?_
      refine st_isub (pc' := 15) dX8_nightsFor_14 rfl ?_
      refine st_iload_n (pc' := 16) dX8_nightsFor_15 rfl rfl (j := 1) rfl ?_
      obtain ⟨e3, h⟩ := h
      refine st_idiv (pc' := 17) (z := (div32 ((x0 + x1) - 1) x1)) dX8_nightsFor_16 rfl (fun q => e3 ((z_eq e2).mp q)) rfl ?_
      refine st_goto (pc' := 21) dX8_nightsFor_17 (by decide) ?_
      exact st_iret (ty := .int) dX8_nightsFor_21 rfl rfl rfl h
  · replace h := h.2 c
    refine st_iconst (pc' := 5) dX8_nightsFor_4 rfl ?_
    exact st_iret (ty := .int) dX8_nightsFor_5 rfl rfl rfl h
set_option maxRecDepth 20000 in
set_option maxHeartbeats 4000000 in
theorem B_X8_nightsOf_0 {k : Nat} {P : Option Nat} {I : Nat → Nat → Int32} {J : Nat → Nat → Int64} {x1 : Int} {x2 : Int} {Q : Option AV → Mem → Prop} (hk : 1 ≤ k) (h : WPm (k - 1) LAY m_X8_workOf [vR (some 51), vI x1, vI x2, vI (-1)] (mem (P, some 5, some 22) I J) (retI (fun v1 I2 J3 => WPm (k - 1) LAY m_X8_lightOf [vR (some 51), vI x1] (mem (P, some 5, some 22) I2 J3) (retI (fun v4 I5 J6 => inR v1 ∧ ((¬ v1 = 0 → (inR v4 ∧ ((v4 ≤ 0 → (Q (some (vI (-1))) (mem (P, some 5, some 22) I5 J6))) ∧ (¬ v4 ≤ 0 → (¬ v4 = 0 ∧ (Q (some (vI (div32 ((v1 + v4) - 1) v4))) (mem (P, some 5, some 22) I5 J6))))))) ∧ (v1 = 0 → (Q (some (vI 0)) (mem (P, some 5, some 22) I5 J6))))) (P, some 5, some 22))) (P, some 5, some 22))) : WP k LAY m_X8_nightsOf 0 [(0, vR (some 51)), (1, vI x1), (2, vI x2)] [] (mem (P, some 5, some 22) I J) Q := by
  refine st_aload_n (pc' := 1) dX8_nightsOf_0 rfl rfl (j := 0) rfl ?_
  refine st_iload_n (pc' := 2) dX8_nightsOf_1 rfl rfl (j := 1) rfl ?_
  refine st_iload_n (pc' := 3) dX8_nightsOf_2 rfl rfl (j := 2) rfl ?_
  refine st_iconst (pc' := 4) dX8_nightsOf_3 rfl ?_
  refine st_callV (pc' := 7) (kc := k - 1) (E' := LAY) (cal := m_X8_workOf) (n := 3) (as := [vI x1, vI x2, vI (-1)]) (S := []) dX8_nightsOf_4 rfl l_X8_74 k_X8_workOf rfl L_51 c_X8 rfl rfl (Nat.le_of_ble_eq_true rfl) (by omega) ⟨Nat.le_refl _, Nat.le_refl _, Nat.le_refl _, Nat.le_refl _⟩ h (fun r M' q => ?_)
  obtain ⟨v1, I2, J3, rfl, rfl, h⟩ := q
  change WP _ LAY m_X8_nightsOf 7 [(0, vR (some 51)), (1, vI x1), (2, vI x2)] [vI v1] (mem (P, some 5, some 22) I2 J3) Q
  refine st_aload_n (pc' := 8) dX8_nightsOf_7 rfl rfl (j := 0) rfl ?_
  refine st_iload_n (pc' := 9) dX8_nightsOf_8 rfl rfl (j := 1) rfl ?_
  refine st_callV (pc' := 12) (kc := k - 1) (E' := LAY) (cal := m_X8_lightOf) (n := 1) (as := [vI x1]) (S := [vI v1]) dX8_nightsOf_9 rfl l_X8_77 k_X8_lightOf rfl L_51 c_X8 rfl rfl (Nat.le_of_ble_eq_true rfl) (by omega) ⟨Nat.le_refl _, Nat.le_refl _, Nat.le_refl _, Nat.le_refl _⟩ h (fun r M' q => ?_)
  obtain ⟨v4, I5, J6, rfl, rfl, h⟩ := q
  change WP _ LAY m_X8_nightsOf 12 [(0, vR (some 51)), (1, vI x1), (2, vI x2)] [vI v4, vI v1] (mem (P, some 5, some 22) I5 J6) Q
  refine st_callS (pc' := 15) (kc := k - 1) (E' := LAY) (cal := m_X8_nightsFor) (n := 2) (as := [vI v1, vI v4]) (S := []) dX8_nightsOf_12 rfl l_X8_80 k_X8_nightsFor rfl rfl (Nat.le_of_ble_eq_true rfl) (by omega) ⟨Nat.le_refl _, Nat.le_refl _, Nat.le_refl _, Nat.le_refl _⟩ (Q1 := fun r M' => WP k LAY m_X8_nightsOf 15 [(0, vR (some 51)), (1, vI x1), (2, vI x2)] (r.toList ++ []) M' Q) (WPm.of k_X8_nightsFor.1 (Nat.le_of_ble_eq_true rfl) (B_X8_nightsFor_0 (by omega) ?_)) (fun r M' q => q)
  obtain ⟨e7, h⟩ := h
  refine ⟨e7, ?_⟩
  refine ⟨fun c => ?_, fun c => ?_⟩
  · replace h := h.1 c
    obtain ⟨e8, h⟩ := h
    refine ⟨e8, ?_⟩
    refine ⟨fun c => ?_, fun c => ?_⟩
    · replace h := h.1 c
      change WP _ LAY m_X8_nightsOf 15 [(0, vR (some 51)), (1, vI x1), (2, vI x2)] [vI (-1)] (mem (P, some 5, some 22) I5 J6) Q
      exact st_iret (ty := .int) dX8_nightsOf_15 rfl rfl rfl h
    · replace h := h.2 c
      obtain ⟨e9, h⟩ := h
      refine ⟨e9, ?_⟩
      change WP _ LAY m_X8_nightsOf 15 [(0, vR (some 51)), (1, vI x1), (2, vI x2)] [vI (div32 ((v1 + v4) - 1) v4)] (mem (P, some 5, some 22) I5 J6) Q
      exact st_iret (ty := .int) dX8_nightsOf_15 rfl rfl rfl h
  · replace h := h.2 c
    change WP _ LAY m_X8_nightsOf 15 [(0, vR (some 51)), (1, vI x1), (2, vI x2)] [vI 0] (mem (P, some 5, some 22) I5 J6) Q
    exact st_iret (ty := .int) dX8_nightsOf_15 rfl rfl rfl h
set_option maxRecDepth 20000 in
set_option maxHeartbeats 4000000 in
theorem B_X8_addSet_0 {k : Nat} {P : Option Nat} {I : Nat → Nat → Int32} {J : Nat → Nat → Int64} {x1 : Int} {Q : Option AV → Mem → Prop} (hk : 0 ≤ k) (h : Q none (mem (P, some 5, some 22) (si (si (si I 51 7 ((gi I 51 7) + 1)) 51 8 (and32 (gi I 51 8) x1)) 51 9 (or32 (gi I 51 9) x1)) J)) : WP k LAY m_X8_addSet 0 [(0, vR (some 51)), (1, vI x1)] [] (mem (P, some 5, some 22) I J) Q := by
  refine st_aload_n (pc' := 1) dX8_addSet_0 rfl rfl (j := 0) rfl ?_
  refine st_dup (pc' := 2) dX8_addSet_1 rfl rfl ?_
  refine G_X8_132_51 dX8_addSet_2 (pc' := 5) rfl rfl ?_
  refine st_iconst (pc' := 6) dX8_addSet_5 rfl ?_
  refine st_iadd (pc' := 7) dX8_addSet_6 rfl ?_
  refine P_X8_132_51 dX8_addSet_7 (pc' := 10) rfl rfl ?_
  refine st_aload_n (pc' := 11) dX8_addSet_10 rfl rfl (j := 0) rfl ?_
  refine st_dup (pc' := 12) dX8_addSet_11 rfl rfl ?_
  refine G_X8_135_51 dX8_addSet_12 (pc' := 15) rfl rfl ?_
  rw [show gi (si I 51 7 ((gi I 51 7) + 1)) 51 8 = (gi I 51 8) from (gi_idx _ _ _ (by decide))]
  refine st_iload_n (pc' := 16) dX8_addSet_15 rfl rfl (j := 1) rfl ?_
  refine st_iand (pc' := 17) (z := (and32 (gi I 51 8) x1)) dX8_addSet_16 rfl rfl ?_
  refine P_X8_135_51 dX8_addSet_17 (pc' := 20) rfl rfl ?_
  refine st_aload_n (pc' := 21) dX8_addSet_20 rfl rfl (j := 0) rfl ?_
  refine st_dup (pc' := 22) dX8_addSet_21 rfl rfl ?_
  refine G_X8_138_51 dX8_addSet_22 (pc' := 25) rfl rfl ?_
  rw [show gi (si (si I 51 7 ((gi I 51 7) + 1)) 51 8 (and32 (gi I 51 8) x1)) 51 9 = (gi I 51 9) from ((gi_idx _ _ _ (by decide)).trans (gi_idx _ _ _ (by decide)))]
  refine st_iload_n (pc' := 26) dX8_addSet_25 rfl rfl (j := 1) rfl ?_
  refine st_ior (pc' := 27) (z := (or32 (gi I 51 9) x1)) dX8_addSet_26 rfl rfl ?_
  refine P_X8_138_51 dX8_addSet_27 (pc' := 30) rfl rfl ?_
  exact st_vret dX8_addSet_30 rfl rfl h
set_option maxRecDepth 20000 in
set_option maxHeartbeats 4000000 in
theorem B_X8_chooseSets_0 {k : Nat} {P : Option Nat} {I : Nat → Nat → Int32} {J : Nat → Nat → Int64} {x1 : Int} {x2 : Int} {x3 : Int} {Q : Option AV → Mem → Prop} (hk : 1 ≤ k) (h : inR x1 ∧ ((x1 < (gi I 6 1) → ((0 ≤ x1 ∧ x1 < 15) ∧ (inR x3 ∧ ((x3 ≤ (gi I 53 (x1).toNat) → ((0 ≤ x1 ∧ x1 < 14) ∧ ((x3 < (gi I 52 (x1).toNat) → (WPm (k - 1) LAY m_X8_chooseSets [vR (some 51), vI (x1 + 1), vI x2, vI x3] (mem (P, some 5, some 22) I J) (retV (fun I6 J7 => Q none (mem (P, some 5, some 22) I6 J7)) (P, some 5, some 22)))) ∧ (¬ x3 < (gi I 52 (x1).toNat) → ((¬ (and32 (gi I 11 (x1 : Int).toNat) (xor32 x2 (-1)) = 0) → (WPm (k - 1) LAY m_X8_chooseSets [vR (some 51), vI (x1 + 1), vI x2, vI x3] (mem (P, some 5, some 22) I J) (retV (fun I9 J10 => Q none (mem (P, some 5, some 22) I9 J10)) (P, some 5, some 22)))) ∧ ((and32 (gi I 11 (x1 : Int).toNat) (xor32 x2 (-1)) = 0) → (WPm (k - 1) LAY m_X8_chooseSets [vR (some 51), vI (x1 + 1), vI (or32 x2 (shl32 1 x1)), vI (x3 - (gi I 52 (x1).toNat))] (mem (P, some 5, some 22) I J) (retV (fun I12 J13 => WPm (k - 1) LAY m_X8_chooseSets [vR (some 51), vI (x1 + 1), vI x2, vI x3] (mem (P, some 5, some 22) I12 J13) (retV (fun I15 J16 => Q none (mem (P, some 5, some 22) I15 J16)) (P, some 5, some 22))) (P, some 5, some 22))))))))) ∧ (¬ x3 ≤ (gi I 53 (x1).toNat) → (Q none (mem (P, some 5, some 22) I J))))))) ∧ (¬ x1 < (gi I 6 1) → (inR x3 ∧ ((¬ x3 = 0 → (Q none (mem (P, some 5, some 22) I J))) ∧ (x3 = 0 → (Q none (mem (P, some 5, some 22) (si (si (si I 51 7 ((gi I 51 7) + 1)) 51 8 (and32 (gi I 51 8) x2)) 51 9 (or32 (gi I 51 9) x2)) J)))))))) : WP k LAY m_X8_chooseSets 0 [(0, vR (some 51)), (1, vI x1), (2, vI x2), (3, vI x3)] [] (mem (P, some 5, some 22) I J) Q := by
  refine st_aload_n (pc' := 1) dX8_chooseSets_0 rfl rfl (j := 0) rfl ?_
  refine G_X8_25_51 dX8_chooseSets_1 (pc' := 4) rfl rfl ?_
  refine G_X8_39_4 dX8_chooseSets_4 (pc' := 7) rfl rfl ?_
  refine st_astore (pc' := 9) (L' := [(4, vR (some 5)), (0, vR (some 51)), (1, vI x1), (2, vI x2), (3, vI x3)]) dX8_chooseSets_7 rfl (by decide) rfl ?_
  refine st_iload_n (pc' := 10) dX8_chooseSets_9 rfl rfl (j := 2) rfl ?_
  refine st_aload (pc' := 12) dX8_chooseSets_10 rfl (j := 0) rfl ?_
  refine G_X8_57_5 dX8_chooseSets_12 (pc' := 15) rfl rfl ?_
  refine st_iconst (pc' := 16) dX8_chooseSets_15 rfl ?_
  refine st_iaload (pc' := 17) (v := (gi I 6 1)) dX8_chooseSets_16 rfl L_6 (by decide) (by decide) (show gi I 6 1 = (gi I 6 1) from rfl) ?_
  obtain ⟨e1, h⟩ := h
  refine st_icmp_lt (tg := 30) (pc' := 20) dX8_chooseSets_17 (by decide) rfl e1 (gi_in _ _ _) (fun c => ?_) (fun c => ?_)
  · replace h := h.1 c
    refine st_iload_n (pc' := 31) dX8_chooseSets_30 rfl rfl (j := 4) rfl ?_
    refine st_aload_n (pc' := 32) dX8_chooseSets_31 rfl rfl (j := 1) rfl ?_
    refine G_X8_15_51 dX8_chooseSets_32 (pc' := 35) rfl rfl ?_
    refine st_iload_n (pc' := 36) dX8_chooseSets_35 rfl rfl (j := 2) rfl ?_
    obtain ⟨e2, h⟩ := h
    refine st_iaload (pc' := 37) (v := (gi I 53 (x1).toNat)) dX8_chooseSets_36 rfl L_53 (by decide) e2 (show gi I 53 (x1).toNat = (gi I 53 (x1).toNat) from rfl) ?_
    obtain ⟨e3, h⟩ := h
    refine st_icmp_le (tg := 41) (pc' := 40) dX8_chooseSets_37 (by decide) rfl e3 (gi_in _ _ _) (fun c => ?_) (fun c => ?_)
    · replace h := h.1 c
      refine st_aload_n (pc' := 42) dX8_chooseSets_41 rfl rfl (j := 1) rfl ?_
      refine G_X8_9_51 dX8_chooseSets_42 (pc' := 45) rfl rfl ?_
      refine st_iload_n (pc' := 46) dX8_chooseSets_45 rfl rfl (j := 2) rfl ?_
      obtain ⟨e4, h⟩ := h
      refine st_iaload (pc' := 47) (v := (gi I 52 (x1).toNat)) dX8_chooseSets_46 rfl L_52 (by decide) e4 (show gi I 52 (x1).toNat = (gi I 52 (x1).toNat) from rfl) ?_
      refine st_iload_n (pc' := 48) dX8_chooseSets_47 rfl rfl (j := 4) rfl ?_
      refine st_icmp_gt (tg := 81) (pc' := 51) dX8_chooseSets_48 (by decide) rfl (gi_in _ _ _) e3 (fun c => ?_) (fun c => ?_)
      · replace h := h.1 c
        refine st_aload_n (pc' := 82) dX8_chooseSets_81 rfl rfl (j := 1) rfl ?_
        refine st_iload_n (pc' := 83) dX8_chooseSets_82 rfl rfl (j := 2) rfl ?_
        refine st_iconst (pc' := 84) dX8_chooseSets_83 rfl ?_
        refine st_iadd (pc' := 85) dX8_chooseSets_84 rfl ?_
        refine st_iload_n (pc' := 86) dX8_chooseSets_85 rfl rfl (j := 3) rfl ?_
        refine st_iload_n (pc' := 87) dX8_chooseSets_86 rfl rfl (j := 4) rfl ?_
        refine st_callS (pc' := 90) (kc := k - 1) (E' := LAY) (cal := m_X8_chooseSets) (n := 4) (as := [vR (some 51), vI (x1 + 1), vI x2, vI x3]) (S := []) dX8_chooseSets_87 rfl l_X8_141 k_X8_chooseSets rfl rfl (Nat.le_of_ble_eq_true rfl) (by omega) ⟨Nat.le_refl _, Nat.le_refl _, Nat.le_refl _, Nat.le_refl _⟩ h (fun r M' q => ?_)
        obtain ⟨I6, J7, rfl, rfl, h⟩ := q
        change WP _ LAY m_X8_chooseSets 90 [(4, vR (some 5)), (0, vR (some 51)), (1, vI x1), (2, vI x2), (3, vI x3)] [] (mem (P, some 5, some 22) I6 J7) Q
        exact st_vret dX8_chooseSets_90 rfl rfl h
      · replace h := h.2 c
        refine st_aload (pc' := 53) dX8_chooseSets_51 rfl (j := 0) rfl ?_
        refine st_iload_n (pc' := 54) dX8_chooseSets_53 rfl rfl (j := 3) rfl ?_
        refine st_iload_n (pc' := 55) dX8_chooseSets_54 rfl rfl (j := 2) rfl ?_
        refine st_callV (pc' := 58) (kc := k - 1) (E' := LAY) (cal := m_X7_mayRead) (n := 2) (as := [vI x2, vI x1]) (S := []) dX8_chooseSets_55 rfl l_X8_115 k_X7_mayRead rfl L_5 c_X7 rfl rfl (Nat.le_of_ble_eq_true rfl) (by omega) ⟨Nat.le_refl _, Nat.le_refl _, Nat.le_refl _, Nat.le_refl _⟩ (Q1 := fun r M' => WP k LAY m_X8_chooseSets 58 [(4, vR (some 5)), (0, vR (some 51)), (1, vI x1), (2, vI x2), (3, vI x3)] (r.toList ++ []) M' Q) (S_X7_mayRead_5 (by omega) e4 ?_) (fun r M' q => q)
        change WP _ LAY m_X8_chooseSets 58 [(4, vR (some 5)), (0, vR (some 51)), (1, vI x1), (2, vI x2), (3, vI x3)] [vI (b2i (and32 (gi I 11 (x1 : Int).toNat) (xor32 x2 (-1)) = 0))] (mem (P, some 5, some 22) I J) Q
        refine st_if_eq (tg := 81) (pc' := 61) dX8_chooseSets_58 (by decide) rfl (b2i_in _) (fun c => ?_) (fun c => ?_)
        · replace h := h.1 (b2i_f.mp c)
          refine st_aload_n (pc' := 82) dX8_chooseSets_81 rfl rfl (j := 1) rfl ?_
          refine st_iload_n (pc' := 83) dX8_chooseSets_82 rfl rfl (j := 2) rfl ?_
          refine st_iconst (pc' := 84) dX8_chooseSets_83 rfl ?_
          refine st_iadd (pc' := 85) dX8_chooseSets_84 rfl ?_
          refine st_iload_n (pc' := 86) dX8_chooseSets_85 rfl rfl (j := 3) rfl ?_
          refine st_iload_n (pc' := 87) dX8_chooseSets_86 rfl rfl (j := 4) rfl ?_
          refine st_callS (pc' := 90) (kc := k - 1) (E' := LAY) (cal := m_X8_chooseSets) (n := 4) (as := [vR (some 51), vI (x1 + 1), vI x2, vI x3]) (S := []) dX8_chooseSets_87 rfl l_X8_141 k_X8_chooseSets rfl rfl (Nat.le_of_ble_eq_true rfl) (by omega) ⟨Nat.le_refl _, Nat.le_refl _, Nat.le_refl _, Nat.le_refl _⟩ h (fun r M' q => ?_)
          obtain ⟨I9, J10, rfl, rfl, h⟩ := q
          change WP _ LAY m_X8_chooseSets 90 [(4, vR (some 5)), (0, vR (some 51)), (1, vI x1), (2, vI x2), (3, vI x3)] [] (mem (P, some 5, some 22) I9 J10) Q
          exact st_vret dX8_chooseSets_90 rfl rfl h
        · replace h := h.2 (b2i_t.mp c)
          refine st_aload_n (pc' := 62) dX8_chooseSets_61 rfl rfl (j := 1) rfl ?_
          refine st_iload_n (pc' := 63) dX8_chooseSets_62 rfl rfl (j := 2) rfl ?_
          refine st_iconst (pc' := 64) dX8_chooseSets_63 rfl ?_
          refine st_iadd (pc' := 65) dX8_chooseSets_64 rfl ?_
          refine st_iload_n (pc' := 66) dX8_chooseSets_65 rfl rfl (j := 3) rfl ?_
          refine st_iconst (pc' := 67) dX8_chooseSets_66 rfl ?_
          refine st_iload_n (pc' := 68) dX8_chooseSets_67 rfl rfl (j := 2) rfl ?_
          refine st_ishl (pc' := 69) (z := (shl32 1 x1)) dX8_chooseSets_68 rfl rfl ?_
          refine st_ior (pc' := 70) (z := (or32 x2 (shl32 1 x1))) dX8_chooseSets_69 rfl rfl ?_
          refine st_iload_n (pc' := 71) dX8_chooseSets_70 rfl rfl (j := 4) rfl ?_
          refine st_aload_n (pc' := 72) dX8_chooseSets_71 rfl rfl (j := 1) rfl ?_
          refine G_X8_9_51 dX8_chooseSets_72 (pc' := 75) rfl rfl ?_
          refine st_iload_n (pc' := 76) dX8_chooseSets_75 rfl rfl (j := 2) rfl ?_
          refine st_iaload (pc' := 77) (v := (gi I 52 (x1).toNat)) dX8_chooseSets_76 rfl L_52 (by decide) e4 (show gi I 52 (x1).toNat = (gi I 52 (x1).toNat) from rfl) ?_
          refine st_isub (pc' := 78) dX8_chooseSets_77 rfl ?_
          refine st_callS (pc' := 81) (kc := k - 1) (E' := LAY) (cal := m_X8_chooseSets) (n := 4) (as := [vR (some 51), vI (x1 + 1), vI (or32 x2 (shl32 1 x1)), vI (x3 - (gi I 52 (x1).toNat))]) (S := []) dX8_chooseSets_78 rfl l_X8_141 k_X8_chooseSets rfl rfl (Nat.le_of_ble_eq_true rfl) (by omega) ⟨Nat.le_refl _, Nat.le_refl _, Nat.le_refl _, Nat.le_refl _⟩ h (fun r M' q => ?_)
          obtain ⟨I12, J13, rfl, rfl, h⟩ := q
          change WP _ LAY m_X8_chooseSets 81 [(4, vR (some 5)), (0, vR (some 51)), (1, vI x1), (2, vI x2), (3, vI x3)] [] (mem (P, some 5, some 22) I12 J13) Q
          refine st_aload_n (pc' := 82) dX8_chooseSets_81 rfl rfl (j := 1) rfl ?_
          refine st_iload_n (pc' := 83) dX8_chooseSets_82 rfl rfl (j := 2) rfl ?_
          refine st_iconst (pc' := 84) dX8_chooseSets_83 rfl ?_
          refine st_iadd (pc' := 85) dX8_chooseSets_84 rfl ?_
          refine st_iload_n (pc' := 86) dX8_chooseSets_85 rfl rfl (j := 3) rfl ?_
          refine st_iload_n (pc' := 87) dX8_chooseSets_86 rfl rfl (j := 4) rfl ?_
          refine st_callS (pc' := 90) (kc := k - 1) (E' := LAY) (cal := m_X8_chooseSets) (n := 4) (as := [vR (some 51), vI (x1 + 1), vI x2, vI x3]) (S := []) dX8_chooseSets_87 rfl l_X8_141 k_X8_chooseSets rfl rfl (Nat.le_of_ble_eq_true rfl) (by omega) ⟨Nat.le_refl _, Nat.le_refl _, Nat.le_refl _, Nat.le_refl _⟩ h (fun r M' q => ?_)
          obtain ⟨I15, J16, rfl, rfl, h⟩ := q
          change WP _ LAY m_X8_chooseSets 90 [(4, vR (some 5)), (0, vR (some 51)), (1, vI x1), (2, vI x2), (3, vI x3)] [] (mem (P, some 5, some 22) I15 J16) Q
          exact st_vret dX8_chooseSets_90 rfl rfl h
    · replace h := h.2 c
      exact st_vret dX8_chooseSets_40 rfl rfl h
  · replace h := h.2 c
    refine st_iload_n (pc' := 21) dX8_chooseSets_20 rfl rfl (j := 4) rfl ?_
    obtain ⟨e17, h⟩ := h
    refine st_if_ne (tg := 29) (pc' := 24) dX8_chooseSets_21 (by decide) rfl e17 (fun c => ?_) (fun c => ?_)
    · replace h := h.1 c
      exact st_vret dX8_chooseSets_29 rfl rfl h
    · replace h := h.2 c
      refine st_aload_n (pc' := 25) dX8_chooseSets_24 rfl rfl (j := 1) rfl ?_
      refine st_iload_n (pc' := 26) dX8_chooseSets_25 rfl rfl (j := 3) rfl ?_
      refine st_callV (pc' := 29) (kc := k - 1) (E' := LAY) (cal := m_X8_addSet) (n := 1) (as := [vI x2]) (S := []) dX8_chooseSets_26 rfl l_X8_145 k_X8_addSet rfl L_51 c_X8 rfl rfl (Nat.le_of_ble_eq_true rfl) (by omega) ⟨Nat.le_refl _, Nat.le_refl _, Nat.le_refl _, Nat.le_refl _⟩ (Q1 := fun r M' => WP k LAY m_X8_chooseSets 29 [(4, vR (some 5)), (0, vR (some 51)), (1, vI x1), (2, vI x2), (3, vI x3)] (r.toList ++ []) M' Q) (WPm.of k_X8_addSet.1 (Nat.le_of_ble_eq_true rfl) (B_X8_addSet_0 (by omega) ?_)) (fun r M' q => q)
      change WP _ LAY m_X8_chooseSets 29 [(4, vR (some 5)), (0, vR (some 51)), (1, vI x1), (2, vI x2), (3, vI x3)] [] (mem (P, some 5, some 22) (si (si (si I 51 7 ((gi I 51 7) + 1)) 51 8 (and32 (gi I 51 8) x2)) 51 9 (or32 (gi I 51 9) x2)) J) Q
      exact st_vret dX8_chooseSets_29 rfl rfl h
set_option maxRecDepth 20000 in
set_option maxHeartbeats 4000000 in
theorem B_X8_findSets_0 {k : Nat} {P : Option Nat} {I : Nat → Nat → Int32} {J : Nat → Nat → Int64} {x1 : Int} {x2 : Int} {Q : Option AV → Mem → Prop} (hk : 1 ≤ k) (h : (¬ (gi I 51 14) = (gi I 4 6) → ((0 ≤ ((3 + (x1 * 14)) + 0) ∧ ((3 + (x1 * 14)) + 0) < 87) ∧ (∀ y2 : Int, y2 = (gi (si (si (si I 51 14 (gi I 4 6)) 51 15 x1) 51 16 x2) 19 (((3 + (x1 * 14)) + 0) : Int).toNat) → ((0 ≤ y2 ∧ y2 < 5) ∧ (WPm (k - 1) LAY m_X2_sittingAt [vR (some 4), vI y2] (mem (P, some 5, some 22) (si (si (si I 51 14 (gi I 4 6)) 51 15 x1) 51 16 x2) J) (retI (fun v4 I5 J6 => (0 ≤ x1 ∧ x1 < 6) ∧ (WPm (k - 1) LAY m_X8_measurePages [vR (some 51)] (mem (P, some 5, some 22) (si (si (si (si (si (si (si I5 38 7 (gi I5 13 (x1).toNat)) 38 8 (gi I5 14 (x1).toNat)) 38 16 0) 38 10 (gi I 15 (y2).toNat)) 38 17 v4) 38 11 (gi I5 5 15)) 38 18 (gi I5 19 0)) J6) (retV (fun I9 J10 => WPm (k - 1) LAY m_X8_chooseSets [vR (some 51), vI 0, vI 0, vI x2] (mem (P, some 5, some 22) (si (si (si I9 51 7 0) 51 8 (-1)) 51 9 0) J10) (retV (fun I12 J13 => Q none (mem (P, some 5, some 22) I12 J13)) (P, some 5, some 22))) (P, some 5, some 22)))) (P, some 5, some 22))))))) ∧ ((gi I 51 14) = (gi I 4 6) → (inR x1 ∧ ((¬ (gi I 51 15) = x1 → ((0 ≤ ((3 + (x1 * 14)) + 0) ∧ ((3 + (x1 * 14)) + 0) < 87) ∧ (∀ y16 : Int, y16 = (gi (si (si (si I 51 14 (gi I 4 6)) 51 15 x1) 51 16 x2) 19 (((3 + (x1 * 14)) + 0) : Int).toNat) → ((0 ≤ y16 ∧ y16 < 5) ∧ (WPm (k - 1) LAY m_X2_sittingAt [vR (some 4), vI y16] (mem (P, some 5, some 22) (si (si (si I 51 14 (gi I 4 6)) 51 15 x1) 51 16 x2) J) (retI (fun v18 I19 J20 => (0 ≤ x1 ∧ x1 < 6) ∧ (WPm (k - 1) LAY m_X8_measurePages [vR (some 51)] (mem (P, some 5, some 22) (si (si (si (si (si (si (si I19 38 7 (gi I19 13 (x1).toNat)) 38 8 (gi I19 14 (x1).toNat)) 38 16 0) 38 10 (gi I 15 (y16).toNat)) 38 17 v18) 38 11 (gi I19 5 15)) 38 18 (gi I19 19 0)) J20) (retV (fun I23 J24 => WPm (k - 1) LAY m_X8_chooseSets [vR (some 51), vI 0, vI 0, vI x2] (mem (P, some 5, some 22) (si (si (si I23 51 7 0) 51 8 (-1)) 51 9 0) J24) (retV (fun I26 J27 => Q none (mem (P, some 5, some 22) I26 J27)) (P, some 5, some 22))) (P, some 5, some 22)))) (P, some 5, some 22))))))) ∧ ((gi I 51 15) = x1 → (inR x2 ∧ ((¬ (gi I 51 16) = x2 → ((0 ≤ ((3 + (x1 * 14)) + 0) ∧ ((3 + (x1 * 14)) + 0) < 87) ∧ (∀ y30 : Int, y30 = (gi (si (si (si I 51 14 (gi I 4 6)) 51 15 x1) 51 16 x2) 19 (((3 + (x1 * 14)) + 0) : Int).toNat) → ((0 ≤ y30 ∧ y30 < 5) ∧ (WPm (k - 1) LAY m_X2_sittingAt [vR (some 4), vI y30] (mem (P, some 5, some 22) (si (si (si I 51 14 (gi I 4 6)) 51 15 x1) 51 16 x2) J) (retI (fun v32 I33 J34 => (0 ≤ x1 ∧ x1 < 6) ∧ (WPm (k - 1) LAY m_X8_measurePages [vR (some 51)] (mem (P, some 5, some 22) (si (si (si (si (si (si (si I33 38 7 (gi I33 13 (x1).toNat)) 38 8 (gi I33 14 (x1).toNat)) 38 16 0) 38 10 (gi I 15 (y30).toNat)) 38 17 v32) 38 11 (gi I33 5 15)) 38 18 (gi I33 19 0)) J34) (retV (fun I37 J38 => WPm (k - 1) LAY m_X8_chooseSets [vR (some 51), vI 0, vI 0, vI x2] (mem (P, some 5, some 22) (si (si (si I37 51 7 0) 51 8 (-1)) 51 9 0) J38) (retV (fun I40 J41 => Q none (mem (P, some 5, some 22) I40 J41)) (P, some 5, some 22))) (P, some 5, some 22)))) (P, some 5, some 22))))))) ∧ ((gi I 51 16) = x2 → (Q none (mem (P, some 5, some 22) I J)))))))))) : WP k LAY m_X8_findSets 0 [(0, vR (some 51)), (1, vI x1), (2, vI x2)] [] (mem (P, some 5, some 22) I J) Q := by
  refine st_aload_n (pc' := 1) dX8_findSets_0 rfl rfl (j := 0) rfl ?_
  refine G_X8_22_51 dX8_findSets_1 (pc' := 4) rfl rfl ?_
  refine st_aload_n (pc' := 5) dX8_findSets_4 rfl rfl (j := 0) rfl ?_
  refine G_X8_25_51 dX8_findSets_5 (pc' := 8) rfl rfl ?_
  refine G_X8_83_4 dX8_findSets_8 (pc' := 11) rfl rfl ?_
  refine st_icmp_ne (tg := 31) (pc' := 14) dX8_findSets_11 (by decide) rfl (gi_in _ _ _) (gi_in _ _ _) (fun c => ?_) (fun c => ?_)
  · replace h := h.1 c
    refine st_aload_n (pc' := 32) dX8_findSets_31 rfl rfl (j := 0) rfl ?_
    refine st_aload_n (pc' := 33) dX8_findSets_32 rfl rfl (j := 0) rfl ?_
    refine G_X8_25_51 dX8_findSets_33 (pc' := 36) rfl rfl ?_
    refine G_X8_83_4 dX8_findSets_36 (pc' := 39) rfl rfl ?_
    refine P_X8_22_51 dX8_findSets_39 (pc' := 42) rfl rfl ?_
    refine st_aload_n (pc' := 43) dX8_findSets_42 rfl rfl (j := 0) rfl ?_
    refine st_iload_n (pc' := 44) dX8_findSets_43 rfl rfl (j := 1) rfl ?_
    refine P_X8_119_51 dX8_findSets_44 (pc' := 47) rfl rfl ?_
    refine st_aload_n (pc' := 48) dX8_findSets_47 rfl rfl (j := 0) rfl ?_
    refine st_iload_n (pc' := 49) dX8_findSets_48 rfl rfl (j := 2) rfl ?_
    refine P_X8_122_51 dX8_findSets_49 (pc' := 52) rfl rfl ?_
    refine st_aload_n (pc' := 53) dX8_findSets_52 rfl rfl (j := 0) rfl ?_
    refine G_X8_25_51 dX8_findSets_53 (pc' := 56) rfl rfl ?_
    refine st_iload_n (pc' := 57) dX8_findSets_56 rfl rfl (j := 1) rfl ?_
    refine st_iconst (pc' := 58) dX8_findSets_57 rfl ?_
    refine st_callV (pc' := 61) (kc := k - 1) (E' := LAY) (cal := m_X2_of) (n := 2) (as := [vI x1, vI 0]) (S := []) dX8_findSets_58 rfl l_X8_33 k_X2_of rfl L_4 c_X2 rfl rfl (Nat.le_of_ble_eq_true rfl) (by omega) ⟨Nat.le_refl _, Nat.le_refl _, Nat.le_refl _, Nat.le_refl _⟩ (Q1 := fun r M' => WP k LAY m_X8_findSets 61 [(0, vR (some 51)), (1, vI x1), (2, vI x2)] (r.toList ++ []) M' Q) (WPm.of k_X2_of.1 (Nat.le_of_ble_eq_true rfl) (B_X2_of_0 (by omega) ?_)) (fun r M' q => q)
    obtain ⟨e1, h⟩ := h
    refine ⟨e1, ?_⟩
    change WP _ LAY m_X8_findSets 61 [(0, vR (some 51)), (1, vI x1), (2, vI x2)] [vI (gi (si (si (si I 51 14 (gi I 4 6)) 51 15 x1) 51 16 x2) 19 (((3 + (x1 * 14)) + 0) : Int).toNat)] (mem (P, some 5, some 22) (si (si (si I 51 14 (gi I 4 6)) 51 15 x1) 51 16 x2) J) Q
    obtain ⟨y2, hy2⟩ : ∃ y : Int, y = (gi (si (si (si I 51 14 (gi I 4 6)) 51 15 x1) 51 16 x2) 19 (((3 + (x1 * 14)) + 0) : Int).toNat) := ⟨_, rfl⟩
    rw [← hy2]
    replace h := h y2 hy2
    refine st_istore_n (pc' := 62) (L' := [(3, vI y2), (0, vR (some 51)), (1, vI x1), (2, vI x2)]) dX8_findSets_61 rfl rfl (by decide) rfl ?_
    refine st_aload_n (pc' := 63) dX8_findSets_62 rfl rfl (j := 1) rfl ?_
    refine G_X8_29_51 dX8_findSets_63 (pc' := 66) rfl rfl ?_
    refine st_iload_n (pc' := 67) dX8_findSets_66 rfl rfl (j := 2) rfl ?_
    refine st_aload_n (pc' := 68) dX8_findSets_67 rfl rfl (j := 1) rfl ?_
    refine G_X8_25_51 dX8_findSets_68 (pc' := 71) rfl rfl ?_
    refine G_X8_39_4 dX8_findSets_71 (pc' := 74) rfl rfl ?_
    refine G_X8_43_5 dX8_findSets_74 (pc' := 77) rfl rfl ?_
    refine st_iload_n (pc' := 78) dX8_findSets_77 rfl rfl (j := 0) rfl ?_
    obtain ⟨e3, h⟩ := h
    refine st_iaload (pc' := 79) (v := (gi I 15 (y2).toNat)) dX8_findSets_78 rfl L_15 (by decide) e3 (show gi (si (si (si I 51 14 (gi I 4 6)) 51 15 x1) 51 16 x2) 15 (y2).toNat = (gi I 15 (y2).toNat) from ((gi_cell _ _ _ _ (by decide)).trans ((gi_cell _ _ _ _ (by decide)).trans (gi_cell _ _ _ _ (by decide))))) ?_
    refine st_aload_n (pc' := 80) dX8_findSets_79 rfl rfl (j := 1) rfl ?_
    refine G_X8_25_51 dX8_findSets_80 (pc' := 83) rfl rfl ?_
    refine st_iload_n (pc' := 84) dX8_findSets_83 rfl rfl (j := 0) rfl ?_
    refine st_callV (pc' := 87) (kc := k - 1) (E' := LAY) (cal := m_X2_sittingAt) (n := 1) (as := [vI y2]) (S := [vI (gi I 15 (y2).toNat), vI x1, vR (some 36)]) dX8_findSets_84 rfl l_X8_125 k_X2_sittingAt rfl L_4 c_X2 rfl rfl (Nat.le_of_ble_eq_true rfl) (by omega) ⟨Nat.le_refl _, Nat.le_refl _, Nat.le_refl _, Nat.le_refl _⟩ h (fun r M' q => ?_)
    obtain ⟨v4, I5, J6, rfl, rfl, h⟩ := q
    change WP _ LAY m_X8_findSets 87 [(3, vI y2), (0, vR (some 51)), (1, vI x1), (2, vI x2)] [vI v4, vI (gi I 15 (y2).toNat), vI x1, vR (some 36)] (mem (P, some 5, some 22) I5 J6) Q
    refine st_iconst (pc' := 88) dX8_findSets_87 rfl ?_
    refine st_callV (pc' := 91) (kc := k - 1) (E' := LAY) (cal := m_X9_setAt) (n := 4) (as := [vI x1, vI (gi I 15 (y2).toNat), vI v4, vI 0]) (S := []) dX8_findSets_88 rfl l_X8_128 k_X9_setAt rfl L_36 c_X9 rfl rfl (Nat.le_of_ble_eq_true rfl) (by omega) ⟨Nat.le_refl _, Nat.le_refl _, Nat.le_refl _, Nat.le_refl _⟩ (Q1 := fun r M' => WP k LAY m_X8_findSets 91 [(3, vI y2), (0, vR (some 51)), (1, vI x1), (2, vI x2)] (r.toList ++ []) M' Q) (WPm.of k_X9_setAt.1 (Nat.le_of_ble_eq_true rfl) (B_X9_setAt_0 (by omega) ?_)) (fun r M' q => q)
    obtain ⟨e7, h⟩ := h
    refine ⟨e7, ?_⟩
    change WP _ LAY m_X8_findSets 91 [(3, vI y2), (0, vR (some 51)), (1, vI x1), (2, vI x2)] [] (mem (P, some 5, some 22) (si (si (si (si (si (si (si I5 38 7 (gi I5 13 (x1).toNat)) 38 8 (gi I5 14 (x1).toNat)) 38 16 0) 38 10 (gi I 15 (y2).toNat)) 38 17 v4) 38 11 (gi I5 5 15)) 38 18 (gi I5 19 0)) J6) Q
    refine st_aload_n (pc' := 92) dX8_findSets_91 rfl rfl (j := 1) rfl ?_
    refine st_callV (pc' := 95) (kc := k - 1) (E' := LAY) (cal := m_X8_measurePages) (n := 0) (as := []) (S := []) dX8_findSets_92 rfl l_X8_95 k_X8_measurePages rfl L_51 c_X8 rfl rfl (Nat.le_of_ble_eq_true rfl) (by omega) ⟨Nat.le_refl _, Nat.le_refl _, Nat.le_refl _, Nat.le_refl _⟩ h (fun r M' q => ?_)
    obtain ⟨I9, J10, rfl, rfl, h⟩ := q
    change WP _ LAY m_X8_findSets 95 [(3, vI y2), (0, vR (some 51)), (1, vI x1), (2, vI x2)] [] (mem (P, some 5, some 22) I9 J10) Q
    refine st_aload_n (pc' := 96) dX8_findSets_95 rfl rfl (j := 1) rfl ?_
    refine st_iconst (pc' := 97) dX8_findSets_96 rfl ?_
    refine P_X8_132_51 dX8_findSets_97 (pc' := 100) rfl rfl ?_
    refine st_aload_n (pc' := 101) dX8_findSets_100 rfl rfl (j := 1) rfl ?_
    refine st_iconst (pc' := 102) dX8_findSets_101 rfl ?_
    refine P_X8_135_51 dX8_findSets_102 (pc' := 105) rfl rfl ?_
    refine st_aload_n (pc' := 106) dX8_findSets_105 rfl rfl (j := 1) rfl ?_
    refine st_iconst (pc' := 107) dX8_findSets_106 rfl ?_
    refine P_X8_138_51 dX8_findSets_107 (pc' := 110) rfl rfl ?_
    refine st_aload_n (pc' := 111) dX8_findSets_110 rfl rfl (j := 1) rfl ?_
    refine st_iconst (pc' := 112) dX8_findSets_111 rfl ?_
    refine st_iconst (pc' := 113) dX8_findSets_112 rfl ?_
    refine st_iload_n (pc' := 114) dX8_findSets_113 rfl rfl (j := 3) rfl ?_
    refine st_callS (pc' := 117) (kc := k - 1) (E' := LAY) (cal := m_X8_chooseSets) (n := 4) (as := [vR (some 51), vI 0, vI 0, vI x2]) (S := []) dX8_findSets_114 rfl l_X8_141 k_X8_chooseSets rfl rfl (Nat.le_of_ble_eq_true rfl) (by omega) ⟨Nat.le_refl _, Nat.le_refl _, Nat.le_refl _, Nat.le_refl _⟩ h (fun r M' q => ?_)
    obtain ⟨I12, J13, rfl, rfl, h⟩ := q
    change WP _ LAY m_X8_findSets 117 [(3, vI y2), (0, vR (some 51)), (1, vI x1), (2, vI x2)] [] (mem (P, some 5, some 22) I12 J13) Q
    exact st_vret dX8_findSets_117 rfl rfl h
  · replace h := h.2 c
    refine st_aload_n (pc' := 15) dX8_findSets_14 rfl rfl (j := 0) rfl ?_
    refine G_X8_119_51 dX8_findSets_15 (pc' := 18) rfl rfl ?_
    refine st_iload_n (pc' := 19) dX8_findSets_18 rfl rfl (j := 1) rfl ?_
    obtain ⟨e14, h⟩ := h
    refine st_icmp_ne (tg := 31) (pc' := 22) dX8_findSets_19 (by decide) rfl (gi_in _ _ _) e14 (fun c => ?_) (fun c => ?_)
    · replace h := h.1 c
      refine st_aload_n (pc' := 32) dX8_findSets_31 rfl rfl (j := 0) rfl ?_
      refine st_aload_n (pc' := 33) dX8_findSets_32 rfl rfl (j := 0) rfl ?_
      refine G_X8_25_51 dX8_findSets_33 (pc' := 36) rfl rfl ?_
      refine G_X8_83_4 dX8_findSets_36 (pc' := 39) rfl rfl ?_
      refine P_X8_22_51 dX8_findSets_39 (pc' := 42) rfl rfl ?_
      refine st_aload_n (pc' := 43) dX8_findSets_42 rfl rfl (j := 0) rfl ?_
      refine st_iload_n (pc' := 44) dX8_findSets_43 rfl rfl (j := 1) rfl ?_
      refine P_X8_119_51 dX8_findSets_44 (pc' := 47) rfl rfl ?_
      refine st_aload_n (pc' := 48) dX8_findSets_47 rfl rfl (j := 0) rfl ?_
      refine st_iload_n (pc' := 49) dX8_findSets_48 rfl rfl (j := 2) rfl ?_
      refine P_X8_122_51 dX8_findSets_49 (pc' := 52) rfl rfl ?_
      refine st_aload_n (pc' := 53) dX8_findSets_52 rfl rfl (j := 0) rfl ?_
      refine G_X8_25_51 dX8_findSets_53 (pc' := 56) rfl rfl ?_
      refine st_iload_n (pc' := 57) dX8_findSets_56 rfl rfl (j := 1) rfl ?_
      refine st_iconst (pc' := 58) dX8_findSets_57 rfl ?_
      refine st_callV (pc' := 61) (kc := k - 1) (E' := LAY) (cal := m_X2_of) (n := 2) (as := [vI x1, vI 0]) (S := []) dX8_findSets_58 rfl l_X8_33 k_X2_of rfl L_4 c_X2 rfl rfl (Nat.le_of_ble_eq_true rfl) (by omega) ⟨Nat.le_refl _, Nat.le_refl _, Nat.le_refl _, Nat.le_refl _⟩ (Q1 := fun r M' => WP k LAY m_X8_findSets 61 [(0, vR (some 51)), (1, vI x1), (2, vI x2)] (r.toList ++ []) M' Q) (WPm.of k_X2_of.1 (Nat.le_of_ble_eq_true rfl) (B_X2_of_0 (by omega) ?_)) (fun r M' q => q)
      obtain ⟨e15, h⟩ := h
      refine ⟨e15, ?_⟩
      change WP _ LAY m_X8_findSets 61 [(0, vR (some 51)), (1, vI x1), (2, vI x2)] [vI (gi (si (si (si I 51 14 (gi I 4 6)) 51 15 x1) 51 16 x2) 19 (((3 + (x1 * 14)) + 0) : Int).toNat)] (mem (P, some 5, some 22) (si (si (si I 51 14 (gi I 4 6)) 51 15 x1) 51 16 x2) J) Q
      obtain ⟨y16, hy16⟩ : ∃ y : Int, y = (gi (si (si (si I 51 14 (gi I 4 6)) 51 15 x1) 51 16 x2) 19 (((3 + (x1 * 14)) + 0) : Int).toNat) := ⟨_, rfl⟩
      rw [← hy16]
      replace h := h y16 hy16
      refine st_istore_n (pc' := 62) (L' := [(3, vI y16), (0, vR (some 51)), (1, vI x1), (2, vI x2)]) dX8_findSets_61 rfl rfl (by decide) rfl ?_
      refine st_aload_n (pc' := 63) dX8_findSets_62 rfl rfl (j := 1) rfl ?_
      refine G_X8_29_51 dX8_findSets_63 (pc' := 66) rfl rfl ?_
      refine st_iload_n (pc' := 67) dX8_findSets_66 rfl rfl (j := 2) rfl ?_
      refine st_aload_n (pc' := 68) dX8_findSets_67 rfl rfl (j := 1) rfl ?_
      refine G_X8_25_51 dX8_findSets_68 (pc' := 71) rfl rfl ?_
      refine G_X8_39_4 dX8_findSets_71 (pc' := 74) rfl rfl ?_
      refine G_X8_43_5 dX8_findSets_74 (pc' := 77) rfl rfl ?_
      refine st_iload_n (pc' := 78) dX8_findSets_77 rfl rfl (j := 0) rfl ?_
      obtain ⟨e17, h⟩ := h
      refine st_iaload (pc' := 79) (v := (gi I 15 (y16).toNat)) dX8_findSets_78 rfl L_15 (by decide) e17 (show gi (si (si (si I 51 14 (gi I 4 6)) 51 15 x1) 51 16 x2) 15 (y16).toNat = (gi I 15 (y16).toNat) from ((gi_cell _ _ _ _ (by decide)).trans ((gi_cell _ _ _ _ (by decide)).trans (gi_cell _ _ _ _ (by decide))))) ?_
      refine st_aload_n (pc' := 80) dX8_findSets_79 rfl rfl (j := 1) rfl ?_
      refine G_X8_25_51 dX8_findSets_80 (pc' := 83) rfl rfl ?_
      refine st_iload_n (pc' := 84) dX8_findSets_83 rfl rfl (j := 0) rfl ?_
      refine st_callV (pc' := 87) (kc := k - 1) (E' := LAY) (cal := m_X2_sittingAt) (n := 1) (as := [vI y16]) (S := [vI (gi I 15 (y16).toNat), vI x1, vR (some 36)]) dX8_findSets_84 rfl l_X8_125 k_X2_sittingAt rfl L_4 c_X2 rfl rfl (Nat.le_of_ble_eq_true rfl) (by omega) ⟨Nat.le_refl _, Nat.le_refl _, Nat.le_refl _, Nat.le_refl _⟩ h (fun r M' q => ?_)
      obtain ⟨v18, I19, J20, rfl, rfl, h⟩ := q
      change WP _ LAY m_X8_findSets 87 [(3, vI y16), (0, vR (some 51)), (1, vI x1), (2, vI x2)] [vI v18, vI (gi I 15 (y16).toNat), vI x1, vR (some 36)] (mem (P, some 5, some 22) I19 J20) Q
      refine st_iconst (pc' := 88) dX8_findSets_87 rfl ?_
      refine st_callV (pc' := 91) (kc := k - 1) (E' := LAY) (cal := m_X9_setAt) (n := 4) (as := [vI x1, vI (gi I 15 (y16).toNat), vI v18, vI 0]) (S := []) dX8_findSets_88 rfl l_X8_128 k_X9_setAt rfl L_36 c_X9 rfl rfl (Nat.le_of_ble_eq_true rfl) (by omega) ⟨Nat.le_refl _, Nat.le_refl _, Nat.le_refl _, Nat.le_refl _⟩ (Q1 := fun r M' => WP k LAY m_X8_findSets 91 [(3, vI y16), (0, vR (some 51)), (1, vI x1), (2, vI x2)] (r.toList ++ []) M' Q) (WPm.of k_X9_setAt.1 (Nat.le_of_ble_eq_true rfl) (B_X9_setAt_0 (by omega) ?_)) (fun r M' q => q)
      obtain ⟨e21, h⟩ := h
      refine ⟨e21, ?_⟩
      change WP _ LAY m_X8_findSets 91 [(3, vI y16), (0, vR (some 51)), (1, vI x1), (2, vI x2)] [] (mem (P, some 5, some 22) (si (si (si (si (si (si (si I19 38 7 (gi I19 13 (x1).toNat)) 38 8 (gi I19 14 (x1).toNat)) 38 16 0) 38 10 (gi I 15 (y16).toNat)) 38 17 v18) 38 11 (gi I19 5 15)) 38 18 (gi I19 19 0)) J20) Q
      refine st_aload_n (pc' := 92) dX8_findSets_91 rfl rfl (j := 1) rfl ?_
      refine st_callV (pc' := 95) (kc := k - 1) (E' := LAY) (cal := m_X8_measurePages) (n := 0) (as := []) (S := []) dX8_findSets_92 rfl l_X8_95 k_X8_measurePages rfl L_51 c_X8 rfl rfl (Nat.le_of_ble_eq_true rfl) (by omega) ⟨Nat.le_refl _, Nat.le_refl _, Nat.le_refl _, Nat.le_refl _⟩ h (fun r M' q => ?_)
      obtain ⟨I23, J24, rfl, rfl, h⟩ := q
      change WP _ LAY m_X8_findSets 95 [(3, vI y16), (0, vR (some 51)), (1, vI x1), (2, vI x2)] [] (mem (P, some 5, some 22) I23 J24) Q
      refine st_aload_n (pc' := 96) dX8_findSets_95 rfl rfl (j := 1) rfl ?_
      refine st_iconst (pc' := 97) dX8_findSets_96 rfl ?_
      refine P_X8_132_51 dX8_findSets_97 (pc' := 100) rfl rfl ?_
      refine st_aload_n (pc' := 101) dX8_findSets_100 rfl rfl (j := 1) rfl ?_
      refine st_iconst (pc' := 102) dX8_findSets_101 rfl ?_
      refine P_X8_135_51 dX8_findSets_102 (pc' := 105) rfl rfl ?_
      refine st_aload_n (pc' := 106) dX8_findSets_105 rfl rfl (j := 1) rfl ?_
      refine st_iconst (pc' := 107) dX8_findSets_106 rfl ?_
      refine P_X8_138_51 dX8_findSets_107 (pc' := 110) rfl rfl ?_
      refine st_aload_n (pc' := 111) dX8_findSets_110 rfl rfl (j := 1) rfl ?_
      refine st_iconst (pc' := 112) dX8_findSets_111 rfl ?_
      refine st_iconst (pc' := 113) dX8_findSets_112 rfl ?_
      refine st_iload_n (pc' := 114) dX8_findSets_113 rfl rfl (j := 3) rfl ?_
      refine st_callS (pc' := 117) (kc := k - 1) (E' := LAY) (cal := m_X8_chooseSets) (n := 4) (as := [vR (some 51), vI 0, vI 0, vI x2]) (S := []) dX8_findSets_114 rfl l_X8_141 k_X8_chooseSets rfl rfl (Nat.le_of_ble_eq_true rfl) (by omega) ⟨Nat.le_refl _, Nat.le_refl _, Nat.le_refl _, Nat.le_refl _⟩ h (fun r M' q => ?_)
      obtain ⟨I26, J27, rfl, rfl, h⟩ := q
      change WP _ LAY m_X8_findSets 117 [(3, vI y16), (0, vR (some 51)), (1, vI x1), (2, vI x2)] [] (mem (P, some 5, some 22) I26 J27) Q
      exact st_vret dX8_findSets_117 rfl rfl h
    · replace h := h.2 c
      refine st_aload_n (pc' := 23) dX8_findSets_22 rfl rfl (j := 0) rfl ?_
      refine G_X8_122_51 dX8_findSets_23 (pc' := 26) rfl rfl ?_
      refine st_iload_n (pc' := 27) dX8_findSets_26 rfl rfl (j := 2) rfl ?_
      obtain ⟨e28, h⟩ := h
      refine st_icmp_ne (tg := 31) (pc' := 30) dX8_findSets_27 (by decide) rfl (gi_in _ _ _) e28 (fun c => ?_) (fun c => ?_)
      · replace h := h.1 c
        refine st_aload_n (pc' := 32) dX8_findSets_31 rfl rfl (j := 0) rfl ?_
        refine st_aload_n (pc' := 33) dX8_findSets_32 rfl rfl (j := 0) rfl ?_
        refine G_X8_25_51 dX8_findSets_33 (pc' := 36) rfl rfl ?_
        refine G_X8_83_4 dX8_findSets_36 (pc' := 39) rfl rfl ?_
        refine P_X8_22_51 dX8_findSets_39 (pc' := 42) rfl rfl ?_
        refine st_aload_n (pc' := 43) dX8_findSets_42 rfl rfl (j := 0) rfl ?_
        refine st_iload_n (pc' := 44) dX8_findSets_43 rfl rfl (j := 1) rfl ?_
        refine P_X8_119_51 dX8_findSets_44 (pc' := 47) rfl rfl ?_
        refine st_aload_n (pc' := 48) dX8_findSets_47 rfl rfl (j := 0) rfl ?_
        refine st_iload_n (pc' := 49) dX8_findSets_48 rfl rfl (j := 2) rfl ?_
        refine P_X8_122_51 dX8_findSets_49 (pc' := 52) rfl rfl ?_
        refine st_aload_n (pc' := 53) dX8_findSets_52 rfl rfl (j := 0) rfl ?_
        refine G_X8_25_51 dX8_findSets_53 (pc' := 56) rfl rfl ?_
        refine st_iload_n (pc' := 57) dX8_findSets_56 rfl rfl (j := 1) rfl ?_
        refine st_iconst (pc' := 58) dX8_findSets_57 rfl ?_
        refine st_callV (pc' := 61) (kc := k - 1) (E' := LAY) (cal := m_X2_of) (n := 2) (as := [vI x1, vI 0]) (S := []) dX8_findSets_58 rfl l_X8_33 k_X2_of rfl L_4 c_X2 rfl rfl (Nat.le_of_ble_eq_true rfl) (by omega) ⟨Nat.le_refl _, Nat.le_refl _, Nat.le_refl _, Nat.le_refl _⟩ (Q1 := fun r M' => WP k LAY m_X8_findSets 61 [(0, vR (some 51)), (1, vI x1), (2, vI x2)] (r.toList ++ []) M' Q) (WPm.of k_X2_of.1 (Nat.le_of_ble_eq_true rfl) (B_X2_of_0 (by omega) ?_)) (fun r M' q => q)
        obtain ⟨e29, h⟩ := h
        refine ⟨e29, ?_⟩
        change WP _ LAY m_X8_findSets 61 [(0, vR (some 51)), (1, vI x1), (2, vI x2)] [vI (gi (si (si (si I 51 14 (gi I 4 6)) 51 15 x1) 51 16 x2) 19 (((3 + (x1 * 14)) + 0) : Int).toNat)] (mem (P, some 5, some 22) (si (si (si I 51 14 (gi I 4 6)) 51 15 x1) 51 16 x2) J) Q
        obtain ⟨y30, hy30⟩ : ∃ y : Int, y = (gi (si (si (si I 51 14 (gi I 4 6)) 51 15 x1) 51 16 x2) 19 (((3 + (x1 * 14)) + 0) : Int).toNat) := ⟨_, rfl⟩
        rw [← hy30]
        replace h := h y30 hy30
        refine st_istore_n (pc' := 62) (L' := [(3, vI y30), (0, vR (some 51)), (1, vI x1), (2, vI x2)]) dX8_findSets_61 rfl rfl (by decide) rfl ?_
        refine st_aload_n (pc' := 63) dX8_findSets_62 rfl rfl (j := 1) rfl ?_
        refine G_X8_29_51 dX8_findSets_63 (pc' := 66) rfl rfl ?_
        refine st_iload_n (pc' := 67) dX8_findSets_66 rfl rfl (j := 2) rfl ?_
        refine st_aload_n (pc' := 68) dX8_findSets_67 rfl rfl (j := 1) rfl ?_
        refine G_X8_25_51 dX8_findSets_68 (pc' := 71) rfl rfl ?_
        refine G_X8_39_4 dX8_findSets_71 (pc' := 74) rfl rfl ?_
        refine G_X8_43_5 dX8_findSets_74 (pc' := 77) rfl rfl ?_
        refine st_iload_n (pc' := 78) dX8_findSets_77 rfl rfl (j := 0) rfl ?_
        obtain ⟨e31, h⟩ := h
        refine st_iaload (pc' := 79) (v := (gi I 15 (y30).toNat)) dX8_findSets_78 rfl L_15 (by decide) e31 (show gi (si (si (si I 51 14 (gi I 4 6)) 51 15 x1) 51 16 x2) 15 (y30).toNat = (gi I 15 (y30).toNat) from ((gi_cell _ _ _ _ (by decide)).trans ((gi_cell _ _ _ _ (by decide)).trans (gi_cell _ _ _ _ (by decide))))) ?_
        refine st_aload_n (pc' := 80) dX8_findSets_79 rfl rfl (j := 1) rfl ?_
        refine G_X8_25_51 dX8_findSets_80 (pc' := 83) rfl rfl ?_
        refine st_iload_n (pc' := 84) dX8_findSets_83 rfl rfl (j := 0) rfl ?_
        refine st_callV (pc' := 87) (kc := k - 1) (E' := LAY) (cal := m_X2_sittingAt) (n := 1) (as := [vI y30]) (S := [vI (gi I 15 (y30).toNat), vI x1, vR (some 36)]) dX8_findSets_84 rfl l_X8_125 k_X2_sittingAt rfl L_4 c_X2 rfl rfl (Nat.le_of_ble_eq_true rfl) (by omega) ⟨Nat.le_refl _, Nat.le_refl _, Nat.le_refl _, Nat.le_refl _⟩ h (fun r M' q => ?_)
        obtain ⟨v32, I33, J34, rfl, rfl, h⟩ := q
        change WP _ LAY m_X8_findSets 87 [(3, vI y30), (0, vR (some 51)), (1, vI x1), (2, vI x2)] [vI v32, vI (gi I 15 (y30).toNat), vI x1, vR (some 36)] (mem (P, some 5, some 22) I33 J34) Q
        refine st_iconst (pc' := 88) dX8_findSets_87 rfl ?_
        refine st_callV (pc' := 91) (kc := k - 1) (E' := LAY) (cal := m_X9_setAt) (n := 4) (as := [vI x1, vI (gi I 15 (y30).toNat), vI v32, vI 0]) (S := []) dX8_findSets_88 rfl l_X8_128 k_X9_setAt rfl L_36 c_X9 rfl rfl (Nat.le_of_ble_eq_true rfl) (by omega) ⟨Nat.le_refl _, Nat.le_refl _, Nat.le_refl _, Nat.le_refl _⟩ (Q1 := fun r M' => WP k LAY m_X8_findSets 91 [(3, vI y30), (0, vR (some 51)), (1, vI x1), (2, vI x2)] (r.toList ++ []) M' Q) (WPm.of k_X9_setAt.1 (Nat.le_of_ble_eq_true rfl) (B_X9_setAt_0 (by omega) ?_)) (fun r M' q => q)
        obtain ⟨e35, h⟩ := h
        refine ⟨e35, ?_⟩
        change WP _ LAY m_X8_findSets 91 [(3, vI y30), (0, vR (some 51)), (1, vI x1), (2, vI x2)] [] (mem (P, some 5, some 22) (si (si (si (si (si (si (si I33 38 7 (gi I33 13 (x1).toNat)) 38 8 (gi I33 14 (x1).toNat)) 38 16 0) 38 10 (gi I 15 (y30).toNat)) 38 17 v32) 38 11 (gi I33 5 15)) 38 18 (gi I33 19 0)) J34) Q
        refine st_aload_n (pc' := 92) dX8_findSets_91 rfl rfl (j := 1) rfl ?_
        refine st_callV (pc' := 95) (kc := k - 1) (E' := LAY) (cal := m_X8_measurePages) (n := 0) (as := []) (S := []) dX8_findSets_92 rfl l_X8_95 k_X8_measurePages rfl L_51 c_X8 rfl rfl (Nat.le_of_ble_eq_true rfl) (by omega) ⟨Nat.le_refl _, Nat.le_refl _, Nat.le_refl _, Nat.le_refl _⟩ h (fun r M' q => ?_)
        obtain ⟨I37, J38, rfl, rfl, h⟩ := q
        change WP _ LAY m_X8_findSets 95 [(3, vI y30), (0, vR (some 51)), (1, vI x1), (2, vI x2)] [] (mem (P, some 5, some 22) I37 J38) Q
        refine st_aload_n (pc' := 96) dX8_findSets_95 rfl rfl (j := 1) rfl ?_
        refine st_iconst (pc' := 97) dX8_findSets_96 rfl ?_
        refine P_X8_132_51 dX8_findSets_97 (pc' := 100) rfl rfl ?_
        refine st_aload_n (pc' := 101) dX8_findSets_100 rfl rfl (j := 1) rfl ?_
        refine st_iconst (pc' := 102) dX8_findSets_101 rfl ?_
        refine P_X8_135_51 dX8_findSets_102 (pc' := 105) rfl rfl ?_
        refine st_aload_n (pc' := 106) dX8_findSets_105 rfl rfl (j := 1) rfl ?_
        refine st_iconst (pc' := 107) dX8_findSets_106 rfl ?_
        refine P_X8_138_51 dX8_findSets_107 (pc' := 110) rfl rfl ?_
        refine st_aload_n (pc' := 111) dX8_findSets_110 rfl rfl (j := 1) rfl ?_
        refine st_iconst (pc' := 112) dX8_findSets_111 rfl ?_
        refine st_iconst (pc' := 113) dX8_findSets_112 rfl ?_
        refine st_iload_n (pc' := 114) dX8_findSets_113 rfl rfl (j := 3) rfl ?_
        refine st_callS (pc' := 117) (kc := k - 1) (E' := LAY) (cal := m_X8_chooseSets) (n := 4) (as := [vR (some 51), vI 0, vI 0, vI x2]) (S := []) dX8_findSets_114 rfl l_X8_141 k_X8_chooseSets rfl rfl (Nat.le_of_ble_eq_true rfl) (by omega) ⟨Nat.le_refl _, Nat.le_refl _, Nat.le_refl _, Nat.le_refl _⟩ h (fun r M' q => ?_)
        obtain ⟨I40, J41, rfl, rfl, h⟩ := q
        change WP _ LAY m_X8_findSets 117 [(3, vI y30), (0, vR (some 51)), (1, vI x1), (2, vI x2)] [] (mem (P, some 5, some 22) I40 J41) Q
        exact st_vret dX8_findSets_117 rfl rfl h
      · replace h := h.2 c
        exact st_vret dX8_findSets_30 rfl rfl h
end WX8
